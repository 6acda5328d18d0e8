/-! worlds that grow: what constructors make -/
noncomputable def xit (cA : Nat → ClassId) (ad : Nat × Nat → Nat) (σ : xa_H) (q : Nat × Nat) : Nat × va_E := (ad q, xent cA ad q (σ q.1 q.2))
theorem vP_iff {D : va_G} {cl : List vw_C} {ws : va_W} {H : Heap} : va_P D cl ws H ↔ ∀ q ∈ ws, va_at D cl q H :=
  ⟨fun h q hq => by
    obtain ⟨k, hk⟩ := List.getElem?_of_mem hq
    exact h k q hk, fun h k q hk => h q (List.mem_of_getElem? hk)⟩
theorem vD_addr {A : Nat → Prop} {ws ws' : va_W} (h : ws'.map (fun q => q.1) = ws.map (fun q => q.1)) (hD : va_D A ws) : va_D A ws' := by
  have key : ∀ (k : Nat) (q : Nat × va_E), ws'[k]? = some q → ∃ q0, ws[k]? = some q0 ∧ q0.1 = q.1 := by
    intro k q hq
    have h1 : (ws'.map (fun q => q.1))[k]? = some q.1 := by rw [List.getElem?_map, hq]; rfl
    rw [h, List.getElem?_map] at h1
    cases hi : ws[k]? with
    | none => rw [hi] at h1; cases h1
    | some x =>
      rw [hi] at h1
      exact ⟨x, rfl, Option.some.inj h1⟩
  refine ⟨fun i j a b ha hb hab => ?_, fun k q hq => ?_⟩
  · obtain ⟨a0, h1, h2⟩ := key i a ha
    obtain ⟨b0, h3, h4⟩ := key j b hb
    exact hD.1 i j a0 b0 h1 h3 (by rw [h2, h4]; exact hab)
  · obtain ⟨q0, h1, h2⟩ := key k q hq
    rw [← h2]
    exact hD.2 k q0 h1
theorem xat_c {D : va_G} {cA : Nat → ClassId} {ad ad2 : Nat × Nat → Nat} {σ σ2 : xa_H} {q : Nat × Nat} {H : Heap} (h : va_at D vwCl (xit cA ad σ q) H) (e0 : ad2 q = ad q) (e1 : σ2 q.1 q.2 = σ q.1 q.2) (e3 : ∀ s, xfty q.1 s = 3 → ad2 (xsr q.1 q.2 s) = ad (xsr q.1 q.2 s))
    (e4 : ∀ s, xfty q.1 s = 4 → σ q.1 q.2 s < 0) (e5 : ∀ j, xaty q.1 = 5 ∨ xaty q.1 = 6 → j < xalen q.1 → ad2 (xar q.1 q.2 j) = ad (xar q.1 q.2 j)) : va_at D vwCl (xit cA ad2 σ2 q) H := by
  unfold xit at h ⊢
  rw [e0, e1]
  by_cases h9 : xaty q.1 = 9
  · rw [xent_obj h9] at h ⊢
    have e : (List.range (xcl q.1).2.2).map (xfv ad2 q (σ q.1 q.2)) = (List.range (xcl q.1).2.2).map (xfv ad q (σ q.1 q.2)) := by
      apply List.map_congr_left
      intro s _
      unfold xfv
      by_cases h3 : xfty q.1 s = 3
      · rw [if_pos h3, if_pos h3, e3 s h3]
      · rw [if_neg h3, if_neg h3]
        by_cases h4 : xfty q.1 s = 4
        · rw [if_pos h4, if_pos h4, if_pos (e4 s h4), if_pos (e4 s h4)]
        · rw [if_neg h4, if_neg h4]
    rw [e]
    exact h
  · by_cases h56 : xaty q.1 = 5 ∨ xaty q.1 = 6
    · rw [xent_ref h56] at h ⊢
      have h : H[ad q]? = some (vp_cell (cA (xaty q.1)) (xalen q.1, .inr (.inr (.inr (.inr (fun j => some (ad (xar q.1 q.2 j)))))))) := h
      show H[ad q]? = some (vp_cell (cA (xaty q.1)) (xalen q.1, .inr (.inr (.inr (.inr (fun j => some (ad2 (xar q.1 q.2 j))))))))
      rw [h, vp_cell_q, vp_cell_q]
      unfold arrV
      have e : (fun j : Fin (xalen q.1) => va_rf (some (ad (xar q.1 q.2 j.val)))) = (fun j : Fin (xalen q.1) => va_rf (some (ad2 (xar q.1 q.2 j.val)))) := by
        funext j
        rw [e5 j.val h56 j.isLt]
      rw [e]
    · unfold xent at h ⊢
      rw [if_neg h9] at h ⊢
      rw [if_neg h56] at h ⊢
      exact h
/-- whether a list of cells is closed, by trying -/
noncomputable def xidsb (ids : List (Nat × Nat)) : Bool := decide ids.Nodup && ids.all (fun q => decide (q.1 < 99) && (decide (¬ xaty q.1 = 9) || decide (q.1 < 10)) && (decide (xaty q.1 = 9) || decide (xaty q.1 ∈ [0, 1, 2, 5, 6])) &&
  (List.range 50).all (fun s => decide (¬ xfty q.1 s = 3) || decide (xsr q.1 q.2 s ∈ ids)) && (List.range 5).all (fun j => decide (¬ (xaty q.1 = 5 ∨ xaty q.1 = 6)) || decide (¬ j < xalen q.1) || decide (xar q.1 q.2 j ∈ ids)))
theorem xfty_50 (K s : Nat) (h : xfty K s = 3) : s < 50 := by
  refine Classical.byContradiction (fun hs => ?_)
  have hl : (xftl K).length ≤ 50 := by
    by_cases hK : K < 10
    · exact (by decide +kernel : ∀ K, K < 10 → (xftl K).length ≤ 50) K hK
    · have : xftl K = [] := by
        unfold xftl
        rw [List.getD_eq_getElem?_getD, List.getElem?_eq_none (by simp; omega)]
        rfl
      rw [this]; decide
  unfold xfty at h
  rw [List.getD_eq_getElem?_getD, List.getElem?_eq_none (by omega)] at h
  exact absurd h (by decide)
theorem xalen_5 (K : Nat) (h : xaty K = 5 ∨ xaty K = 6) : xalen K < 5 := by
  by_cases hK : K < 77
  · exact (by decide +kernel : ∀ K, K < 77 → (xaty K = 5 ∨ xaty K = 6) → xalen K < 5) K hK h
  · have : xaty K = 9 := by
      unfold xaty
      rw [List.getD_eq_getElem?_getD, List.getElem?_eq_none (by simp; omega)]
      rfl
    omega
theorem xidsb_ok {ids : List (Nat × Nat)} (h : xidsb ids = true) : xids ids [0, 1, 2, 5, 6] := by
  unfold xidsb at h
  rw [Bool.and_eq_true, decide_eq_true_eq] at h
  obtain ⟨h1, h2⟩ := h
  have key : ∀ q ∈ ids, q.1 < 99 ∧ (¬ xaty q.1 = 9 ∨ q.1 < 10) ∧ (xaty q.1 = 9 ∨ xaty q.1 ∈ [0, 1, 2, 5, 6]) ∧ (∀ s, s < 50 → ¬ xfty q.1 s = 3 ∨ xsr q.1 q.2 s ∈ ids) ∧ ∀ j, j < 5 → (¬ (xaty q.1 = 5 ∨ xaty q.1 = 6) ∨ ¬ j < xalen q.1) ∨ xar q.1 q.2 j ∈ ids := by
    intro q hq
    have := List.all_eq_true.mp h2 q hq
    simp only [Bool.and_eq_true, Bool.or_eq_true, decide_eq_true_eq, List.all_eq_true, List.mem_range] at this
    obtain ⟨⟨⟨⟨a1, a2⟩, a3⟩, a4⟩, a5⟩ := this
    exact ⟨a1, a2, a3, a4, a5⟩
  refine ⟨h1, fun q hq => ?_, fun q hq s hs => ?_, fun q hq j h5 hj => ?_⟩
  · obtain ⟨a1, a2, a3, _⟩ := key q hq
    refine ⟨a1, fun h9 => ?_, fun h9 => ?_⟩
    · rcases a2 with h | h
      · exact absurd h9 h
      · exact h
    · rcases a3 with h | h
      · exact absurd h h9
      · exact h
  · rcases (key q hq).2.2.2.1 s (xfty_50 _ _ hs) with h | h
    · exact absurd hs h
    · exact h
  · rcases (key q hq).2.2.2.2 j (Nat.lt_trans hj (xalen_5 _ h5)) with (h | h) | h
    · exact absurd h5 h
    · exact absurd hj h
    · exact h
theorem vD_iff {A : Nat → Prop} {ws : va_W} : va_D A ws ↔ (ws.map (fun q => q.1)).Nodup ∧ ∀ x ∈ ws, A x.1 := by
  constructor
  · intro h
    refine ⟨?_, fun x hx => ?_⟩
    · unfold List.Nodup
      rw [List.pairwise_iff_getElem]
      intro i j hi hj hij he
      have hi' : i < ws.length := by simpa using hi
      have hj' : j < ws.length := by simpa using hj
      rw [List.getElem_map, List.getElem_map] at he
      have := h.1 i j ws[i] ws[j] (List.getElem?_eq_getElem hi') (List.getElem?_eq_getElem hj') he
      omega
    · obtain ⟨k, hk⟩ := List.getElem?_of_mem hx
      exact h.2 k x hk
  · intro h
    refine ⟨fun i j a b ha hb hab => ?_, fun k q hq => h.2 q (List.mem_of_getElem? hq)⟩
    have hn := h.1
    unfold List.Nodup at hn
    rw [List.pairwise_iff_getElem] at hn
    obtain ⟨hi, rfl⟩ := List.getElem?_eq_some_iff.mp ha
    obtain ⟨hj, rfl⟩ := List.getElem?_eq_some_iff.mp hb
    rcases Nat.lt_trichotomy i j with h1 | h1 | h1
    · have := hn i j (by simpa using hi) (by simpa using hj) h1
      rw [List.getElem_map, List.getElem_map] at this
      exact absurd hab this
    · exact h1
    · have := hn j i (by simpa using hj) (by simpa using hi) h1
      rw [List.getElem_map, List.getElem_map] at this
      exact absurd hab.symm this
/-- what a field holds before it is given -/
noncomputable def xdf (K : Nat) : Nat → Value := fun y => defaultValue (xuty ((xcl K).2.1 y).2.2.1)
/-- a cell that is being made: the fields, or the places, that it was given -/
noncomputable def xoe (cA : Nat → ClassId) (ad : Nat × Nat → Nat) (σ : xa_H) (o : (Nat × Nat) × List Nat) : va_E :=
  if xaty o.1.1 = 9 then .inr (o.1.1, (List.range (xcl o.1.1).2.2).map (fun s => if s ∈ o.2 then xfv ad o.1 (σ o.1.1 o.1.2) s else xdf o.1.1 s))
  else .inl (cA (xaty o.1.1), xalen o.1.1, .inr (.inr (.inr (.inr (fun j => if j ∈ o.2 then some (ad (xar o.1.1 o.1.2 j)) else none)))))
noncomputable def xwo (cA : Nat → ClassId) (os : List ((Nat × Nat) × List Nat)) (ids : List (Nat × Nat)) (ad : Nat × Nat → Nat) (σ : xa_H) : va_W := os.map (fun o => (ad o.1, xoe cA ad σ o)) ++ xwl cA ids ad σ
def xkeys (os : List ((Nat × Nat) × List Nat)) (ids : List (Nat × Nat)) : List (Nat × Nat) := os.map (fun o => o.1) ++ ids
def xoc (os : List ((Nat × Nat) × List Nat)) (ids : List (Nat × Nat)) (σ : xa_H) : Prop :=
  (∀ o ∈ os, (xaty o.1.1 = 9 → ∀ s ∈ o.2, xfty o.1.1 s = 3 → xsr o.1.1 o.1.2 s ∈ xkeys os ids) ∧ (¬ xaty o.1.1 = 9 → ∀ j ∈ o.2, xar o.1.1 o.1.2 j ∈ xkeys os ids)) ∧
  (∀ q ∈ ids, (∀ s, xfty q.1 s = 3 → xsr q.1 q.2 s ∈ xkeys os ids) ∧ (xaty q.1 = 5 ∨ xaty q.1 = 6 → ∀ j, j < xalen q.1 → xar q.1 q.2 j ∈ xkeys os ids)) ∧
  ∀ q ∈ xkeys os ids, q.1 < 99 ∧ ∀ s, xfty q.1 s = 4 → σ q.1 q.2 s < 0
/-- the world of a constructor -/
def xcw (D : va_G) (cA : Nat → ClassId) (A : Nat → Prop) (adS : Nat) (os : List ((Nat × Nat) × List Nat)) (ids : List (Nat × Nat)) (ad : Nat × Nat → Nat) (σ : xa_H) (H : Heap) : Prop :=
  va_P D vwCl (xwo cA os ids ad σ) H ∧ va_D A (xwo cA os ids ad σ) ∧ xoc os ids σ ∧ ∀ j, ad (99, j) = adS
theorem xwo_iff {D : va_G} {cA : Nat → ClassId} {os : List ((Nat × Nat) × List Nat)} {ids : List (Nat × Nat)} {ad : Nat × Nat → Nat} {σ : xa_H} {H : Heap} : va_P D vwCl (xwo cA os ids ad σ) H ↔ (∀ o ∈ os, va_at D vwCl (ad o.1, xoe cA ad σ o) H) ∧ ∀ q ∈ ids, va_at D vwCl (xit cA ad σ q) H := by
  rw [vP_iff]
  constructor
  · intro h
    exact ⟨fun o ho => h _ (List.mem_append_left _ (List.mem_map.mpr ⟨o, ho, rfl⟩)), fun q hq => h _ (List.mem_append_right _ (List.mem_map.mpr ⟨q, hq, rfl⟩))⟩
  · rintro ⟨h1, h2⟩ x hx
    rcases List.mem_append.mp hx with hx | hx
    · obtain ⟨o, ho, rfl⟩ := List.mem_map.mp hx
      exact h1 o ho
    · obtain ⟨q, hq, rfl⟩ := List.mem_map.mp hx
      exact h2 q hq
theorem xwo_addr {cA : Nat → ClassId} {os : List ((Nat × Nat) × List Nat)} {ids : List (Nat × Nat)} {ad : Nat × Nat → Nat} {σ : xa_H} : (xwo cA os ids ad σ).map (fun q => q.1) = (xkeys os ids).map ad := by
  unfold xwo xkeys xwl
  rw [List.map_append, List.map_append, List.map_map, List.map_map, List.map_map]
  rfl
theorem xwoD_iff {cA : Nat → ClassId} {os : List ((Nat × Nat) × List Nat)} {ids : List (Nat × Nat)} {ad : Nat × Nat → Nat} {σ : xa_H} {A : Nat → Prop} : va_D A (xwo cA os ids ad σ) ↔ ((xkeys os ids).map ad).Nodup ∧ ∀ x ∈ xkeys os ids, A (ad x) := by
  rw [vD_iff, xwo_addr]
  have e : (∀ x ∈ xwo cA os ids ad σ, A x.1) ↔ ∀ y ∈ (xwo cA os ids ad σ).map (fun q => q.1), A y := by
    constructor
    · intro h y hy
      obtain ⟨x, hx, rfl⟩ := List.mem_map.mp hy
      exact h x hx
    · intro h x hx
      exact h _ (List.mem_map.mpr ⟨x, hx, rfl⟩)
  rw [e, xwo_addr]
  constructor
  · rintro ⟨h1, h2⟩
    exact ⟨h1, fun x hx => h2 _ (List.mem_map.mpr ⟨x, hx, rfl⟩)⟩
  · rintro ⟨h1, h2⟩
    refine ⟨h1, fun y hy => ?_⟩
    obtain ⟨x, hx, rfl⟩ := List.mem_map.mp hy
    exact h2 x hx
theorem xoat_c {D : va_G} {cA : Nat → ClassId} {ad ad2 : Nat × Nat → Nat} {σ σ2 : xa_H} {o : (Nat × Nat) × List Nat} {H : Heap} (h : va_at D vwCl (ad o.1, xoe cA ad σ o) H) (e0 : ad2 o.1 = ad o.1) (e1 : o.2 = [] ∨ σ2 o.1.1 o.1.2 = σ o.1.1 o.1.2) (e3 : xaty o.1.1 = 9 → ∀ s ∈ o.2, xfty o.1.1 s = 3 → ad2 (xsr o.1.1 o.1.2 s) = ad (xsr o.1.1 o.1.2 s))
    (e4 : ∀ s, xfty o.1.1 s = 4 → σ o.1.1 o.1.2 s < 0) (e5 : ¬ xaty o.1.1 = 9 → ∀ j ∈ o.2, ad2 (xar o.1.1 o.1.2 j) = ad (xar o.1.1 o.1.2 j)) : va_at D vwCl (ad2 o.1, xoe cA ad2 σ2 o) H := by
  have e : xoe cA ad2 σ2 o = xoe cA ad σ o := by
    unfold xoe
    by_cases h9 : xaty o.1.1 = 9
    · rw [if_pos h9, if_pos h9]
      congr 2
      apply List.map_congr_left
      intro s _
      by_cases hs : s ∈ o.2
      · have e1 := e1.resolve_left (fun h => by rw [h] at hs; cases hs)
        rw [if_pos hs, if_pos hs, e1]
        unfold xfv
        by_cases h3 : xfty o.1.1 s = 3
        · rw [if_pos h3, if_pos h3, e3 h9 s hs h3]
        · rw [if_neg h3, if_neg h3]
          by_cases h4 : xfty o.1.1 s = 4
          · rw [if_pos h4, if_pos h4, if_pos (e4 s h4), if_pos (e4 s h4)]
          · rw [if_neg h4, if_neg h4]
      · rw [if_neg hs, if_neg hs]
    · rw [if_neg h9, if_neg h9]
      have : (fun j => if j ∈ o.2 then some (ad2 (xar o.1.1 o.1.2 j)) else none) = (fun j => if j ∈ o.2 then some (ad (xar o.1.1 o.1.2 j)) else none) := by
        funext j
        by_cases hj : j ∈ o.2
        · rw [if_pos hj, if_pos hj, e5 h9 j hj]
        · rw [if_neg hj, if_neg hj]
      rw [this]
  rw [e0, e]
  exact h
/-- only the addresses of the cells count -/
theorem xcw_ad {D : va_G} {cA : Nat → ClassId} {A : Nat → Prop} {adS : Nat} {os : List ((Nat × Nat) × List Nat)} {ids : List (Nat × Nat)} {ad ad2 : Nat × Nat → Nat} {σ σ2 : xa_H} {H : Heap} (h : xcw D cA A adS os ids ad σ H) (ha : ∀ q ∈ xkeys os ids, ad2 q = ad q) (hσ : (∀ o ∈ os, o.2 = [] ∨ σ2 o.1.1 o.1.2 = σ o.1.1 o.1.2) ∧ ∀ q ∈ ids, σ2 q.1 q.2 = σ q.1 q.2) (h4 : ∀ q ∈ xkeys os ids, ∀ s, xfty q.1 s = 4 → σ2 q.1 q.2 s < 0) (h99 : ∀ j, ad2 (99, j) = adS) : xcw D cA A adS os ids ad2 σ2 H := by
  obtain ⟨hP, hD, ⟨c1, c2, c3⟩, -⟩ := h
  refine ⟨?_, ?_, ⟨c1, c2, fun q hq => ⟨(c3 q hq).1, h4 q hq⟩⟩, h99⟩
  · rw [xwo_iff] at hP ⊢
    refine ⟨fun o ho => ?_, fun q hq => ?_⟩
    · have hk : o.1 ∈ xkeys os ids := List.mem_append_left _ (List.mem_map.mpr ⟨o, ho, rfl⟩)
      exact xoat_c (hP.1 o ho) (ha _ hk) (hσ.1 o ho) (fun h9 s hs h3 => ha _ ((c1 o ho).1 h9 s hs h3)) (c3 _ hk).2 (fun h9 j hj => ha _ ((c1 o ho).2 h9 j hj))
    · have hk : q ∈ xkeys os ids := List.mem_append_right _ hq
      exact xat_c (hP.2 q hq) (ha _ hk) (hσ.2 q hq) (fun s hs => ha _ ((c2 q hq).1 s hs)) (c3 _ hk).2 (fun j h5 hj => ha _ ((c2 q hq).2 h5 j hj))
  · rw [xwoD_iff] at hD ⊢
    have e : (xkeys os ids).map ad2 = (xkeys os ids).map ad := List.map_congr_left ha
    rw [e]
    exact ⟨hD.1, fun x hx => by rw [ha x hx]; exact hD.2 x hx⟩
/-- the order of the cells does not count -/
theorem xcw_perm {D : va_G} {cA : Nat → ClassId} {A : Nat → Prop} {adS : Nat} {os os' : List ((Nat × Nat) × List Nat)} {ids ids' : List (Nat × Nat)} {ad : Nat × Nat → Nat} {σ : xa_H} {H : Heap} (h : xcw D cA A adS os ids ad σ H) (h1 : os'.Perm os) (h2 : ids'.Perm ids) : xcw D cA A adS os' ids' ad σ H := by
  obtain ⟨hP, hD, ⟨c1, c2, c3⟩, h99⟩ := h
  have hk : (xkeys os' ids').Perm (xkeys os ids) := List.Perm.append (h1.map _) h2
  refine ⟨?_, ?_, ⟨fun o ho => ?_, fun q hq => ?_, fun q hq => c3 q (hk.mem_iff.mp hq)⟩, h99⟩
  · rw [xwo_iff] at hP ⊢
    exact ⟨fun o ho => hP.1 o (h1.mem_iff.mp ho), fun q hq => hP.2 q (h2.mem_iff.mp hq)⟩
  · rw [xwoD_iff] at hD ⊢
    exact ⟨(hk.map ad).nodup_iff.mpr hD.1, fun x hx => hD.2 x (hk.mem_iff.mp hx)⟩
  · exact ⟨fun h9 s hs h3 => hk.mem_iff.mpr ((c1 o (h1.mem_iff.mp ho)).1 h9 s hs h3), fun h9 j hj => hk.mem_iff.mpr ((c1 o (h1.mem_iff.mp ho)).2 h9 j hj)⟩
  · exact ⟨fun s hs => hk.mem_iff.mpr ((c2 q (h2.mem_iff.mp hq)).1 s hs), fun h5 j hj => hk.mem_iff.mpr ((c2 q (h2.mem_iff.mp hq)).2 h5 j hj)⟩
/-- a new cell of numbers -/
theorem xcw_new {D : va_G} {cA : Nat → ClassId} {A : Nat → Prop} {adS : Nat} {os : List ((Nat × Nat) × List Nat)} {ids : List (Nat × Nat)} {ad : Nat × Nat → Nat} {σ : xa_H} {H H1 : Heap} {k : Nat × Nat} {q : Nat} {w : va_E} (h : xcw D cA A adS os ids ad σ H) (hP : va_P D vwCl (xwo cA os ids ad σ ++ [(q, w)]) H1) (hD : va_D A (xwo cA os ids ad σ ++ [(q, w)]))
    (hk : k ∉ xkeys os ids) (hk9 : k.1 < 99) (h5 : xaty k.1 = 0 ∨ xaty k.1 = 1 ∨ xaty k.1 = 2) (h3 : ∀ s, ¬ xfty k.1 s = 3 ∧ ¬ xfty k.1 s = 4) (hw : ∀ ad2 : Nat × Nat → Nat, xent cA ad2 k (σ k.1 k.2) = w) :
    ∃ ad2, (∀ x, x ≠ k → ad2 x = ad x) ∧ ad2 k = q ∧ xcw D cA A adS os (ids ++ [k]) ad2 σ H1 := by
  have hPa := vP_iff.mp hP
  have h1 : xcw D cA A adS os ids ad σ H1 := by
    obtain ⟨a1, a2, a3, a4⟩ := h
    refine ⟨vP_iff.mpr (fun x hx => hPa x (List.mem_append_left _ hx)), a2, a3, a4⟩
  refine ⟨fun x => if x = k then q else ad x, fun x hx => if_neg hx, if_pos rfl, ?_⟩
  have h2 : xcw D cA A adS os ids (fun x => if x = k then q else ad x) σ H1 := xcw_ad h1 (fun x hx => if_neg (fun (e : x = k) => hk (e ▸ hx))) ⟨fun _ _ => Or.inr rfl, fun _ _ => rfl⟩ (fun q hq => (h1.2.2.1.2.2 q hq).2) (fun j => by
    show (if (99, j) = k then q else ad (99, j)) = adS
    rw [if_neg (fun e => by rw [← e] at hk9; exact absurd hk9 (by simp))]
    exact h.2.2.2 j)
  have hq : (fun x => if x = k then q else ad x) k = q := if_pos rfl
  have hDq : q ∉ (xkeys os ids).map ad ∧ A q := by
    rw [vD_iff, List.map_append, xwo_addr] at hD
    obtain ⟨d1, d2⟩ := hD
    rw [List.nodup_append] at d1
    exact ⟨fun hm => d1.2.2 q hm q (by simp) rfl, d2 (q, w) (by simp)⟩
  have hDq2 : q ∉ (xkeys os ids).map (fun x => if x = k then q else ad x) := by
    have e : (xkeys os ids).map (fun x => if x = k then q else ad x) = (xkeys os ids).map ad := List.map_congr_left (fun x hx => if_neg (fun (e : x = k) => hk (e ▸ hx)))
    rw [e]
    exact hDq.1
  generalize (fun x => if x = k then q else ad x) = ad2 at h2 hq hDq2 ⊢
  obtain ⟨hP2, hD2, ⟨c1, c2, c3⟩, h99⟩ := h2
  have hs : ∀ x ∈ xkeys os ids, x ∈ xkeys os (ids ++ [k]) := fun x hx => by
    unfold xkeys at hx ⊢
    rw [← List.append_assoc]
    exact List.mem_append_left _ hx
  refine ⟨?_, ?_, ⟨fun o ho => ⟨fun h9 s hs' h3 => hs _ ((c1 o ho).1 h9 s hs' h3), fun h9 j hj => hs _ ((c1 o ho).2 h9 j hj)⟩, fun x hx => ?_, fun x hx => ?_⟩, h99⟩
  · rw [xwo_iff] at hP2 ⊢
    refine ⟨hP2.1, fun x hx => ?_⟩
    rcases List.mem_append.mp hx with hx | hx
    · exact hP2.2 x hx
    · have e : x = k := by simpa using hx
      subst e
      unfold xit
      rw [hw ad2, hq]
      exact hPa _ (List.mem_append_right _ (by simp))
  · rw [xwoD_iff] at hD2 ⊢
    have e : xkeys os (ids ++ [k]) = xkeys os ids ++ [k] := by unfold xkeys; rw [List.append_assoc]
    rw [e, List.map_append]
    refine ⟨?_, fun x hx => ?_⟩
    · rw [List.nodup_append]
      refine ⟨hD2.1, by simp, fun a ha b hb he => ?_⟩
      have : b = q := by simpa [hq] using hb
      exact hDq2 (by rw [← this, ← he]; exact ha)
    · rcases List.mem_append.mp hx with hx | hx
      · exact hD2.2 x hx
      · have e : x = k := by simpa using hx
        rw [e, hq]
        exact hDq.2
  · rcases List.mem_append.mp hx with hx | hx
    · exact ⟨fun s h => hs _ ((c2 x hx).1 s h), fun h j hj => hs _ ((c2 x hx).2 h j hj)⟩
    · have e : x = k := by simpa using hx
      subst e
      exact ⟨fun s h => absurd h (h3 s).1, fun h => absurd h (by omega)⟩
  · have e : xkeys os (ids ++ [k]) = xkeys os ids ++ [k] := by unfold xkeys; rw [List.append_assoc]
    rw [e] at hx
    rcases List.mem_append.mp hx with hx | hx
    · exact c3 x hx
    · have e : x = k := by simpa using hx
      subst e
      exact ⟨hk9, fun s h => absurd h (h3 s).2⟩
/-- a new cell that is to be made -/
theorem xcw_newo {D : va_G} {cA : Nat → ClassId} {A : Nat → Prop} {adS : Nat} {os : List ((Nat × Nat) × List Nat)} {ids : List (Nat × Nat)} {ad : Nat × Nat → Nat} {σ : xa_H} {H H1 : Heap} {k : Nat × Nat} {q : Nat} {w : va_E} (h : xcw D cA A adS os ids ad σ H) (hP : va_P D vwCl (xwo cA os ids ad σ ++ [(q, w)]) H1) (hD : va_D A (xwo cA os ids ad σ ++ [(q, w)]))
    (hk : k ∉ xkeys os ids) (hk9 : k.1 < 99) (h4 : ∀ s, xfty k.1 s = 4 → σ k.1 k.2 s < 0) (hw : ∀ ad2 : Nat × Nat → Nat, xoe cA ad2 σ (k, []) = w) :
    ∃ ad2, (∀ x, x ≠ k → ad2 x = ad x) ∧ ad2 k = q ∧ xcw D cA A adS (os ++ [(k, [])]) ids ad2 σ H1 := by
  have hPa := vP_iff.mp hP
  have h1 : xcw D cA A adS os ids ad σ H1 := by
    obtain ⟨a1, a2, a3, a4⟩ := h
    refine ⟨vP_iff.mpr (fun x hx => hPa x (List.mem_append_left _ hx)), a2, a3, a4⟩
  refine ⟨fun x => if x = k then q else ad x, fun x hx => if_neg hx, if_pos rfl, ?_⟩
  have h2 : xcw D cA A adS os ids (fun x => if x = k then q else ad x) σ H1 := xcw_ad h1 (fun x hx => if_neg (fun (e : x = k) => hk (e ▸ hx))) ⟨fun _ _ => Or.inr rfl, fun _ _ => rfl⟩ (fun q hq => (h1.2.2.1.2.2 q hq).2) (fun j => by
    show (if (99, j) = k then q else ad (99, j)) = adS
    rw [if_neg (fun e => by rw [← e] at hk9; exact absurd hk9 (by simp))]
    exact h.2.2.2 j)
  have hq : (fun x => if x = k then q else ad x) k = q := if_pos rfl
  have hDq : q ∉ (xkeys os ids).map ad ∧ A q := by
    rw [vD_iff, List.map_append, xwo_addr] at hD
    obtain ⟨d1, d2⟩ := hD
    rw [List.nodup_append] at d1
    exact ⟨fun hm => d1.2.2 q hm q (by simp) rfl, d2 (q, w) (by simp)⟩
  have hDq2 : q ∉ (xkeys os ids).map (fun x => if x = k then q else ad x) := by
    have e : (xkeys os ids).map (fun x => if x = k then q else ad x) = (xkeys os ids).map ad := List.map_congr_left (fun x hx => if_neg (fun (e : x = k) => hk (e ▸ hx)))
    rw [e]
    exact hDq.1
  generalize (fun x => if x = k then q else ad x) = ad2 at h2 hq hDq2 ⊢
  obtain ⟨hP2, hD2, ⟨c1, c2, c3⟩, h99⟩ := h2
  have ep : (xkeys (os ++ [(k, [])]) ids).Perm (k :: xkeys os ids) := by
    unfold xkeys
    rw [List.map_append, List.append_assoc]
    exact List.perm_middle
  have hs : ∀ x ∈ xkeys os ids, x ∈ xkeys (os ++ [(k, [])]) ids := fun x hx => ep.mem_iff.mpr (List.mem_cons_of_mem _ hx)
  refine ⟨?_, ?_, ⟨fun o ho => ?_, fun x hx => ⟨fun s h => hs _ ((c2 x hx).1 s h), fun h j hj => hs _ ((c2 x hx).2 h j hj)⟩, fun x hx => ?_⟩, h99⟩
  · rw [xwo_iff] at hP2 ⊢
    refine ⟨fun o ho => ?_, hP2.2⟩
    rcases List.mem_append.mp ho with ho | ho
    · exact hP2.1 o ho
    · have e : o = (k, []) := by simpa using ho
      subst e
      show va_at D vwCl (ad2 k, xoe cA ad2 σ (k, [])) H1
      rw [hw ad2, hq]
      exact hPa _ (List.mem_append_right _ (by simp))
  · rw [xwoD_iff] at hD2 ⊢
    refine ⟨(ep.map ad2).nodup_iff.mpr ?_, fun x hx => ?_⟩
    · rw [List.map_cons, List.nodup_cons]
      exact ⟨by rw [hq]; exact hDq2, hD2.1⟩
    · rcases List.mem_cons.mp (ep.mem_iff.mp hx) with rfl | hx
      · rw [hq]; exact hDq.2
      · exact hD2.2 x hx
  · rcases List.mem_append.mp ho with ho | ho
    · exact ⟨fun h9 s hs' h3 => hs _ ((c1 o ho).1 h9 s hs' h3), fun h9 j hj => hs _ ((c1 o ho).2 h9 j hj)⟩
    · have e : o = (k, []) := by simpa using ho
      subst e
      exact ⟨fun _ s hs' => absurd hs' (by simp), fun _ j hj => absurd hj (by simp)⟩
  · rcases List.mem_cons.mp (ep.mem_iff.mp hx) with rfl | hx
    · exact ⟨hk9, h4⟩
    · exact c3 x hx
/-- a field, or a place, is given -/
theorem xcw_give {D : va_G} {cA : Nat → ClassId} {A : Nat → Prop} {adS : Nat} {o1 o2 : List ((Nat × Nat) × List Nat)} {ids : List (Nat × Nat)} {ad : Nat × Nat → Nat} {σ : xa_H} {H H1 : Heap} {k : Nat × Nat} {dn : List Nat} {s n : Nat} {w : va_E} (h : xcw D cA A adS (o1 ++ (k, dn) :: o2) ids ad σ H) (hn : o1.length = n)
    (hP : va_P D vwCl ((xwo cA (o1 ++ (k, dn) :: o2) ids ad σ).set n (ad k, w)) H1) (hw : xoe cA ad σ (k, s :: dn) = w)
    (h3 : xaty k.1 = 9 → xfty k.1 s = 3 → xsr k.1 k.2 s ∈ xkeys (o1 ++ (k, dn) :: o2) ids) (h5 : ¬ xaty k.1 = 9 → xar k.1 k.2 s ∈ xkeys (o1 ++ (k, dn) :: o2) ids) : xcw D cA A adS (o1 ++ (k, s :: dn) :: o2) ids ad σ H1 := by
  obtain ⟨hP0, hD, ⟨c1, c2, c3⟩, h99⟩ := h
  have ek : xkeys (o1 ++ (k, s :: dn) :: o2) ids = xkeys (o1 ++ (k, dn) :: o2) ids := by unfold xkeys; rw [List.map_append, List.map_append]; rfl
  have ew : (xwo cA (o1 ++ (k, dn) :: o2) ids ad σ).set n (ad k, w) = xwo cA (o1 ++ (k, s :: dn) :: o2) ids ad σ := by
    subst hn
    unfold xwo
    rw [List.map_append, List.map_append, List.append_assoc, List.append_assoc, List.set_append_right _ _ (by simp)]
    rw [List.length_map, Nat.sub_self, List.map_cons, List.cons_append, List.set_cons_zero, List.map_cons, List.cons_append, hw]
  rw [ew] at hP
  refine ⟨hP, xwoD_iff.mpr (by rw [ek]; exact xwoD_iff.mp hD), ⟨fun o ho => ?_, fun x hx => by rw [ek]; exact c2 x hx, fun x hx => by rw [ek] at hx; exact c3 x hx⟩, h99⟩
  rw [ek]
  have ho' : o ∈ o1 ++ (k, dn) :: o2 ∨ o = (k, s :: dn) := by
    rcases List.mem_append.mp ho with ho | ho
    · exact Or.inl (List.mem_append_left _ ho)
    · rcases List.mem_cons.mp ho with ho | ho
      · exact Or.inr ho
      · exact Or.inl (List.mem_append_right _ (List.mem_cons_of_mem _ ho))
  rcases ho' with ho' | rfl
  · exact c1 o ho'
  · have hm : (k, dn) ∈ o1 ++ (k, dn) :: o2 := List.mem_append_right _ List.mem_cons_self
    refine ⟨fun h9 s' hs' h => ?_, fun h9 j hj => ?_⟩
    · rcases List.mem_cons.mp hs' with rfl | hs'
      · exact h3 h9 h
      · exact (c1 _ hm).1 h9 s' hs' h
    · rcases List.mem_cons.mp hj with rfl | hj
      · exact h5 h9
      · exact (c1 _ hm).2 h9 j hj

theorem xno3 (K s : Nat) (h : 10 ≤ K ∨ xaty K = 5 ∨ xaty K = 6) : ¬ xfty K s = 3 := by
  intro h3
  have hK : K < 10 ∨ 10 ≤ K := by omega
  rcases hK with hK | hK
  · have := xaty_obj K hK
    omega
  · have : xftl K = [] := by
      unfold xftl
      rw [List.getD_eq_getElem?_getD, List.getElem?_eq_none (by simp; omega)]
      rfl
    unfold xfty at h3
    rw [this] at h3
    exact absurd h3 (by simp)
/-- a cell is made -/
theorem xcw_close {D : va_G} {cA : Nat → ClassId} {A : Nat → Prop} {adS : Nat} {o1 o2 : List ((Nat × Nat) × List Nat)} {ids : List (Nat × Nat)} {ad : Nat × Nat → Nat} {σ : xa_H} {H : Heap} {k : Nat × Nat} {dn : List Nat} (h : xcw D cA A adS (o1 ++ (k, dn) :: o2) ids ad σ H) (hk9 : xaty k.1 = 9 → k.1 < 10)
    (h9 : xaty k.1 = 9 → ∀ s, s < (xcl k.1).2.2 → s ∉ dn → ¬ xfty k.1 s = 3 ∧ xfv ad k (σ k.1 k.2) s = xdf k.1 s) (hl : ∀ s, xfty k.1 s = 3 → s ∈ dn) (h5 : ¬ xaty k.1 = 9 → (xaty k.1 = 5 ∨ xaty k.1 = 6) ∧ ∀ j, j < xalen k.1 → j ∈ dn) : xcw D cA A adS (o1 ++ o2) (ids ++ [k]) ad σ H := by
  obtain ⟨hP, hD, ⟨c1, c2, c3⟩, h99⟩ := h
  have ep : (xkeys (o1 ++ o2) (ids ++ [k])).Perm (xkeys (o1 ++ (k, dn) :: o2) ids) := by
    unfold xkeys
    rw [List.map_append, List.map_append, List.map_cons]
    have e1 : (List.map (fun o => o.1) o1 ++ List.map (fun o => o.1) o2 ++ (ids ++ [k])).Perm (k :: (List.map (fun o => o.1) o1 ++ List.map (fun o => o.1) o2 ++ ids)) := by
      rw [← List.append_assoc]
      exact List.perm_append_singleton _ _
    refine e1.trans ?_
    rw [List.append_assoc, List.append_assoc]
    exact List.perm_middle.symm
  have hm : ((k, dn) : (Nat × Nat) × List Nat) ∈ o1 ++ (k, dn) :: o2 := List.mem_append_right _ List.mem_cons_self
  have hsub : ∀ o ∈ o1 ++ o2, o ∈ o1 ++ (k, dn) :: o2 := fun o ho => by
    rcases List.mem_append.mp ho with ho | ho
    · exact List.mem_append_left _ ho
    · exact List.mem_append_right _ (List.mem_cons_of_mem _ ho)
  refine ⟨?_, ?_, ⟨fun o ho => ?_, fun x hx => ?_, fun x hx => c3 x (ep.mem_iff.mp hx)⟩, h99⟩
  · rw [xwo_iff] at hP ⊢
    refine ⟨fun o ho => hP.1 o (hsub o ho), fun x hx => ?_⟩
    rcases List.mem_append.mp hx with hx | hx
    · exact hP.2 x hx
    · have e : x = k := by simpa using hx
      subst e
      have h0 := hP.1 _ hm
      unfold xit
      by_cases h : xaty x.1 = 9
      · have ee : xoe cA ad σ (x, dn) = xent cA ad x (σ x.1 x.2) := by
          rw [xent_obj h]
          unfold xoe
          rw [if_pos h]
          congr 2
          apply List.map_congr_left
          intro s hs
          by_cases hd : s ∈ dn
          · rw [if_pos hd]
          · rw [if_neg hd]
            exact ((h9 h s (List.mem_range.mp hs) hd).2).symm
        rw [← ee]
        exact h0
      · rw [xent_ref (h5 h).1]
        have h0 : H[ad x]? = some (vp_cell (cA (xaty x.1)) (xalen x.1, .inr (.inr (.inr (.inr (fun j => if j ∈ dn then some (ad (xar x.1 x.2 j)) else none)))))) := by
          unfold xoe at h0
          rw [if_neg h] at h0
          exact h0
        show H[ad x]? = some (vp_cell (cA (xaty x.1)) (xalen x.1, .inr (.inr (.inr (.inr (fun j => some (ad (xar x.1 x.2 j))))))))
        rw [h0, vp_cell_q, vp_cell_q]
        unfold arrV
        have e : (fun j : Fin (xalen x.1) => va_rf (if j.val ∈ dn then some (ad (xar x.1 x.2 j.val)) else none)) = (fun j : Fin (xalen x.1) => va_rf (some (ad (xar x.1 x.2 j.val)))) := by
          funext j
          rw [if_pos ((h5 h).2 j.val j.isLt)]
        rw [e]
  · rw [xwoD_iff] at hD ⊢
    exact ⟨(ep.map ad).nodup_iff.mpr hD.1, fun x hx => hD.2 x (ep.mem_iff.mp hx)⟩
  · have := c1 o (hsub o ho)
    exact ⟨fun h9 s hs h3 => ep.mem_iff.mpr (this.1 h9 s hs h3), fun h9 j hj => ep.mem_iff.mpr (this.2 h9 j hj)⟩
  · rcases List.mem_append.mp hx with hx | hx
    · exact ⟨fun s hs => ep.mem_iff.mpr ((c2 x hx).1 s hs), fun h j hj => ep.mem_iff.mpr ((c2 x hx).2 h j hj)⟩
    · have e : x = k := by simpa using hx
      subst e
      refine ⟨fun s hs => ep.mem_iff.mpr ?_, fun h j hj => ep.mem_iff.mpr ?_⟩
      · by_cases h : xaty x.1 = 9
        · exact (c1 _ hm).1 h s (hl s hs) hs
        · exfalso
          rcases (h5 h).1 with e | e
          · exact xno3 x.1 s (by omega) hs
          · exact xno3 x.1 s (by omega) hs
      · have h9 : ¬ xaty x.1 = 9 := by omega
        exact (c1 _ hm).2 h9 j ((h5 h9).2 j hj)
/-- behind a constructor of another cell -/
theorem xcw_join {D : va_G} {cA : Nat → ClassId} {A : Nat → Prop} {adS : Nat} {os : List ((Nat × Nat) × List Nat)} {idA idR idU : List (Nat × Nat)} {ad ad1 : Nat × Nat → Nat} {σ σF : xa_H} {H H1 : Heap} {k : Nat × Nat} {wc : va_W} (h : xcw D cA A adS (os ++ [(k, [])]) (idA ++ idR) ad σ H)
    (hwc : wc.map (fun q => q.1) = (k :: idA).map ad) (h1 : xcw D cA (va_A wc H.size) adS [] idU ad1 σF H1) (hk : ∀ q : Nat, q < H.size → ¬ va_A wc H.size q → H1[q]? = H[q]?) (hF : ∀ q, va_A wc H.size q → A q)
    (hs : ∀ x ∈ idU, σ x.1 x.2 = σF x.1 x.2) (had : ∀ x ∈ k :: idA, ad1 x = ad x) (hsub : ∀ x ∈ k :: idA, x ∈ idU) (hdis : ∀ x ∈ idU, x ∉ xkeys os idR) :
    ∃ ad2, (∀ x ∈ xkeys (os ++ [(k, [])]) (idA ++ idR), ad2 x = ad x) ∧ (∀ x ∈ idU, ad2 x = ad1 x) ∧ xcw D cA A adS os (idR ++ idU) ad2 σ H1 := by
  obtain ⟨hP, hD, ⟨c1, c2, c3⟩, h99⟩ := h
  obtain ⟨hP1, hD1, ⟨-, d2, d3⟩, g99⟩ := h1
  have hmem : ∀ x, x ∈ xkeys (os ++ [(k, [])]) (idA ++ idR) ↔ x ∈ xkeys os idR ∨ x ∈ k :: idA := by
    intro x
    unfold xkeys
    simp only [List.map_append, List.map_cons, List.map_nil, List.mem_append, List.mem_cons, List.not_mem_nil, or_false]
    constructor
    · rintro ((h | h) | (h | h))
      · exact Or.inl (Or.inl h)
      · exact Or.inr (Or.inl h)
      · exact Or.inr (Or.inr h)
      · exact Or.inl (Or.inr h)
    · rintro ((h | h) | (h | h))
      · exact Or.inl (Or.inl h)
      · exact Or.inr (Or.inr h)
      · exact Or.inl (Or.inr h)
      · exact Or.inr (Or.inl h)
  have hA1 : ∀ q, va_A wc H.size q ↔ q ∈ (k :: idA).map ad ∨ H.size ≤ q := by
    intro q
    unfold va_A
    rw [← hwc]
    constructor
    · rintro (⟨n, e, hn⟩ | h)
      · exact Or.inl (List.mem_map.mpr ⟨(q, e), List.mem_of_getElem? hn, rfl⟩)
      · exact Or.inr h
    · rintro (h | h)
      · obtain ⟨⟨q', e⟩, hq, rfl⟩ := List.mem_map.mp h
        obtain ⟨n, hn⟩ := List.getElem?_of_mem hq
        exact Or.inl ⟨n, e, hn⟩
      · exact Or.inr h
  have hnd : ((xkeys os idR).map ad).Nodup ∧ ∀ x ∈ xkeys os idR, ∀ y ∈ k :: idA, ad x ≠ ad y := by
    have hn := (xwoD_iff.mp hD).1
    have ep : (xkeys (os ++ [(k, [])]) (idA ++ idR)).Perm (xkeys os idR ++ k :: idA) := by
      unfold xkeys
      rw [List.map_append, List.append_assoc, List.append_assoc]
      refine List.Perm.append_left _ ?_
      show (k :: (idA ++ idR)).Perm (idR ++ k :: idA)
      exact (List.Perm.cons k List.perm_append_comm).trans List.perm_middle.symm
    have hn2 := (ep.map ad).nodup_iff.mp hn
    rw [List.map_append, List.nodup_append] at hn2
    exact ⟨hn2.1, fun x hx y hy => hn2.2.2 _ (List.mem_map.mpr ⟨x, hx, rfl⟩) _ (List.mem_map.mpr ⟨y, hy, rfl⟩)⟩
  have hlt : ∀ x ∈ xkeys os idR, ad x < H.size := by
    intro x hx
    have hP0 := xwo_iff.mp hP
    rcases List.mem_append.mp hx with hx | hx
    · obtain ⟨o, ho, rfl⟩ := List.mem_map.mp hx
      exact (hP0.1 o (List.mem_append_left _ ho)).lt
    · exact (hP0.2 x (List.mem_append_right _ hx)).lt
  have hnA : ∀ x ∈ xkeys os idR, ¬ va_A wc H.size (ad x) := by
    intro x hx hA
    rcases (hA1 _).mp hA with h | h
    · obtain ⟨y, hy, he⟩ := List.mem_map.mp h
      exact hnd.2 x hx y hy he.symm
    · have := hlt x hx
      omega
  have a1 : ∀ x ∈ xkeys (os ++ [(k, [])]) (idA ++ idR), (fun x => if x ∈ idU then ad1 x else ad x) x = ad x := by
    intro x hx
    rcases (hmem x).mp hx with h | h
    · exact if_neg (fun e => hdis x e h)
    · show (if x ∈ idU then ad1 x else ad x) = ad x
      rw [if_pos (hsub x h), had x h]
  have a2 : ∀ x ∈ idU, (fun x => if x ∈ idU then ad1 x else ad x) x = ad1 x := fun x hx => if_pos hx
  have a3 : ∀ j, (fun x => if x ∈ idU then ad1 x else ad x) (99, j) = adS := by
    intro j
    show (if (99, j) ∈ idU then ad1 (99, j) else ad (99, j)) = adS
    by_cases h : (99, j) ∈ idU
    · rw [if_pos h, g99]
    · rw [if_neg h, h99]
  generalize (fun x => if x ∈ idU then ad1 x else ad x) = ad2 at a1 a2 a3
  refine ⟨ad2, a1, a2, ?_⟩
  have hmm : ∀ x, x ∈ xkeys os (idR ++ idU) ↔ x ∈ xkeys os idR ∨ x ∈ idU := by
    intro x
    unfold xkeys
    simp only [List.mem_append, or_assoc]
  have hup : ∀ x, x ∈ xkeys (os ++ [(k, [])]) (idA ++ idR) → x ∈ xkeys os (idR ++ idU) := by
    intro x hx
    rcases (hmem x).mp hx with h | h
    · exact (hmm x).mpr (Or.inl h)
    · exact (hmm x).mpr (Or.inr (hsub x h))
  have hin : ∀ x, x ∈ xkeys os idR → x ∈ xkeys (os ++ [(k, [])]) (idA ++ idR) := fun x hx => (hmem x).mpr (Or.inl hx)
  refine ⟨?_, ?_, ⟨fun o ho => ?_, fun x hx => ?_, fun x hx => ?_⟩, a3⟩
  · rw [xwo_iff] at hP hP1 ⊢
    refine ⟨fun o ho => ?_, fun x hx => ?_⟩
    · have ho' : o ∈ os ++ [(k, [])] := List.mem_append_left _ ho
      have hx : o.1 ∈ xkeys os idR := List.mem_append_left _ (List.mem_map.mpr ⟨o, ho, rfl⟩)
      exact xoat_c ((hP.1 o ho').kept (hk _ (hlt _ hx) (hnA _ hx))) (a1 _ (hin _ hx)) (Or.inr rfl) (fun h9 s hs' h3 => a1 _ ((c1 o ho').1 h9 s hs' h3)) (c3 _ (hin _ hx)).2 (fun h9 j hj => a1 _ ((c1 o ho').2 h9 j hj))
    · rcases List.mem_append.mp hx with hx | hx
      · have hx' : x ∈ xkeys os idR := List.mem_append_right _ hx
        have hi : x ∈ idA ++ idR := List.mem_append_right _ hx
        exact xat_c ((hP.2 x hi).kept (hk _ (hlt _ hx') (hnA _ hx'))) (a1 _ (hin _ hx')) rfl (fun s hs' => a1 _ ((c2 x hi).1 s hs')) (c3 _ (hin _ hx')).2 (fun j h5 hj => a1 _ ((c2 x hi).2 h5 j hj))
      · have hd : ∀ y ∈ xkeys [] idU, y ∈ idU := fun y hy => hy
        exact xat_c (hP1.2 x hx) (a2 x hx) (hs x hx) (fun s hs' => a2 _ (hd _ ((d2 x hx).1 s hs'))) (d3 x hx).2 (fun j h5 hj => a2 _ (hd _ ((d2 x hx).2 h5 j hj)))
  · rw [xwoD_iff] at hD hD1 ⊢
    have e : (xkeys os (idR ++ idU)).map ad2 = (xkeys os idR).map ad ++ idU.map ad1 := by
      have e0 : xkeys os (idR ++ idU) = xkeys os idR ++ idU := by unfold xkeys; rw [List.append_assoc]
      rw [e0, List.map_append]
      rw [List.map_congr_left (fun x hx => a1 x (hin x hx)), List.map_congr_left a2]
    rw [e]
    refine ⟨?_, fun x hx => ?_⟩
    · rw [List.nodup_append]
      refine ⟨hnd.1, hD1.1, fun a ha b hb he => ?_⟩
      obtain ⟨x, hx, rfl⟩ := List.mem_map.mp ha
      obtain ⟨y, hy, rfl⟩ := List.mem_map.mp hb
      have := hD1.2 y hy
      rw [← he] at this
      exact hnA x hx this
    · rcases (hmm x).mp hx with h | h
      · rw [a1 x (hin x h)]
        exact hD.2 x (hin x h)
      · rw [a2 x h]
        exact hF _ (hD1.2 x h)
  · have ho' : o ∈ os ++ [(k, [])] := List.mem_append_left _ ho
    exact ⟨fun h9 s hs' h3 => hup _ ((c1 o ho').1 h9 s hs' h3), fun h9 j hj => hup _ ((c1 o ho').2 h9 j hj)⟩
  · rcases List.mem_append.mp hx with hx | hx
    · have hi : x ∈ idA ++ idR := List.mem_append_right _ hx
      exact ⟨fun s hs' => hup _ ((c2 x hi).1 s hs'), fun h5 j hj => hup _ ((c2 x hi).2 h5 j hj)⟩
    · exact ⟨fun s hs' => (hmm _).mpr (Or.inr ((d2 x hx).1 s hs')), fun h5 j hj => (hmm _).mpr (Or.inr ((d2 x hx).2 h5 j hj))⟩
  · rcases (hmm x).mp hx with h | h
    · exact c3 x (hin x h)
    · refine ⟨(d3 x h).1, fun s hs' => ?_⟩
      rw [hs x h]
      exact (d3 x h).2 s hs'
