/-! the cells of the abstract machine on the heap -/
def xcv (ad : Nat × Nat → Nat) : xa_V → Value
  | .inl a => .int (Int32.ofInt a)
  | .inr (.inl a) => .long (Int64.ofInt a)
  | .inr (.inr none) => .null
  | .inr (.inr (some q)) => .ref (ad q)
noncomputable def xfv (ad : Nat × Nat → Nat) (q : Nat × Nat) (f : Nat → Int) (s : Nat) : Value :=
  if xfty q.1 s = 3 then .ref (ad (xsr q.1 q.2 s)) else if xfty q.1 s = 4 then (if f s < 0 then .null else .ref (ad (5, (f s).toNat))) else .int (Int32.ofInt (f s))
noncomputable def xent (cA : Nat → ClassId) (ad : Nat × Nat → Nat) (q : Nat × Nat) (f : Nat → Int) : va_E :=
  if xaty q.1 = 9 then .inr (q.1, (List.range (xcl q.1).2.2).map (xfv ad q f))
  else .inl (cA (xaty q.1), xalen q.1, if xaty q.1 = 2 then .inr (.inl (fun j => Int64.ofInt (f j))) else if xaty q.1 = 5 ∨ xaty q.1 = 6 then .inr (.inr (.inr (.inr (fun j => some (ad (xar q.1 q.2 j)))))) else .inl (fun j => Int32.ofInt (f j)))
noncomputable def xwl (cA : Nat → ClassId) (ids : List (Nat × Nat)) (ad : Nat × Nat → Nat) (σ : xa_H) : va_W := ids.map fun q => (ad q, xent cA ad q (σ q.1 q.2))
def xtyp (t : Nat) : FieldType := if t = 0 then .int else if t = 1 then .boolean else if t = 2 then .long else if t = 5 then .object "SofaStair$Thing" else .object "SofaStair$Stair"
def xtys (cA : Nat → ClassId) (tyl : List Nat) : List (ClassId × FieldType) := tyl.map fun t => (cA t, xtyp t)
theorem xtys_get {cA : Nat → ClassId} {tyl : List Nat} {t : Nat} (h : t ∈ tyl) : ∃ n : Nat, (xtys cA tyl)[n]? = some (cA t, xtyp t) := by
  obtain ⟨n, hn⟩ := List.getElem?_of_mem h
  exact ⟨n, by unfold xtys; rw [List.getElem?_map, hn]; rfl⟩
theorem xwl_get {cA : Nat → ClassId} {ids : List (Nat × Nat)} {ad : Nat × Nat → Nat} {σ : xa_H} {q : Nat × Nat} (h : q ∈ ids) : ∃ n : Nat, ids[n]? = some q ∧ (xwl cA ids ad σ)[n]? = some (ad q, xent cA ad q (σ q.1 q.2)) := by
  obtain ⟨n, hn⟩ := List.getElem?_of_mem h
  exact ⟨n, hn, by unfold xwl; rw [List.getElem?_map, hn]; rfl⟩
theorem xup_ne {σ : xa_H} {K i s : Nat} {v : Int} {q : Nat × Nat} (h : ¬ q = (K, i)) : xup σ K i s v q.1 q.2 = σ q.1 q.2 := by
  funext s'
  unfold xup
  rw [if_neg]
  rintro ⟨h1, h2, -⟩
  exact h (Prod.ext h1 h2)
theorem xup_eq {σ : xa_H} {K i s : Nat} {v : Int} : xup σ K i s v K i = fun j => if j = s then v else σ K i j := by
  funext s'
  unfold xup
  simp
theorem xwl_set {cA : Nat → ClassId} {ids : List (Nat × Nat)} {ad : Nat × Nat → Nat} {σ : xa_H} {K i s n : Nat} {v : Int} (hn : ids.Nodup) (h : ids[n]? = some (K, i)) :
    (xwl cA ids ad σ).set n (ad (K, i), xent cA ad (K, i) (xup σ K i s v K i)) = xwl cA ids ad (xup σ K i s v) := by
  apply List.ext_getElem?
  intro k
  unfold xwl
  rw [List.getElem?_set, List.getElem?_map]
  by_cases hk : n = k
  · subst hk
    have hl : n < ids.length := (List.getElem?_eq_some_iff.mp h).1
    rw [if_pos rfl, if_pos (by simpa using hl), List.getElem?_map, h]
    rfl
  · rw [if_neg hk, List.getElem?_map]
    cases hq : ids[k]? with
    | none => rfl
    | some q =>
      have hne : ¬ q = (K, i) := by
        intro e
        subst e
        have hl : k < ids.length := (List.getElem?_eq_some_iff.mp hq).1
        exact hk ((List.getElem?_inj hl hn).mp (hq.trans h.symm)).symm
      show some (ad q, xent cA ad q (σ q.1 q.2)) = some (ad q, xent cA ad q (xup σ K i s v q.1 q.2))
      rw [xup_ne hne]
/-- which cells there are: apart, of a known kind, with what they point to -/
def xids (ids : List (Nat × Nat)) (tyl : List Nat) : Prop := ids.Nodup ∧ (∀ q ∈ ids, q.1 < 99 ∧ (xaty q.1 = 9 → q.1 < 10) ∧ (¬ xaty q.1 = 9 → xaty q.1 ∈ tyl)) ∧
  (∀ q ∈ ids, ∀ s, xfty q.1 s = 3 → xsr q.1 q.2 s ∈ ids) ∧ (∀ q ∈ ids, ∀ j, xaty q.1 = 5 ∨ xaty q.1 = 6 → j < xalen q.1 → xar q.1 q.2 j ∈ ids)
def xok (ids : List (Nat × Nat)) : xa_V → Prop
  | .inl a => xr32 a
  | .inr (.inl a) => xr64 a
  | .inr (.inr none) => True
  | .inr (.inr (some q)) => q ∈ ids ∨ q.1 = 99
/-- what the cells hold is in range -/
def xhok (ids : List (Nat × Nat)) (σ : xa_H) : Prop := ∀ q ∈ ids, ∀ s, (xaty q.1 = 9 → (xfty q.1 s = 0 ∨ xfty q.1 s = 1 → xr32 (σ q.1 q.2 s)) ∧ (xfty q.1 s = 4 → σ q.1 q.2 s < 0 ∨ (5, (σ q.1 q.2 s).toNat) ∈ ids)) ∧
  (xaty q.1 = 0 ∨ xaty q.1 = 1 → xr32 (σ q.1 q.2 s)) ∧ (xaty q.1 = 2 → xr64 (σ q.1 q.2 s))
theorem xalen_lt (K : Nat) : xalen K < 10000 := by
  by_cases h : K < 77
  · exact (by decide +kernel : ∀ K, K < 77 → xalen K < 10000) K h
  · unfold xalen
    rw [List.getD_eq_getElem?_getD, List.getElem?_eq_none (by simp; omega)]
    decide
theorem xnf_le (K : Nat) (h : K < 10) : (xcl K).2.2 = (xftl K).length := (by decide +kernel : ∀ K, K < 10 → (xcl K).2.2 = (xftl K).length) K h
theorem xcl_at (K : Nat) (h : K < 10) : vwCl[K]? = some (xcl K) := by
  unfold xcl
  have hl : K < vwCl.length := h
  rw [List.getD_eq_getElem?_getD, List.getElem?_eq_getElem hl]
  rfl
theorem xhok_int {ids : List (Nat × Nat)} {σ : xa_H} {K i y : Nat} {a : Int} (h : xhok ids σ) (hf : ¬ xaty K = 2) (hf4 : ¬ (xaty K = 9 ∧ xfty K y = 4)) (ha : xr32 a) : xhok ids (xup σ K i y a) := by
  intro q hq s
  by_cases e : q = (K, i)
  · subst e
    show _ ∧ _ ∧ _
    rw [xup_eq]
    by_cases hs : s = y
    · subst hs
      simp only [if_true]
      exact ⟨fun h9 => ⟨fun _ => ha, fun h4 => absurd ⟨h9, h4⟩ hf4⟩, fun _ => ha, fun h2 => absurd h2 hf⟩
    · simp only [if_neg hs]
      exact h _ hq s
  · rw [xup_ne e]
    exact h q hq s
theorem xhok_long {ids : List (Nat × Nat)} {σ : xa_H} {K i y : Nat} {a : Int} (h : xhok ids σ) (hf : xaty K = 2) (ha : xr64 a) : xhok ids (xup σ K i y a) := by
  intro q hq s
  by_cases e : q = (K, i)
  · subst e
    show _ ∧ _ ∧ _
    rw [xup_eq]
    by_cases hs : s = y
    · subst hs
      simp only [if_true]
      refine ⟨fun h9 => ?_, fun h9 => ?_, fun _ => ha⟩
      · exact absurd (show xaty K = 9 from h9) (by omega)
      · exact absurd (show xaty K = 0 ∨ xaty K = 1 from h9) (by omega)
    · simp only [if_neg hs]
      exact h _ hq s
  · rw [xup_ne e]
    exact h q hq s
theorem xhok_dyn {ids : List (Nat × Nat)} {σ : xa_H} {K i y : Nat} {a : Int} (h : xhok ids σ) (hf : xaty K = 9) (hf4 : xfty K y = 4) (ha : a < 0 ∨ (5, a.toNat) ∈ ids) : xhok ids (xup σ K i y a) := by
  intro q hq s
  by_cases e : q = (K, i)
  · subst e
    show _ ∧ _ ∧ _
    rw [xup_eq]
    by_cases hs : s = y
    · subst hs
      simp only [if_true]
      refine ⟨fun h9 => ⟨fun h0 => ?_, fun h4 => ha⟩, fun h9 => ?_, fun h9 => ?_⟩
      · exact absurd (show xfty K s = 0 ∨ xfty K s = 1 from h0) (by omega)
      · exact absurd (show xaty K = 0 ∨ xaty K = 1 from h9) (by omega)
      · exact absurd (show xaty K = 2 from h9) (by omega)
    · simp only [if_neg hs]
      exact h _ hq s
  · rw [xup_ne e]
    exact h q hq s
theorem xent_arr {cA : Nat → ClassId} {ad : Nat × Nat → Nat} {q : Nat × Nat} {f : Nat → Int} (h : xaty q.1 = 0 ∨ xaty q.1 = 1) : xent cA ad q f = .inl (cA (xaty q.1), xalen q.1, .inl (fun j => Int32.ofInt (f j))) := by
  unfold xent
  rw [if_neg (by omega), if_neg (by omega), if_neg (by omega)]
theorem xent_long {cA : Nat → ClassId} {ad : Nat × Nat → Nat} {q : Nat × Nat} {f : Nat → Int} (h : xaty q.1 = 2) : xent cA ad q f = .inl (cA (xaty q.1), xalen q.1, .inr (.inl (fun j => Int64.ofInt (f j)))) := by
  unfold xent
  rw [if_neg (by omega), if_pos h]
theorem xent_ref {cA : Nat → ClassId} {ad : Nat × Nat → Nat} {q : Nat × Nat} {f : Nat → Int} (h : xaty q.1 = 5 ∨ xaty q.1 = 6) : xent cA ad q f = .inl (cA (xaty q.1), xalen q.1, .inr (.inr (.inr (.inr (fun j => some (ad (xar q.1 q.2 j))))))) := by
  unfold xent
  rw [if_neg (by omega), if_neg (by omega), if_pos h]
theorem xent_any {cA : Nat → ClassId} {ad : Nat × Nat → Nat} {q : Nat × Nat} {f : Nat → Int} (h : ¬ xaty q.1 = 9) : ∃ x : vp_A, x.1 = xalen q.1 ∧ xent cA ad q f = .inl (cA (xaty q.1), x) := by
  unfold xent
  rw [if_neg h]
  exact ⟨_, rfl, rfl⟩
theorem xent_obj {cA : Nat → ClassId} {ad : Nat × Nat → Nat} {q : Nat × Nat} {f : Nat → Int} (h : xaty q.1 = 9) : xent cA ad q f = .inr (q.1, (List.range (xcl q.1).2.2).map (xfv ad q f)) := by
  unfold xent
  rw [if_pos h]
theorem xfv_set {ad : Nat × Nat → Nat} {q : Nat × Nat} {f : Nat → Int} {n y : Nat} {a : Int} (hy : y < n) : ((List.range n).map (xfv ad q f)).set y (xfv ad q (fun j => if j = y then a else f j) y) = (List.range n).map (xfv ad q (fun j => if j = y then a else f j)) := by
  apply List.ext_getElem?
  intro k
  rw [List.getElem?_set]
  by_cases hk : y = k
  · subst hk
    rw [if_pos rfl, if_pos (by simpa using hy), List.getElem?_map, List.getElem?_range hy]
    rfl
  · rw [if_neg hk, List.getElem?_map, List.getElem?_map]
    cases hr : (List.range n)[k]? with
    | none => rfl
    | some x =>
      have hx : x = k := by
        have hl : k < (List.range n).length := (List.getElem?_eq_some_iff.mp hr).1
        rw [List.getElem?_range (by simpa using hl)] at hr
        exact (Option.some.inj hr).symm
      subst hx
      show some _ = some _
      unfold xfv
      dsimp only
      have e0 : (if x = y then a else f x) = f x := if_neg (fun z => hk z.symm)
      simp only [e0]
theorem xfv_get {ad : Nat × Nat → Nat} {q : Nat × Nat} {f : Nat → Int} {n y : Nat} (hy : y < n) : ((List.range n).map (xfv ad q f))[y]? = some (xfv ad q f y) := by
  rw [List.getElem?_map, List.getElem?_range hy]
  rfl
