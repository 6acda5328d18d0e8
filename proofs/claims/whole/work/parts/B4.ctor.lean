/-! the constructors that make no other objects -/
def yi0 : xa_H := fun K _ s => if K = 3 ∧ s = 8 then -1 else if K = 5 ∧ s = 1 then -6 else 0
theorem xfty_4 (K s : Nat) (h : xfty K s = 4) : K = 3 ∧ s = 8 := by
  by_cases hK : K < 10
  · have hs : s < 50 := by
      refine Classical.byContradiction (fun hs => ?_)
      have hl := (by decide +kernel : ∀ K, K < 10 → (xftl K).length ≤ 50) K hK
      unfold xfty at h
      rw [List.getD_eq_getElem?_getD, List.getElem?_eq_none (by omega)] at h
      exact absurd h (by decide)
    exact (by decide +kernel : ∀ K, K < 10 → ∀ s, s < 50 → xfty K s = 4 → K = 3 ∧ s = 8) K hK s hs h
  · have : xftl K = [] := by
      unfold xftl
      rw [List.getD_eq_getElem?_getD, List.getElem?_eq_none (by simp; omega)]
      rfl
    unfold xfty at h
    rw [this] at h
    exact absurd h (by simp)
theorem yi0_4 (K i s : Nat) (h : xfty K s = 4) : yi0 K i s < 0 := by
  obtain ⟨rfl, rfl⟩ := xfty_4 K s h
  unfold yi0
  rw [if_pos ⟨rfl, rfl⟩]
  decide
theorem yi0_0 {K i s : Nat} (h : ¬ K = 3 ∧ ¬ K = 5) : yi0 K i s = 0 := by
  unfold yi0
  rw [if_neg (by omega), if_neg (by omega)]
theorem yi0_r (K i s : Nat) : -6 ≤ yi0 K i s ∧ yi0 K i s ≤ 0 := by
  unfold yi0
  split
  · omega
  · split <;> omega
theorem yi0_hok (ids : List (Nat × Nat)) : xhok ids yi0 := by
  intro q _ s
  have := yi0_r q.1 q.2 s
  exact ⟨fun _ => ⟨fun _ => ⟨by omega, by omega⟩, fun h => Or.inl (yi0_4 _ _ _ h)⟩, fun _ => ⟨by omega, by omega⟩, fun _ => ⟨by omega, by omega⟩⟩
theorem xdf_tab : ∀ K, K < 10 → ∀ s, s < (xcl K).2.2 → xfty K s = 3 ∨ (xfty K s = 4 ∧ defaultValue (xuty ((xcl K).2.1 s).2.2.1) = .null) ∨ (¬ xfty K s = 4 ∧ defaultValue (xuty ((xcl K).2.1 s).2.2.1) = .int 0) := by decide +kernel
/-- an object is made -/
theorem xcw_closeO {D : va_G} {cA : Nat → ClassId} {A : Nat → Prop} {adS : Nat} {o1 o2 : List ((Nat × Nat) × List Nat)} {ids : List (Nat × Nat)} {ad : Nat × Nat → Nat} {σ : xa_H} {H : Heap} {K i : Nat} {dn : List Nat} (h : xcw D cA A adS (o1 ++ ((K, i), dn) :: o2) ids ad σ H) (hK : K < 10)
    (hb : ∀ s, s < (xcl K).2.2 → s ∉ dn → ¬ xfty K s = 3) (hσ : ∀ s, s < (xcl K).2.2 → s ∉ dn → (xfty K s = 4 → σ K i s < 0) ∧ (¬ xfty K s = 4 → σ K i s = 0)) : xcw D cA A adS (o1 ++ o2) (ids ++ [(K, i)]) ad σ H := by
  refine xcw_close h (fun _ => hK) (fun _ s hs hd => ⟨hb s hs hd, ?_⟩) (fun s h3 => ?_) (fun h9 => absurd (xaty_obj K hK) h9)
  · obtain ⟨e1, e2⟩ := hσ s hs hd
    unfold xfv xdf
    rw [if_neg (hb s hs hd)]
    rcases xdf_tab K hK s hs with h | ⟨h, h'⟩ | ⟨h, h'⟩
    · exact absurd h (hb s hs hd)
    · rw [if_pos h, if_pos (e1 h), h']
    · rw [if_neg h, e2 h, h']
      rfl
  · have h3 : xfty K s = 3 := h3
    refine Classical.byContradiction (fun hd => ?_)
    by_cases hs : s < (xcl K).2.2
    · exact hb s hs hd h3
    · rw [xnf_le K hK] at hs
      unfold xfty at h3
      rw [List.getD_eq_getElem?_getD, List.getElem?_eq_none (by omega)] at h3
      exact absurd h3 (by decide)
def idT (i : Nat) : List (Nat × Nat) := [(27, i), (28, i), (29, i), (30, i), (5, i)]
def idW (i : Nat) : List (Nat × Nat) := [(33, i), (34, i), (7, i)]
def idN : List (Nat × Nat) := [(31, 0), (32, 0), (6, 0)]
def idP : List (Nat × Nat) := [(17, 0), (2, 0)]
def idB : List (Nat × Nat) := [(12, 0), (0, 0)]
theorem idT_x : ∀ i, i < 13 → xidsb (idT i) = true := by decide +kernel
theorem idW_x : ∀ i, i < 3 → xidsb (idW i) = true := by decide +kernel
theorem k_Thing (l : Launch) (i : Nat) (hi : i < 13) (σT σF : xa_H) (hf : fm_Thing_init i yi0 = some σT) (hσ : ∀ q ∈ idT i, ∀ s, s < xsz q.1 → ¬ xfty q.1 s = 3 → σF q.1 q.2 s = σT q.1 q.2 s) : xkn l 54 5 i [] (idT i) (fun _ => []) 4 47 yi0 σF := by
  refine ct_met (by decide +kernel) (fun ad => Nat.le_of_ble_eq_true rfl) (fun D cA adS S0 ad p e R s m args below meth c ls C hR h0 hw hl => ?_)
  have hl0 : ls[0]? = some (.val (.ref (ad (5, i)))) := lv_at hl 0 rfl
  refine ct_start (ix := 3) C hl.1 hl0 (by decide +kernel) ?_
  refine ct_load C (by decide +kernel) hl0 ?_
  refine lv_bipush (n := -6) (v := Int32.ofInt (-6)) C.1.1 C.1.2.1 (by decide +kernel) (by decide) ?_
  refine ct_puti (o1 := []) (o2 := []) (y := 1) (ix := 9) C hw va_S.rf (by decide +kernel) (by decide +kernel) (by decide +kernel) (by decide +kernel) rfl (fun H1 locs1 h1 hS1 => ?_)
  refine ct_arrs (pcE := 40) [(2, 30, 15, 4, 0), (2, 10, 19, 5, 0), (1, 3, 22, 6, 0), (1, 4, 25, 7, 0)] 10 0 0 _ _ _ _ _ C (by decide +kernel) h1 hS1 hl0 (by decide +kernel) (by decide +kernel) (fun q hq r hr => ?_) (fun r hr j => ?_) ⟨by rw [hR.1]; decide, by rw [hR.2]; decide⟩ (fun ad2 H2 locs2 ha h2 hS2 => ?_)
  · have e : q = (5, i) := by simpa [xkeys] using hq
    subst e
    show (5 : Nat) ≠ (xsr 5 0 r.2.2.2.1).1
    revert r
    decide +kernel
  · refine yi0_0 ?_
    show ¬ (xsr 5 0 r.2.2.2.1).1 = 3 ∧ ¬ (xsr 5 0 r.2.2.2.1).1 = 5
    revert r
    decide +kernel
  · have h3 := xcw_closeO (o1 := []) (o2 := []) h2 (by decide) (by decide +kernel) (fun s hs hd => ⟨fun h => yi0_4 _ _ _ h, fun _ => ?_⟩)
    · have ha0 : ad2 (5, i) = ad (5, i) := ha _ (by simp [xkeys])
      exact ct_tail (idU := idT i) (mc := 4) (ms := 47) C h3 hS2 (fun q hq => by rw [show q = (5, i) by simpa using hq]; exact ha0) (xidsb_ok (idT_x i hi)) (yi0_hok _) (by simp [idT]) ⟨hl.1, hl.2.1, fun q hq => by rw [show q = (0, .ref (ad2 (5, i))) by simpa using hq, ha0]; exact hl0⟩ (by rw [← hf]; exact jm_Thing_init i yi0) hσ
        (fun q hq s' h4 => by
          obtain ⟨e, -⟩ := xfty_4 _ _ h4
          simp [idT] at hq
          rcases hq with rfl | rfl | rfl | rfl | rfl <;> exact absurd e (by simp)) ⟨by rw [hR.1]; exact Nat.le_refl _, by rw [hR.2]; exact Nat.le_refl _⟩
    · have : ¬ s = 1 := fun e => hd (by rw [e]; decide)
      unfold yi0
      rw [if_neg (by omega), if_neg (by omega)]
