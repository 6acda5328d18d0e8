/-! more constructors that make no other objects -/
theorem k_Way (l : Launch) (i : Nat) (hi : i < 3) (σT σF : xa_H) (hf : fm_Way_init i yi0 = some σT) (hσ : ∀ q ∈ (idW i), ∀ s, s < xsz q.1 → ¬ xfty q.1 s = 3 → σF q.1 q.2 s = σT q.1 q.2 s) : xkn l 69 7 i [] (idW i) (fun _ => []) 2 1008 yi0 σF := by
  refine ct_met (by decide +kernel) (fun ad => Nat.le_of_ble_eq_true rfl) (fun D cA adS S0 ad p e R s m args below meth c ls C hR h0 hw hl => ?_)
  have hl0 : ls[0]? = some (.val (.ref (ad (7, i)))) := lv_at hl 0 rfl
  refine ct_start (ix := 3) C hl.1 hl0 (by decide +kernel) ?_
  refine ct_arrs (o2 := []) (pcE := 22) [(3, 144, 9, 3, 0), (3, 864, 15, 4, 0)] 4 0 0 _ _ _ _ _ C (by decide +kernel) hw va_S.rf hl0 (by decide +kernel) (by decide +kernel) (fun q hq r hr => ?_) (fun r hr j => ?_) ⟨by rw [hR.1]; decide, by rw [hR.2]; decide⟩ (fun ad2 H2 locs2 ha h2 hS2 => ?_)
  · have e : q = (7, i) := by simpa [xkeys] using hq
    subst e
    show (7 : Nat) ≠ (xsr 7 0 r.2.2.2.1).1
    revert r
    decide +kernel
  · refine yi0_0 ?_
    show ¬ (xsr 7 0 r.2.2.2.1).1 = 3 ∧ ¬ (xsr 7 0 r.2.2.2.1).1 = 5
    revert r
    decide +kernel
  · have h3 := xcw_closeO (o1 := []) (o2 := []) h2 (by decide) (by decide +kernel) (fun s hs hd => ⟨fun h => yi0_4 _ _ _ h, fun _ => yi0_0 (by decide)⟩)
    have ha0 : ad2 (7, i) = ad (7, i) := ha _ (by simp [xkeys])
    have hae : ∀ q ∈ [(7, i)], ad2 q = ad q := fun q hq => by rw [show q = (7, i) by simpa using hq]; exact ha0
    exact ct_tail (idU := (idW i)) (mc := 2) (ms := 1008) C h3 hS2 hae (xidsb_ok (idW_x i hi)) (yi0_hok _) (by simp [idW]) ⟨hl.1, hl.2.1, fun q hq => by rw [show q = (0, .ref (ad2 (7, i))) by simpa using hq, ha0]; exact hl0⟩ (by rw [← hf]; exact jm_Way_init i yi0) hσ
      (fun q hq s' h4 => by
        obtain ⟨e, -⟩ := xfty_4 _ _ h4
        simp [idW] at hq
        rcases hq with rfl | rfl | rfl <;> exact absurd e (by simp)) ⟨by rw [hR.1]; exact Nat.le_refl _, by rw [hR.2]; exact Nat.le_refl _⟩
theorem idN_x : xidsb idN = true := by decide +kernel
theorem k_Turns (l : Launch) (σT σF : xa_H) (hf : fm_Turns_init yi0 = some σT) (hσ : ∀ q ∈ idN, ∀ s, s < xsz q.1 → ¬ xfty q.1 s = 3 → σF q.1 q.2 s = σT q.1 q.2 s) : xkn l 64 6 0 [] idN (fun _ => []) 2 216 yi0 σF := by
  refine ct_met (by decide +kernel) (fun ad => Nat.le_of_ble_eq_true rfl) (fun D cA adS S0 ad p e R s m args below meth c ls C hR h0 hw hl => ?_)
  have hl0 : ls[0]? = some (.val (.ref (ad (6, 0)))) := lv_at hl 0 rfl
  refine ct_start (ix := 3) C hl.1 hl0 (by decide +kernel) ?_
  refine ct_arrs (o2 := []) (pcE := 21) [(2, 72, 9, 0, 0), (3, 144, 15, 1, 0)] 4 0 0 _ _ _ _ _ C (by decide +kernel) hw va_S.rf hl0 (by decide +kernel) (by decide +kernel) (fun q hq r hr => ?_) (fun r hr j => ?_) ⟨by rw [hR.1]; decide, by rw [hR.2]; decide⟩ (fun ad2 H2 locs2 ha h2 hS2 => ?_)
  · have e : q = (6, 0) := by simpa [xkeys] using hq
    subst e
    show (6 : Nat) ≠ (xsr 6 0 r.2.2.2.1).1
    revert r
    decide +kernel
  · refine yi0_0 ?_
    show ¬ (xsr 6 0 r.2.2.2.1).1 = 3 ∧ ¬ (xsr 6 0 r.2.2.2.1).1 = 5
    revert r
    decide +kernel
  · have h3 := xcw_closeO (o1 := []) (o2 := []) h2 (by decide) (by decide +kernel) (fun s hs hd => ⟨fun h => yi0_4 _ _ _ h, fun _ => yi0_0 (by decide)⟩)
    have ha0 : ad2 (6, 0) = ad (6, 0) := ha _ (by simp [xkeys])
    have hae : ∀ q ∈ [(6, 0)], ad2 q = ad q := fun q hq => by rw [show q = (6, 0) by simpa using hq]; exact ha0
    exact ct_tail (idU := idN) (mc := 2) (ms := 216) C h3 hS2 hae (xidsb_ok idN_x) (yi0_hok _) (by simp [idN]) ⟨hl.1, hl.2.1, fun q hq => by rw [show q = (0, .ref (ad2 (6, 0))) by simpa using hq, ha0]; exact hl0⟩ (by rw [← hf]; exact jm_Turns_init yi0) hσ
      (fun q hq s' h4 => by
        obtain ⟨e, -⟩ := xfty_4 _ _ h4
        simp [idN] at hq
        rcases hq with rfl | rfl | rfl <;> exact absurd e (by simp)) ⟨by rw [hR.1]; exact Nat.le_refl _, by rw [hR.2]; exact Nat.le_refl _⟩
theorem k_Pad (l : Launch) (σF : xa_H) (hσ : ∀ q ∈ idP, σF q.1 q.2 = yi0 q.1 q.2) : xkn l 21 2 0 [] idP (fun _ => []) 1 60 yi0 σF := by
  refine ct_met (by decide +kernel) (fun ad => Nat.le_of_ble_eq_true rfl) (fun D cA adS S0 ad p e R s m args below meth c ls C hR h0 hw hl => ?_)
  have hl0 : ls[0]? = some (.val (.ref (ad (2, 0)))) := lv_at hl 0 rfl
  refine ct_start (ix := 3) C hl.1 hl0 (by decide +kernel) ?_
  refine ct_arrs (o2 := []) (pcE := 12) [(2, 60, 9, 0, 0)] 4 0 0 _ _ _ _ _ C (by decide +kernel) hw va_S.rf hl0 (by decide +kernel) (by decide +kernel) (fun q hq r hr => ?_) (fun r hr j => ?_) ⟨by rw [hR.1]; decide, by rw [hR.2]; decide⟩ (fun ad2 H2 locs2 ha h2 hS2 => ?_)
  · have e : q = (2, 0) := by simpa [xkeys] using hq
    subst e
    show (2 : Nat) ≠ (xsr 2 0 r.2.2.2.1).1
    revert r
    decide +kernel
  · refine yi0_0 ?_
    show ¬ (xsr 2 0 r.2.2.2.1).1 = 3 ∧ ¬ (xsr 2 0 r.2.2.2.1).1 = 5
    revert r
    decide +kernel
  · have h3 := xcw_closeO (o1 := []) (o2 := []) h2 (by decide) (by decide +kernel) (fun s hs hd => ⟨fun h => yi0_4 _ _ _ h, fun _ => yi0_0 (by decide)⟩)
    have ha0 : ad2 (2, 0) = ad (2, 0) := ha _ (by simp [xkeys])
    have hae : ∀ q ∈ [(2, 0)], ad2 q = ad q := fun q hq => by rw [show q = (2, 0) by simpa using hq]; exact ha0
    exact ct_end (idU := idP) (mc := 1) (ms := 60) C (by decide +kernel) h3 hS2 hae hσ (by decide +kernel)
theorem k_Answer (l : Launch) (σF : xa_H) (hσ : ∀ q ∈ idB, σF q.1 q.2 = yi0 q.1 q.2) : xkn l 4 0 0 [] idB (fun _ => []) 1 3456 yi0 σF := by
  refine ct_met (by decide +kernel) (fun ad => Nat.le_of_ble_eq_true rfl) (fun D cA adS S0 ad p e R s m args below meth c ls C hR h0 hw hl => ?_)
  have hl0 : ls[0]? = some (.val (.ref (ad (0, 0)))) := lv_at hl 0 rfl
  refine ct_start (ix := 3) C hl.1 hl0 (by decide +kernel) ?_
  refine ct_arrs (o2 := []) (pcE := 13) [(3, 3456, 9, 0, 0)] 4 0 0 _ _ _ _ _ C (by decide +kernel) hw va_S.rf hl0 (by decide +kernel) (by decide +kernel) (fun q hq r hr => ?_) (fun r hr j => ?_) ⟨by rw [hR.1]; decide, by rw [hR.2]; decide⟩ (fun ad2 H2 locs2 ha h2 hS2 => ?_)
  · have e : q = (0, 0) := by simpa [xkeys] using hq
    subst e
    show (0 : Nat) ≠ (xsr 0 0 r.2.2.2.1).1
    revert r
    decide +kernel
  · refine yi0_0 ?_
    show ¬ (xsr 0 0 r.2.2.2.1).1 = 3 ∧ ¬ (xsr 0 0 r.2.2.2.1).1 = 5
    revert r
    decide +kernel
  · have h3 := xcw_closeO (o1 := []) (o2 := []) h2 (by decide) (by decide +kernel) (fun s hs hd => ⟨fun h => yi0_4 _ _ _ h, fun _ => yi0_0 (by decide)⟩)
    have ha0 : ad2 (0, 0) = ad (0, 0) := ha _ (by simp [xkeys])
    have hae : ∀ q ∈ [(0, 0)], ad2 q = ad q := fun q hq => by rw [show q = (0, 0) by simpa using hq]; exact ha0
    exact ct_end (idU := idB) (mc := 1) (ms := 3456) C (by decide +kernel) h3 hS2 hae hσ (by decide +kernel)
def idM : List (Nat × Nat) := [(50, 0), (51, 0), (52, 0), (53, 0), (54, 0), (55, 0), (56, 0), (57, 0), (58, 0), (59, 0), (60, 0), (61, 0), (62, 0), (63, 0), (64, 0), (65, 0), (66, 0), (67, 0), (68, 0), (69, 0), (70, 0), (71, 0), (72, 0), (73, 0), (74, 0), (75, 0), (76, 0), (9, 0)]
theorem idM_x : xidsb idM = true := by decide +kernel
theorem k_Model (l : Launch) (σT σF : xa_H) (hf : fm_M_init yi0 = some σT) (hσ : ∀ q ∈ idM, ∀ s, s < xsz q.1 → ¬ xfty q.1 s = 3 → σF q.1 q.2 s = σT q.1 q.2 s) : xkn l 200 9 0 [] idM (fun _ => []) 27 15661 yi0 σF := by
  refine ct_met (by decide +kernel) (fun ad => Nat.le_of_ble_eq_true rfl) (fun D cA adS S0 ad p e R s m args below meth c ls C hR h0 hw hl => ?_)
  have hl0 : ls[0]? = some (.val (.ref (ad (9, 0)))) := lv_at hl 0 rfl
  refine ct_start (ix := 1) C hl.1 hl0 (by decide +kernel) ?_
  refine ct_arrs (o2 := []) (pcE := 221) [(3, 216, 7, 0, 0), (3, 144, 13, 1, 0), (2, 9, 16, 2, 0), (3, 144, 19, 6, 0), (1, 5, 22, 7, 0), (2, 50, 25, 8, 0), (2, 50, 28, 9, 0), (2, 50, 31, 10, 0), (2, 50, 34, 11, 0), (2, 16, 37, 12, 0), (1, 4, 40, 13, 0), (1, 4, 43, 14, 0), (1, 5, 46, 15, 0), (1, 5, 49, 16, 0), (1, 5, 52, 17, 0), (2, 60, 55, 18, 0), (2, 10, 58, 20, 0), (2, 10, 61, 21, 0), (2, 10, 64, 22, 0), (3, 144, 67, 25, 1), (3, 3456, 71, 32, 1), (3, 3456, 74, 33, 2), (3, 3456, 78, 34, 0), (3, 3456, 81, 35, 1), (1, 4, 84, 38, 0), (3, 840, 87, 39, 0), (1, 2, 90, 40, 1)] 4 0 0 _ _ _ _ _ C (by decide +kernel) hw va_S.rf hl0 (by decide +kernel) (by decide +kernel) (fun q hq r hr => ?_) (fun r hr j => ?_) ⟨by rw [hR.1]; decide, by rw [hR.2]; decide⟩ (fun ad2 H2 locs2 ha h2 hS2 => ?_)
  · have e : q = (9, 0) := by simpa [xkeys] using hq
    subst e
    show (9 : Nat) ≠ (xsr 9 0 r.2.2.2.1).1
    revert r
    decide +kernel
  · refine yi0_0 ?_
    show ¬ (xsr 9 0 r.2.2.2.1).1 = 3 ∧ ¬ (xsr 9 0 r.2.2.2.1).1 = 5
    revert r
    decide +kernel
  · have h3 := xcw_closeO (o1 := []) (o2 := []) h2 (by decide) (by decide +kernel) (fun s hs hd => ⟨fun h => yi0_4 _ _ _ h, fun _ => yi0_0 (by decide)⟩)
    have ha0 : ad2 (9, 0) = ad (9, 0) := ha _ (by simp [xkeys])
    have hae : ∀ q ∈ [(9, 0)], ad2 q = ad q := fun q hq => by rw [show q = (9, 0) by simpa using hq]; exact ha0
    exact ct_tail (idU := idM) (mc := 27) (ms := 15661) C h3 hS2 hae (xidsb_ok idM_x) (yi0_hok _) (by simp [idM]) ⟨hl.1, hl.2.1, fun q hq => by rw [show q = (0, .ref (ad2 (9, 0))) by simpa using hq, ha0]; exact hl0⟩ (by rw [← hf]; exact jm_M_init yi0) hσ
      (fun q hq s' h4 => by
        obtain ⟨e, -⟩ := xfty_4 _ _ h4
        simp [idM] at hq
        rcases hq with rfl | rfl | rfl | rfl | rfl | rfl | rfl | rfl | rfl | rfl | rfl | rfl | rfl | rfl | rfl | rfl | rfl | rfl | rfl | rfl | rfl | rfl | rfl | rfl | rfl | rfl | rfl | rfl <;> exact absurd e (by simp)) ⟨by rw [hR.1]; exact Nat.le_refl _, by rw [hR.2]; exact Nat.le_refl _⟩
