/-! the class's own constructor -/
def idR0 : List (Nat × Nat) := idP ++ ([(25, 0), (26, 0)] ++ idT 0 ++ idT 1 ++ idT 2 ++ idT 3 ++ [(4, 0)] ++ [(24, 0)])
def idX : List (Nat × Nat) := idR0 ++ idC ++ idB ++ idT 12 ++ [(11, 0)] ++ idS 1 ++ idS 2 ++ [(8, 0)] ++ [(10, 0)]
theorem idX_x : xidsb idX = true := by decide +kernel
theorem xlp_81 : xlp 81 115 2 23 50 4 16 18 :=
  ⟨by decide +kernel, by decide +kernel, by decide +kernel, by decide +kernel, by decide +kernel, by decide +kernel, by unfold xmk xcn; decide +kernel, by decide +kernel, by decide +kernel, by decide +kernel⟩
theorem k_SofaStair (l : Launch) (σ1 σ : xa_H) (hX : ∀ K i s, (K = 8 ∨ K = 10 ∨ K = 11) → σ K i s = 0) (h4 : ∀ K i s, xfty K s = 4 → σ K i s < 0 ∧ σ1 K i s < 0) (hσA : ∀ q ∈ idSk, σ1 q.1 q.2 = σ q.1 q.2 ∨ q.1 = 3 ∨ (18 ≤ q.1 ∧ q.1 ≤ 23))
    (hP : xkn l 21 2 0 [] idP (fun _ => []) 1 60 yi0 σ) (hSt : ∀ s, s < 3 → xkn l 50 4 s [] (idS s) (fun _ => []) 26 1245 σ1 σ) (hN : xkn l 64 6 0 [] idN (fun _ => []) 2 216 yi0 σ) (hSe : xkn l 33 3 0 idSA idSk (fun ad => [.ref (ad (6, 0)), .ref (ad (7, 0))]) 6 11841 σ1 σ)
    (hCh : xkn l 10 1 0 idSk idC (fun ad => [.ref (ad (3, 0))]) 4 10380 σ σ) (hA : xkn l 4 0 0 [] idB (fun _ => []) 1 3456 yi0 σ) (hT : xkn l 54 5 12 [] (idT 12) (fun _ => []) 4 47 yi0 σ) : xkn l 81 8 0 [] idX (fun _ => []) 107 30041 σ σ := by
  refine ct_met (by decide +kernel) (fun ad => Nat.le_of_ble_eq_true rfl) (fun D cA adS S0 ad p e R s m args below meth c ls C hR h0 hw hl => ?_)
  have hl0 : ls[0]? = some (.val (.ref (ad (8, 0)))) := lv_at hl 0 rfl
  have n4 : ∀ X i' s', xfty X s' = 4 → σ X i' s' < 0 ∧ yi0 X i' s' < 0 := fun X i' s' h => ⟨(h4 X i' s' h).1, yi0_4 X i' s' h⟩
  refine ct_start (ix := 3) C hl.1 hl0 (by decide +kernel) ?_
  refine ct_mkf (y := 0) (ix := 12) (ixn := 9) (ixc := 11) C hP hw va_S.rf (by decide +kernel) (by unfold xmk xcn; decide +kernel) h0 hl.1 hl0 ⟨by rw [hR.1]; decide, by rw [hR.2]; decide +kernel⟩ (fun s' h => n4 _ _ _ h) (fun _ _ => rfl) (by decide) (by decide +kernel) (by decide +kernel) (by decide +kernel) rfl (fun ad1 H1 locs1 ha1 h1 hS1 => ?_)
  have e1 : ad1 (8, 0) = ad (8, 0) := ha1 _ (by decide)
  rw [← e1] at hl0
  refine ct_mkf (y := 1) (ix := 19) (ixn := 16) (ixc := 18) C (hSt 0 (by decide)) h1 hS1 (by decide +kernel) (by unfold xmk xcn; decide +kernel) h0 hl.1 hl0 ⟨by rw [hR.1]; decide, by rw [hR.2]; decide +kernel⟩ (fun s' h => h4 _ _ _ h) (fun _ _ => rfl) (by decide) (by decide +kernel) (by decide +kernel) (by decide +kernel) rfl (fun ad2 H2 locs2 ha2 h2 hS2 => ?_)
  have e2 : ad2 (8, 0) = ad1 (8, 0) := ha2 _ (by decide)
  rw [← e2] at hl0
  refine ct_load C (by decide +kernel) hl0 ?_
  refine ct_push (L := 1) (N := 2) C (by decide +kernel) ?_
  refine ct_newq (key := (10, 0)) (N := 2) (ix := 16) C h2 hS2 (Or.inr ⟨rfl, rfl⟩) (by decide +kernel) (by decide +kernel) (by decide +kernel) (by decide +kernel) (by decide +kernel) ⟨by rw [hR.1]; decide, by rw [hR.2]; decide +kernel⟩ (fun ad3 H3 ha3 h3 hS3 => ?_)
  have e3 : ad3 (8, 0) = ad2 (8, 0) := ha3 _ (by decide)
  rw [← e3] at hl0 ⊢
  refine ct_putr (o1 := []) (y := 2) (ix := 23) C h3 hS3 (by decide +kernel) (by decide +kernel) (by decide +kernel) (by decide +kernel) rfl (by decide +kernel) (fun H4 locs4 h4' hS4 => ?_)
  refine ct_mkf (y := 3) (ix := 30) (ixn := 27) (ixc := 29) C hN h4' hS4 (by decide +kernel) (by unfold xmk xcn; decide +kernel) h0 hl.1 hl0 ⟨by rw [hR.1]; decide, by rw [hR.2]; decide +kernel⟩ (fun s' h => n4 _ _ _ h) (fun _ _ => rfl) (by decide) (by decide +kernel) (by decide +kernel) (by decide +kernel) rfl (fun ad5 H5 locs5 ha5 h5 hS5 => ?_)
  have e5 : ad5 (8, 0) = ad3 (8, 0) := ha5 _ (by decide)
  rw [← e5] at hl0
  have h5 : xcw D cA (xkA cA 8 0 [] ad σ (Array.size s.heap)) adS [((8, 0), [3, 2, 1, 0]), ((10, 0), [])] (idSA ++ idR0) ad5 σ H5 := xcw_perm h5 (List.Perm.refl _) (List.isPerm_iff.mp (by decide +kernel))
  refine ct_load C (by decide +kernel) hl0 ?_
  refine ct_new (X := 3) (i := 0) (ix := 34) C h5 hS5 (by decide) (by decide +kernel) (by decide +kernel) (by decide +kernel) (fun s' h => (h4 _ _ _ h).1) (by decide +kernel) ⟨by rw [hR.1]; decide, by rw [hR.2]; decide +kernel⟩ (fun ad6 H6 ha6 h6 hS6 => ?_)
  have e6 : ad6 (8, 0) = ad5 (8, 0) := ha6 _ (by decide)
  rw [← e6] at hl0 ⊢
  refine lv_dup C.1.1 C.1.2.1 (by decide +kernel) rfl ?_
  refine ct_load C (by decide +kernel) hl0 ?_
  refine ct_get (o1 := []) (y := 3) (ix := 30) C h6 (by decide +kernel) (by decide +kernel) (by decide +kernel) (by decide +kernel) (by decide) rfl ?_
  refine ct_load C (by decide +kernel) hl0 ?_
  refine ct_get (o1 := []) (y := 1) (ix := 19) C h6 (by decide +kernel) (by decide +kernel) (by decide +kernel) (by decide +kernel) (by decide) rfl ?_
  refine ct_getc (K := 4) (i := 0) (y := 0) (ix := 36) C h6 (by decide +kernel) (by decide +kernel) (by decide +kernel) (by decide +kernel) (by decide +kernel) rfl ?_
  refine ct_call (X := 3) (i := 0) (ix := 40) (av := fun ad => [.ref (ad (6, 0)), .ref (ad (7, 0))]) (os := [((8, 0), [3, 2, 1, 0]), ((10, 0), [])]) (rest := [.ref (ad6 (3, 0)), .ref (ad6 (8, 0))]) C hSe h6 hS6 (show xcn 81 33 40 2 by unfold xcn; decide +kernel) h0 hl.1 (show 1 + (1 + 0) ≤ 8 by decide) (by decide +kernel) ⟨by rw [hR.1]; decide, by rw [hR.2]; decide +kernel⟩ (xidsb_ok idSA_x) (fun q hq => ?_) (fun s' h => (h4 _ _ _ h).2) (fun _ _ => rfl) (by decide +kernel) (by decide +kernel) (fun ad7 H7 locs7 ha7 h7 hS7 => ?_)
  · rcases hσA q (by revert q; decide +kernel) with h | h
    · exact h
    · exact absurd h (by revert q; decide +kernel)
  have e7 : ad7 (8, 0) = ad6 (8, 0) := ha7 _ (by decide +kernel)
  have e7s : ad7 (3, 0) = ad6 (3, 0) := ha7 _ (by decide +kernel)
  rw [← e7] at hl0 ⊢
  rw [← e7s]
  refine ct_putr (o1 := []) (y := 4) (ix := 43) C h7 hS7 (by decide +kernel) (by decide +kernel) (by decide +kernel) (by decide +kernel) rfl (by decide +kernel) (fun H8 locs8 h8 hS8 => ?_)
  have h8 : xcw D cA (xkA cA 8 0 [] ad σ (Array.size s.heap)) adS [((8, 0), [4, 3, 2, 1, 0]), ((10, 0), [])] (idSk ++ idR0) ad7 σ H8 := xcw_perm h8 (List.Perm.refl _) List.perm_append_comm
  refine ct_load C (by decide +kernel) hl0 ?_
  refine ct_new (X := 1) (i := 0) (ix := 47) C h8 hS8 (by decide) (by decide +kernel) (by decide +kernel) (by decide +kernel) (fun s' h => (h4 _ _ _ h).1) (by decide +kernel) ⟨by rw [hR.1]; decide, by rw [hR.2]; decide +kernel⟩ (fun ad9 H9 ha9 h9 hS9 => ?_)
  have e9 : ad9 (8, 0) = ad7 (8, 0) := ha9 _ (by decide)
  rw [← e9] at hl0 ⊢
  refine lv_dup C.1.1 C.1.2.1 (by decide +kernel) rfl ?_
  refine ct_load C (by decide +kernel) hl0 ?_
  refine ct_get (o1 := []) (y := 4) (ix := 43) C h9 (by decide +kernel) (by decide +kernel) (by decide +kernel) (by decide +kernel) (by decide) rfl ?_
  refine ct_call (X := 1) (i := 0) (ix := 49) (av := fun ad => [.ref (ad (3, 0))]) (os := [((8, 0), [4, 3, 2, 1, 0]), ((10, 0), [])]) (rest := [.ref (ad9 (1, 0)), .ref (ad9 (8, 0))]) C hCh h9 hS9 (show xcn 81 10 49 1 by unfold xcn; decide +kernel) h0 hl.1 (show 1 + (1 + 0) ≤ 8 by decide) (by decide +kernel) ⟨by rw [hR.1]; decide, by rw [hR.2]; decide +kernel⟩ (xidsb_ok idSk_x) (fun _ _ => rfl) (fun s' h => (h4 _ _ _ h).1) (fun _ _ => rfl) (by decide +kernel) (by decide +kernel) (fun ad10 H10 locs10 ha10 h10 hS10 => ?_)
  have e10 : ad10 (8, 0) = ad9 (8, 0) := ha10 _ (by decide +kernel)
  have e10s : ad10 (1, 0) = ad9 (1, 0) := ha10 _ (by decide +kernel)
  rw [← e10] at hl0 ⊢
  rw [← e10s]
  refine ct_putr (o1 := []) (y := 5) (ix := 52) C h10 hS10 (by decide +kernel) (by decide +kernel) (by decide +kernel) (by decide +kernel) rfl (by decide +kernel) (fun H11 locs11 h11 hS11 => ?_)
  refine ct_mkf (y := 6) (ix := 59) (ixn := 56) (ixc := 58) C hA h11 hS11 (by decide +kernel) (by unfold xmk xcn; decide +kernel) h0 hl.1 hl0 ⟨by rw [hR.1]; decide, by rw [hR.2]; decide +kernel⟩ (fun s' h => n4 _ _ _ h) (fun _ _ => rfl) (by decide) (by decide +kernel) (by decide +kernel) (by decide +kernel) rfl (fun ad12 H12 locs12 ha12 h12 hS12 => ?_)
  have e12 : ad12 (8, 0) = ad10 (8, 0) := ha12 _ (by decide +kernel)
  rw [← e12] at hl0
  refine ct_mkf (y := 7) (ix := 66) (ixn := 63) (ixc := 65) C hT h12 hS12 (by decide +kernel) (by unfold xmk xcn; decide +kernel) h0 hl.1 hl0 ⟨by rw [hR.1]; decide, by rw [hR.2]; decide +kernel⟩ (fun s' h => n4 _ _ _ h) (fun _ _ => rfl) (by decide) (by decide +kernel) (by decide +kernel) (by decide +kernel) rfl (fun ad13 H13 locs13 ha13 h13 hS13 => ?_)
  have e13 : ad13 (8, 0) = ad12 (8, 0) := ha13 _ (by decide +kernel)
  rw [← e13] at hl0
  refine ct_arrs (pcE := 113) [(3, 256, 70, 8, 0)] 104 _ _ _ _ _ _ _ C (by decide +kernel) h13 hS13 hl0 (by decide +kernel) (by decide +kernel) (by decide +kernel) (fun r hr j => hX _ _ _ (Or.inr (Or.inr ?_))) ⟨by rw [hR.1]; decide, by rw [hR.2]; decide +kernel⟩ (fun ad14 H14 locs14 ha14 h14 hS14 => ?_)
  · revert r
    decide +kernel
  have e14 : ad14 (8, 0) = ad13 (8, 0) := ha14 _ (by decide +kernel)
  rw [← e14] at hl0
  have h14 : xcw D cA (xkA cA 8 0 [] ad σ (Array.size s.heap)) adS [((8, 0), [8, 7, 6, 5, 4, 3, 2, 1, 0]), ((10, 0), [])] (idR0 ++ idC ++ idB ++ idT 12 ++ [(11, 0)]) ad14 σ H14 := h14
  refine lv_iconst (v := Int32.ofInt ((0 : Nat) : Int)) C.1.1 C.1.2.1 (show decode (xmB 81) 113 = .ok (.iconst 0, 1) by decide +kernel) rfl ?_
  refine lv_istore_n (k := 1) (nL := xmL 81) (lv := [(0, .ref (ad14 (8, 0)))]) C.1.1 C.1.2.1 (by decide +kernel) rfl ⟨hl.1, hl.2.1, fun q hq => by rw [show q = (0, .ref (ad14 (8, 0))) by simpa using hq]; exact hl0⟩ (by decide +kernel) rfl (fun ls15 hl15 => ?_)
  refine ct_iter (n := 2) (j := 0) (y := 2) (ixf := 23) (ixn := 16) (ixc := 18) (i := 1) C (hSt 1 (by decide)) h14 hS14 hl15 xlp_81 (by unfold xlj; decide) h0 (by decide +kernel) ⟨by rw [hR.1]; decide, by rw [hR.2]; decide +kernel⟩ (fun s' h => h4 _ _ _ h) (fun _ _ => rfl) (by decide) (by decide +kernel) (by decide +kernel) (by decide +kernel) rfl ⟨Or.inr ⟨(by decide +kernel : xaty 10 = 6), rfl⟩, (by decide +kernel : xalen 10 = 2)⟩ rfl (fun ad16 H16 locs16 ls16 ha16 h16 hS16 hl16 => ?_)
  refine ct_iter (n := 2) (j := 1) (y := 2) (ixf := 23) (ixn := 16) (ixc := 18) (i := 2) C (hSt 2 (by decide)) h16 hS16 hl16 xlp_81 (by unfold xlj; decide) h0 (by decide +kernel) ⟨by rw [hR.1]; decide, by rw [hR.2]; decide +kernel⟩ (fun s' h => h4 _ _ _ h) (fun _ _ => rfl) (by decide) (by decide +kernel) (by decide +kernel) (by decide +kernel) rfl ⟨Or.inr ⟨(by decide +kernel : xaty 10 = 6), rfl⟩, (by decide +kernel : xalen 10 = 2)⟩ rfl (fun ad17 H17 locs17 ls17 ha17 h17 hS17 hl17 => ?_)
  have hlj : ls17[1]? = some (.val (.int (Int32.ofInt ((1 + 1 : Nat) : Int)))) := lv_at hl17 0 rfl
  refine lv_iload_n C.1.1 C.1.2.1 (show decode (xmB 81) 115 = .ok (.iload_n 1, 1) by decide +kernel) rfl hlj ?_
  refine lv_iconst C.1.1 C.1.2.1 (show decode (xmB 81) 116 = .ok (.iconst 2, 1) by decide +kernel) rfl ?_
  refine lv_icmp_ge (tgt := 139) C.1.1 C.1.2.1 (show decode (xmB 81) 117 = .ok (.if_icmp .ge 22, 3) by decide +kernel) (by decide) (fun _ => ?_) (fun hc => absurd (by decide) hc)
  have h18 := xcw_closeO (o1 := []) h17 (by decide) (by decide +kernel) (fun s' hs hd => ⟨fun h => (h4 _ _ _ h).1, fun _ => hX _ _ _ (Or.inl rfl)⟩)
  have h19 := xcw_close (o1 := []) h18 (fun h => absurd h (show ¬ xaty 10 = 9 by decide +kernel)) (fun h => absurd h (show ¬ xaty 10 = 9 by decide +kernel)) (fun s' h => absurd h (xno3 10 s' (Or.inl (by decide)))) (fun _ => ⟨Or.inr (show xaty 10 = 6 by decide +kernel), show ∀ j, j < xalen 10 → j ∈ [1, 0] by decide +kernel⟩)
  have e17 : ad17 (8, 0) = ad (8, 0) := by
    rw [ha17 _ (by decide +kernel), ha16 _ (by decide +kernel), e14, e13, e12, e10, e9, e7, e6, e5, e3, e2, e1]
  exact ct_end (idU := idX) (mc := 107) (ms := 30041) C (by decide +kernel) h19 hS17 (fun q hq => by rw [show q = (8, 0) by simpa using hq]; exact e17) (fun _ _ => rfl) (by decide +kernel)
