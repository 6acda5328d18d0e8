/-! the law, from its start to its end -/
theorem zti (x : Int32) : -2147483648 ≤ x.toInt ∧ x.toInt ≤ 2147483647 := by
  have := xt32 x
  exact ⟨this.1, by have := this.2; omega⟩
theorem z_end {k L : Nat} (hL : L ≤ 320) (hk : k ≤ L) (h : ¬ nI L - 5 < nI k) : k + 5 ≤ L := by
  by_cases h5 : 5 ≤ L
  · have e : nI L - 5 = nI (L - 5) := by
      have h1 : nI L = nI (L - 5) + 5 := by
        rw [show (5 : Int32) = nI 5 from rfl, nI_add, show L - 5 + 5 = L by omega]
      rw [h1, Int32.add_sub_cancel]
    rw [e, nI_ltI (by omega) (by omega)] at h
    omega
  · exfalso
    apply h
    have hl : ∀ L, L < 5 → ∀ k, k < 5 → nI L - 5 < nI k := by decide
    exact hl L (by omega) k (by omega)
def zids : List (Nat × Nat) := idX ++ idM
theorem zids_x : xidsb zids = true := by decide +kernel
theorem zc0 : zcs 140 3 82 13 211 17 691 = true := by decide +kernel
theorem zc1 : zcs 183 3 83 18 212 21 648 = true := by decide +kernel
theorem zc2 : zcs 226 1 84 22 213 26 625 = true := by decide +kernel
theorem zc3 : zcs 249 1 85 27 214 30 602 = true := by decide +kernel
theorem zc4 : zcs 272 0 86 31 215 35 589 = true := by decide +kernel
theorem zc5 : zcs 285 1 87 36 221 39 566 = true := by decide +kernel
theorem zc6 : zcs 308 1 88 40 222 43 543 = true := by decide +kernel
theorem zc7 : zcs 331 3 89 44 225 47 500 = true := by decide +kernel
theorem zc8 : zcs 374 3 90 48 226 51 457 = true := by decide +kernel
theorem zc9 : zcs 417 2 91 52 233 56 424 = true := by decide +kernel
theorem zc10 : zcs 450 2 92 57 234 60 391 = true := by decide +kernel
theorem zc11 : zcs 483 2 93 61 237 64 358 = true := by decide +kernel
theorem zc12 : zcs 516 1 94 65 238 68 335 = true := by decide +kernel
theorem zc13 : zcs 539 4 95 69 249 73 282 = true := by decide +kernel
theorem zc14 : zcs 592 4 96 74 250 77 229 = true := by decide +kernel
theorem zc15 : zcs 645 2 97 78 256 81 196 = true := by decide +kernel
theorem zc16 : zcs 678 2 98 82 259 85 163 = true := by decide +kernel
theorem zc17 : zcs 711 1 99 86 262 89 140 = true := by decide +kernel
theorem zc18 : zcs 734 2 100 90 265 93 107 = true := by decide +kernel
theorem zc19 : zcs 767 2 101 94 266 97 74 = true := by decide +kernel
theorem zc20 : zcs 800 1 102 98 269 101 51 = true := by decide +kernel
theorem zc21 : zcs 823 1 103 102 270 105 28 = true := by decide +kernel
theorem zc22 : zcs 846 1 104 106 271 109 5 = true := by decide +kernel
theorem lt_loop {p : Program} {l : Launch} {e : Env} {s : State} {m : MethodId} {below : List Frame} {meth : Method} {c : Code} {cells slots : Nat} {D : va_G} {cA : Nat → ClassId} {adS : Nat} {ad : Nat × Nat → Nat} {b L : Nat} {xs : Nat → Int32} (hL : L ≤ 320) (C0 : lw_At p s m meth c b L xs)
    (C : zkx D cA adS s.heap.size (fun q => s.heap.size ≤ q) p s m #[Value.ref b] c) (h99 : ∀ j, ad (99, j) = adS) (hroom : cells ≤ 600000 ∧ slots ≤ 7302250) : ∀ (n k : Nat) (σ f : xa_H) (H : Heap) (locs : List Loc) (ls : Array Slot), k ≤ L → L + 1 ≤ k + n → yv f → yc σ f → ym σ f →
    zw D cA (fun q => s.heap.size ≤ q) s zids ad σ H locs → lv_has ls 4 (zlv k (ad (9, 0)) (ad (8, 0)) b) → W p l e room_1 s m #[Value.ref b] below meth c H locs cells slots (lw_Z below #[Value.ref b] s) (F0 m 18 ls []) := by
  obtain ⟨hx, hb, hr, hml, hown, hts, hX, hbl, hlocks, hgv⟩ := C0
  have hbA : ¬ (fun q : Nat => s.heap.size ≤ q) b := Nat.not_le.mpr hbl
  intro n
  induction n with
  | zero => intro k σ f H locs ls h1 h2; exact absurd h2 (by omega)
  | succ n ih =>
    intro k σ f H locs ls hk hn hv hc hm hw hl
    refine lv_iload_n hx hb (show decode code 18 = .ok (.iload_n 3, 1) by decide +kernel) rfl (lv_at hl 0 rfl) ?_
    refine lv_aload_n hx hb (show decode code 19 = .ok (.aload_n 0, 1) by decide +kernel) rfl (lv_at hl 3 rfl) ?_
    refine va_slen hx hb hX hbl hbA hw.2.2.1 (show decode code 20 = .ok (.arraylength, 1) by decide +kernel) ?_
    refine lv_iconst (v := 5) hx hb (show decode code 21 = .ok (.iconst 5, 1) by decide +kernel) rfl ?_
    refine lv_isub hx hb (show decode code 22 = .ok (.isub, 1) by decide +kernel) ?_
    refine lv_icmp_gt (tgt := 875) hx hb (show decode code 23 = .ok (.if_icmp .gt 852, 3) by decide +kernel) (by decide) (fun _ => ?_) (fun hc5 => ?_)
    · refine lv_iconst (v := 1) hx hb (show decode code 875 = .ok (.iconst 1, 1) by decide +kernel) rfl ?_
      refine va_forget (fun q hq => hw.2.2.1.2.2 q hq) ?_
      refine W.widen (k := 600000) (n := 7302250) hroom.1 hroom.2 ?_
      exact lw_ret hx hb hr hlocks (show decode code 876 = .ok (.ireturn, 1) by decide +kernel)
    · have hk5 : k + 5 ≤ L := z_end hL hk hc5
      have hgo : ∀ (σ' f' : xa_H) (H1 : Heap) (locs1 : List Loc), yv f' → yc σ' f' → ym σ' f' → zw D cA (fun q => s.heap.size ≤ q) s zids ad σ' H1 locs1 → W p l e room_1 s m #[Value.ref b] below meth c H1 locs1 cells slots (lw_Z below #[Value.ref b] s) (F0 m 869 ls []) := by
        intro σ' f' H1 locs1 g1 g2 g3 g4
        refine lv_iinc (k := 0) (v := nI (k + 5)) (lv' := zlv (k + 5) (ad (9, 0)) (ad (8, 0)) b) hx hb (show decode code 869 = .ok (.iinc 3 5, 3) by decide +kernel) hl rfl (nI_add k 5) (by decide) rfl (fun ls' hl' => ?_)
        refine lv_goto (tgt := 18) hx hb (show decode code 872 = .ok (.goto (-854), 3) by decide +kernel) (by decide) ?_
        exact ih (k + 5) σ' f' H1 locs1 ls' hk5 (by omega) g1 g2 g3 g4 hl'
      refine lv_aload_n hx hb (show decode code 26 = .ok (.aload_n 0, 1) by decide +kernel) rfl (lv_at hl 3 rfl) ?_
      refine lv_iload_n hx hb (show decode code 27 = .ok (.iload_n 3, 1) by decide +kernel) rfl (lv_at hl 0 rfl) ?_
      refine va_sld hx hb hX hbl hbA hw.2.2.1 (nI_in (show k < L by omega) (by omega)) (show decode code 28 = .ok (.iaload, 1) by decide +kernel) ?_
      refine lv_bipush (v := 31) hx hb (show decode code 29 = .ok (.bipush 31, 2) by decide +kernel) (by decide) ?_
      refine lv_iand hx hb (show decode code 31 = .ok (.iand, 1) by decide +kernel) ?_
      generalize xs (nI k).toNatClampNeg &&& 31 = x
      have hsw : decode code 32 = .ok (.tableswitch 837 0 22 #[108, 151, 194, 217, 240, 253, 276, 299, 342, 385, 418, 451, 484, 507, 560, 613, 646, 679, 702, 735, 768, 791, 814], 108) := by decide +kernel
      by_cases hout : x.toInt < 0 ∨ 22 < x.toInt
      · refine lv_tableOut (tgt := 869) hx hb hsw hout (by decide) ?_
        exact hgo σ f H locs hv hc hm hw
      · have hcs : x.toInt = 0 ∨ x.toInt = 1 ∨ x.toInt = 2 ∨ x.toInt = 3 ∨ x.toInt = 4 ∨ x.toInt = 5 ∨ x.toInt = 6 ∨ x.toInt = 7 ∨ x.toInt = 8 ∨ x.toInt = 9 ∨ x.toInt = 10 ∨ x.toInt = 11 ∨ x.toInt = 12 ∨ x.toInt = 13 ∨ x.toInt = 14 ∨ x.toInt = 15 ∨ x.toInt = 16 ∨ x.toInt = 17 ∨ x.toInt = 18 ∨ x.toInt = 19 ∨ x.toInt = 20 ∨ x.toInt = 21 ∨ x.toInt = 22 := by omega
        rcases hcs with ex | ex | ex | ex | ex | ex | ex | ex | ex | ex | ex | ex | ex | ex | ex | ex | ex | ex | ex | ex | ex | ex | ex
        · refine lv_tableIn (off := 108) (tgt := 140) hx hb hsw (by omega) (by omega) (by rw [ex]; rfl) (by decide) ?_
          exact lt_case (f := f) C hX hbl hbA hL (xidsb_ok zids_x) (by decide +kernel) (by decide +kernel) h99 hroom hw hc hm hl (by omega) zc0 (zp0 hv _ _ _) hgo
        · refine lv_tableIn (off := 151) (tgt := 183) hx hb hsw (by omega) (by omega) (by rw [ex]; rfl) (by decide) ?_
          exact lt_case (f := f) C hX hbl hbA hL (xidsb_ok zids_x) (by decide +kernel) (by decide +kernel) h99 hroom hw hc hm hl (by omega) zc1 (zp1 hv _ _ _) hgo
        · refine lv_tableIn (off := 194) (tgt := 226) hx hb hsw (by omega) (by omega) (by rw [ex]; rfl) (by decide) ?_
          exact lt_case (f := f) C hX hbl hbA hL (xidsb_ok zids_x) (by decide +kernel) (by decide +kernel) h99 hroom hw hc hm hl (by omega) zc2 (zp2 hv _) hgo
        · refine lv_tableIn (off := 217) (tgt := 249) hx hb hsw (by omega) (by omega) (by rw [ex]; rfl) (by decide) ?_
          exact lt_case (f := f) C hX hbl hbA hL (xidsb_ok zids_x) (by decide +kernel) (by decide +kernel) h99 hroom hw hc hm hl (by omega) zc3 (zp3 hv _) hgo
        · refine lv_tableIn (off := 240) (tgt := 272) hx hb hsw (by omega) (by omega) (by rw [ex]; rfl) (by decide) ?_
          exact lt_case (f := f) C hX hbl hbA hL (xidsb_ok zids_x) (by decide +kernel) (by decide +kernel) h99 hroom hw hc hm hl (by omega) zc4 (zp4 hv) hgo
        · refine lv_tableIn (off := 253) (tgt := 285) hx hb hsw (by omega) (by omega) (by rw [ex]; rfl) (by decide) ?_
          exact lt_case (f := f) C hX hbl hbA hL (xidsb_ok zids_x) (by decide +kernel) (by decide +kernel) h99 hroom hw hc hm hl (by omega) zc5 (zp5 hv _) hgo
        · refine lv_tableIn (off := 276) (tgt := 308) hx hb hsw (by omega) (by omega) (by rw [ex]; rfl) (by decide) ?_
          exact lt_case (f := f) C hX hbl hbA hL (xidsb_ok zids_x) (by decide +kernel) (by decide +kernel) h99 hroom hw hc hm hl (by omega) zc6 (zp6 hv _) hgo
        · refine lv_tableIn (off := 299) (tgt := 331) hx hb hsw (by omega) (by omega) (by rw [ex]; rfl) (by decide) ?_
          exact lt_case (f := f) C hX hbl hbA hL (xidsb_ok zids_x) (by decide +kernel) (by decide +kernel) h99 hroom hw hc hm hl (by omega) zc7 (zp7 hv _ _ _) hgo
        · refine lv_tableIn (off := 342) (tgt := 374) hx hb hsw (by omega) (by omega) (by rw [ex]; rfl) (by decide) ?_
          exact lt_case (f := f) C hX hbl hbA hL (xidsb_ok zids_x) (by decide +kernel) (by decide +kernel) h99 hroom hw hc hm hl (by omega) zc8 (zp8 hv _ _ _) hgo
        · refine lv_tableIn (off := 385) (tgt := 417) hx hb hsw (by omega) (by omega) (by rw [ex]; rfl) (by decide) ?_
          exact lt_case (f := f) C hX hbl hbA hL (xidsb_ok zids_x) (by decide +kernel) (by decide +kernel) h99 hroom hw hc hm hl (by omega) zc9 (zp9 hv _ _) hgo
        · refine lv_tableIn (off := 418) (tgt := 450) hx hb hsw (by omega) (by omega) (by rw [ex]; rfl) (by decide) ?_
          exact lt_case (f := f) C hX hbl hbA hL (xidsb_ok zids_x) (by decide +kernel) (by decide +kernel) h99 hroom hw hc hm hl (by omega) zc10 (zp10 hv _ _) hgo
        · refine lv_tableIn (off := 451) (tgt := 483) hx hb hsw (by omega) (by omega) (by rw [ex]; rfl) (by decide) ?_
          exact lt_case (f := f) C hX hbl hbA hL (xidsb_ok zids_x) (by decide +kernel) (by decide +kernel) h99 hroom hw hc hm hl (by omega) zc11 (zp11 hv _ _) hgo
        · refine lv_tableIn (off := 484) (tgt := 516) hx hb hsw (by omega) (by omega) (by rw [ex]; rfl) (by decide) ?_
          exact lt_case (f := f) C hX hbl hbA hL (xidsb_ok zids_x) (by decide +kernel) (by decide +kernel) h99 hroom hw hc hm hl (by omega) zc12 (zp12 hv _) hgo
        · refine lv_tableIn (off := 507) (tgt := 539) hx hb hsw (by omega) (by omega) (by rw [ex]; rfl) (by decide) ?_
          exact lt_case (f := f) C hX hbl hbA hL (xidsb_ok zids_x) (by decide +kernel) (by decide +kernel) h99 hroom hw hc hm hl (by omega) zc13 (zp13 hv _ _ _ (zti _)) hgo
        · refine lv_tableIn (off := 560) (tgt := 592) hx hb hsw (by omega) (by omega) (by rw [ex]; rfl) (by decide) ?_
          exact lt_case (f := f) C hX hbl hbA hL (xidsb_ok zids_x) (by decide +kernel) (by decide +kernel) h99 hroom hw hc hm hl (by omega) zc14 (zp14 hv _ _ _ (zti _)) hgo
        · refine lv_tableIn (off := 613) (tgt := 645) hx hb hsw (by omega) (by omega) (by rw [ex]; rfl) (by decide) ?_
          exact lt_case (f := f) C hX hbl hbA hL (xidsb_ok zids_x) (by decide +kernel) (by decide +kernel) h99 hroom hw hc hm hl (by omega) zc15 (zp15 hv _ _) hgo
        · refine lv_tableIn (off := 646) (tgt := 678) hx hb hsw (by omega) (by omega) (by rw [ex]; rfl) (by decide) ?_
          exact lt_case (f := f) C hX hbl hbA hL (xidsb_ok zids_x) (by decide +kernel) (by decide +kernel) h99 hroom hw hc hm hl (by omega) zc16 (zp16 hv _ _) hgo
        · refine lv_tableIn (off := 679) (tgt := 711) hx hb hsw (by omega) (by omega) (by rw [ex]; rfl) (by decide) ?_
          exact lt_case (f := f) C hX hbl hbA hL (xidsb_ok zids_x) (by decide +kernel) (by decide +kernel) h99 hroom hw hc hm hl (by omega) zc17 (zp17 hv _) hgo
        · refine lv_tableIn (off := 702) (tgt := 734) hx hb hsw (by omega) (by omega) (by rw [ex]; rfl) (by decide) ?_
          exact lt_case (f := f) C hX hbl hbA hL (xidsb_ok zids_x) (by decide +kernel) (by decide +kernel) h99 hroom hw hc hm hl (by omega) zc18 (zp18 hv _ (zti _)) hgo
        · refine lv_tableIn (off := 735) (tgt := 767) hx hb hsw (by omega) (by omega) (by rw [ex]; rfl) (by decide) ?_
          exact lt_case (f := f) C hX hbl hbA hL (xidsb_ok zids_x) (by decide +kernel) (by decide +kernel) h99 hroom hw hc hm hl (by omega) zc19 (zp19 hv _ _) hgo
        · refine lv_tableIn (off := 768) (tgt := 800) hx hb hsw (by omega) (by omega) (by rw [ex]; rfl) (by decide) ?_
          exact lt_case (f := f) C hX hbl hbA hL (xidsb_ok zids_x) (by decide +kernel) (by decide +kernel) h99 hroom hw hc hm hl (by omega) zc20 (zp20 hv _) hgo
        · refine lv_tableIn (off := 791) (tgt := 823) hx hb hsw (by omega) (by omega) (by rw [ex]; rfl) (by decide) ?_
          exact lt_case (f := f) C hX hbl hbA hL (xidsb_ok zids_x) (by decide +kernel) (by decide +kernel) h99 hroom hw hc hm hl (by omega) zc21 (zp21 hv _) hgo
        · refine lv_tableIn (off := 814) (tgt := 846) hx hb hsw (by omega) (by omega) (by rw [ex]; rfl) (by decide) ?_
          exact lt_case (f := f) C hX hbl hbA hL (xidsb_ok zids_x) (by decide +kernel) (by decide +kernel) h99 hroom hw hc hm hl (by omega) zc22 (zp22 hv _) hgo
/-- YOUR PART: from the entry, for every script of at most 320 ints, the law comes to its end with true -/
theorem whole_start {p : Program} {e : Env} {s : State} {m : MethodId} {below : List Frame} {meth : Method} {c : Code} (l : Launch) (hflags : l.flags = flags0) {b L : Nat} {xs : Nat → Int32} (hL : L ≤ 320) (C0 : lw_At p s m meth c b L xs) : W p l e room_1 s m #[Value.ref b] below meth c s.heap [] 0 0 (lw_Z below #[Value.ref b] s) (entryFrame m ([Value.ref b] : List Value).toArray 4) := by
  obtain ⟨hx, hb, hr, hml, hown, hts, hX, hbl, hlocks, hgv⟩ := id C0
  obtain ⟨D, cA, adS, hen⟩ := z_env hts hgv
  have C : zkx D cA adS s.heap.size (fun q => s.heap.size ≤ q) p s m #[Value.ref b] c := ⟨⟨hx, hb, hml, hown⟩, fun w hw => hts w (List.mem_filter.mp hw).1, hen, fun _ h => h, fun _ h => h⟩
  have h0 : xcw D cA (fun q => s.heap.size ≤ q) adS [] [] (fun _ => adS) zG s.heap := ⟨fun k q h => by simp [xwo, xwl] at h, ⟨fun i j p q h => by simp [xwo, xwl] at h, fun k q h => by simp [xwo, xwl] at h⟩, ⟨fun o ho => (by cases ho), fun q hq => (by cases hq), fun q hq => (by cases hq)⟩, fun _ => rfl⟩
  have hl := lv_entry ([.ref b]) (n := 4) (Nat.le_of_ble_eq_true rfl)
  rw [lg_entry_eq]
  generalize (lg_sl ([.ref b]) ++ List.replicate (4 - (lg_sl ([.ref b])).length) Slot.unset).toArray = ls at hl ⊢
  have hl : lv_has ls 4 [(0, .ref b)] := hl
  refine lt_new (X := 8) (i := 0) (ix := 7) C h0 va_S.rf (by decide) (by decide +kernel) (by decide +kernel) (by decide) (fun s' h => (zG_r4 _ _ _ h).1) (show decode code 0 = .ok (.new 7, 3) by decide +kernel) ⟨by decide, by decide +kernel⟩ (fun ad1 H1 _ h1 hS1 => ?_)
  refine lv_dup hx hb (show decode code 3 = .ok (.dup, 1) by decide +kernel) rfl ?_
  refine lt_call (x := 81) (X := 8) (i := 0) (ix := 9) (os := []) (idA := []) (idR := []) (av := fun _ => []) (rest := [.ref (ad1 (8, 0))]) C (c_SofaStair l) h1 hS1 (by unfold zcn; decide +kernel) (Nat.le_refl _) hl.1 (show 1 + 0 ≤ 8 by decide) (show decode code 4 = .ok (.invokespecial 9, 3) by decide +kernel) ⟨by decide, by decide +kernel⟩
    ⟨List.nodup_nil, (fun q hq => by cases hq), (fun q hq => by cases hq), (fun q hq => by cases hq)⟩ (fun q hq => by cases hq) (fun s' h => (zG_r4 _ _ _ h).1) (fun _ _ => rfl) (by decide +kernel) (by decide +kernel) (fun ad2 H2 locs2 ha2 h2 hS2 => ?_)
  have e2 : ad2 (8, 0) = ad1 (8, 0) := ha2 _ (by decide)
  rw [← e2]
  have h2 : xcw D cA (fun q => s.heap.size ≤ q) adS [] idX ad2 zG H2 := h2
  refine lv_astore_n (lv' := [(1, .ref (ad2 (8, 0))), (0, .ref b)]) hx hb (show decode code 7 = .ok (.astore_n 1, 1) by decide +kernel) rfl hl (by decide) rfl (fun ls1 hl1 => ?_)
  refine lt_new (X := 9) (i := 0) (ix := 10) C h2 hS2 (by decide) (by decide +kernel) (by decide +kernel) (by decide +kernel) (fun s' h => (zG_r4 _ _ _ h).1) (show decode code 8 = .ok (.new 10, 3) by decide +kernel) ⟨by decide, by decide +kernel⟩ (fun ad3 H3 ha3 h3 hS3 => ?_)
  have e3 : ad3 (8, 0) = ad2 (8, 0) := ha3 _ (by decide)
  refine lv_dup hx hb (show decode code 11 = .ok (.dup, 1) by decide +kernel) rfl ?_
  refine lt_call (x := 200) (X := 9) (i := 0) (ix := 12) (os := []) (idA := []) (idR := idX) (av := fun _ => []) (rest := [.ref (ad3 (9, 0))]) C (c_Model l) h3 hS3 (by unfold zcn; decide +kernel) (Nat.le_refl _) hl1.1 (show 1 + 0 ≤ 8 by decide) (show decode code 12 = .ok (.invokespecial 12, 3) by decide +kernel) ⟨by decide, by decide +kernel⟩
    ⟨List.nodup_nil, (fun q hq => by cases hq), (fun q hq => by cases hq), (fun q hq => by cases hq)⟩ (fun q hq => by cases hq) (fun s' h => yi0_4 _ _ _ h) (fun _ _ => rfl) (by decide +kernel) (by decide +kernel) (fun ad4 H4 locs4 ha4 h4 hS4 => ?_)
  have e4 : ad4 (8, 0) = ad2 (8, 0) := (ha4 _ (by decide +kernel)).trans e3
  have e49 : ad4 (9, 0) = ad3 (9, 0) := ha4 _ (by decide +kernel)
  rw [← e49]
  have hl1 : lv_has ls1 4 [(1, .ref (ad4 (8, 0))), (0, .ref b)] := by rw [e4]; exact hl1
  refine lv_astore_n (lv' := [(2, .ref (ad4 (9, 0))), (1, .ref (ad4 (8, 0))), (0, .ref b)]) hx hb (show decode code 15 = .ok (.astore_n 2, 1) by decide +kernel) rfl hl1 (by decide) rfl (fun ls2 hl2 => ?_)
  refine lv_iconst (v := nI 0) hx hb (show decode code 16 = .ok (.iconst 0, 1) by decide +kernel) rfl ?_
  refine lv_istore_n (lv' := zlv 0 (ad4 (9, 0)) (ad4 (8, 0)) b) hx hb (show decode code 17 = .ok (.istore_n 3, 1) by decide +kernel) rfl hl2 (by decide) rfl (fun ls3 hl3 => ?_)
  exact lt_loop hL C0 C h4.2.2.2 ⟨by decide, by decide +kernel⟩ (L + 1) 0 zG zfz H4 locs4 ls3 (Nat.zero_le _) (by omega) zfz_v zG_c zG_m ⟨h4.1, h4.2.1, hS4, zG_hok _⟩ hl3
