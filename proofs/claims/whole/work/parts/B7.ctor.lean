/-! constructors: rows of objects; Stair -/
section XCX
variable {p : Program} {l : Launch} {e : Env} {R : Room} {s : State} {m : MethodId} {args : Array Value} {below : List Frame} {meth : Method} {c : Code} {H : Heap} {locs : List Loc} {cells slots : Nat} {ls : Array Slot} {Q : State → Prop}
variable {D : va_G} {cA : Nat → ClassId} {adS S0 : Nat} {os o1 o2 : List ((Nat × Nat) × List Nat)} {ids idA idR idU : List (Nat × Nat)} {ad : Nat × Nat → Nat} {A : Nat → Prop} {k pc nL N : Nat} {σ σX σF : xa_H} {rest : List Value} {key own : Nat × Nat} {dn : List Nat}
def xlp (k L n ixf x X ixn ixc : Nat) : Prop := decode (xmB k) L = .ok (.iload_n 1, 1) ∧ decode (xmB k) (L + 1) = .ok (.iconst (n : Int), 1) ∧ decode (xmB k) (L + 2) = .ok (.if_icmp .ge 22, 3) ∧ decode (xmB k) (L + 5) = .ok (.aload_n 0, 1) ∧ decode (xmB k) (L + 6) = .ok (.getfield ixf, 3) ∧
  decode (xmB k) (L + 9) = .ok (.iload_n 1, 1) ∧ xmk k x X ixn ixc (L + 10) ∧ decode (xmB k) (L + 17) = .ok (.aastore, 1) ∧ decode (xmB k) (L + 18) = .ok (.iinc 1 1, 3) ∧ decode (xmB k) (L + 21) = .ok (.goto (-21), 3)
def xlj (n j : Nat) : Prop := ¬ Int32.ofInt (n : Int) ≤ Int32.ofInt (j : Int) ∧ Int32.ofInt (j : Int) + Int32.ofInt 1 = Int32.ofInt ((j + 1 : Nat) : Int) ∧ ¬ (Int32.ofInt (j : Int) < 0 ∨ n ≤ (Int32.ofInt (j : Int)).toNatClampNeg) ∧ (Int32.ofInt (j : Int)).toNatClampNeg = j
theorem ct_iter {x X i ixn ixc mc ms K I y ixf n j : Nat} {arr : Nat × Nat} {dj : List Nat} (C : xkx D cA adS S0 A p R s m args meth c k) (hM : xkn l x X i [] idU (fun _ => []) mc ms σX σF) (h : xcw D cA A adS (((K, I), dn) :: (arr, dj) :: o2) ids ad σ H) (hS : va_S A s.heap H locs) (hl : lv_has ls (xmL k) [(1, .int (Int32.ofInt (j : Int))), (0, .ref (ad (K, I)))])
    (hd : xlp k pc n ixf x X ixn ixc) (hj : xlj n j) (h0 : S0 ≤ s.heap.size) (h1L : 1 < xmL k) (hr : cells + (1 + mc) ≤ R.cells ∧ slots + ((xcl X).2.2 + ms) ≤ R.slots) (h4 : ∀ s', xfty X s' = 4 → σ X i s' < 0 ∧ σX X i s' < 0) (hs : ∀ q ∈ idU, σ q.1 q.2 = σF q.1 q.2) (hown : (X, i) ∈ idU) (hdis : ∀ q ∈ idU, q ∉ xkeys (((K, I), dn) :: (arr, dj) :: o2) ids)
    (hK : K < 10 ∧ y < (xcl K).2.2) (hlk : Cond.fieldLink (xmO k) ixf (xcl K).1 ((xcl K).2.1 y).2.1 ((xcl K).2.1 y).2.2.1 ∈ xw ∧ xfty K y = 3 ∧ y ∈ dn) (hq : xsr K I y = arr) (harr : ((xaty arr.1 = 5 ∧ X = 5) ∨ (xaty arr.1 = 6 ∧ X = 4)) ∧ xalen arr.1 = n) (hX : xar arr.1 arr.2 j = (X, i))
    (kk : ∀ ad2 H1 locs1 ls', (∀ q ∈ xkeys (((K, I), dn) :: (arr, dj) :: o2) ids, ad2 q = ad q) → xcw D cA A adS (((K, I), dn) :: (arr, j :: dj) :: o2) (ids ++ idU) ad2 σ H1 → va_S A s.heap H1 locs1 → lv_has ls' (xmL k) [(1, .int (Int32.ofInt ((j + 1 : Nat) : Int))), (0, .ref (ad2 (K, I)))] → W p l e R s m args below meth c H1 locs1 (cells + (1 + mc)) (slots + ((xcl X).2.2 + ms)) Q (F0 m pc ls' [])) :
    W p l e R s m args below meth c H locs cells slots Q (F0 m pc ls []) := by
  obtain ⟨d1, d2, d3, d4, d5, d6, d7, d8, d9, d10⟩ := hd
  have hx := C.1.1
  have hb := C.1.2.1
  have hl1 : ls[1]? = some (.val (.int (Int32.ofInt (j : Int)))) := lv_at hl 0 rfl
  have hl0 : ls[0]? = some (.val (.ref (ad (K, I)))) := lv_at hl 1 rfl
  refine lv_iload_n hx hb d1 rfl hl1 ?_
  refine lv_iconst hx hb d2 rfl ?_
  refine lv_icmp_ge (tgt := pc + 24) hx hb d3 (by omega) (fun hc => absurd hc hj.1) (fun _ => ?_)
  refine ct_load C d4 hl0 ?_
  refine ct_get (o1 := []) C h hK hlk.1 d5 hlk.2.1 hlk.2.2 hq ?_
  refine lv_iload_n hx hb d6 rfl hl1 ?_
  refine ct_mk C hM h hS d7 h0 hl.1 (by show 1 + (1 + 0) ≤ 7; omega) hr h4 hs hown hdis (fun ad2 H1 locs1 ha h1 hS1 => ?_)
  rw [show ad arr = ad2 arr from (ha _ (by simp [xkeys])).symm]
  refine ct_ast (o1 := [((K, I), dn)]) (j := j) C h1 hS1 harr.1 (List.mem_append_right _ hown) (by rw [harr.2]; exact hj.2.2.1) hj.2.2.2 hX d8 (fun H2 locs2 h2 hS2 => ?_)
  refine lv_iinc (k := 0) (v := Int32.ofInt ((j + 1 : Nat) : Int)) (lv' := [(1, .int (Int32.ofInt ((j + 1 : Nat) : Int))), (0, .ref (ad (K, I)))]) hx hb d9 hl rfl hj.2.1 h1L rfl (fun ls' hl' => ?_)
  refine lv_goto (tgt := pc) hx hb d10 (by omega) ?_
  exact kk ad2 H2 locs2 ls' ha h2 hS2 (by rw [ha _ (by simp [xkeys])]; exact hl')
end XCX
def idS (s : Nat) : List (Nat × Nat) := idW s ++ [(25, s), (26, s)] ++ idT (4 * s) ++ idT (4 * s + 1) ++ idT (4 * s + 2) ++ idT (4 * s + 3) ++ [(4, s)] ++ [(24, s)]
theorem idS_x : ∀ s, s < 3 → xidsb (idS s) = true := by decide +kernel
theorem xlp_50 : xlp 50 39 4 20 54 5 18 31 :=
  ⟨by decide +kernel, by decide +kernel, by decide +kernel, by decide +kernel, by decide +kernel, by decide +kernel, by unfold xmk xcn; decide +kernel, by decide +kernel, by decide +kernel, by decide +kernel⟩
theorem k_Stair (l : Launch) (i : Nat) (hi : i < 3) (σX σT σF : xa_H) (hX : ∀ K i s, (K = 4 ∨ (24 ≤ K ∧ K ≤ 26)) → σX K i s = 0) (hW : xkn l 69 7 i [] (idW i) (fun _ => []) 2 1008 yi0 σX) (hT : ∀ j, j < 13 → xkn l 54 5 j [] (idT j) (fun _ => []) 4 47 yi0 σX)
    (hf : fm_Stair_init i σX = some σT) (hσ : ∀ q ∈ idS i, ∀ s, s < xsz q.1 → ¬ xfty q.1 s = 3 → σF q.1 q.2 s = σT q.1 q.2 s) (hh : xhok (idS i) σX) : xkn l 50 4 i [] (idS i) (fun _ => []) 26 1245 σX σF := by
  refine ct_met (by decide +kernel) (fun ad => Nat.le_of_ble_eq_true rfl) (fun D cA adS S0 ad p e R s m args below meth c ls C hR h0 hw hl => ?_)
  have hl0 : ls[0]? = some (.val (.ref (ad (4, i)))) := lv_at hl 0 rfl
  have no4 : ∀ X i' s', ¬ X = 3 → xfty X s' = 4 → σX X i' s' < 0 ∧ yi0 X i' s' < 0 := fun X i' s' hX h => absurd (xfty_4 X s' h).1 hX
  refine ct_start (ix := 3) C hl.1 hl0 (by decide +kernel) ?_
  refine ct_mkf (y := 0) (ix := 12) (ixn := 9) (ixc := 11) C hW hw va_S.rf (by decide +kernel) (by unfold xmk xcn; decide +kernel) h0 hl.1 hl0 ⟨by rw [hR.1]; decide, by rw [hR.2]; decide +kernel⟩ (fun s' h => no4 _ _ _ (by decide) h) (fun _ _ => rfl) (by simp [idW]) (fun q hq => ?_) (by decide +kernel) (by decide +kernel) rfl (fun ad1 H1 locs1 ha1 h1 hS1 => ?_)
  · simp [idW] at hq
    simp [xkeys]
    rcases hq with rfl | rfl | rfl <;> simp
  have e1 : ad1 (4, i) = ad (4, i) := ha1 _ (by simp [xkeys])
  rw [← e1] at hl0
  refine ct_load C (by decide +kernel) hl0 ?_
  refine ct_push (L := 1) (N := 4) C (by decide +kernel) ?_
  refine ct_newq (key := (24, i)) (N := 4) (ix := 18) C h1 hS1 (Or.inl ⟨rfl, rfl⟩) (by decide +kernel) (by simp [xkeys, idW]) (show (24 : Nat) < 99 ∧ 10 ≤ (24 : Nat) ∧ xaty 24 = 5 ∧ xalen 24 = 4 by decide +kernel) (by decide +kernel) (by decide +kernel) ⟨by rw [hR.1]; decide, by rw [hR.2]; decide +kernel⟩ (fun ad2 H2 ha2 h2 hS2 => ?_)
  have e2 : ad2 (4, i) = ad1 (4, i) := ha2 _ (by simp)
  rw [← e2] at hl0 ⊢
  refine ct_putr (o1 := []) (y := 1) (ix := 20) C h2 hS2 (by decide +kernel) (by decide +kernel) (by decide +kernel) (by decide +kernel) rfl (by simp [xkeys]) (fun H3 locs3 h3 hS3 => ?_)
  refine ct_arrs (pcE := 37) [(1, 4, 24, 2, 0), (1, 4, 28, 3, 0)] 23 _ _ _ _ _ _ _ C (by decide +kernel) h3 hS3 hl0 (by decide +kernel) (by decide +kernel) (fun q hq r hr => ?_) (fun r hr j => hX _ _ _ (Or.inr ?_)) ⟨by rw [hR.1]; decide, by rw [hR.2]; decide +kernel⟩ (fun ad4 H4 locs4 ha4 h4 hS4 => ?_)
  · have hq2 : q.1 = 4 ∨ q.1 = 24 ∨ q.1 = 33 ∨ q.1 = 34 ∨ q.1 = 7 := by
      simp [xkeys, idW] at hq
      rcases hq with rfl | rfl | rfl | rfl | rfl <;> simp
    generalize q.1 = z at hq2
    revert r
    rcases hq2 with rfl | rfl | rfl | rfl | rfl <;> decide +kernel
  · show 24 ≤ (xsr 4 0 r.2.2.2.1).1 ∧ (xsr 4 0 r.2.2.2.1).1 ≤ 26
    revert r
    decide +kernel
  have e4 : ad4 (4, i) = ad2 (4, i) := ha4 _ (by simp [xkeys])
  rw [← e4] at hl0
  refine lv_iconst (v := Int32.ofInt ((0 : Nat) : Int)) C.1.1 C.1.2.1 (show decode (xmB 50) 37 = .ok (.iconst 0, 1) by decide +kernel) rfl ?_
  refine lv_istore_n (k := 1) (nL := xmL 50) (lv := [(0, .ref (ad4 (4, i)))]) C.1.1 C.1.2.1 (by decide +kernel) rfl ⟨hl.1, hl.2.1, fun q hq => by rw [show q = (0, .ref (ad4 (4, i))) by simpa using hq]; exact hl0⟩ (by decide +kernel) rfl (fun ls5 hl5 => ?_)
  have h4 : xcw D cA (xkA cA 4 i [] ad σX (Array.size s.heap)) adS [((4, i), [3, 2, 1, 0]), ((24, i), [])] (idW i ++ [(25, i), (26, i)]) ad4 σX H4 := h4
  refine ct_iter (n := 4) (j := 0) (y := 1) (ixf := 20) (ixn := 18) (ixc := 31) (i := (4 * i)) C (hT (4 * i) (by omega)) h4 hS4 hl5 xlp_50 (by unfold xlj; decide) h0 (by decide +kernel) ⟨by rw [hR.1]; decide, by rw [hR.2]; decide +kernel⟩ (fun s' h => no4 _ _ _ (by decide) h) (fun _ _ => rfl) (by simp [idT])
    (fun q hq => (by decide +kernel : ∀ i, i < 3 → ∀ q ∈ idT (4 * i), q ∉ [(4, i), (24, i)] ++ (idW i ++ [(25, i), (26, i)])) i hi q hq) (by decide +kernel) (by decide +kernel) rfl ⟨Or.inl ⟨(by decide +kernel : xaty 24 = 5), rfl⟩, (by decide +kernel : xalen 24 = 4)⟩ rfl (fun ad5 H5 locs5 lsz5 ha5 h5 hS5 hlz5 => ?_)
  refine ct_iter (n := 4) (j := 1) (y := 1) (ixf := 20) (ixn := 18) (ixc := 31) (i := (4 * i + 1)) C (hT (4 * i + 1) (by omega)) h5 hS5 hlz5 xlp_50 (by unfold xlj; decide) h0 (by decide +kernel) ⟨by rw [hR.1]; decide, by rw [hR.2]; decide +kernel⟩ (fun s' h => no4 _ _ _ (by decide) h) (fun _ _ => rfl) (by simp [idT])
    (fun q hq => (by decide +kernel : ∀ i, i < 3 → ∀ q ∈ idT (4 * i + 1), q ∉ [(4, i), (24, i)] ++ (idW i ++ [(25, i), (26, i)] ++ idT (4 * i))) i hi q hq) (by decide +kernel) (by decide +kernel) rfl ⟨Or.inl ⟨(by decide +kernel : xaty 24 = 5), rfl⟩, (by decide +kernel : xalen 24 = 4)⟩ rfl (fun ad6 H6 locs6 lsz6 ha6 h6 hS6 hlz6 => ?_)
  refine ct_iter (n := 4) (j := 2) (y := 1) (ixf := 20) (ixn := 18) (ixc := 31) (i := (4 * i + 2)) C (hT (4 * i + 2) (by omega)) h6 hS6 hlz6 xlp_50 (by unfold xlj; decide) h0 (by decide +kernel) ⟨by rw [hR.1]; decide, by rw [hR.2]; decide +kernel⟩ (fun s' h => no4 _ _ _ (by decide) h) (fun _ _ => rfl) (by simp [idT])
    (fun q hq => (by decide +kernel : ∀ i, i < 3 → ∀ q ∈ idT (4 * i + 2), q ∉ [(4, i), (24, i)] ++ (idW i ++ [(25, i), (26, i)] ++ idT (4 * i) ++ idT (4 * i + 1))) i hi q hq) (by decide +kernel) (by decide +kernel) rfl ⟨Or.inl ⟨(by decide +kernel : xaty 24 = 5), rfl⟩, (by decide +kernel : xalen 24 = 4)⟩ rfl (fun ad7 H7 locs7 lsz7 ha7 h7 hS7 hlz7 => ?_)
  refine ct_iter (n := 4) (j := 3) (y := 1) (ixf := 20) (ixn := 18) (ixc := 31) (i := (4 * i + 3)) C (hT (4 * i + 3) (by omega)) h7 hS7 hlz7 xlp_50 (by unfold xlj; decide) h0 (by decide +kernel) ⟨by rw [hR.1]; decide, by rw [hR.2]; decide +kernel⟩ (fun s' h => no4 _ _ _ (by decide) h) (fun _ _ => rfl) (by simp [idT])
    (fun q hq => (by decide +kernel : ∀ i, i < 3 → ∀ q ∈ idT (4 * i + 3), q ∉ [(4, i), (24, i)] ++ (idW i ++ [(25, i), (26, i)] ++ idT (4 * i) ++ idT (4 * i + 1) ++ idT (4 * i + 2))) i hi q hq) (by decide +kernel) (by decide +kernel) rfl ⟨Or.inl ⟨(by decide +kernel : xaty 24 = 5), rfl⟩, (by decide +kernel : xalen 24 = 4)⟩ rfl (fun ad8 H8 locs8 lsz8 ha8 h8 hS8 hlz8 => ?_)
  have hlj : lsz8[1]? = some (.val (.int (Int32.ofInt ((3 + 1 : Nat) : Int)))) := lv_at hlz8 0 rfl
  have hl8 : lsz8[0]? = some (.val (.ref (ad8 (4, i)))) := lv_at hlz8 1 rfl
  refine lv_iload_n C.1.1 C.1.2.1 (show decode (xmB 50) 39 = .ok (.iload_n 1, 1) by decide +kernel) rfl hlj ?_
  refine lv_iconst C.1.1 C.1.2.1 (show decode (xmB 50) 40 = .ok (.iconst 4, 1) by decide +kernel) rfl ?_
  refine lv_icmp_ge (tgt := 63) C.1.1 C.1.2.1 (show decode (xmB 50) 41 = .ok (.if_icmp .ge 22, 3) by decide +kernel) (by decide) (fun _ => ?_) (fun hc => absurd (by decide) hc)
  have h9 := xcw_closeO (o1 := []) h8 (by decide) (by decide +kernel) (fun s' hs hd => ⟨fun h => absurd (xfty_4 _ _ h).1 (by decide), fun _ => hX _ _ _ (Or.inl rfl)⟩)
  have h10 := xcw_close (o1 := []) h9 (fun h => absurd h (show ¬ xaty 24 = 9 by decide +kernel)) (fun h => absurd h (show ¬ xaty 24 = 9 by decide +kernel)) (fun s' h => absurd h (xno3 24 s' (Or.inl (by decide)))) (fun _ => ⟨Or.inl (show xaty 24 = 5 by decide +kernel), show ∀ j, j < xalen 24 → j ∈ [3, 2, 1, 0] by decide +kernel⟩)
  have e8 : ad8 (4, i) = ad (4, i) := by
    rw [ha8 _ (by simp [xkeys]), ha7 _ (by simp [xkeys]), ha6 _ (by simp [xkeys]), ha5 _ (by simp [xkeys]), e4, e2, e1]
  exact ct_tail (idU := idS i) (mc := 26) (ms := 1245) C h10 hS8 (fun q hq => by rw [show q = (4, i) by simpa using hq]; exact e8) (xidsb_ok (idS_x i hi)) hh (by simp [idS]) ⟨hlz8.1, hlz8.2.1, fun q hq => by rw [show q = (0, .ref (ad8 (4, i))) by simpa using hq]; exact hl8⟩ (by rw [← hf]; exact jm_Stair_init i σX) hσ
    (fun q hq s' h4 => absurd (xfty_4 _ _ h4).1 ((by decide +kernel : ∀ i, i < 3 → ∀ q ∈ idS i, ¬ q.1 = 3) i hi q hq)) ⟨by rw [hR.1]; exact Nat.le_refl _, by rw [hR.2]; exact Nat.le_refl _⟩
