/-! the law's loop -/
section ZN
variable {p : Program} {l : Launch} {e : Env} {s : State} {m : MethodId} {args : Array Value} {below : List Frame} {meth : Method} {c : Code} {H : Heap} {locs : List Loc} {cells slots : Nat} {ls : Array Slot} {Q : State → Prop}
variable {D : va_G} {cA : Nat → ClassId} {adS S0 : Nat} {ids : List (Nat × Nat)} {ad : Nat × Nat → Nat} {A : Nat → Prop} {pc : Nat} {σ f : xa_H} {rest : List Value} {b L k a1 a2 : Nat} {xs : Nat → Int32}
def zlv (k a2 a1 b : Nat) : List (Nat × Value) := [(3, .int (nI k)), (2, .ref a2), (1, .ref a1), (0, .ref b)]
theorem lt_arg {i : Nat} (C : zkx D cA adS S0 A p s m args c) (hX : va_X b L xs s s.heap) (hbl : b < s.heap.size) (hbA : ¬ A b) (hS : va_S A s.heap H locs) (hl : lv_has ls 4 (zlv k a2 a1 b)) (hk : k + i < L) (hL : L ≤ 320)
    (d : decode code pc = .ok (.aload_n 0, 1) ∧ decode code (pc + 1) = .ok (.iload_n 3, 1) ∧ decode code (pc + 2) = .ok (.iconst (i : Int), 1) ∧ decode code (pc + 3) = .ok (.iadd, 1) ∧ decode code (pc + 4) = .ok (.iaload, 1))
    (kk : W p l e room_1 s m args below meth c H locs cells slots Q (F0 m (pc + 5) ls (.int (xs (k + i)) :: rest))) : W p l e room_1 s m args below meth c H locs cells slots Q (F0 m pc ls rest) := by
  have hx := C.1.1
  have hb := C.1.2.1
  refine lv_aload_n hx hb d.1 rfl (lv_at hl 3 rfl) ?_
  refine lv_iload_n hx hb d.2.1 rfl (lv_at hl 0 rfl) ?_
  refine lv_iconst (v := nI i) hx hb d.2.2.1 rfl ?_
  refine lv_iadd hx hb d.2.2.2.1 ?_
  rw [nI_add]
  refine va_sld hx hb hX hbl hbA hS (nI_in hk (by omega)) d.2.2.2.2 ?_
  rw [nI_clamp (by omega)]
  exact kk
noncomputable def zda (pc : Nat) (n : Nat) : Bool := (List.range n).all fun i => decide (decode code (pc + 5 * i) = .ok (.aload_n 0, 1) ∧ decode code (pc + 5 * i + 1) = .ok (.iload_n 3, 1) ∧ decode code (pc + 5 * i + 2) = .ok (.iconst ((i + 1 : Nat) : Int), 1) ∧ decode code (pc + 5 * i + 3) = .ok (.iadd, 1) ∧ decode code (pc + 5 * i + 4) = .ok (.iaload, 1))
theorem lt_args (C : zkx D cA adS S0 A p s m args c) (hX : va_X b L xs s s.heap) (hbl : b < s.heap.size) (hbA : ¬ A b) (hS : va_S A s.heap H locs) (hl : lv_has ls 4 (zlv k a2 a1 b)) (hL : L ≤ 320) : ∀ n : Nat, k + n < L → zda pc n = true →
    W p l e room_1 s m args below meth c H locs cells slots Q (F0 m (pc + 5 * n) ls (((List.range n).map (fun i => Value.int (xs (k + (i + 1))))).reverse ++ rest)) → W p l e room_1 s m args below meth c H locs cells slots Q (F0 m pc ls rest) := by
  intro n
  induction n with
  | zero => intro _ _ h; exact h
  | succ n ih =>
    intro hk hd h
    unfold zda at hd
    rw [List.range_succ, List.all_append, Bool.and_eq_true] at hd
    refine ih (by omega) hd.1 ?_
    have d := of_decide_eq_true (List.all_eq_true.mp hd.2 n (List.mem_singleton.mpr rfl))
    refine lt_arg (i := n + 1) C hX hbl hbA hS hl (by omega) hL d ?_
    rw [List.range_succ, List.map_append, List.reverse_append] at h
    exact h
noncomputable def zcs (pc0 n x1 ix1 x2 ix2 : Nat) (off : Int) : Bool :=
  decide (decode code pc0 = .ok (.aload_n 1, 1)) && zda (pc0 + 1) n && decide (decode code (pc0 + 1 + 5 * n) = .ok (.invokevirtual ix1, 3)) && decide (decode code (pc0 + 4 + 5 * n) = .ok (.aload_n 2, 1)) && zda (pc0 + 5 + 5 * n) n &&
  decide (decode code (pc0 + 5 + 10 * n) = .ok (.invokevirtual ix2, 3)) && decide (decode code (pc0 + 8 + 10 * n) = .ok (.if_icmp .eq off, 3)) && decide (((pc0 + 8 + 10 * n : Nat) : Int) + off = 869) && zck x1 ix1 n && zck x2 ix2 n && Nat.beq (xmK x1) 8 && Nat.beq (xmK x2) 9
def zw (D : va_G) (cA : Nat → ClassId) (A : Nat → Prop) (s : State) (ids : List (Nat × Nat)) (ad : Nat × Nat → Nat) (σ : xa_H) (H : Heap) (locs : List Loc) : Prop := va_P D vwCl (xwl cA ids ad σ) H ∧ va_D A (xwl cA ids ad σ) ∧ va_S A s.heap H locs ∧ xhok ids σ
theorem lt_case {pc0 n x1 ix1 x2 ix2 : Nat} {off : Int} (C : zkx D cA adS S0 A p s m args c) (hX : va_X b L xs s s.heap) (hbl : b < s.heap.size) (hbA : ¬ A b) (hL : L ≤ 320) (hI : xids ids xtl5) (hi8 : (8, 0) ∈ ids) (hi9 : (9, 0) ∈ ids) (h99 : ∀ j, ad (99, j) = adS) (hroom : cells ≤ 600000 ∧ slots ≤ 7302250) (hw : zw D cA A s ids ad σ H locs) (hc : yc σ f) (hm : ym σ f) (hl : lv_has ls 4 (zlv k (ad (9, 0)) (ad (8, 0)) b)) (hk : k + n < L)
    (hd : zcs pc0 n x1 ix1 x2 ix2 off = true) (hp : zpair x1 x2 ((List.range n).map (fun i => (xs (k + (i + 1))).toInt)) f)
    (kk : ∀ (σ' f' : xa_H) (H1 : Heap) (locs1 : List Loc), yv f' → yc σ' f' → ym σ' f' → zw D cA A s ids ad σ' H1 locs1 → W p l e room_1 s m args below meth c H1 locs1 cells slots Q (F0 m 869 ls [])) :
    W p l e room_1 s m args below meth c H locs cells slots Q (F0 m pc0 ls []) := by
  unfold zcs at hd
  simp only [Bool.and_eq_true, decide_eq_true_eq] at hd
  obtain ⟨⟨⟨⟨⟨⟨⟨⟨⟨⟨⟨d1, d2⟩, d3⟩, d4⟩, d5⟩, d6⟩, d7⟩, d8⟩, d9⟩, d10⟩, d11⟩, d12⟩ := hd
  have q8 : xmK x1 = 8 := Nat.eq_of_beq_eq_true d11
  have q9 : xmK x2 = 9 := Nat.eq_of_beq_eq_true d12
  have hx := C.1.1
  have hb := C.1.2.1
  obtain ⟨v, f', hv', h1, h2⟩ := hp
  have hlen : ((List.range n).map (fun i => (xs (k + (i + 1))).toInt)).length = n := by simp
  have hconv : ((List.range n).map (fun i => (xs (k + (i + 1))).toInt)).map (fun a => Value.int (Int32.ofInt a)) = (List.range n).map (fun i => Value.int (xs (k + (i + 1)))) := by
    rw [List.map_map]
    apply List.map_congr_left
    intro i _
    show Value.int (Int32.ofInt (xs (k + (i + 1))).toInt) = _
    rw [Int32.ofInt_toInt]
  have hr : ∀ a ∈ (List.range n).map (fun i => (xs (k + (i + 1))).toInt), xr32 a := by
    intro a ha
    obtain ⟨i, -, rfl⟩ := List.mem_map.mp ha
    exact ⟨Int32.le_toInt _, Int32.toInt_lt _⟩
  refine lv_aload_n (k := 1) hx hb d1 rfl (lv_at hl 2 rfl) ?_
  refine lt_args C hX hbl hbA hw.2.2.1 hl hL n hk d2 ?_
  rw [← hconv, ← q8]
  refine lt_op (x := x1) (rest := []) C (by rw [hlen]; exact d9) (by rw [q8]; exact hi8) hI h99 hw.1 hw.2.1 hw.2.2.1 hw.2.2.2 hr (by rw [q8]; exact h1 σ hc hm) hl.1 (by decide) hroom d3 (fun σ1 H1 locs1 hy a1 a2 a3 a4 => ?_)
  rw [show pc0 + 1 + 5 * n + 3 = pc0 + 4 + 5 * n by omega]
  refine lv_aload_n (k := 2) hx hb d4 rfl (lv_at hl 1 rfl) ?_
  rw [show pc0 + 4 + 5 * n + 1 = pc0 + 5 + 5 * n by omega]
  refine lt_args C hX hbl hbA a3 hl hL n hk d5 ?_
  rw [← hconv, ← q9, show pc0 + 5 + 5 * n + 5 * n = pc0 + 5 + 10 * n by omega]
  refine lt_op (x := x2) C (by rw [hlen]; exact d10) (by rw [q9]; exact hi9) hI h99 a1 a2 a3 a4 hr (by rw [q9]; exact h2 σ1 hy.1 hy.2) hl.1 (show 1 + 0 ≤ 8 by decide) hroom d6 (fun σ2 H2 locs2 hy2 b1 b2 b3 b4 => ?_)
  rw [show pc0 + 5 + 10 * n + 3 = pc0 + 8 + 10 * n by omega]
  refine lv_icmp_eq (tgt := 869) hx hb d7 (by exact d8) (fun _ => ?_) (fun hne => absurd rfl hne)
  exact kk σ2 f' H2 locs2 hv' hy2.1 hy2.2 ⟨b1, b2, b3, b4⟩
end ZN
