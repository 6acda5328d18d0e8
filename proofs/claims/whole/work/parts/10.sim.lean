/-! the machine follows the abstract machine: rows (arrays), and the other instructions -/
theorem xand1 (v : Int) : Int32.ofInt v &&& 1 = Int32.ofInt (v % 2) := by
  apply Int32.toBitVec_inj.mp
  have h1 : (Int32.ofInt v &&& 1).toBitVec = BitVec.ofInt 32 v &&& 1#32 := rfl
  have h2 : (Int32.ofInt (v % 2)).toBitVec = BitVec.ofInt 32 (v % 2) := rfl
  rw [h1, h2]
  apply BitVec.eq_of_toNat_eq
  rw [BitVec.toNat_and, BitVec.toNat_ofInt, BitVec.toNat_ofInt, BitVec.toNat_ofNat]
  show _ &&& 1 = _
  rw [Nat.and_one_is_mod]
  omega
section XSIM4
variable {p : Program} {l : Launch} {e : Env} {R : Room} {s : State} {m : MethodId} {args : Array Value} {below : List Frame} {meth : Method} {c : Code} {H : Heap} {locs : List Loc} {cells slots : Nat} {ls : Array Slot} {Q : State → Prop}
variable {D : va_G} {cA : Nat → ClassId} {tyl : List Nat} {ids : List (Nat × Nat)} {ad : Nat × Nat → Nat} {A : Nat → Prop} {k pc nL : Nat} {L L' : xa_L} {S S' : List xa_V} {σ σ' : xa_H} {q : xa_C}
theorem xid_of {K i : Nat} (h : xok ids (.inr (.inr (some (K, i))))) (h9 : ¬ K = 99) : (K, i) ∈ ids := h.resolve_right h9
theorem xaty_99 : xaty 99 = 9 := by decide +kernel
theorem xarr_id {K i : Nat} (h : xok ids (.inr (.inr (some (K, i))))) (h9 : ¬ xaty K = 9) : (K, i) ∈ ids := xid_of h (fun e => h9 (by rw [e]; exact xaty_99))
theorem xsg_ald0 (C : xcx D cA tyl ids ad A p R s m args meth c k) (hdg : decode (xmB k) pc = .ok (.iaload, 1))
    (Y : xdy D cA ids ad A s H locs ls nL L S σ) (hst : xs_aget 0 pc L S σ = some q)
    (kk : ∀ H' locs' ls', xdy D cA ids ad A s H' locs' ls' nL q.2.1 q.2.2.1 q.2.2.2 → W p l e R s m args below meth c H' locs' cells slots Q (F0 m q.1 ls' (q.2.2.1.map (xcv ad)))) : W p l e R s m args below meth c H locs cells slots Q (F0 m pc ls (S.map (xcv ad))) := by
  obtain ⟨⟨hx, hb, hml, hown⟩, hts, ⟨hK, hN, -⟩, hI, -, -, -⟩ := C
  match S, Y, hst with
  | [], _, hst => exact xno hst
  | [.inl _], _, hst => exact xno hst
  | .inr _ :: _, _, hst => exact xno hst
  | .inl _ :: .inl _ :: _, _, hst => exact xno hst
  | .inl _ :: .inr (.inl _) :: _, _, hst => exact xno hst
  | .inl _ :: .inr (.inr none) :: _, _, hst => exact xno hst
  | .inl j :: .inr (.inr (some (K, i))) :: S', Y, hst =>
    have hst : (if xaty K = 0 ∧ 0 ≤ j ∧ j < xalen K then some (pc + 1, L, (.inl (σ K i j.toNat) : xa_V) :: S', σ) else none) = some q := hst
    split at hst
    · rename_i hc
      cases hst
      have hj : xr32 j := Y.2.2.2.1 (.inl j) (by simp)
      have hq : (K, i) ∈ ids := xarr_id (Y.2.2.2.1 (.inr (.inr (some (K, i)))) (by simp)) (by omega)
      obtain ⟨n, hn, he⟩ := xwl_get (cA := cA) (ad := ad) (σ := σ) hq
      rw [xent_arr (q := (K, i)) (Or.inl hc.1)] at he
      obtain ⟨t0, ht⟩ := xtys_get (cA := cA) ((hI.2.1 _ hq).2.2 (show ¬ xaty K = 9 by omega))
      have ht : (xtys cA tyl)[t0]? = some (cA (xaty K), .int) := by rw [ht]; show some (cA (xaty K), xtyp (xaty K)) = _; rw [hc.1]; rfl
      have hcl := xcl32 hj
      refine va_iald hx hb hK Y.1.1 n t0 he ht (xvin hj hc.2.1 hc.2.2) hdg ?_
      rw [hcl]
      exact kk H locs ls (xdy_push (v := .inl (σ K i j.toNat)) Y (fun w hw => by simp [hw]) ((Y.2.1 _ hq j.toNat).2.1 (Or.inl hc.1)))
    · exact xno hst
theorem xsg_ald1 (C : xcx D cA tyl ids ad A p R s m args meth c k) (hdg : decode (xmB k) pc = .ok (.baload, 1))
    (Y : xdy D cA ids ad A s H locs ls nL L S σ) (hst : xs_aget 1 pc L S σ = some q)
    (kk : ∀ H' locs' ls', xdy D cA ids ad A s H' locs' ls' nL q.2.1 q.2.2.1 q.2.2.2 → W p l e R s m args below meth c H' locs' cells slots Q (F0 m q.1 ls' (q.2.2.1.map (xcv ad)))) : W p l e R s m args below meth c H locs cells slots Q (F0 m pc ls (S.map (xcv ad))) := by
  obtain ⟨⟨hx, hb, hml, hown⟩, hts, ⟨hK, hN, -⟩, hI, -, -, -⟩ := C
  match S, Y, hst with
  | [], _, hst => exact xno hst
  | [.inl _], _, hst => exact xno hst
  | .inr _ :: _, _, hst => exact xno hst
  | .inl _ :: .inl _ :: _, _, hst => exact xno hst
  | .inl _ :: .inr (.inl _) :: _, _, hst => exact xno hst
  | .inl _ :: .inr (.inr none) :: _, _, hst => exact xno hst
  | .inl j :: .inr (.inr (some (K, i))) :: S', Y, hst =>
    have hst : (if xaty K = 1 ∧ 0 ≤ j ∧ j < xalen K then some (pc + 1, L, (.inl (σ K i j.toNat) : xa_V) :: S', σ) else none) = some q := hst
    split at hst
    · rename_i hc
      cases hst
      have hj : xr32 j := Y.2.2.2.1 (.inl j) (by simp)
      have hq : (K, i) ∈ ids := xarr_id (Y.2.2.2.1 (.inr (.inr (some (K, i)))) (by simp)) (by omega)
      obtain ⟨n, hn, he⟩ := xwl_get (cA := cA) (ad := ad) (σ := σ) hq
      rw [xent_arr (q := (K, i)) (Or.inr hc.1)] at he
      obtain ⟨t0, ht⟩ := xtys_get (cA := cA) ((hI.2.1 _ hq).2.2 (show ¬ xaty K = 9 by omega))
      have ht : (xtys cA tyl)[t0]? = some (cA (xaty K), .boolean) := by rw [ht]; show some (cA (xaty K), xtyp (xaty K)) = _; rw [hc.1]; rfl
      have hcl := xcl32 hj
      refine va_zald hx hb hK Y.1.1 n t0 he ht (xvin hj hc.2.1 hc.2.2) hdg ?_
      rw [hcl]
      exact kk H locs ls (xdy_push (v := .inl (σ K i j.toNat)) Y (fun w hw => by simp [hw]) ((Y.2.1 _ hq j.toNat).2.1 (Or.inr hc.1)))
    · exact xno hst
theorem xsg_ald2 (C : xcx D cA tyl ids ad A p R s m args meth c k) (hdg : decode (xmB k) pc = .ok (.laload, 1))
    (Y : xdy D cA ids ad A s H locs ls nL L S σ) (hst : xs_aget 2 pc L S σ = some q)
    (kk : ∀ H' locs' ls', xdy D cA ids ad A s H' locs' ls' nL q.2.1 q.2.2.1 q.2.2.2 → W p l e R s m args below meth c H' locs' cells slots Q (F0 m q.1 ls' (q.2.2.1.map (xcv ad)))) : W p l e R s m args below meth c H locs cells slots Q (F0 m pc ls (S.map (xcv ad))) := by
  obtain ⟨⟨hx, hb, hml, hown⟩, hts, ⟨hK, hN, -⟩, hI, -, -, -⟩ := C
  match S, Y, hst with
  | [], _, hst => exact xno hst
  | [.inl _], _, hst => exact xno hst
  | .inr _ :: _, _, hst => exact xno hst
  | .inl _ :: .inl _ :: _, _, hst => exact xno hst
  | .inl _ :: .inr (.inl _) :: _, _, hst => exact xno hst
  | .inl _ :: .inr (.inr none) :: _, _, hst => exact xno hst
  | .inl j :: .inr (.inr (some (K, i))) :: S', Y, hst =>
    have hst : (if xaty K = 2 ∧ 0 ≤ j ∧ j < xalen K then some (pc + 1, L, (.inr (.inl (σ K i j.toNat)) : xa_V) :: S', σ) else none) = some q := hst
    split at hst
    · rename_i hc
      cases hst
      have hj : xr32 j := Y.2.2.2.1 (.inl j) (by simp)
      have hq : (K, i) ∈ ids := xarr_id (Y.2.2.2.1 (.inr (.inr (some (K, i)))) (by simp)) (by omega)
      obtain ⟨n, hn, he⟩ := xwl_get (cA := cA) (ad := ad) (σ := σ) hq
      rw [xent_long (q := (K, i)) hc.1] at he
      obtain ⟨t0, ht⟩ := xtys_get (cA := cA) ((hI.2.1 _ hq).2.2 (show ¬ xaty K = 9 by omega))
      have ht : (xtys cA tyl)[t0]? = some (cA (xaty K), .long) := by rw [ht]; show some (cA (xaty K), xtyp (xaty K)) = _; rw [hc.1]; rfl
      have hcl := xcl32 hj
      refine va_lald hx hb hK Y.1.1 n t0 he ht (xvin hj hc.2.1 hc.2.2) hdg ?_
      rw [hcl]
      exact kk H locs ls (xdy_push (v := .inr (.inl (σ K i j.toNat))) Y (fun w hw => by simp [hw]) ((Y.2.1 _ hq j.toNat).2.2 hc.1))
    · exact xno hst
theorem xsg_aald (C : xcx D cA tyl ids ad A p R s m args meth c k) (hdg : decode (xmB k) pc = .ok (.aaload, 1))
    (Y : xdy D cA ids ad A s H locs ls nL L S σ) (hst : xstp k (.aaload, 1, 0, 0, 0) pc L S σ = some q)
    (kk : ∀ H' locs' ls', xdy D cA ids ad A s H' locs' ls' nL q.2.1 q.2.2.1 q.2.2.2 → W p l e R s m args below meth c H' locs' cells slots Q (F0 m q.1 ls' (q.2.2.1.map (xcv ad)))) : W p l e R s m args below meth c H locs cells slots Q (F0 m pc ls (S.map (xcv ad))) := by
  obtain ⟨⟨hx, hb, hml, hown⟩, hts, ⟨hK, hN, -⟩, hI, -, -, -⟩ := C
  match S, Y, hst with
  | [], _, hst => exact xno hst
  | [.inl _], _, hst => exact xno hst
  | .inr _ :: _, _, hst => exact xno hst
  | .inl _ :: .inl _ :: _, _, hst => exact xno hst
  | .inl _ :: .inr (.inl _) :: _, _, hst => exact xno hst
  | .inl _ :: .inr (.inr none) :: _, _, hst => exact xno hst
  | .inl j :: .inr (.inr (some (K, i))) :: S', Y, hst =>
    have hst : (if (xaty K = 5 ∨ xaty K = 6) ∧ 0 ≤ j ∧ j < xalen K then some (pc + 1, L, (.inr (.inr (some (xar K i j.toNat))) : xa_V) :: S', σ) else none) = some q := hst
    split at hst
    · rename_i hc
      cases hst
      have hj : xr32 j := Y.2.2.2.1 (.inl j) (by simp)
      have hq : (K, i) ∈ ids := xarr_id (Y.2.2.2.1 (.inr (.inr (some (K, i)))) (by simp)) (by omega)
      obtain ⟨n, hn, he⟩ := xwl_get (cA := cA) (ad := ad) (σ := σ) hq
      rw [xent_ref (q := (K, i)) hc.1] at he
      obtain ⟨t0, ht⟩ := xtys_get (cA := cA) ((hI.2.1 _ hq).2.2 (show ¬ xaty K = 9 by omega))
      have ht : ∃ C : String, (xtys cA tyl)[t0]? = some (cA (xaty K), .object C) := by
        rcases hc.1 with h | h
        · exact ⟨"SofaStair$Thing", by rw [ht]; show some (cA (xaty K), xtyp (xaty K)) = _; rw [h]; rfl⟩
        · exact ⟨"SofaStair$Stair", by rw [ht]; show some (cA (xaty K), xtyp (xaty K)) = _; rw [h]; rfl⟩
      obtain ⟨C, ht⟩ := ht
      have hcl := xcl32 hj
      refine va_aldq hx hb hK Y.1.1 n t0 he ht (xvin hj hc.2.1 hc.2.2) hdg ?_
      rw [hcl]
      have hlt : j.toNat < xalen K := by have h1 := hc.2.1; have h2 := hc.2.2; omega
      exact kk H locs ls (xdy_push (v := .inr (.inr (some (xar K i j.toNat)))) Y (fun w hw => by simp [hw]) (Or.inl (hI.2.2.2 _ hq j.toNat hc.1 hlt)))
    · exact xno hst
theorem xsg_alen (C : xcx D cA tyl ids ad A p R s m args meth c k) (hdg : decode (xmB k) pc = .ok (.arraylength, 1))
    (Y : xdy D cA ids ad A s H locs ls nL L S σ) (hst : xstp k (.arraylength, 1, 0, 0, 0) pc L S σ = some q)
    (kk : ∀ H' locs' ls', xdy D cA ids ad A s H' locs' ls' nL q.2.1 q.2.2.1 q.2.2.2 → W p l e R s m args below meth c H' locs' cells slots Q (F0 m q.1 ls' (q.2.2.1.map (xcv ad)))) : W p l e R s m args below meth c H locs cells slots Q (F0 m pc ls (S.map (xcv ad))) := by
  obtain ⟨⟨hx, hb, hml, hown⟩, hts, ⟨hK, hN, -⟩, hI, -, -, -⟩ := C
  match S, Y, hst with
  | [], _, hst => exact xno hst
  | .inl _ :: _, _, hst => exact xno hst
  | .inr (.inl _) :: _, _, hst => exact xno hst
  | .inr (.inr none) :: _, _, hst => exact xno hst
  | .inr (.inr (some (K, i))) :: S', Y, hst =>
    have hst : (if xaty K = 9 ∨ K = 99 then none else some (pc + 1, L, (.inl (xalen K : Int) : xa_V) :: S', σ)) = some q := hst
    split at hst
    · exact xno hst
    · rename_i hc
      cases hst
      have hq : (K, i) ∈ ids := xarr_id (Y.2.2.2.1 (.inr (.inr (some (K, i)))) (by simp)) (by omega)
      obtain ⟨n, hn, he⟩ := xwl_get (cA := cA) (ad := ad) (σ := σ) hq
      obtain ⟨x, hx1, hx2⟩ := xent_any (cA := cA) (ad := ad) (q := (K, i)) (f := σ K i) (show ¬ xaty K = 9 by omega)
      rw [hx2] at he
      obtain ⟨t0, ht⟩ := xtys_get (cA := cA) ((hI.2.1 _ hq).2.2 (show ¬ xaty K = 9 by omega))
      refine va_alen (v := Int32.ofInt (xalen K : Int)) hx hb hK Y.1.1 n t0 he ht ?_ hdg ?_
      · rw [hx1]
        exact (Int32.ofInt_eq_ofNat).symm
      · have := xalen_lt K
        exact kk H locs ls (xdy_push (v := .inl (xalen K : Int)) Y (fun w hw => by simp [hw]) ⟨by omega, by omega⟩)
theorem xsg_ast0 (C : xcx D cA tyl ids ad A p R s m args meth c k) (hdg : decode (xmB k) pc = .ok (.iastore, 1))
    (Y : xdy D cA ids ad A s H locs ls nL L S σ) (hst : xs_aput k 0 pc L S σ = some q)
    (kk : ∀ H' locs' ls', xdy D cA ids ad A s H' locs' ls' nL q.2.1 q.2.2.1 q.2.2.2 → W p l e R s m args below meth c H' locs' cells slots Q (F0 m q.1 ls' (q.2.2.1.map (xcv ad)))) : W p l e R s m args below meth c H locs cells slots Q (F0 m pc ls (S.map (xcv ad))) := by
  obtain ⟨⟨hx, hb, hml, hown⟩, hts, ⟨hK, hN, -⟩, hI, -, -, -⟩ := C
  unfold xs_aput at hst
  split at hst
  · rename_i v j K i S' 
    split at hst
    · rename_i hc
      cases hst
      have hv : xr32 v := Y.2.2.2.1 (.inl v) (by simp)
      have hj : xr32 j := Y.2.2.2.1 (.inl j) (by simp)
      have hq : (K, i) ∈ ids := xarr_id (Y.2.2.2.1 (.inr (.inr (some (K, i)))) (by simp)) (by omega)
      obtain ⟨n, hn, he⟩ := xwl_get (cA := cA) (ad := ad) (σ := σ) hq
      rw [xent_arr (q := (K, i)) (Or.inl hc.2.1)] at he
      obtain ⟨t0, ht⟩ := xtys_get (cA := cA) ((hI.2.1 _ hq).2.2 (show ¬ xaty K = 9 by omega))
      have ht : (xtys cA tyl)[t0]? = some (cA (xaty K), .int) := by rw [ht]; show some (cA (xaty K), xtyp (xaty K)) = _; rw [hc.2.1]; rfl
      have hcl := xcl32 hj
      refine va_iast hx hb hK Y.1.1 Y.1.2.1 Y.1.2.2 n t0 he ht (xvin hj hc.2.2.1.1 hc.2.2.1.2) hdg (fun H1 locs1 hP hD hS => ?_)
      have e1 : (ad (K, i), (.inl (cA (xaty K), xalen K, .inl (upd (fun j => Int32.ofInt (σ K i j)) (Int32.ofInt j).toNatClampNeg (Int32.ofInt v))) : va_E)) = (ad (K, i), xent cA ad (K, i) (xup σ K i j.toNat v K i)) := by
        rw [xent_arr (q := (K, i)) (Or.inl hc.2.1), xup_eq, hcl]
        have e2 : upd (fun j => Int32.ofInt (σ K i j)) j.toNat (Int32.ofInt v) = fun j_1 => Int32.ofInt (if j_1 = j.toNat then v else σ K i j_1) := by
          funext a
          unfold upd
          split <;> rfl
        rw [e2]
      rw [e1, xwl_set hI.1 hn] at hP hD
      exact kk H1 locs1 ls ⟨⟨hP, hD, hS⟩, xhok_int Y.2.1 (by omega) (by omega) hv, Y.2.2.1, fun w hw => Y.2.2.2.1 w (by simp [hw]), Y.2.2.2.2⟩
    · exact xno hst
  · split at hst
    · rename_i hc
      exact absurd hc.1 (by decide)
    · exact xno hst
  · exact xno hst
theorem xsg_ast1 (C : xcx D cA tyl ids ad A p R s m args meth c k) (hdg : decode (xmB k) pc = .ok (.bastore, 1))
    (Y : xdy D cA ids ad A s H locs ls nL L S σ) (hst : xs_aput k 1 pc L S σ = some q)
    (kk : ∀ H' locs' ls', xdy D cA ids ad A s H' locs' ls' nL q.2.1 q.2.2.1 q.2.2.2 → W p l e R s m args below meth c H' locs' cells slots Q (F0 m q.1 ls' (q.2.2.1.map (xcv ad)))) : W p l e R s m args below meth c H locs cells slots Q (F0 m pc ls (S.map (xcv ad))) := by
  obtain ⟨⟨hx, hb, hml, hown⟩, hts, ⟨hK, hN, -⟩, hI, -, -, -⟩ := C
  unfold xs_aput at hst
  split at hst
  · rename_i v j K i S' 
    split at hst
    · rename_i hc
      cases hst
      have hv : xr32 v := Y.2.2.2.1 (.inl v) (by simp)
      have hj : xr32 j := Y.2.2.2.1 (.inl j) (by simp)
      have hq : (K, i) ∈ ids := xarr_id (Y.2.2.2.1 (.inr (.inr (some (K, i)))) (by simp)) (by omega)
      obtain ⟨n, hn, he⟩ := xwl_get (cA := cA) (ad := ad) (σ := σ) hq
      rw [xent_arr (q := (K, i)) (Or.inr hc.2.1)] at he
      obtain ⟨t0, ht⟩ := xtys_get (cA := cA) ((hI.2.1 _ hq).2.2 (show ¬ xaty K = 9 by omega))
      have ht : (xtys cA tyl)[t0]? = some (cA (xaty K), .boolean) := by rw [ht]; show some (cA (xaty K), xtyp (xaty K)) = _; rw [hc.2.1]; rfl
      have hcl := xcl32 hj
      refine va_zast hx hb hK Y.1.1 Y.1.2.1 Y.1.2.2 n t0 he ht (xvin hj hc.2.2.1.1 hc.2.2.1.2) hdg (fun H1 locs1 hP hD hS => ?_)
      have e0 : vp_nar .boolean (Int32.ofInt v) = Int32.ofInt (v % 2) := xand1 v
      have e1 : (ad (K, i), (.inl (cA (xaty K), xalen K, .inl (upd (fun j => Int32.ofInt (σ K i j)) (Int32.ofInt j).toNatClampNeg (vp_nar .boolean (Int32.ofInt v)))) : va_E)) = (ad (K, i), xent cA ad (K, i) (xup σ K i j.toNat (v % 2) K i)) := by
        rw [xent_arr (q := (K, i)) (Or.inr hc.2.1), xup_eq, hcl, e0]
        have e2 : upd (fun j => Int32.ofInt (σ K i j)) j.toNat (Int32.ofInt (v % 2)) = fun j_1 => Int32.ofInt (if j_1 = j.toNat then v % 2 else σ K i j_1) := by
          funext a
          unfold upd
          split <;> rfl
        rw [e2]
      rw [e1, xwl_set hI.1 hn] at hP hD
      have hv2 : xr32 (v % 2) := ⟨by omega, by omega⟩
      exact kk H1 locs1 ls ⟨⟨hP, hD, hS⟩, xhok_int Y.2.1 (by omega) (by omega) hv2, Y.2.2.1, fun w hw => Y.2.2.2.1 w (by simp [hw]), Y.2.2.2.2⟩
    · exact xno hst
  · split at hst
    · rename_i hc
      exact absurd hc.1 (by decide)
    · exact xno hst
  · exact xno hst
theorem xsg_ast2 (C : xcx D cA tyl ids ad A p R s m args meth c k) (hdg : decode (xmB k) pc = .ok (.lastore, 1))
    (Y : xdy D cA ids ad A s H locs ls nL L S σ) (hst : xs_aput k 2 pc L S σ = some q)
    (kk : ∀ H' locs' ls', xdy D cA ids ad A s H' locs' ls' nL q.2.1 q.2.2.1 q.2.2.2 → W p l e R s m args below meth c H' locs' cells slots Q (F0 m q.1 ls' (q.2.2.1.map (xcv ad)))) : W p l e R s m args below meth c H locs cells slots Q (F0 m pc ls (S.map (xcv ad))) := by
  obtain ⟨⟨hx, hb, hml, hown⟩, hts, ⟨hK, hN, -⟩, hI, -, -, -⟩ := C
  unfold xs_aput at hst
  split at hst
  · split at hst
    · rename_i hc
      exact absurd hc.1 (by decide)
    · exact xno hst
  · rename_i v j K i S' 
    split at hst
    · rename_i hc
      cases hst
      have hv : xr64 v := Y.2.2.2.1 (.inr (.inl v)) (by simp)
      have hj : xr32 j := Y.2.2.2.1 (.inl j) (by simp)
      have hq : (K, i) ∈ ids := xarr_id (Y.2.2.2.1 (.inr (.inr (some (K, i)))) (by simp)) (by omega)
      obtain ⟨n, hn, he⟩ := xwl_get (cA := cA) (ad := ad) (σ := σ) hq
      rw [xent_long (q := (K, i)) hc.2.1] at he
      obtain ⟨t0, ht⟩ := xtys_get (cA := cA) ((hI.2.1 _ hq).2.2 (show ¬ xaty K = 9 by omega))
      have ht : (xtys cA tyl)[t0]? = some (cA (xaty K), .long) := by rw [ht]; show some (cA (xaty K), xtyp (xaty K)) = _; rw [hc.2.1]; rfl
      have hcl := xcl32 hj
      refine va_last hx hb hK Y.1.1 Y.1.2.1 Y.1.2.2 n t0 he ht (xvin hj hc.2.2.1.1 hc.2.2.1.2) hdg (fun H1 locs1 hP hD hS => ?_)
      have e1 : (ad (K, i), (.inl (cA (xaty K), xalen K, .inr (.inl (vp_updL (fun j => Int64.ofInt (σ K i j)) (Int32.ofInt j).toNatClampNeg (Int64.ofInt v)))) : va_E)) = (ad (K, i), xent cA ad (K, i) (xup σ K i j.toNat v K i)) := by
        rw [xent_long (q := (K, i)) hc.2.1, xup_eq, hcl]
        have e2 : vp_updL (fun j => Int64.ofInt (σ K i j)) j.toNat (Int64.ofInt v) = fun j_1 => Int64.ofInt (if j_1 = j.toNat then v else σ K i j_1) := by
          funext a
          unfold vp_updL
          split <;> rfl
        rw [e2]
      rw [e1, xwl_set hI.1 hn] at hP hD
      exact kk H1 locs1 ls ⟨⟨hP, hD, hS⟩, xhok_long Y.2.1 hc.2.1 hv, Y.2.2.1, fun w hw => Y.2.2.2.1 w (by simp [hw]), Y.2.2.2.2⟩
    · exact xno hst
  · exact xno hst
end XSIM4
