/-! methods as functions, printed by wip/whole/gen/gen5.py -/
theorem e_255 {pc : Nat} {en : xa_I} (h : xlk pc xc_255 = some en) : xcd 255 pc = some en := h
noncomputable def fm_M_turnable_36 (f1 : Int) (f2 : Int) (f3 : Int) (σ : xa_H) (K : Int → Option (Int × xa_H)) : Nat → Int → Int → Int → Option (Int × xa_H)
  | 0, _, _, _ => none
  | n + 1, x4, x5, x6 =>
    if 4 ≤ x6 then
      K x5
    else
      xj (fun (v3 : Int) =>
        if 0 ≤ (w32 ((w32 (6 * x4)) + 2)) ∧ (w32 ((w32 (6 * x4)) + 2)) < 144 then
          xnm ((σ 51 0 ((w32 ((w32 (6 * x4)) + 2)).toNat)) : Int) fun v7 =>
          xnm (w32 (x6 + 1) : Int) fun v8 =>
          fm_M_turnable_36 f1 f2 f3 σ K n v7 v3 v8
        else none) fun K4 =>
      if x5 = 0 then
        K4 0
      else
        if 0 ≤ (w32 ((w32 (144 * x4)) + f3)) ∧ (w32 ((w32 (144 * x4)) + f3)) < 3456 then
          if (σ 70 0 ((w32 ((w32 (144 * x4)) + f3)).toNat)) = 0 then
            K4 0
          else
            K4 1
        else none
theorem jl_M_turnable_36 (f1 : Int) (f2 : Int) (f3 : Int) (σ : xa_H)  (K : Int → Option (Int × xa_H)) (hK36 : ∀ (z0 : Int), J 255 90 [(0, xr 9 0), (1, xi f1), (2, xi f2), (3, xi f3), (5, xi z0)] [] σ jqW (K z0)) : ∀ (n : Nat) (x4 : Int) (x5 : Int) (x6 : Int), J 255 36 [(0, xr 9 0), (1, xi f1), (2, xi f2), (3, xi f3), (4, xi x4), (5, xi x5), (6, xi x6)] [] σ jqW (fm_M_turnable_36 f1 f2 f3 σ K n x4 x5 x6) := by
  intro n
  induction n with
  | zero => intro x4 x5 x6; exact jr_none
  | succ n ih36 =>
    intro x4 x5 x6
    rw [fm_M_turnable_36]
    refine jr_iload (e_255 rfl) rfl rfl ?_
    refine jr_iconst (e_255 rfl) rfl ?_
    refine jr_bri (c := 4 ≤ x6) (pt := 90) (pn := 42) (e_255 rfl) rfl rfl (fun h1 => ?_) (fun h1 => ?_)
    · exact jr_sub (show ([0, 1, 2, 3, 4, 5, 6] : List Nat).Nodup from by decide) (xsb_c (List.Mem.head _) (xsb_c (List.Mem.tail _ (List.Mem.head _)) (xsb_c (List.Mem.tail _ (List.Mem.tail _ (List.Mem.head _))) (xsb_c (List.Mem.tail _ (List.Mem.tail _ (List.Mem.tail _ (List.Mem.head _)))) (xsb_c (List.Mem.tail _ (List.Mem.tail _ (List.Mem.tail _ (List.Mem.tail _ (List.Mem.tail _ (List.Mem.head _)))))) xsb_n))))) (hK36 x5)
    · refine jr_iload (e_255 rfl) rfl rfl ?_
      refine jr_j (fun K4 => ∀ (v3 : Int), J 255 68 [(0, xr 9 0), (1, xi f1), (2, xi f2), (3, xi f3), (4, xi x4), (6, xi x6)] [xi v3] σ jqW (K4 v3)) (fun v3 => ?_) (fun K4 hK4 => ?_)
      · refine jr_istore (L' := [(5, xi v3), (0, xr 9 0), (1, xi f1), (2, xi f2), (3, xi f3), (4, xi x4), (6, xi x6)]) (e_255 rfl) rfl rfl rfl ?_
        refine jr_aload_n (e_255 rfl) rfl rfl ?_
        refine jr_getr (K2 := 51) (i2 := 0) (e_255 rfl) rfl rfl rfl ?_
        refine jr_bipush (e_255 rfl) rfl ?_
        refine jr_iload (e_255 rfl) rfl rfl ?_
        refine jr_imul (e_255 rfl) rfl ?_
        refine jr_iconst (e_255 rfl) rfl ?_
        refine jr_iadd (e_255 rfl) rfl ?_
        refine jr_ald (n := 144) (e_255 rfl) rfl rfl rfl ?_
        refine jr_nm (fun v7 => ?_)
        refine jr_istore (L' := [(4, xi v7), (5, xi v3), (0, xr 9 0), (1, xi f1), (2, xi f2), (3, xi f3), (6, xi x6)]) (e_255 rfl) rfl rfl rfl ?_
        refine jr_iinc (L2 := fun c => [(6, xi c), (4, xi v7), (5, xi v3), (0, xr 9 0), (1, xi f1), (2, xi f2), (3, xi f3)]) (e_255 rfl) rfl rfl rfl (fun _ => rfl) (fun v8 => ?_)
        refine jr_goto (pc' := 36) (e_255 rfl) rfl ?_
        exact jr_sub (show ([6, 4, 5, 0, 1, 2, 3] : List Nat).Nodup from by decide) (xsb_c (List.Mem.tail _ (List.Mem.tail _ (List.Mem.tail _ (List.Mem.head _)))) (xsb_c (List.Mem.tail _ (List.Mem.tail _ (List.Mem.tail _ (List.Mem.tail _ (List.Mem.head _))))) (xsb_c (List.Mem.tail _ (List.Mem.tail _ (List.Mem.tail _ (List.Mem.tail _ (List.Mem.tail _ (List.Mem.head _)))))) (xsb_c (List.Mem.tail _ (List.Mem.tail _ (List.Mem.tail _ (List.Mem.tail _ (List.Mem.tail _ (List.Mem.tail _ (List.Mem.head _))))))) (xsb_c (List.Mem.tail _ (List.Mem.head _)) (xsb_c (List.Mem.tail _ (List.Mem.tail _ (List.Mem.head _))) (xsb_c (List.Mem.head _) xsb_n))))))) (ih36 v7 v3 v8)
      · refine jr_bri (c := x5 = 0) (pt := 67) (pn := 47) (e_255 rfl) rfl rfl (fun h5 => ?_) (fun h5 => ?_)
        · refine jr_iconst (e_255 rfl) rfl ?_
          exact jr_sub (show ([0, 1, 2, 3, 4, 5, 6] : List Nat).Nodup from by decide) (xsb_c (List.Mem.head _) (xsb_c (List.Mem.tail _ (List.Mem.head _)) (xsb_c (List.Mem.tail _ (List.Mem.tail _ (List.Mem.head _))) (xsb_c (List.Mem.tail _ (List.Mem.tail _ (List.Mem.tail _ (List.Mem.head _)))) (xsb_c (List.Mem.tail _ (List.Mem.tail _ (List.Mem.tail _ (List.Mem.tail _ (List.Mem.head _))))) (xsb_c (List.Mem.tail _ (List.Mem.tail _ (List.Mem.tail _ (List.Mem.tail _ (List.Mem.tail _ (List.Mem.tail _ (List.Mem.head _))))))) xsb_n)))))) (hK4 0)
        · refine jr_aload_n (e_255 rfl) rfl rfl ?_
          refine jr_getr (K2 := 70) (i2 := 0) (e_255 rfl) rfl rfl rfl ?_
          refine jr_sipush (e_255 rfl) rfl ?_
          refine jr_iload (e_255 rfl) rfl rfl ?_
          refine jr_imul (e_255 rfl) rfl ?_
          refine jr_iload_n (e_255 rfl) rfl rfl ?_
          refine jr_iadd (e_255 rfl) rfl ?_
          refine jr_bald (n := 3456) (e_255 rfl) rfl rfl rfl ?_
          refine jr_bri (c := (σ 70 0 ((w32 ((w32 (144 * x4)) + f3)).toNat)) = 0) (pt := 67) (pn := 63) (e_255 rfl) rfl rfl (fun h6 => ?_) (fun h6 => ?_)
          · refine jr_iconst (e_255 rfl) rfl ?_
            exact jr_sub (show ([0, 1, 2, 3, 4, 5, 6] : List Nat).Nodup from by decide) (xsb_c (List.Mem.head _) (xsb_c (List.Mem.tail _ (List.Mem.head _)) (xsb_c (List.Mem.tail _ (List.Mem.tail _ (List.Mem.head _))) (xsb_c (List.Mem.tail _ (List.Mem.tail _ (List.Mem.tail _ (List.Mem.head _)))) (xsb_c (List.Mem.tail _ (List.Mem.tail _ (List.Mem.tail _ (List.Mem.tail _ (List.Mem.head _))))) (xsb_c (List.Mem.tail _ (List.Mem.tail _ (List.Mem.tail _ (List.Mem.tail _ (List.Mem.tail _ (List.Mem.tail _ (List.Mem.head _))))))) xsb_n)))))) (hK4 0)
          · refine jr_iconst (e_255 rfl) rfl ?_
            refine jr_goto (pc' := 68) (e_255 rfl) rfl ?_
            exact jr_sub (show ([0, 1, 2, 3, 4, 5, 6] : List Nat).Nodup from by decide) (xsb_c (List.Mem.head _) (xsb_c (List.Mem.tail _ (List.Mem.head _)) (xsb_c (List.Mem.tail _ (List.Mem.tail _ (List.Mem.head _))) (xsb_c (List.Mem.tail _ (List.Mem.tail _ (List.Mem.tail _ (List.Mem.head _)))) (xsb_c (List.Mem.tail _ (List.Mem.tail _ (List.Mem.tail _ (List.Mem.tail _ (List.Mem.head _))))) (xsb_c (List.Mem.tail _ (List.Mem.tail _ (List.Mem.tail _ (List.Mem.tail _ (List.Mem.tail _ (List.Mem.tail _ (List.Mem.head _))))))) xsb_n)))))) (hK4 1)
noncomputable def fm_M_turnable_15 (f1 : Int) (σ : xa_H) (K : Int → Option (Int × xa_H)) : Nat → Int → Int → Option (Int × xa_H)
  | 0, _, _ => none
  | n + 1, x2, x3 =>
    if 144 ≤ x3 then
      K x2
    else
      if 0 ≤ f1 ∧ f1 < 5 then
        xnm ((σ 63 0 f1.toNat) : Int) fun v2 =>
        fm_M_turnable_36 f1 x2 x3 σ (fun (v9 : Int) =>
          if v9 = 0 then
            xnm ((w32 (x2 + 0)) : Int) fun v11 =>
            xnm (w32 (x3 + 1) : Int) fun v12 =>
            fm_M_turnable_15 f1 σ K n v11 v12
          else
            xnm ((w32 (x2 + 1)) : Int) fun v13 =>
            xnm (w32 (x3 + 1) : Int) fun v14 =>
            fm_M_turnable_15 f1 σ K n v13 v14) xFU v2 1 0
      else none
theorem jl_M_turnable_15 (f1 : Int) (σ : xa_H)  (K : Int → Option (Int × xa_H)) (hK15 : ∀ (z0 : Int), J 255 109 [(2, xi z0)] [] σ jqW (K z0)) : ∀ (n : Nat) (x2 : Int) (x3 : Int), J 255 15 [(0, xr 9 0), (1, xi f1), (2, xi x2), (3, xi x3)] [] σ jqW (fm_M_turnable_15 f1 σ K n x2 x3) := by
  intro n
  induction n with
  | zero => intro x2 x3; exact jr_none
  | succ n ih15 =>
    intro x2 x3
    rw [fm_M_turnable_15]
    refine jr_iload_n (e_255 rfl) rfl rfl ?_
    refine jr_sipush (e_255 rfl) rfl ?_
    refine jr_bri (c := 144 ≤ x3) (pt := 109) (pn := 22) (e_255 rfl) rfl rfl (fun h1 => ?_) (fun h1 => ?_)
    · exact jr_sub (show ([0, 1, 2, 3] : List Nat).Nodup from by decide) (xsb_c (List.Mem.tail _ (List.Mem.tail _ (List.Mem.head _))) xsb_n) (hK15 x2)
    · refine jr_aload_n (e_255 rfl) rfl rfl ?_
      refine jr_getr (K2 := 63) (i2 := 0) (e_255 rfl) rfl rfl rfl ?_
      refine jr_iload_n (e_255 rfl) rfl rfl ?_
      refine jr_ald (n := 5) (e_255 rfl) rfl rfl rfl ?_
      refine jr_nm (fun v2 => ?_)
      refine jr_istore (L' := [(4, xi v2), (0, xr 9 0), (1, xi f1), (2, xi x2), (3, xi x3)]) (e_255 rfl) rfl rfl rfl ?_
      refine jr_iconst (e_255 rfl) rfl ?_
      refine jr_istore (L' := [(5, xi 1), (4, xi v2), (0, xr 9 0), (1, xi f1), (2, xi x2), (3, xi x3)]) (e_255 rfl) rfl rfl rfl ?_
      refine jr_iconst (e_255 rfl) rfl ?_
      refine jr_istore (L' := [(6, xi 0), (5, xi 1), (4, xi v2), (0, xr 9 0), (1, xi f1), (2, xi x2), (3, xi x3)]) (e_255 rfl) rfl rfl rfl ?_
      refine jr_sub (show ([6, 5, 4, 0, 1, 2, 3] : List Nat).Nodup from by decide) (xsb_c (List.Mem.tail _ (List.Mem.tail _ (List.Mem.tail _ (List.Mem.head _)))) (xsb_c (List.Mem.tail _ (List.Mem.tail _ (List.Mem.tail _ (List.Mem.tail _ (List.Mem.head _))))) (xsb_c (List.Mem.tail _ (List.Mem.tail _ (List.Mem.tail _ (List.Mem.tail _ (List.Mem.tail _ (List.Mem.head _)))))) (xsb_c (List.Mem.tail _ (List.Mem.tail _ (List.Mem.tail _ (List.Mem.tail _ (List.Mem.tail _ (List.Mem.tail _ (List.Mem.head _))))))) (xsb_c (List.Mem.tail _ (List.Mem.tail _ (List.Mem.head _))) (xsb_c (List.Mem.tail _ (List.Mem.head _)) (xsb_c (List.Mem.head _) xsb_n))))))) (jl_M_turnable_36 f1 x2 x3 σ _ (fun v9 => ?_) xFU v2 1 0)
      refine jr_iload_n (e_255 rfl) rfl rfl ?_
      refine jr_iload (e_255 rfl) rfl rfl ?_
      refine jr_bri (c := v9 = 0) (pt := 100) (pn := 96) (e_255 rfl) rfl rfl (fun h10 => ?_) (fun h10 => ?_)
      · refine jr_iconst (e_255 rfl) rfl ?_
        refine jr_iadd (e_255 rfl) rfl ?_
        refine jr_nm (fun v11 => ?_)
        refine jr_istore_n (L' := [(2, xi v11), (0, xr 9 0), (1, xi f1), (3, xi x3), (5, xi v9)]) (e_255 rfl) rfl rfl rfl ?_
        refine jr_iinc (L2 := fun c => [(3, xi c), (2, xi v11), (0, xr 9 0), (1, xi f1), (5, xi v9)]) (e_255 rfl) rfl rfl rfl (fun _ => rfl) (fun v12 => ?_)
        refine jr_goto (pc' := 15) (e_255 rfl) rfl ?_
        exact jr_sub (show ([3, 2, 0, 1, 5] : List Nat).Nodup from by decide) (xsb_c (List.Mem.tail _ (List.Mem.tail _ (List.Mem.head _))) (xsb_c (List.Mem.tail _ (List.Mem.tail _ (List.Mem.tail _ (List.Mem.head _)))) (xsb_c (List.Mem.tail _ (List.Mem.head _)) (xsb_c (List.Mem.head _) xsb_n)))) (ih15 v11 v12)
      · refine jr_iconst (e_255 rfl) rfl ?_
        refine jr_goto (pc' := 101) (e_255 rfl) rfl ?_
        refine jr_iadd (e_255 rfl) rfl ?_
        refine jr_nm (fun v13 => ?_)
        refine jr_istore_n (L' := [(2, xi v13), (0, xr 9 0), (1, xi f1), (3, xi x3), (5, xi v9)]) (e_255 rfl) rfl rfl rfl ?_
        refine jr_iinc (L2 := fun c => [(3, xi c), (2, xi v13), (0, xr 9 0), (1, xi f1), (5, xi v9)]) (e_255 rfl) rfl rfl rfl (fun _ => rfl) (fun v14 => ?_)
        refine jr_goto (pc' := 15) (e_255 rfl) rfl ?_
        exact jr_sub (show ([3, 2, 0, 1, 5] : List Nat).Nodup from by decide) (xsb_c (List.Mem.tail _ (List.Mem.tail _ (List.Mem.head _))) (xsb_c (List.Mem.tail _ (List.Mem.tail _ (List.Mem.tail _ (List.Mem.head _)))) (xsb_c (List.Mem.tail _ (List.Mem.head _)) (xsb_c (List.Mem.head _) xsb_n)))) (ih15 v13 v14)
noncomputable def fm_M_turnable (a1 : Int) (σ : xa_H) : Option (Int × xa_H) :=
  (fm_M_takeOff 0 0 σ).bind fun s1 =>
  (fm_M_findFits a1 s1).bind fun s2 =>
  fm_M_turnable_15 a1 s2 (fun (v15 : Int) =>
    some (v15, s2)) xFU 0 0
theorem jm_M_turnable (a1 : Int) (σ : xa_H) : J 255 0 [(0, xr 9 0), (1, xi a1)] [] σ jqW (fm_M_turnable a1 σ) := by
  unfold fm_M_turnable
  refine jr_aload_n (e_255 rfl) rfl rfl ?_
  refine jr_iconst (e_255 rfl) rfl ?_
  refine jr_iconst (e_255 rfl) rfl ?_
  refine jr_callV (as := [xr 9 0, xi 0, xi 0]) (S1 := []) (e_255 rfl) rfl rfl rfl rfl rfl rfl (jm_M_takeOff 0 0 σ) rfl (fun s1 => ?_)
  refine jr_aload_n (e_255 rfl) rfl rfl ?_
  refine jr_iload_n (e_255 rfl) rfl rfl ?_
  refine jr_callV (as := [xr 9 0, xi a1]) (S1 := []) (e_255 rfl) rfl rfl rfl rfl rfl rfl (jm_M_findFits a1 s1) rfl (fun s2 => ?_)
  refine jr_iconst (e_255 rfl) rfl ?_
  refine jr_istore_n (L' := [(2, xi 0), (0, xr 9 0), (1, xi a1)]) (e_255 rfl) rfl rfl rfl ?_
  refine jr_iconst (e_255 rfl) rfl ?_
  refine jr_istore_n (L' := [(3, xi 0), (2, xi 0), (0, xr 9 0), (1, xi a1)]) (e_255 rfl) rfl rfl rfl ?_
  refine jr_sub (show ([3, 2, 0, 1] : List Nat).Nodup from by decide) (xsb_c (List.Mem.tail _ (List.Mem.tail _ (List.Mem.head _))) (xsb_c (List.Mem.tail _ (List.Mem.tail _ (List.Mem.tail _ (List.Mem.head _)))) (xsb_c (List.Mem.tail _ (List.Mem.head _)) (xsb_c (List.Mem.head _) xsb_n)))) (jl_M_turnable_15 a1 s2 _ (fun v15 => ?_) xFU 0 0)
  refine jr_iload_n (e_255 rfl) rfl rfl ?_
  exact jr_retW (e_255 rfl) rfl

theorem e_256 {pc : Nat} {en : xa_I} (h : xlk pc xc_256 = some en) : xcd 256 pc = some en := h
noncomputable def fm_M_room (a1 : Int) (a2 : Int) (σ : xa_H) : Option (Int × xa_H) :=
  (fm_M_isThing a1).bind fun v1 =>
  if v1 = 0 then
    some ((-1), σ)
  else
    (fm_M_in a2 0 2).bind fun v3 =>
    if v3 = 0 then
      some ((-2), σ)
    else
      if 0 ≤ a1 ∧ a1 < 5 then
        if 0 ≤ (σ 62 0 a1.toNat) then
          if a2 = 0 then
            xb2 (fm_M_comesTo a1 σ) fun v7 s8 =>
            some (v7, s8)
          else
            if a2 = 1 then
              xb2 (fm_M_scrapes a1 σ) fun v10 s11 =>
              some (v10, s11)
            else
              xb2 (fm_M_turnable a1 σ) fun v12 s13 =>
              some (v12, s13)
        else
          some ((-3), σ)
      else none
theorem jm_M_room (a1 : Int) (a2 : Int) (σ : xa_H) : J 256 0 [(0, xr 9 0), (1, xi a1), (2, xi a2)] [] σ jqW (fm_M_room a1 a2 σ) := by
  unfold fm_M_room
  refine jr_iload_n (e_256 rfl) rfl rfl ?_
  refine jr_callP (as := [xi a1]) (S1 := []) (e_256 rfl) rfl rfl rfl rfl rfl rfl (jm_M_isThing a1 σ) rfl (fun v1 => ?_)
  refine jr_brx (c := v1 = 0) (pt := 9) (pn := 7) (e_256 rfl) rfl rfl (fun h2 => ?_) (fun h2 => ?_)
  · refine jr_iconst (e_256 rfl) rfl ?_
    exact jr_retW (e_256 rfl) rfl
  · refine jr_iload_n (e_256 rfl) rfl rfl ?_
    refine jr_i2l (e_256 rfl) rfl ?_
    refine jr_lconst (a := 0) (e_256 rfl) rfl rfl ?_
    refine jr_ldc2 (a := 2) (e_256 rfl) rfl rfl ?_
    refine jr_callP (as := [xl a2, xl 0, xl 2]) (S1 := []) (e_256 rfl) rfl rfl rfl rfl rfl rfl (jm_M_in a2 0 2 σ) rfl (fun v3 => ?_)
    refine jr_brx (c := v3 = 0) (pt := 24) (pn := 21) (e_256 rfl) rfl rfl (fun h4 => ?_) (fun h4 => ?_)
    · refine jr_bipush (e_256 rfl) rfl ?_
      exact jr_retW (e_256 rfl) rfl
    · refine jr_aload_n (e_256 rfl) rfl rfl ?_
      refine jr_getr (K2 := 62) (i2 := 0) (e_256 rfl) rfl rfl rfl ?_
      refine jr_iload_n (e_256 rfl) rfl rfl ?_
      refine jr_ald (n := 5) (e_256 rfl) rfl rfl rfl ?_
      refine jr_bri (c := 0 ≤ (σ 62 0 a1.toNat)) (pt := 36) (pn := 33) (e_256 rfl) rfl rfl (fun h5 => ?_) (fun h5 => ?_)
      · refine jr_iload_n (e_256 rfl) rfl rfl ?_
        refine jr_brx (c := a2 = 0) (pt := 48) (pn := 40) (e_256 rfl) rfl rfl (fun h6 => ?_) (fun h6 => ?_)
        · refine jr_aload_n (e_256 rfl) rfl rfl ?_
          refine jr_iload_n (e_256 rfl) rfl rfl ?_
          refine jr_callX (as := [xr 9 0, xi a1]) (S1 := []) (e_256 rfl) rfl rfl rfl rfl rfl rfl (jm_M_comesTo a1 σ) rfl (fun v7 s8 => ?_)
          refine jr_goto (pc' := 66) (e_256 rfl) rfl ?_
          exact jr_retW (e_256 rfl) rfl
        · refine jr_iload_n (e_256 rfl) rfl rfl ?_
          refine jr_iconst (e_256 rfl) rfl ?_
          refine jr_brx (c := a2 = 1) (pt := 61) (pn := 53) (e_256 rfl) rfl rfl (fun h9 => ?_) (fun h9 => ?_)
          · refine jr_aload_n (e_256 rfl) rfl rfl ?_
            refine jr_iload_n (e_256 rfl) rfl rfl ?_
            refine jr_callX (as := [xr 9 0, xi a1]) (S1 := []) (e_256 rfl) rfl rfl rfl rfl rfl rfl (jm_M_scrapes a1 σ) rfl (fun v10 s11 => ?_)
            refine jr_goto (pc' := 66) (e_256 rfl) rfl ?_
            exact jr_retW (e_256 rfl) rfl
          · refine jr_aload_n (e_256 rfl) rfl rfl ?_
            refine jr_iload_n (e_256 rfl) rfl rfl ?_
            refine jr_callX (as := [xr 9 0, xi a1]) (S1 := []) (e_256 rfl) rfl rfl rfl rfl rfl rfl (jm_M_turnable a1 σ) rfl (fun v12 s13 => ?_)
            exact jr_retW (e_256 rfl) rfl
      · refine jr_bipush (e_256 rfl) rfl ?_
        exact jr_retW (e_256 rfl) rfl

theorem e_257 {pc : Nat} {en : xa_I} (h : xlk pc xc_257 = some en) : xcd 257 pc = some en := h
noncomputable def fm_M_doesGo (a1 : Int) (a2 : Int) (a3 : Int) (σ : xa_H) : Option (Int × xa_H) :=
  (fm_M_takeOff a2 a3 σ).bind fun s1 =>
  xnm (xup s1 9 0 37 0) fun s2 =>
  if 0 ≤ a1 ∧ a1 < 5 then
    (fm_M_findOff a1 (s2 64 0 a1.toNat) s2).bind fun s3 =>
    (fm_M_standOf a1 s3).bind fun v4 =>
    if 0 ≤ v4 ∧ v4 < 3456 then
      if 0 ≤ (xcmp (s3 71 0 v4.toNat) 1000000000000000) then
        some (0, s3)
      else
        some (1, s3)
    else none
  else none
theorem jm_M_doesGo (a1 : Int) (a2 : Int) (a3 : Int) (σ : xa_H) : J 257 0 [(0, xr 9 0), (1, xi a1), (2, xi a2), (3, xi a3)] [] σ jqW (fm_M_doesGo a1 a2 a3 σ) := by
  unfold fm_M_doesGo
  refine jr_aload_n (e_257 rfl) rfl rfl ?_
  refine jr_iload_n (e_257 rfl) rfl rfl ?_
  refine jr_iload_n (e_257 rfl) rfl rfl ?_
  refine jr_callV (as := [xr 9 0, xi a2, xi a3]) (S1 := []) (e_257 rfl) rfl rfl rfl rfl rfl rfl (jm_M_takeOff a2 a3 σ) rfl (fun s1 => ?_)
  refine jr_aload_n (e_257 rfl) rfl rfl ?_
  refine jr_iconst (e_257 rfl) rfl ?_
  refine jr_putz (e_257 rfl) rfl rfl rfl (by decide) ?_
  refine jr_nms (fun s2 => ?_)
  refine jr_aload_n (e_257 rfl) rfl rfl ?_
  refine jr_iload_n (e_257 rfl) rfl rfl ?_
  refine jr_aload_n (e_257 rfl) rfl rfl ?_
  refine jr_getr (K2 := 64) (i2 := 0) (e_257 rfl) rfl rfl rfl ?_
  refine jr_iload_n (e_257 rfl) rfl rfl ?_
  refine jr_ald (n := 5) (e_257 rfl) rfl rfl rfl ?_
  refine jr_callV (as := [xr 9 0, xi a1, xi (s2 64 0 a1.toNat)]) (S1 := []) (e_257 rfl) rfl rfl rfl rfl rfl rfl (jm_M_findOff a1 (s2 64 0 a1.toNat) s2) rfl (fun s3 => ?_)
  refine jr_aload_n (e_257 rfl) rfl rfl ?_
  refine jr_getr (K2 := 71) (i2 := 0) (e_257 rfl) rfl rfl rfl ?_
  refine jr_aload_n (e_257 rfl) rfl rfl ?_
  refine jr_iload_n (e_257 rfl) rfl rfl ?_
  refine jr_callP (as := [xr 9 0, xi a1]) (S1 := [xr 71 0]) (e_257 rfl) rfl rfl rfl rfl rfl rfl (jm_M_standOf a1 s3) rfl (fun v4 => ?_)
  refine jr_lald (n := 3456) (e_257 rfl) rfl rfl rfl ?_
  refine jr_ldc2 (a := 1000000000000000) (e_257 rfl) rfl rfl ?_
  refine jr_lcmp (e_257 rfl) rfl ?_
  refine jr_bri (c := 0 ≤ (xcmp (s3 71 0 v4.toNat) 1000000000000000)) (pt := 43) (pn := 39) (e_257 rfl) rfl rfl (fun h5 => ?_) (fun h5 => ?_)
  · refine jr_iconst (e_257 rfl) rfl ?_
    exact jr_retWz (e_257 rfl) rfl rfl
  · refine jr_iconst (e_257 rfl) rfl ?_
    refine jr_goto (pc' := 44) (e_257 rfl) rfl ?_
    exact jr_retWz (e_257 rfl) rfl rfl

theorem e_258 {pc : Nat} {en : xa_I} (h : xlk pc xc_258 = some en) : xcd 258 pc = some en := h
noncomputable def fm_M_costOff_6 (f1 : Int) (f2 : Int) (f3 : Int) (σ : xa_H) (K : Int → Option (Int)) : Nat → Int → Int → Option (Int)
  | 0, _, _ => none
  | n + 1, x4, x5 =>
    if 4 ≤ x5 then
      K x4
    else
      xj (fun (v3 : Int) =>
        if (xand (xshr f3 x5) 1) = 1 then
          if 0 ≤ x5 ∧ x5 < 4 then
            xnm ((w32 (x4 + (w32 (v3 + (σ 60 0 x5.toNat))))) : Int) fun v7 =>
            xnm (w32 (x5 + 1) : Int) fun v8 =>
            fm_M_costOff_6 f1 f2 f3 σ K n v7 v8
          else none
        else
          xnm ((w32 (x4 + (w32 (v3 + 0)))) : Int) fun v9 =>
          xnm (w32 (x5 + 1) : Int) fun v10 =>
          fm_M_costOff_6 f1 f2 f3 σ K n v9 v10) fun K4 =>
      if (xand (xshr f2 x5) 1) = 1 then
        if 0 ≤ (w32 ((w32 (4 * f1)) + x5)) ∧ (w32 ((w32 (4 * f1)) + x5)) < 16 then
          K4 (σ 59 0 ((w32 ((w32 (4 * f1)) + x5)).toNat))
        else none
      else
        K4 0
theorem jl_M_costOff_6 (f1 : Int) (f2 : Int) (f3 : Int) (σ : xa_H)  (K : Int → Option (Int)) (hK6 : ∀ (z0 : Int), J 258 70 [(4, xi z0)] [] σ (jqP σ) (K z0)) : ∀ (n : Nat) (x4 : Int) (x5 : Int), J 258 6 [(0, xr 9 0), (1, xi f1), (2, xi f2), (3, xi f3), (4, xi x4), (5, xi x5)] [] σ (jqP σ) (fm_M_costOff_6 f1 f2 f3 σ K n x4 x5) := by
  intro n
  induction n with
  | zero => intro x4 x5; exact jr_none
  | succ n ih6 =>
    intro x4 x5
    rw [fm_M_costOff_6]
    refine jr_iload (e_258 rfl) rfl rfl ?_
    refine jr_iconst (e_258 rfl) rfl ?_
    refine jr_bri (c := 4 ≤ x5) (pt := 70) (pn := 12) (e_258 rfl) rfl rfl (fun h1 => ?_) (fun h1 => ?_)
    · exact jr_sub (show ([0, 1, 2, 3, 4, 5] : List Nat).Nodup from by decide) (xsb_c (List.Mem.tail _ (List.Mem.tail _ (List.Mem.tail _ (List.Mem.tail _ (List.Mem.head _))))) xsb_n) (hK6 x4)
    · refine jr_iload (e_258 rfl) rfl rfl ?_
      refine jr_iload_n (e_258 rfl) rfl rfl ?_
      refine jr_iload (e_258 rfl) rfl rfl ?_
      refine jr_ishr (e_258 rfl) rfl ?_
      refine jr_iconst (e_258 rfl) rfl ?_
      refine jr_iand (e_258 rfl) rfl ?_
      refine jr_iconst (e_258 rfl) rfl ?_
      refine jr_j (fun K4 => ∀ (v3 : Int), J 258 39 [(0, xr 9 0), (1, xi f1), (2, xi f2), (3, xi f3), (5, xi x5)] [xi v3, xi x4] σ (jqP σ) (K4 v3)) (fun v3 => ?_) (fun K4 hK4 => ?_)
      · refine jr_iload_n (e_258 rfl) rfl rfl ?_
        refine jr_iload (e_258 rfl) rfl rfl ?_
        refine jr_ishr (e_258 rfl) rfl ?_
        refine jr_iconst (e_258 rfl) rfl ?_
        refine jr_iand (e_258 rfl) rfl ?_
        refine jr_iconst (e_258 rfl) rfl ?_
        refine jr_brx (c := (xand (xshr f3 x5) 1) = 1) (pt := 59) (pn := 49) (e_258 rfl) rfl rfl (fun h6 => ?_) (fun h6 => ?_)
        · refine jr_aload_n (e_258 rfl) rfl rfl ?_
          refine jr_getr (K2 := 60) (i2 := 0) (e_258 rfl) rfl rfl rfl ?_
          refine jr_iload (e_258 rfl) rfl rfl ?_
          refine jr_ald (n := 4) (e_258 rfl) rfl rfl rfl ?_
          refine jr_goto (pc' := 60) (e_258 rfl) rfl ?_
          refine jr_iadd (e_258 rfl) rfl ?_
          refine jr_iadd (e_258 rfl) rfl ?_
          refine jr_nm (fun v7 => ?_)
          refine jr_istore (L' := [(4, xi v7), (0, xr 9 0), (1, xi f1), (2, xi f2), (3, xi f3), (5, xi x5)]) (e_258 rfl) rfl rfl rfl ?_
          refine jr_iinc (L2 := fun c => [(5, xi c), (4, xi v7), (0, xr 9 0), (1, xi f1), (2, xi f2), (3, xi f3)]) (e_258 rfl) rfl rfl rfl (fun _ => rfl) (fun v8 => ?_)
          refine jr_goto (pc' := 6) (e_258 rfl) rfl ?_
          exact jr_sub (show ([5, 4, 0, 1, 2, 3] : List Nat).Nodup from by decide) (xsb_c (List.Mem.tail _ (List.Mem.tail _ (List.Mem.head _))) (xsb_c (List.Mem.tail _ (List.Mem.tail _ (List.Mem.tail _ (List.Mem.head _)))) (xsb_c (List.Mem.tail _ (List.Mem.tail _ (List.Mem.tail _ (List.Mem.tail _ (List.Mem.head _))))) (xsb_c (List.Mem.tail _ (List.Mem.tail _ (List.Mem.tail _ (List.Mem.tail _ (List.Mem.tail _ (List.Mem.head _)))))) (xsb_c (List.Mem.tail _ (List.Mem.head _)) (xsb_c (List.Mem.head _) xsb_n)))))) (ih6 v7 v8)
        · refine jr_iconst (e_258 rfl) rfl ?_
          refine jr_iadd (e_258 rfl) rfl ?_
          refine jr_iadd (e_258 rfl) rfl ?_
          refine jr_nm (fun v9 => ?_)
          refine jr_istore (L' := [(4, xi v9), (0, xr 9 0), (1, xi f1), (2, xi f2), (3, xi f3), (5, xi x5)]) (e_258 rfl) rfl rfl rfl ?_
          refine jr_iinc (L2 := fun c => [(5, xi c), (4, xi v9), (0, xr 9 0), (1, xi f1), (2, xi f2), (3, xi f3)]) (e_258 rfl) rfl rfl rfl (fun _ => rfl) (fun v10 => ?_)
          refine jr_goto (pc' := 6) (e_258 rfl) rfl ?_
          exact jr_sub (show ([5, 4, 0, 1, 2, 3] : List Nat).Nodup from by decide) (xsb_c (List.Mem.tail _ (List.Mem.tail _ (List.Mem.head _))) (xsb_c (List.Mem.tail _ (List.Mem.tail _ (List.Mem.tail _ (List.Mem.head _)))) (xsb_c (List.Mem.tail _ (List.Mem.tail _ (List.Mem.tail _ (List.Mem.tail _ (List.Mem.head _))))) (xsb_c (List.Mem.tail _ (List.Mem.tail _ (List.Mem.tail _ (List.Mem.tail _ (List.Mem.tail _ (List.Mem.head _)))))) (xsb_c (List.Mem.tail _ (List.Mem.head _)) (xsb_c (List.Mem.head _) xsb_n)))))) (ih6 v9 v10)
      · refine jr_brx (c := (xand (xshr f2 x5) 1) = 1) (pt := 38) (pn := 24) (e_258 rfl) rfl rfl (fun h5 => ?_) (fun h5 => ?_)
        · refine jr_aload_n (e_258 rfl) rfl rfl ?_
          refine jr_getr (K2 := 59) (i2 := 0) (e_258 rfl) rfl rfl rfl ?_
          refine jr_iconst (e_258 rfl) rfl ?_
          refine jr_iload_n (e_258 rfl) rfl rfl ?_
          refine jr_imul (e_258 rfl) rfl ?_
          refine jr_iload (e_258 rfl) rfl rfl ?_
          refine jr_iadd (e_258 rfl) rfl ?_
          refine jr_ald (n := 16) (e_258 rfl) rfl rfl rfl ?_
          refine jr_goto (pc' := 39) (e_258 rfl) rfl ?_
          exact jr_sub (show ([0, 1, 2, 3, 4, 5] : List Nat).Nodup from by decide) (xsb_c (List.Mem.head _) (xsb_c (List.Mem.tail _ (List.Mem.head _)) (xsb_c (List.Mem.tail _ (List.Mem.tail _ (List.Mem.head _))) (xsb_c (List.Mem.tail _ (List.Mem.tail _ (List.Mem.tail _ (List.Mem.head _)))) (xsb_c (List.Mem.tail _ (List.Mem.tail _ (List.Mem.tail _ (List.Mem.tail _ (List.Mem.tail _ (List.Mem.head _)))))) xsb_n))))) (hK4 (σ 59 0 ((w32 ((w32 (4 * f1)) + x5)).toNat)))
        · refine jr_iconst (e_258 rfl) rfl ?_
          exact jr_sub (show ([0, 1, 2, 3, 4, 5] : List Nat).Nodup from by decide) (xsb_c (List.Mem.head _) (xsb_c (List.Mem.tail _ (List.Mem.head _)) (xsb_c (List.Mem.tail _ (List.Mem.tail _ (List.Mem.head _))) (xsb_c (List.Mem.tail _ (List.Mem.tail _ (List.Mem.tail _ (List.Mem.head _)))) (xsb_c (List.Mem.tail _ (List.Mem.tail _ (List.Mem.tail _ (List.Mem.tail _ (List.Mem.tail _ (List.Mem.head _)))))) xsb_n))))) (hK4 0)
noncomputable def fm_M_costOff (a1 : Int) (a2 : Int) (a3 : Int) (σ : xa_H) : Option (Int) :=
  fm_M_costOff_6 a1 a2 a3 σ (fun (v11 : Int) =>
    some v11) xFU 0 0
theorem jm_M_costOff (a1 : Int) (a2 : Int) (a3 : Int) (σ : xa_H) : J 258 0 [(0, xr 9 0), (1, xi a1), (2, xi a2), (3, xi a3)] [] σ (jqP σ) (fm_M_costOff a1 a2 a3 σ) := by
  unfold fm_M_costOff
  refine jr_iconst (e_258 rfl) rfl ?_
  refine jr_istore (L' := [(4, xi 0), (0, xr 9 0), (1, xi a1), (2, xi a2), (3, xi a3)]) (e_258 rfl) rfl rfl rfl ?_
  refine jr_iconst (e_258 rfl) rfl ?_
  refine jr_istore (L' := [(5, xi 0), (4, xi 0), (0, xr 9 0), (1, xi a1), (2, xi a2), (3, xi a3)]) (e_258 rfl) rfl rfl rfl ?_
  refine jr_sub (show ([5, 4, 0, 1, 2, 3] : List Nat).Nodup from by decide) (xsb_c (List.Mem.tail _ (List.Mem.tail _ (List.Mem.head _))) (xsb_c (List.Mem.tail _ (List.Mem.tail _ (List.Mem.tail _ (List.Mem.head _)))) (xsb_c (List.Mem.tail _ (List.Mem.tail _ (List.Mem.tail _ (List.Mem.tail _ (List.Mem.head _))))) (xsb_c (List.Mem.tail _ (List.Mem.tail _ (List.Mem.tail _ (List.Mem.tail _ (List.Mem.tail _ (List.Mem.head _)))))) (xsb_c (List.Mem.tail _ (List.Mem.head _)) (xsb_c (List.Mem.head _) xsb_n)))))) (jl_M_costOff_6 a1 a2 a3 σ _ (fun v11 => ?_) xFU 0 0)
  refine jr_iload (e_258 rfl) rfl rfl ?_
  exact jr_retP (e_258 rfl) rfl

theorem e_259 {pc : Nat} {en : xa_I} (h : xlk pc xc_259 = some en) : xcd 259 pc = some en := h
noncomputable def fm_M_least_62 (f1 : Int) (f2 : Int) (f3 : Int) (K : xa_H → Option (Int × xa_H)) : Nat → Int → xa_H → Option (Int × xa_H)
  | 0, _, _ => none
  | n + 1, x4, sh =>
    if 256 ≤ x4 then
      K sh
    else
      (fm_M_costOff f1 (xdiv x4 16) (xrem x4 16) sh).bind fun v2 =>
      if v2 = f3 then
        xb2 (fm_M_doesGo f1 (xdiv x4 16) (xrem x4 16) sh) fun v4 s5 =>
        if v4 = 0 then
          xnm (w32 (x4 + 1) : Int) fun v7 =>
          fm_M_least_62 f1 f2 f3 K n v7 s5
        else
          if f2 = 0 then
            some (f3, s5)
          else
            if f2 = 1 then
              some ((xdiv x4 16), s5)
            else
              some ((xrem x4 16), s5)
      else
        xnm (w32 (x4 + 1) : Int) fun v10 =>
        fm_M_least_62 f1 f2 f3 K n v10 sh
theorem jl_M_least_62 (f1 : Int) (f2 : Int) (f3 : Int) (σ : xa_H)  (K : xa_H → Option (Int × xa_H)) (hK62 : ∀ (sz : xa_H), J 259 140 [(0, xr 9 0), (1, xi f1), (2, xi f2), (3, xi f3)] [] sz jqW (K sz)) : ∀ (n : Nat) (x4 : Int) (sh : xa_H), J 259 62 [(0, xr 9 0), (1, xi f1), (2, xi f2), (3, xi f3), (4, xi x4)] [] sh jqW (fm_M_least_62 f1 f2 f3 K n x4 sh) := by
  intro n
  induction n with
  | zero => intro x4 sh; exact jr_none
  | succ n ih62 =>
    intro x4 sh
    rw [fm_M_least_62]
    refine jr_iload (e_259 rfl) rfl rfl ?_
    refine jr_sipush (e_259 rfl) rfl ?_
    refine jr_bri (c := 256 ≤ x4) (pt := 140) (pn := 70) (e_259 rfl) rfl rfl (fun h1 => ?_) (fun h1 => ?_)
    · exact jr_sub (show ([0, 1, 2, 3, 4] : List Nat).Nodup from by decide) (xsb_c (List.Mem.head _) (xsb_c (List.Mem.tail _ (List.Mem.head _)) (xsb_c (List.Mem.tail _ (List.Mem.tail _ (List.Mem.head _))) (xsb_c (List.Mem.tail _ (List.Mem.tail _ (List.Mem.tail _ (List.Mem.head _)))) xsb_n)))) (hK62 sh)
    · refine jr_aload_n (e_259 rfl) rfl rfl ?_
      refine jr_iload_n (e_259 rfl) rfl rfl ?_
      refine jr_iload (e_259 rfl) rfl rfl ?_
      refine jr_bipush (e_259 rfl) rfl ?_
      refine jr_idiv (e_259 rfl) rfl (by decide) ?_
      refine jr_iload (e_259 rfl) rfl rfl ?_
      refine jr_bipush (e_259 rfl) rfl ?_
      refine jr_irem (e_259 rfl) rfl (by decide) ?_
      refine jr_callP (as := [xr 9 0, xi f1, xi (xdiv x4 16), xi (xrem x4 16)]) (S1 := []) (e_259 rfl) rfl rfl rfl rfl rfl rfl (jm_M_costOff f1 (xdiv x4 16) (xrem x4 16) sh) rfl (fun v2 => ?_)
      refine jr_iload_n (e_259 rfl) rfl rfl ?_
      refine jr_brx (c := v2 = f3) (pt := 134) (pn := 89) (e_259 rfl) rfl rfl (fun h3 => ?_) (fun h3 => ?_)
      · refine jr_aload_n (e_259 rfl) rfl rfl ?_
        refine jr_iload_n (e_259 rfl) rfl rfl ?_
        refine jr_iload (e_259 rfl) rfl rfl ?_
        refine jr_bipush (e_259 rfl) rfl ?_
        refine jr_idiv (e_259 rfl) rfl (by decide) ?_
        refine jr_iload (e_259 rfl) rfl rfl ?_
        refine jr_bipush (e_259 rfl) rfl ?_
        refine jr_irem (e_259 rfl) rfl (by decide) ?_
        refine jr_callX (as := [xr 9 0, xi f1, xi (xdiv x4 16), xi (xrem x4 16)]) (S1 := []) (e_259 rfl) rfl rfl rfl rfl rfl rfl (jm_M_doesGo f1 (xdiv x4 16) (xrem x4 16) sh) rfl (fun v4 s5 => ?_)
        refine jr_bri (c := v4 = 0) (pt := 134) (pn := 107) (e_259 rfl) rfl rfl (fun h6 => ?_) (fun h6 => ?_)
        · refine jr_iinc (L2 := fun c => [(4, xi c), (0, xr 9 0), (1, xi f1), (2, xi f2), (3, xi f3)]) (e_259 rfl) rfl rfl rfl (fun _ => rfl) (fun v7 => ?_)
          refine jr_goto (pc' := 62) (e_259 rfl) rfl ?_
          exact jr_sub (show ([4, 0, 1, 2, 3] : List Nat).Nodup from by decide) (xsb_c (List.Mem.tail _ (List.Mem.head _)) (xsb_c (List.Mem.tail _ (List.Mem.tail _ (List.Mem.head _))) (xsb_c (List.Mem.tail _ (List.Mem.tail _ (List.Mem.tail _ (List.Mem.head _)))) (xsb_c (List.Mem.tail _ (List.Mem.tail _ (List.Mem.tail _ (List.Mem.tail _ (List.Mem.head _))))) (xsb_c (List.Mem.head _) xsb_n))))) (ih62 v7 s5)
        · refine jr_iload_n (e_259 rfl) rfl rfl ?_
          refine jr_brx (c := f2 = 0) (pt := 115) (pn := 111) (e_259 rfl) rfl rfl (fun h8 => ?_) (fun h8 => ?_)
          · refine jr_iload_n (e_259 rfl) rfl rfl ?_
            refine jr_goto (pc' := 133) (e_259 rfl) rfl ?_
            exact jr_retW (e_259 rfl) rfl
          · refine jr_iload_n (e_259 rfl) rfl rfl ?_
            refine jr_iconst (e_259 rfl) rfl ?_
            refine jr_brx (c := f2 = 1) (pt := 128) (pn := 120) (e_259 rfl) rfl rfl (fun h9 => ?_) (fun h9 => ?_)
            · refine jr_iload (e_259 rfl) rfl rfl ?_
              refine jr_bipush (e_259 rfl) rfl ?_
              refine jr_idiv (e_259 rfl) rfl (by decide) ?_
              refine jr_goto (pc' := 133) (e_259 rfl) rfl ?_
              exact jr_retW (e_259 rfl) rfl
            · refine jr_iload (e_259 rfl) rfl rfl ?_
              refine jr_bipush (e_259 rfl) rfl ?_
              refine jr_irem (e_259 rfl) rfl (by decide) ?_
              exact jr_retW (e_259 rfl) rfl
      · refine jr_iinc (L2 := fun c => [(4, xi c), (0, xr 9 0), (1, xi f1), (2, xi f2), (3, xi f3)]) (e_259 rfl) rfl rfl rfl (fun _ => rfl) (fun v10 => ?_)
        refine jr_goto (pc' := 62) (e_259 rfl) rfl ?_
        exact jr_sub (show ([4, 0, 1, 2, 3] : List Nat).Nodup from by decide) (xsb_c (List.Mem.tail _ (List.Mem.head _)) (xsb_c (List.Mem.tail _ (List.Mem.tail _ (List.Mem.head _))) (xsb_c (List.Mem.tail _ (List.Mem.tail _ (List.Mem.tail _ (List.Mem.head _)))) (xsb_c (List.Mem.tail _ (List.Mem.tail _ (List.Mem.tail _ (List.Mem.tail _ (List.Mem.head _))))) (xsb_c (List.Mem.head _) xsb_n))))) (ih62 v10 sh)
noncomputable def fm_M_least_53 (f1 : Int) (f2 : Int) (K : xa_H → Option (Int × xa_H)) : Nat → Int → xa_H → Option (Int × xa_H)
  | 0, _, _ => none
  | n + 1, x3, sh =>
    if 72 < x3 then
      K sh
    else
      fm_M_least_62 f1 f2 x3 (fun (s11 : xa_H) =>
        xnm (w32 (x3 + 1) : Int) fun v12 =>
        fm_M_least_53 f1 f2 K n v12 s11) xFU 0 sh
theorem jl_M_least_53 (f1 : Int) (f2 : Int) (σ : xa_H)  (K : xa_H → Option (Int × xa_H)) (hK53 : ∀ (sz : xa_H), J 259 146 [] [] sz jqW (K sz)) : ∀ (n : Nat) (x3 : Int) (sh : xa_H), J 259 53 [(0, xr 9 0), (1, xi f1), (2, xi f2), (3, xi x3)] [] sh jqW (fm_M_least_53 f1 f2 K n x3 sh) := by
  intro n
  induction n with
  | zero => intro x3 sh; exact jr_none
  | succ n ih53 =>
    intro x3 sh
    rw [fm_M_least_53]
    refine jr_iload_n (e_259 rfl) rfl rfl ?_
    refine jr_bipush (e_259 rfl) rfl ?_
    refine jr_bri (c := 72 < x3) (pt := 146) (pn := 59) (e_259 rfl) rfl rfl (fun h1 => ?_) (fun h1 => ?_)
    · exact jr_sub (show ([0, 1, 2, 3] : List Nat).Nodup from by decide) xsb_n (hK53 sh)
    · refine jr_iconst (e_259 rfl) rfl ?_
      refine jr_istore (L' := [(4, xi 0), (0, xr 9 0), (1, xi f1), (2, xi f2), (3, xi x3)]) (e_259 rfl) rfl rfl rfl ?_
      refine jr_sub (show ([4, 0, 1, 2, 3] : List Nat).Nodup from by decide) (xsb_c (List.Mem.tail _ (List.Mem.head _)) (xsb_c (List.Mem.tail _ (List.Mem.tail _ (List.Mem.head _))) (xsb_c (List.Mem.tail _ (List.Mem.tail _ (List.Mem.tail _ (List.Mem.head _)))) (xsb_c (List.Mem.tail _ (List.Mem.tail _ (List.Mem.tail _ (List.Mem.tail _ (List.Mem.head _))))) (xsb_c (List.Mem.head _) xsb_n))))) (jl_M_least_62 f1 f2 x3 σ _ (fun s11 => ?_) xFU 0 sh)
      refine jr_iinc (L2 := fun c => [(3, xi c), (0, xr 9 0), (1, xi f1), (2, xi f2)]) (e_259 rfl) rfl rfl rfl (fun _ => rfl) (fun v12 => ?_)
      refine jr_goto (pc' := 53) (e_259 rfl) rfl ?_
      exact jr_sub (show ([3, 0, 1, 2] : List Nat).Nodup from by decide) (xsb_c (List.Mem.tail _ (List.Mem.head _)) (xsb_c (List.Mem.tail _ (List.Mem.tail _ (List.Mem.head _))) (xsb_c (List.Mem.tail _ (List.Mem.tail _ (List.Mem.tail _ (List.Mem.head _)))) (xsb_c (List.Mem.head _) xsb_n)))) (ih53 v12 s11)
noncomputable def fm_M_least (a1 : Int) (a2 : Int) (σ : xa_H) : Option (Int × xa_H) :=
  (fm_M_isThing a1).bind fun v1 =>
  if v1 = 0 then
    some ((-1), σ)
  else
    (fm_M_in a2 0 2).bind fun v3 =>
    if v3 = 0 then
      some ((-2), σ)
    else
      if 0 ≤ a1 ∧ a1 < 5 then
        if 0 ≤ (σ 62 0 a1.toNat) then
          xb2 (fm_M_doesGo a1 15 15 σ) fun v6 s7 =>
          if v6 = 0 then
            some ((-6), s7)
          else
            fm_M_least_53 a1 a2 (fun (s13 : xa_H) =>
              some ((-6), s13)) xFU 0 s7
        else
          some ((-3), σ)
      else none
theorem jm_M_least (a1 : Int) (a2 : Int) (σ : xa_H) : J 259 0 [(0, xr 9 0), (1, xi a1), (2, xi a2)] [] σ jqW (fm_M_least a1 a2 σ) := by
  unfold fm_M_least
  refine jr_iload_n (e_259 rfl) rfl rfl ?_
  refine jr_callP (as := [xi a1]) (S1 := []) (e_259 rfl) rfl rfl rfl rfl rfl rfl (jm_M_isThing a1 σ) rfl (fun v1 => ?_)
  refine jr_brx (c := v1 = 0) (pt := 9) (pn := 7) (e_259 rfl) rfl rfl (fun h2 => ?_) (fun h2 => ?_)
  · refine jr_iconst (e_259 rfl) rfl ?_
    exact jr_retW (e_259 rfl) rfl
  · refine jr_iload_n (e_259 rfl) rfl rfl ?_
    refine jr_i2l (e_259 rfl) rfl ?_
    refine jr_lconst (a := 0) (e_259 rfl) rfl rfl ?_
    refine jr_ldc2 (a := 2) (e_259 rfl) rfl rfl ?_
    refine jr_callP (as := [xl a2, xl 0, xl 2]) (S1 := []) (e_259 rfl) rfl rfl rfl rfl rfl rfl (jm_M_in a2 0 2 σ) rfl (fun v3 => ?_)
    refine jr_brx (c := v3 = 0) (pt := 24) (pn := 21) (e_259 rfl) rfl rfl (fun h4 => ?_) (fun h4 => ?_)
    · refine jr_bipush (e_259 rfl) rfl ?_
      exact jr_retW (e_259 rfl) rfl
    · refine jr_aload_n (e_259 rfl) rfl rfl ?_
      refine jr_getr (K2 := 62) (i2 := 0) (e_259 rfl) rfl rfl rfl ?_
      refine jr_iload_n (e_259 rfl) rfl rfl ?_
      refine jr_ald (n := 5) (e_259 rfl) rfl rfl rfl ?_
      refine jr_bri (c := 0 ≤ (σ 62 0 a1.toNat)) (pt := 36) (pn := 33) (e_259 rfl) rfl rfl (fun h5 => ?_) (fun h5 => ?_)
      · refine jr_aload_n (e_259 rfl) rfl rfl ?_
        refine jr_iload_n (e_259 rfl) rfl rfl ?_
        refine jr_bipush (e_259 rfl) rfl ?_
        refine jr_bipush (e_259 rfl) rfl ?_
        refine jr_callX (as := [xr 9 0, xi a1, xi 15, xi 15]) (S1 := []) (e_259 rfl) rfl rfl rfl rfl rfl rfl (jm_M_doesGo a1 15 15 σ) rfl (fun v6 s7 => ?_)
        refine jr_brx (c := v6 = 0) (pt := 51) (pn := 48) (e_259 rfl) rfl rfl (fun h8 => ?_) (fun h8 => ?_)
        · refine jr_bipush (e_259 rfl) rfl ?_
          exact jr_retW (e_259 rfl) rfl
        · refine jr_iconst (e_259 rfl) rfl ?_
          refine jr_istore_n (L' := [(3, xi 0), (0, xr 9 0), (1, xi a1), (2, xi a2)]) (e_259 rfl) rfl rfl rfl ?_
          refine jr_sub (show ([3, 0, 1, 2] : List Nat).Nodup from by decide) (xsb_c (List.Mem.tail _ (List.Mem.head _)) (xsb_c (List.Mem.tail _ (List.Mem.tail _ (List.Mem.head _))) (xsb_c (List.Mem.tail _ (List.Mem.tail _ (List.Mem.tail _ (List.Mem.head _)))) (xsb_c (List.Mem.head _) xsb_n)))) (jl_M_least_53 a1 a2 σ _ (fun s13 => ?_) xFU 0 s7)
          refine jr_bipush (e_259 rfl) rfl ?_
          exact jr_retW (e_259 rfl) rfl
      · refine jr_bipush (e_259 rfl) rfl ?_
        exact jr_retW (e_259 rfl) rfl

theorem e_260 {pc : Nat} {en : xa_I} (h : xlk pc xc_260 = some en) : xcd 260 pc = some en := h
noncomputable def fm_M_layBar_9 (f1 : Int) (f2 : Int) (K : xa_H → Option (xa_H)) : Nat → Int → xa_H → Option (xa_H)
  | 0, _, _ => none
  | n + 1, x3, sh =>
    if f1 ≤ x3 then
      K sh
    else
      xnm ((w32 (40 + x3)) : Int) fun v2 =>
      xnm ((if f2 = 0 then x3 else 0) : Int) fun v4 =>
      if 0 ≤ v2 ∧ v2 < 50 then
        xnm (xup sh 55 0 v2.toNat v4) fun s6 =>
        xnm ((if f2 = 1 then x3 else 0) : Int) fun v8 =>
        if 0 ≤ v2 ∧ v2 < 50 then
          xnm (xup s6 56 0 v2.toNat v8) fun s10 =>
          xnm ((if f2 = 2 then x3 else 0) : Int) fun v12 =>
          if 0 ≤ v2 ∧ v2 < 50 then
            xnm (xup s10 57 0 v2.toNat v12) fun s14 =>
            if 0 ≤ v2 ∧ v2 < 50 then
              xnm (xup s14 58 0 v2.toNat (-6)) fun s15 =>
              xnm (w32 (x3 + 1) : Int) fun v16 =>
              fm_M_layBar_9 f1 f2 K n v16 s15
            else none
          else none
        else none
      else none
theorem jl_M_layBar_9 (f1 : Int) (f2 : Int) (σ : xa_H)  (K : xa_H → Option (xa_H)) (hK9 : ∀ (sz : xa_H), J 260 85 [(0, xr 9 0)] [] sz jqV (K sz)) : ∀ (n : Nat) (x3 : Int) (sh : xa_H), J 260 9 [(0, xr 9 0), (1, xi f1), (2, xi f2), (3, xi x3)] [] sh jqV (fm_M_layBar_9 f1 f2 K n x3 sh) := by
  intro n
  induction n with
  | zero => intro x3 sh; exact jr_none
  | succ n ih9 =>
    intro x3 sh
    rw [fm_M_layBar_9]
    refine jr_iload_n (e_260 rfl) rfl rfl ?_
    refine jr_iload_n (e_260 rfl) rfl rfl ?_
    refine jr_bri (c := f1 ≤ x3) (pt := 85) (pn := 14) (e_260 rfl) rfl rfl (fun h1 => ?_) (fun h1 => ?_)
    · exact jr_sub (show ([0, 1, 2, 3] : List Nat).Nodup from by decide) (xsb_c (List.Mem.head _) xsb_n) (hK9 sh)
    · refine jr_bipush (e_260 rfl) rfl ?_
      refine jr_iload_n (e_260 rfl) rfl rfl ?_
      refine jr_iadd (e_260 rfl) rfl ?_
      refine jr_nm (fun v2 => ?_)
      refine jr_istore (L' := [(4, xi v2), (0, xr 9 0), (1, xi f1), (2, xi f2), (3, xi x3)]) (e_260 rfl) rfl rfl rfl ?_
      refine jr_aload_n (e_260 rfl) rfl rfl ?_
      refine jr_getr (K2 := 55) (i2 := 0) (e_260 rfl) rfl rfl rfl ?_
      refine jr_iload (e_260 rfl) rfl rfl ?_
      refine jr_iload_n (e_260 rfl) rfl rfl ?_
      refine jr_pm1 (fun T => ∀ v4 : Int, J 260 35 [(0, xr 9 0), (1, xi f1), (2, xi f2), (3, xi x3), (4, xi v2)] [xi v4, xi v2, xr 55 0] sh jqV (T v4)) (fun v4 => ?_) (fun T hT => ?_)
      · refine jr_ast (n := 50) (e_260 rfl) rfl rfl rfl rfl ?_
        refine jr_nms (fun s6 => ?_)
        refine jr_aload_n (e_260 rfl) rfl rfl ?_
        refine jr_getr (K2 := 56) (i2 := 0) (e_260 rfl) rfl rfl rfl ?_
        refine jr_iload (e_260 rfl) rfl rfl ?_
        refine jr_iload_n (e_260 rfl) rfl rfl ?_
        refine jr_iconst (e_260 rfl) rfl ?_
        refine jr_pm1 (fun T => ∀ v8 : Int, J 260 52 [(0, xr 9 0), (1, xi f1), (2, xi f2), (3, xi x3), (4, xi v2)] [xi v8, xi v2, xr 56 0] s6 jqV (T v8)) (fun v8 => ?_) (fun T hT => ?_)
        · refine jr_ast (n := 50) (e_260 rfl) rfl rfl rfl rfl ?_
          refine jr_nms (fun s10 => ?_)
          refine jr_aload_n (e_260 rfl) rfl rfl ?_
          refine jr_getr (K2 := 57) (i2 := 0) (e_260 rfl) rfl rfl rfl ?_
          refine jr_iload (e_260 rfl) rfl rfl ?_
          refine jr_iload_n (e_260 rfl) rfl rfl ?_
          refine jr_iconst (e_260 rfl) rfl ?_
          refine jr_pm1 (fun T => ∀ v12 : Int, J 260 69 [(0, xr 9 0), (1, xi f1), (2, xi f2), (3, xi x3), (4, xi v2)] [xi v12, xi v2, xr 57 0] s10 jqV (T v12)) (fun v12 => ?_) (fun T hT => ?_)
          · refine jr_ast (n := 50) (e_260 rfl) rfl rfl rfl rfl ?_
            refine jr_nms (fun s14 => ?_)
            refine jr_aload_n (e_260 rfl) rfl rfl ?_
            refine jr_getr (K2 := 58) (i2 := 0) (e_260 rfl) rfl rfl rfl ?_
            refine jr_iload (e_260 rfl) rfl rfl ?_
            refine jr_bipush (e_260 rfl) rfl ?_
            refine jr_ast (n := 50) (e_260 rfl) rfl rfl rfl rfl ?_
            refine jr_nms (fun s15 => ?_)
            refine jr_iinc (L2 := fun c => [(3, xi c), (0, xr 9 0), (1, xi f1), (2, xi f2), (4, xi v2)]) (e_260 rfl) rfl rfl rfl (fun _ => rfl) (fun v16 => ?_)
            refine jr_goto (pc' := 9) (e_260 rfl) rfl ?_
            exact jr_sub (show ([3, 0, 1, 2, 4] : List Nat).Nodup from by decide) (xsb_c (List.Mem.tail _ (List.Mem.head _)) (xsb_c (List.Mem.tail _ (List.Mem.tail _ (List.Mem.head _))) (xsb_c (List.Mem.tail _ (List.Mem.tail _ (List.Mem.tail _ (List.Mem.head _)))) (xsb_c (List.Mem.head _) xsb_n)))) (ih9 v16 s15)
          · refine jr_bx (c := f2 = 2) (pt := 68) (pn := 64) (e_260 rfl) rfl rfl (fun h13 => ?_) (fun h13 => ?_)
            · refine jr_iload_n (e_260 rfl) rfl rfl ?_
              refine jr_goto (pc' := 69) (e_260 rfl) rfl ?_
              exact (jr_nme (if_pos h13) (jr_sub (show ([0, 1, 2, 3, 4] : List Nat).Nodup from by decide) (xsb_c (List.Mem.head _) (xsb_c (List.Mem.tail _ (List.Mem.head _)) (xsb_c (List.Mem.tail _ (List.Mem.tail _ (List.Mem.head _))) (xsb_c (List.Mem.tail _ (List.Mem.tail _ (List.Mem.tail _ (List.Mem.head _)))) (xsb_c (List.Mem.tail _ (List.Mem.tail _ (List.Mem.tail _ (List.Mem.tail _ (List.Mem.head _))))) xsb_n))))) (hT x3)))
            · refine jr_iconst (e_260 rfl) rfl ?_
              exact (jr_nme (if_neg h13) (jr_sub (show ([0, 1, 2, 3, 4] : List Nat).Nodup from by decide) (xsb_c (List.Mem.head _) (xsb_c (List.Mem.tail _ (List.Mem.head _)) (xsb_c (List.Mem.tail _ (List.Mem.tail _ (List.Mem.head _))) (xsb_c (List.Mem.tail _ (List.Mem.tail _ (List.Mem.tail _ (List.Mem.head _)))) (xsb_c (List.Mem.tail _ (List.Mem.tail _ (List.Mem.tail _ (List.Mem.tail _ (List.Mem.head _))))) xsb_n))))) (hT 0)))
        · refine jr_bx (c := f2 = 1) (pt := 51) (pn := 47) (e_260 rfl) rfl rfl (fun h9 => ?_) (fun h9 => ?_)
          · refine jr_iload_n (e_260 rfl) rfl rfl ?_
            refine jr_goto (pc' := 52) (e_260 rfl) rfl ?_
            exact (jr_nme (if_pos h9) (jr_sub (show ([0, 1, 2, 3, 4] : List Nat).Nodup from by decide) (xsb_c (List.Mem.head _) (xsb_c (List.Mem.tail _ (List.Mem.head _)) (xsb_c (List.Mem.tail _ (List.Mem.tail _ (List.Mem.head _))) (xsb_c (List.Mem.tail _ (List.Mem.tail _ (List.Mem.tail _ (List.Mem.head _)))) (xsb_c (List.Mem.tail _ (List.Mem.tail _ (List.Mem.tail _ (List.Mem.tail _ (List.Mem.head _))))) xsb_n))))) (hT x3)))
          · refine jr_iconst (e_260 rfl) rfl ?_
            exact (jr_nme (if_neg h9) (jr_sub (show ([0, 1, 2, 3, 4] : List Nat).Nodup from by decide) (xsb_c (List.Mem.head _) (xsb_c (List.Mem.tail _ (List.Mem.head _)) (xsb_c (List.Mem.tail _ (List.Mem.tail _ (List.Mem.head _))) (xsb_c (List.Mem.tail _ (List.Mem.tail _ (List.Mem.tail _ (List.Mem.head _)))) (xsb_c (List.Mem.tail _ (List.Mem.tail _ (List.Mem.tail _ (List.Mem.tail _ (List.Mem.head _))))) xsb_n))))) (hT 0)))
      · refine jr_bx (c := f2 = 0) (pt := 34) (pn := 30) (e_260 rfl) rfl rfl (fun h5 => ?_) (fun h5 => ?_)
        · refine jr_iload_n (e_260 rfl) rfl rfl ?_
          refine jr_goto (pc' := 35) (e_260 rfl) rfl ?_
          exact (jr_nme (if_pos h5) (jr_sub (show ([4, 0, 1, 2, 3] : List Nat).Nodup from by decide) (xsb_c (List.Mem.tail _ (List.Mem.head _)) (xsb_c (List.Mem.tail _ (List.Mem.tail _ (List.Mem.head _))) (xsb_c (List.Mem.tail _ (List.Mem.tail _ (List.Mem.tail _ (List.Mem.head _)))) (xsb_c (List.Mem.tail _ (List.Mem.tail _ (List.Mem.tail _ (List.Mem.tail _ (List.Mem.head _))))) (xsb_c (List.Mem.head _) xsb_n))))) (hT x3)))
        · refine jr_iconst (e_260 rfl) rfl ?_
          exact (jr_nme (if_neg h5) (jr_sub (show ([4, 0, 1, 2, 3] : List Nat).Nodup from by decide) (xsb_c (List.Mem.tail _ (List.Mem.head _)) (xsb_c (List.Mem.tail _ (List.Mem.tail _ (List.Mem.head _))) (xsb_c (List.Mem.tail _ (List.Mem.tail _ (List.Mem.tail _ (List.Mem.head _)))) (xsb_c (List.Mem.tail _ (List.Mem.tail _ (List.Mem.tail _ (List.Mem.tail _ (List.Mem.head _))))) (xsb_c (List.Mem.head _) xsb_n))))) (hT 0)))
noncomputable def fm_M_layBar (a1 : Int) (a2 : Int) (σ : xa_H) : Option (xa_H) :=
  xnm (xup σ 54 0 ((4 : Int).toNat) a1) fun s1 =>
  fm_M_layBar_9 a1 a2 (fun (s17 : xa_H) =>
    xnm (xup s17 62 0 ((4 : Int).toNat) (s17 62 0 ((0 : Int).toNat))) fun s18 =>
    xnm (xup s18 63 0 ((4 : Int).toNat) 0) fun s19 =>
    xnm (xup s19 64 0 ((4 : Int).toNat) (s19 64 0 ((0 : Int).toNat))) fun s20 =>
    some s20) xFU 0 s1
theorem jm_M_layBar (a1 : Int) (a2 : Int) (σ : xa_H) : J 260 0 [(0, xr 9 0), (1, xi a1), (2, xi a2)] [] σ jqV (fm_M_layBar a1 a2 σ) := by
  unfold fm_M_layBar
  refine jr_aload_n (e_260 rfl) rfl rfl ?_
  refine jr_getr (K2 := 54) (i2 := 0) (e_260 rfl) rfl rfl rfl ?_
  refine jr_iconst (e_260 rfl) rfl ?_
  refine jr_iload_n (e_260 rfl) rfl rfl ?_
  refine jr_ast' (n := 5) (e_260 rfl) rfl rfl rfl rfl (by decide) ?_
  refine jr_nms (fun s1 => ?_)
  refine jr_iconst (e_260 rfl) rfl ?_
  refine jr_istore_n (L' := [(3, xi 0), (0, xr 9 0), (1, xi a1), (2, xi a2)]) (e_260 rfl) rfl rfl rfl ?_
  refine jr_sub (show ([3, 0, 1, 2] : List Nat).Nodup from by decide) (xsb_c (List.Mem.tail _ (List.Mem.head _)) (xsb_c (List.Mem.tail _ (List.Mem.tail _ (List.Mem.head _))) (xsb_c (List.Mem.tail _ (List.Mem.tail _ (List.Mem.tail _ (List.Mem.head _)))) (xsb_c (List.Mem.head _) xsb_n)))) (jl_M_layBar_9 a1 a2 σ _ (fun s17 => ?_) xFU 0 s1)
  refine jr_aload_n (e_260 rfl) rfl rfl ?_
  refine jr_getr (K2 := 62) (i2 := 0) (e_260 rfl) rfl rfl rfl ?_
  refine jr_iconst (e_260 rfl) rfl ?_
  refine jr_aload_n (e_260 rfl) rfl rfl ?_
  refine jr_getr (K2 := 62) (i2 := 0) (e_260 rfl) rfl rfl rfl ?_
  refine jr_iconst (e_260 rfl) rfl ?_
  refine jr_ald' (n := 5) (e_260 rfl) rfl rfl rfl (by decide) ?_
  refine jr_ast' (n := 5) (e_260 rfl) rfl rfl rfl rfl (by decide) ?_
  refine jr_nms (fun s18 => ?_)
  refine jr_aload_n (e_260 rfl) rfl rfl ?_
  refine jr_getr (K2 := 63) (i2 := 0) (e_260 rfl) rfl rfl rfl ?_
  refine jr_iconst (e_260 rfl) rfl ?_
  refine jr_iconst (e_260 rfl) rfl ?_
  refine jr_ast' (n := 5) (e_260 rfl) rfl rfl rfl rfl (by decide) ?_
  refine jr_nms (fun s19 => ?_)
  refine jr_aload_n (e_260 rfl) rfl rfl ?_
  refine jr_getr (K2 := 64) (i2 := 0) (e_260 rfl) rfl rfl rfl ?_
  refine jr_iconst (e_260 rfl) rfl ?_
  refine jr_aload_n (e_260 rfl) rfl rfl ?_
  refine jr_getr (K2 := 64) (i2 := 0) (e_260 rfl) rfl rfl rfl ?_
  refine jr_iconst (e_260 rfl) rfl ?_
  refine jr_ald' (n := 5) (e_260 rfl) rfl rfl rfl (by decide) ?_
  refine jr_ast' (n := 5) (e_260 rfl) rfl rfl rfl rfl (by decide) ?_
  refine jr_nms (fun s20 => ?_)
  exact jr_retV (e_260 rfl)

theorem e_261 {pc : Nat} {en : xa_I} (h : xlk pc xc_261 = some en) : xcd 261 pc = some en := h
noncomputable def fm_M_fitsBar_2 (f1 : Int) (f2 : Int) (K : xa_H → Option (Int × xa_H)) : Nat → Int → xa_H → Option (Int × xa_H)
  | 0, _, _ => none
  | n + 1, x3, sh =>
    if 3 ≤ x3 then
      K sh
    else
      (fm_M_layBar f1 x3 sh).bind fun s2 =>
      (fm_M_takeOff 0 f2 s2).bind fun s3 =>
      xb2 (fm_M_whyAt 4 0 (xdiv (s3 62 0 ((0 : Int).toNat)) 24) (xrem (xdiv (s3 62 0 ((0 : Int).toNat)) 4) 6) (xrem (s3 62 0 ((0 : Int).toNat)) 4) s3) fun v4 s5 =>
      if 0 ≤ v4 then
        xnm (w32 (x3 + 1) : Int) fun v7 =>
        fm_M_fitsBar_2 f1 f2 K n v7 s5
      else
        some (1, s5)
theorem jl_M_fitsBar_2 (f1 : Int) (f2 : Int) (σ : xa_H)  (K : xa_H → Option (Int × xa_H)) (hK2 : ∀ (sz : xa_H), J 261 64 [] [] sz jqW (K sz)) : ∀ (n : Nat) (x3 : Int) (sh : xa_H), J 261 2 [(0, xr 9 0), (1, xi f1), (2, xi f2), (3, xi x3)] [] sh jqW (fm_M_fitsBar_2 f1 f2 K n x3 sh) := by
  intro n
  induction n with
  | zero => intro x3 sh; exact jr_none
  | succ n ih2 =>
    intro x3 sh
    rw [fm_M_fitsBar_2]
    refine jr_iload_n (e_261 rfl) rfl rfl ?_
    refine jr_iconst (e_261 rfl) rfl ?_
    refine jr_bri (c := 3 ≤ x3) (pt := 64) (pn := 7) (e_261 rfl) rfl rfl (fun h1 => ?_) (fun h1 => ?_)
    · exact jr_sub (show ([0, 1, 2, 3] : List Nat).Nodup from by decide) xsb_n (hK2 sh)
    · refine jr_aload_n (e_261 rfl) rfl rfl ?_
      refine jr_iload_n (e_261 rfl) rfl rfl ?_
      refine jr_iload_n (e_261 rfl) rfl rfl ?_
      refine jr_callV (as := [xr 9 0, xi f1, xi x3]) (S1 := []) (e_261 rfl) rfl rfl rfl rfl rfl rfl (jm_M_layBar f1 x3 sh) rfl (fun s2 => ?_)
      refine jr_aload_n (e_261 rfl) rfl rfl ?_
      refine jr_iconst (e_261 rfl) rfl ?_
      refine jr_iload_n (e_261 rfl) rfl rfl ?_
      refine jr_callV (as := [xr 9 0, xi 0, xi f2]) (S1 := []) (e_261 rfl) rfl rfl rfl rfl rfl rfl (jm_M_takeOff 0 f2 s2) rfl (fun s3 => ?_)
      refine jr_aload_n (e_261 rfl) rfl rfl ?_
      refine jr_iconst (e_261 rfl) rfl ?_
      refine jr_iconst (e_261 rfl) rfl ?_
      refine jr_aload_n (e_261 rfl) rfl rfl ?_
      refine jr_getr (K2 := 62) (i2 := 0) (e_261 rfl) rfl rfl rfl ?_
      refine jr_iconst (e_261 rfl) rfl ?_
      refine jr_ald' (n := 5) (e_261 rfl) rfl rfl rfl (by decide) ?_
      refine jr_bipush (e_261 rfl) rfl ?_
      refine jr_idiv (e_261 rfl) rfl (by decide) ?_
      refine jr_aload_n (e_261 rfl) rfl rfl ?_
      refine jr_getr (K2 := 62) (i2 := 0) (e_261 rfl) rfl rfl rfl ?_
      refine jr_iconst (e_261 rfl) rfl ?_
      refine jr_ald' (n := 5) (e_261 rfl) rfl rfl rfl (by decide) ?_
      refine jr_iconst (e_261 rfl) rfl ?_
      refine jr_idiv (e_261 rfl) rfl (by decide) ?_
      refine jr_bipush (e_261 rfl) rfl ?_
      refine jr_irem (e_261 rfl) rfl (by decide) ?_
      refine jr_aload_n (e_261 rfl) rfl rfl ?_
      refine jr_getr (K2 := 62) (i2 := 0) (e_261 rfl) rfl rfl rfl ?_
      refine jr_iconst (e_261 rfl) rfl ?_
      refine jr_ald' (n := 5) (e_261 rfl) rfl rfl rfl (by decide) ?_
      refine jr_iconst (e_261 rfl) rfl ?_
      refine jr_irem (e_261 rfl) rfl (by decide) ?_
      refine jr_callX (as := [xr 9 0, xi 4, xi 0, xi (xdiv (s3 62 0 ((0 : Int).toNat)) 24), xi (xrem (xdiv (s3 62 0 ((0 : Int).toNat)) 4) 6), xi (xrem (s3 62 0 ((0 : Int).toNat)) 4)]) (S1 := []) (e_261 rfl) rfl rfl rfl rfl rfl rfl (jm_M_whyAt 4 0 (xdiv (s3 62 0 ((0 : Int).toNat)) 24) (xrem (xdiv (s3 62 0 ((0 : Int).toNat)) 4) 6) (xrem (s3 62 0 ((0 : Int).toNat)) 4) s3) rfl (fun v4 s5 => ?_)
      refine jr_bri (c := 0 ≤ v4) (pt := 58) (pn := 56) (e_261 rfl) rfl rfl (fun h6 => ?_) (fun h6 => ?_)
      · refine jr_iinc (L2 := fun c => [(3, xi c), (0, xr 9 0), (1, xi f1), (2, xi f2)]) (e_261 rfl) rfl rfl rfl (fun _ => rfl) (fun v7 => ?_)
        refine jr_goto (pc' := 2) (e_261 rfl) rfl ?_
        exact jr_sub (show ([3, 0, 1, 2] : List Nat).Nodup from by decide) (xsb_c (List.Mem.tail _ (List.Mem.head _)) (xsb_c (List.Mem.tail _ (List.Mem.tail _ (List.Mem.head _))) (xsb_c (List.Mem.tail _ (List.Mem.tail _ (List.Mem.tail _ (List.Mem.head _)))) (xsb_c (List.Mem.head _) xsb_n)))) (ih2 v7 s5)
      · refine jr_iconst (e_261 rfl) rfl ?_
        exact jr_retWz (e_261 rfl) rfl rfl
noncomputable def fm_M_fitsBar (a1 : Int) (a2 : Int) (σ : xa_H) : Option (Int × xa_H) :=
  fm_M_fitsBar_2 a1 a2 (fun (s8 : xa_H) =>
    some (0, s8)) xFU 0 σ
theorem jm_M_fitsBar (a1 : Int) (a2 : Int) (σ : xa_H) : J 261 0 [(0, xr 9 0), (1, xi a1), (2, xi a2)] [] σ jqW (fm_M_fitsBar a1 a2 σ) := by
  unfold fm_M_fitsBar
  refine jr_iconst (e_261 rfl) rfl ?_
  refine jr_istore_n (L' := [(3, xi 0), (0, xr 9 0), (1, xi a1), (2, xi a2)]) (e_261 rfl) rfl rfl rfl ?_
  refine jr_sub (show ([3, 0, 1, 2] : List Nat).Nodup from by decide) (xsb_c (List.Mem.tail _ (List.Mem.head _)) (xsb_c (List.Mem.tail _ (List.Mem.tail _ (List.Mem.head _))) (xsb_c (List.Mem.tail _ (List.Mem.tail _ (List.Mem.tail _ (List.Mem.head _)))) (xsb_c (List.Mem.head _) xsb_n)))) (jl_M_fitsBar_2 a1 a2 σ _ (fun s8 => ?_) xFU 0 σ)
  refine jr_iconst (e_261 rfl) rfl ?_
  exact jr_retWz (e_261 rfl) rfl rfl

theorem e_262 {pc : Nat} {en : xa_I} (h : xlk pc xc_262 = some en) : xcd 262 pc = some en := h
noncomputable def fm_M_bar_25 (f1 : Int) (K : xa_H → Option (Int × xa_H)) : Nat → Int → xa_H → Option (Int × xa_H)
  | 0, _, _ => none
  | n + 1, x2, sh =>
    if x2 ≤ 0 then
      K sh
    else
      xb2 (fm_M_fitsBar x2 f1 sh) fun v2 s3 =>
      if v2 = 0 then
        xnm (w32 (x2 + (-1)) : Int) fun v5 =>
        fm_M_bar_25 f1 K n v5 s3
      else
        xb2 (fm_M_doesGo 4 0 f1 s3) fun v6 s7 =>
        if v6 = 0 then
          xnm (w32 (x2 + (-1)) : Int) fun v9 =>
          fm_M_bar_25 f1 K n v9 s7
        else
          some (x2, s7)
theorem jl_M_bar_25 (f1 : Int) (σ : xa_H)  (K : xa_H → Option (Int × xa_H)) (hK25 : ∀ (sz : xa_H), J 262 56 [] [] sz jqW (K sz)) : ∀ (n : Nat) (x2 : Int) (sh : xa_H), J 262 25 [(0, xr 9 0), (1, xi f1), (2, xi x2)] [] sh jqW (fm_M_bar_25 f1 K n x2 sh) := by
  intro n
  induction n with
  | zero => intro x2 sh; exact jr_none
  | succ n ih25 =>
    intro x2 sh
    rw [fm_M_bar_25]
    refine jr_iload_n (e_262 rfl) rfl rfl ?_
    refine jr_bri (c := x2 ≤ 0) (pt := 56) (pn := 29) (e_262 rfl) rfl rfl (fun h1 => ?_) (fun h1 => ?_)
    · exact jr_sub (show ([0, 1, 2] : List Nat).Nodup from by decide) xsb_n (hK25 sh)
    · refine jr_aload_n (e_262 rfl) rfl rfl ?_
      refine jr_iload_n (e_262 rfl) rfl rfl ?_
      refine jr_iload_n (e_262 rfl) rfl rfl ?_
      refine jr_callX (as := [xr 9 0, xi x2, xi f1]) (S1 := []) (e_262 rfl) rfl rfl rfl rfl rfl rfl (jm_M_fitsBar x2 f1 sh) rfl (fun v2 s3 => ?_)
      refine jr_bri (c := v2 = 0) (pt := 50) (pn := 38) (e_262 rfl) rfl rfl (fun h4 => ?_) (fun h4 => ?_)
      · refine jr_iinc (L2 := fun c => [(2, xi c), (0, xr 9 0), (1, xi f1)]) (e_262 rfl) rfl rfl rfl (fun _ => rfl) (fun v5 => ?_)
        refine jr_goto (pc' := 25) (e_262 rfl) rfl ?_
        exact jr_sub (show ([2, 0, 1] : List Nat).Nodup from by decide) (xsb_c (List.Mem.tail _ (List.Mem.head _)) (xsb_c (List.Mem.tail _ (List.Mem.tail _ (List.Mem.head _))) (xsb_c (List.Mem.head _) xsb_n))) (ih25 v5 s3)
      · refine jr_aload_n (e_262 rfl) rfl rfl ?_
        refine jr_iconst (e_262 rfl) rfl ?_
        refine jr_iconst (e_262 rfl) rfl ?_
        refine jr_iload_n (e_262 rfl) rfl rfl ?_
        refine jr_callX (as := [xr 9 0, xi 4, xi 0, xi f1]) (S1 := []) (e_262 rfl) rfl rfl rfl rfl rfl rfl (jm_M_doesGo 4 0 f1 s3) rfl (fun v6 s7 => ?_)
        refine jr_bri (c := v6 = 0) (pt := 50) (pn := 48) (e_262 rfl) rfl rfl (fun h8 => ?_) (fun h8 => ?_)
        · refine jr_iinc (L2 := fun c => [(2, xi c), (0, xr 9 0), (1, xi f1)]) (e_262 rfl) rfl rfl rfl (fun _ => rfl) (fun v9 => ?_)
          refine jr_goto (pc' := 25) (e_262 rfl) rfl ?_
          exact jr_sub (show ([2, 0, 1] : List Nat).Nodup from by decide) (xsb_c (List.Mem.tail _ (List.Mem.head _)) (xsb_c (List.Mem.tail _ (List.Mem.tail _ (List.Mem.head _))) (xsb_c (List.Mem.head _) xsb_n))) (ih25 v9 s7)
        · refine jr_iload_n (e_262 rfl) rfl rfl ?_
          exact jr_retW (e_262 rfl) rfl
noncomputable def fm_M_bar (a1 : Int) (σ : xa_H) : Option (Int × xa_H) :=
  (fm_M_isSet a1).bind fun v1 =>
  if v1 = 0 then
    some ((-2), σ)
  else
    if 0 ≤ (σ 62 0 ((0 : Int).toNat)) then
      fm_M_bar_25 a1 (fun (s10 : xa_H) =>
        some ((-6), s10)) xFU 6 σ
    else
      some ((-3), σ)
theorem jm_M_bar (a1 : Int) (σ : xa_H) : J 262 0 [(0, xr 9 0), (1, xi a1)] [] σ jqW (fm_M_bar a1 σ) := by
  unfold fm_M_bar
  refine jr_iload_n (e_262 rfl) rfl rfl ?_
  refine jr_callP (as := [xi a1]) (S1 := []) (e_262 rfl) rfl rfl rfl rfl rfl rfl (jm_M_isSet a1 σ) rfl (fun v1 => ?_)
  refine jr_brx (c := v1 = 0) (pt := 10) (pn := 7) (e_262 rfl) rfl rfl (fun h2 => ?_) (fun h2 => ?_)
  · refine jr_bipush (e_262 rfl) rfl ?_
    exact jr_retW (e_262 rfl) rfl
  · refine jr_aload_n (e_262 rfl) rfl rfl ?_
    refine jr_getr (K2 := 62) (i2 := 0) (e_262 rfl) rfl rfl rfl ?_
    refine jr_iconst (e_262 rfl) rfl ?_
    refine jr_ald' (n := 5) (e_262 rfl) rfl rfl rfl (by decide) ?_
    refine jr_bri (c := 0 ≤ (σ 62 0 ((0 : Int).toNat))) (pt := 22) (pn := 19) (e_262 rfl) rfl rfl (fun h3 => ?_) (fun h3 => ?_)
    · refine jr_bipush (e_262 rfl) rfl ?_
      refine jr_istore_n (L' := [(2, xi 6), (0, xr 9 0), (1, xi a1)]) (e_262 rfl) rfl rfl rfl ?_
      refine jr_sub (show ([2, 0, 1] : List Nat).Nodup from by decide) (xsb_c (List.Mem.tail _ (List.Mem.head _)) (xsb_c (List.Mem.tail _ (List.Mem.tail _ (List.Mem.head _))) (xsb_c (List.Mem.head _) xsb_n))) (jl_M_bar_25 a1 σ _ (fun s10 => ?_) xFU 6 σ)
      refine jr_bipush (e_262 rfl) rfl ?_
      exact jr_retW (e_262 rfl) rfl
    · refine jr_bipush (e_262 rfl) rfl ?_
      exact jr_retW (e_262 rfl) rfl

theorem e_263 {pc : Nat} {en : xa_I} (h : xlk pc xc_263 = some en) : xcd 263 pc = some en := h
noncomputable def fm_M_goesAmong_41 (f1 : Int) (f2 : Int) (f3 : Int) (K : xa_H → Option (Int × xa_H)) : Nat → Int → xa_H → Option (Int × xa_H)
  | 0, _, _ => none
  | n + 1, x4, sh =>
    if 0 ≤ f3 ∧ f3 < 5 then
      if (sh 54 0 f3.toNat) ≤ x4 then
        K sh
      else
        if 0 ≤ f3 ∧ f3 < 5 then
          if 0 ≤ x4 ∧ x4 < 10 then
            if 0 ≤ f3 ∧ f3 < 5 then
              if 0 ≤ x4 ∧ x4 < 10 then
                if 0 ≤ f3 ∧ f3 < 5 then
                  if 0 ≤ x4 ∧ x4 < 10 then
                    (fm_M_at (w32 ((xdiv (sh 62 0 f3.toNat) 24) + (sh 66 0 x4.toNat))) (w32 ((xrem (xdiv (sh 62 0 f3.toNat) 4) 6) + (sh 67 0 x4.toNat))) (w32 ((xrem (sh 62 0 f3.toNat) 4) + (sh 68 0 x4.toNat)))).bind fun v2 =>
                    if 0 ≤ v2 ∧ v2 < 144 then
                      xnm (xup sh 69 0 v2.toNat (1 % 2)) fun s3 =>
                      xnm (w32 (x4 + 1) : Int) fun v4 =>
                      fm_M_goesAmong_41 f1 f2 f3 K n v4 s3
                    else none
                  else none
                else none
              else none
            else none
          else none
        else none
    else none
theorem jl_M_goesAmong_41 (f1 : Int) (f2 : Int) (f3 : Int) (σ : xa_H)  (K : xa_H → Option (Int × xa_H)) (hK41 : ∀ (sz : xa_H), J 263 119 [(0, xr 9 0), (1, xi f1), (2, xi f2), (3, xi f3)] [] sz jqW (K sz)) : ∀ (n : Nat) (x4 : Int) (sh : xa_H), J 263 41 [(0, xr 9 0), (1, xi f1), (2, xi f2), (3, xi f3), (4, xi x4)] [] sh jqW (fm_M_goesAmong_41 f1 f2 f3 K n x4 sh) := by
  intro n
  induction n with
  | zero => intro x4 sh; exact jr_none
  | succ n ih41 =>
    intro x4 sh
    rw [fm_M_goesAmong_41]
    refine jr_iload (e_263 rfl) rfl rfl ?_
    refine jr_aload_n (e_263 rfl) rfl rfl ?_
    refine jr_getr (K2 := 54) (i2 := 0) (e_263 rfl) rfl rfl rfl ?_
    refine jr_iload_n (e_263 rfl) rfl rfl ?_
    refine jr_ald (n := 5) (e_263 rfl) rfl rfl rfl ?_
    refine jr_bri (c := (sh 54 0 f3.toNat) ≤ x4) (pt := 119) (pn := 52) (e_263 rfl) rfl rfl (fun h1 => ?_) (fun h1 => ?_)
    · exact jr_sub (show ([0, 1, 2, 3, 4] : List Nat).Nodup from by decide) (xsb_c (List.Mem.head _) (xsb_c (List.Mem.tail _ (List.Mem.head _)) (xsb_c (List.Mem.tail _ (List.Mem.tail _ (List.Mem.head _))) (xsb_c (List.Mem.tail _ (List.Mem.tail _ (List.Mem.tail _ (List.Mem.head _)))) xsb_n)))) (hK41 sh)
    · refine jr_aload_n (e_263 rfl) rfl rfl ?_
      refine jr_getr (K2 := 69) (i2 := 0) (e_263 rfl) rfl rfl rfl ?_
      refine jr_aload_n (e_263 rfl) rfl rfl ?_
      refine jr_getr (K2 := 62) (i2 := 0) (e_263 rfl) rfl rfl rfl ?_
      refine jr_iload_n (e_263 rfl) rfl rfl ?_
      refine jr_ald (n := 5) (e_263 rfl) rfl rfl rfl ?_
      refine jr_bipush (e_263 rfl) rfl ?_
      refine jr_idiv (e_263 rfl) rfl (by decide) ?_
      refine jr_aload_n (e_263 rfl) rfl rfl ?_
      refine jr_getr (K2 := 66) (i2 := 0) (e_263 rfl) rfl rfl rfl ?_
      refine jr_iload (e_263 rfl) rfl rfl ?_
      refine jr_ald (n := 10) (e_263 rfl) rfl rfl rfl ?_
      refine jr_iadd (e_263 rfl) rfl ?_
      refine jr_aload_n (e_263 rfl) rfl rfl ?_
      refine jr_getr (K2 := 62) (i2 := 0) (e_263 rfl) rfl rfl rfl ?_
      refine jr_iload_n (e_263 rfl) rfl rfl ?_
      refine jr_ald (n := 5) (e_263 rfl) rfl rfl rfl ?_
      refine jr_iconst (e_263 rfl) rfl ?_
      refine jr_idiv (e_263 rfl) rfl (by decide) ?_
      refine jr_bipush (e_263 rfl) rfl ?_
      refine jr_irem (e_263 rfl) rfl (by decide) ?_
      refine jr_aload_n (e_263 rfl) rfl rfl ?_
      refine jr_getr (K2 := 67) (i2 := 0) (e_263 rfl) rfl rfl rfl ?_
      refine jr_iload (e_263 rfl) rfl rfl ?_
      refine jr_ald (n := 10) (e_263 rfl) rfl rfl rfl ?_
      refine jr_iadd (e_263 rfl) rfl ?_
      refine jr_aload_n (e_263 rfl) rfl rfl ?_
      refine jr_getr (K2 := 62) (i2 := 0) (e_263 rfl) rfl rfl rfl ?_
      refine jr_iload_n (e_263 rfl) rfl rfl ?_
      refine jr_ald (n := 5) (e_263 rfl) rfl rfl rfl ?_
      refine jr_iconst (e_263 rfl) rfl ?_
      refine jr_irem (e_263 rfl) rfl (by decide) ?_
      refine jr_aload_n (e_263 rfl) rfl rfl ?_
      refine jr_getr (K2 := 68) (i2 := 0) (e_263 rfl) rfl rfl rfl ?_
      refine jr_iload (e_263 rfl) rfl rfl ?_
      refine jr_ald (n := 10) (e_263 rfl) rfl rfl rfl ?_
      refine jr_iadd (e_263 rfl) rfl ?_
      refine jr_callP (as := [xi (w32 ((xdiv (sh 62 0 f3.toNat) 24) + (sh 66 0 x4.toNat))), xi (w32 ((xrem (xdiv (sh 62 0 f3.toNat) 4) 6) + (sh 67 0 x4.toNat))), xi (w32 ((xrem (sh 62 0 f3.toNat) 4) + (sh 68 0 x4.toNat)))]) (S1 := [xr 69 0]) (e_263 rfl) rfl rfl rfl rfl rfl rfl (jm_M_at (w32 ((xdiv (sh 62 0 f3.toNat) 24) + (sh 66 0 x4.toNat))) (w32 ((xrem (xdiv (sh 62 0 f3.toNat) 4) 6) + (sh 67 0 x4.toNat))) (w32 ((xrem (sh 62 0 f3.toNat) 4) + (sh 68 0 x4.toNat))) sh) rfl (fun v2 => ?_)
      refine jr_iconst (e_263 rfl) rfl ?_
      refine jr_bast (n := 144) (e_263 rfl) rfl rfl rfl rfl ?_
      refine jr_nms (fun s3 => ?_)
      refine jr_iinc (L2 := fun c => [(4, xi c), (0, xr 9 0), (1, xi f1), (2, xi f2), (3, xi f3)]) (e_263 rfl) rfl rfl rfl (fun _ => rfl) (fun v4 => ?_)
      refine jr_goto (pc' := 41) (e_263 rfl) rfl ?_
      exact jr_sub (show ([4, 0, 1, 2, 3] : List Nat).Nodup from by decide) (xsb_c (List.Mem.tail _ (List.Mem.head _)) (xsb_c (List.Mem.tail _ (List.Mem.tail _ (List.Mem.head _))) (xsb_c (List.Mem.tail _ (List.Mem.tail _ (List.Mem.tail _ (List.Mem.head _)))) (xsb_c (List.Mem.tail _ (List.Mem.tail _ (List.Mem.tail _ (List.Mem.tail _ (List.Mem.head _))))) (xsb_c (List.Mem.head _) xsb_n))))) (ih41 v4 s3)
noncomputable def fm_M_goesAmong_8 (f1 : Int) (f2 : Int) (K : xa_H → Option (Int × xa_H)) : Nat → Int → xa_H → Option (Int × xa_H)
  | 0, _, _ => none
  | n + 1, x3, sh =>
    if 4 ≤ x3 then
      K sh
    else
      if x3 = f1 then
        xnm (w32 (x3 + 1) : Int) fun v3 =>
        fm_M_goesAmong_8 f1 f2 K n v3 sh
      else
        if (xand (xshr f2 x3) 1) = 1 then
          if 0 ≤ x3 ∧ x3 < 5 then
            (fm_M_layCubes x3 (sh 63 0 x3.toNat) sh).bind fun s5 =>
            fm_M_goesAmong_41 f1 f2 x3 (fun (s6 : xa_H) =>
              xnm (w32 (x3 + 1) : Int) fun v7 =>
              fm_M_goesAmong_8 f1 f2 K n v7 s6) xFU 0 s5
          else none
        else
          xnm (w32 (x3 + 1) : Int) fun v8 =>
          fm_M_goesAmong_8 f1 f2 K n v8 sh
theorem jl_M_goesAmong_8 (f1 : Int) (f2 : Int) (σ : xa_H)  (K : xa_H → Option (Int × xa_H)) (hK8 : ∀ (sz : xa_H), J 263 125 [(0, xr 9 0), (1, xi f1)] [] sz jqW (K sz)) : ∀ (n : Nat) (x3 : Int) (sh : xa_H), J 263 8 [(0, xr 9 0), (1, xi f1), (2, xi f2), (3, xi x3)] [] sh jqW (fm_M_goesAmong_8 f1 f2 K n x3 sh) := by
  intro n
  induction n with
  | zero => intro x3 sh; exact jr_none
  | succ n ih8 =>
    intro x3 sh
    rw [fm_M_goesAmong_8]
    refine jr_iload_n (e_263 rfl) rfl rfl ?_
    refine jr_iconst (e_263 rfl) rfl ?_
    refine jr_bri (c := 4 ≤ x3) (pt := 125) (pn := 13) (e_263 rfl) rfl rfl (fun h1 => ?_) (fun h1 => ?_)
    · exact jr_sub (show ([0, 1, 2, 3] : List Nat).Nodup from by decide) (xsb_c (List.Mem.head _) (xsb_c (List.Mem.tail _ (List.Mem.head _)) xsb_n)) (hK8 sh)
    · refine jr_iload_n (e_263 rfl) rfl rfl ?_
      refine jr_iload_n (e_263 rfl) rfl rfl ?_
      refine jr_bri (c := x3 = f1) (pt := 119) (pn := 18) (e_263 rfl) rfl rfl (fun h2 => ?_) (fun h2 => ?_)
      · refine jr_iinc (L2 := fun c => [(3, xi c), (0, xr 9 0), (1, xi f1), (2, xi f2)]) (e_263 rfl) rfl rfl rfl (fun _ => rfl) (fun v3 => ?_)
        refine jr_goto (pc' := 8) (e_263 rfl) rfl ?_
        exact jr_sub (show ([3, 0, 1, 2] : List Nat).Nodup from by decide) (xsb_c (List.Mem.tail _ (List.Mem.head _)) (xsb_c (List.Mem.tail _ (List.Mem.tail _ (List.Mem.head _))) (xsb_c (List.Mem.tail _ (List.Mem.tail _ (List.Mem.tail _ (List.Mem.head _)))) (xsb_c (List.Mem.head _) xsb_n)))) (ih8 v3 sh)
      · refine jr_iload_n (e_263 rfl) rfl rfl ?_
        refine jr_iload_n (e_263 rfl) rfl rfl ?_
        refine jr_ishr (e_263 rfl) rfl ?_
        refine jr_iconst (e_263 rfl) rfl ?_
        refine jr_iand (e_263 rfl) rfl ?_
        refine jr_iconst (e_263 rfl) rfl ?_
        refine jr_brx (c := (xand (xshr f2 x3) 1) = 1) (pt := 119) (pn := 27) (e_263 rfl) rfl rfl (fun h4 => ?_) (fun h4 => ?_)
        · refine jr_aload_n (e_263 rfl) rfl rfl ?_
          refine jr_iload_n (e_263 rfl) rfl rfl ?_
          refine jr_aload_n (e_263 rfl) rfl rfl ?_
          refine jr_getr (K2 := 63) (i2 := 0) (e_263 rfl) rfl rfl rfl ?_
          refine jr_iload_n (e_263 rfl) rfl rfl ?_
          refine jr_ald (n := 5) (e_263 rfl) rfl rfl rfl ?_
          refine jr_callV (as := [xr 9 0, xi x3, xi (sh 63 0 x3.toNat)]) (S1 := []) (e_263 rfl) rfl rfl rfl rfl rfl rfl (jm_M_layCubes x3 (sh 63 0 x3.toNat) sh) rfl (fun s5 => ?_)
          refine jr_iconst (e_263 rfl) rfl ?_
          refine jr_istore (L' := [(4, xi 0), (0, xr 9 0), (1, xi f1), (2, xi f2), (3, xi x3)]) (e_263 rfl) rfl rfl rfl ?_
          refine jr_sub (show ([4, 0, 1, 2, 3] : List Nat).Nodup from by decide) (xsb_c (List.Mem.tail _ (List.Mem.head _)) (xsb_c (List.Mem.tail _ (List.Mem.tail _ (List.Mem.head _))) (xsb_c (List.Mem.tail _ (List.Mem.tail _ (List.Mem.tail _ (List.Mem.head _)))) (xsb_c (List.Mem.tail _ (List.Mem.tail _ (List.Mem.tail _ (List.Mem.tail _ (List.Mem.head _))))) (xsb_c (List.Mem.head _) xsb_n))))) (jl_M_goesAmong_41 f1 f2 x3 σ _ (fun s6 => ?_) xFU 0 s5)
          refine jr_iinc (L2 := fun c => [(3, xi c), (0, xr 9 0), (1, xi f1), (2, xi f2)]) (e_263 rfl) rfl rfl rfl (fun _ => rfl) (fun v7 => ?_)
          refine jr_goto (pc' := 8) (e_263 rfl) rfl ?_
          exact jr_sub (show ([3, 0, 1, 2] : List Nat).Nodup from by decide) (xsb_c (List.Mem.tail _ (List.Mem.head _)) (xsb_c (List.Mem.tail _ (List.Mem.tail _ (List.Mem.head _))) (xsb_c (List.Mem.tail _ (List.Mem.tail _ (List.Mem.tail _ (List.Mem.head _)))) (xsb_c (List.Mem.head _) xsb_n)))) (ih8 v7 s6)
        · refine jr_iinc (L2 := fun c => [(3, xi c), (0, xr 9 0), (1, xi f1), (2, xi f2)]) (e_263 rfl) rfl rfl rfl (fun _ => rfl) (fun v8 => ?_)
          refine jr_goto (pc' := 8) (e_263 rfl) rfl ?_
          exact jr_sub (show ([3, 0, 1, 2] : List Nat).Nodup from by decide) (xsb_c (List.Mem.tail _ (List.Mem.head _)) (xsb_c (List.Mem.tail _ (List.Mem.tail _ (List.Mem.head _))) (xsb_c (List.Mem.tail _ (List.Mem.tail _ (List.Mem.tail _ (List.Mem.head _)))) (xsb_c (List.Mem.head _) xsb_n)))) (ih8 v8 sh)
noncomputable def fm_M_goesAmong (a1 : Int) (a2 : Int) (σ : xa_H) : Option (Int × xa_H) :=
  (fm_M_takeOff 0 0 σ).bind fun s1 =>
  fm_M_goesAmong_8 a1 a2 (fun (s9 : xa_H) =>
    xnm (xup s9 9 0 37 0) fun s10 =>
    if 0 ≤ a1 ∧ a1 < 5 then
      (fm_M_findOff a1 (s10 64 0 a1.toNat) s10).bind fun s11 =>
      (fm_M_standOf a1 s11).bind fun v12 =>
      if 0 ≤ v12 ∧ v12 < 3456 then
        if 0 ≤ (xcmp (s11 71 0 v12.toNat) 1000000000000000) then
          some (0, s11)
        else
          some (1, s11)
      else none
    else none) xFU 0 s1
theorem jm_M_goesAmong (a1 : Int) (a2 : Int) (σ : xa_H) : J 263 0 [(0, xr 9 0), (1, xi a1), (2, xi a2)] [] σ jqW (fm_M_goesAmong a1 a2 σ) := by
  unfold fm_M_goesAmong
  refine jr_aload_n (e_263 rfl) rfl rfl ?_
  refine jr_iconst (e_263 rfl) rfl ?_
  refine jr_iconst (e_263 rfl) rfl ?_
  refine jr_callV (as := [xr 9 0, xi 0, xi 0]) (S1 := []) (e_263 rfl) rfl rfl rfl rfl rfl rfl (jm_M_takeOff 0 0 σ) rfl (fun s1 => ?_)
  refine jr_iconst (e_263 rfl) rfl ?_
  refine jr_istore_n (L' := [(3, xi 0), (0, xr 9 0), (1, xi a1), (2, xi a2)]) (e_263 rfl) rfl rfl rfl ?_
  refine jr_sub (show ([3, 0, 1, 2] : List Nat).Nodup from by decide) (xsb_c (List.Mem.tail _ (List.Mem.head _)) (xsb_c (List.Mem.tail _ (List.Mem.tail _ (List.Mem.head _))) (xsb_c (List.Mem.tail _ (List.Mem.tail _ (List.Mem.tail _ (List.Mem.head _)))) (xsb_c (List.Mem.head _) xsb_n)))) (jl_M_goesAmong_8 a1 a2 σ _ (fun s9 => ?_) xFU 0 s1)
  refine jr_aload_n (e_263 rfl) rfl rfl ?_
  refine jr_iconst (e_263 rfl) rfl ?_
  refine jr_putz (e_263 rfl) rfl rfl rfl (by decide) ?_
  refine jr_nms (fun s10 => ?_)
  refine jr_aload_n (e_263 rfl) rfl rfl ?_
  refine jr_iload_n (e_263 rfl) rfl rfl ?_
  refine jr_aload_n (e_263 rfl) rfl rfl ?_
  refine jr_getr (K2 := 64) (i2 := 0) (e_263 rfl) rfl rfl rfl ?_
  refine jr_iload_n (e_263 rfl) rfl rfl ?_
  refine jr_ald (n := 5) (e_263 rfl) rfl rfl rfl ?_
  refine jr_callV (as := [xr 9 0, xi a1, xi (s10 64 0 a1.toNat)]) (S1 := []) (e_263 rfl) rfl rfl rfl rfl rfl rfl (jm_M_findOff a1 (s10 64 0 a1.toNat) s10) rfl (fun s11 => ?_)
  refine jr_aload_n (e_263 rfl) rfl rfl ?_
  refine jr_getr (K2 := 71) (i2 := 0) (e_263 rfl) rfl rfl rfl ?_
  refine jr_aload_n (e_263 rfl) rfl rfl ?_
  refine jr_iload_n (e_263 rfl) rfl rfl ?_
  refine jr_callP (as := [xr 9 0, xi a1]) (S1 := [xr 71 0]) (e_263 rfl) rfl rfl rfl rfl rfl rfl (jm_M_standOf a1 s11) rfl (fun v12 => ?_)
  refine jr_lald (n := 3456) (e_263 rfl) rfl rfl rfl ?_
  refine jr_ldc2 (a := 1000000000000000) (e_263 rfl) rfl rfl ?_
  refine jr_lcmp (e_263 rfl) rfl ?_
  refine jr_bri (c := 0 ≤ (xcmp (s11 71 0 v12.toNat) 1000000000000000)) (pt := 162) (pn := 158) (e_263 rfl) rfl rfl (fun h13 => ?_) (fun h13 => ?_)
  · refine jr_iconst (e_263 rfl) rfl ?_
    exact jr_retWz (e_263 rfl) rfl rfl
  · refine jr_iconst (e_263 rfl) rfl ?_
    refine jr_goto (pc' := 163) (e_263 rfl) rfl ?_
    exact jr_retWz (e_263 rfl) rfl rfl

theorem e_264 {pc : Nat} {en : xa_I} (h : xlk pc xc_264 = some en) : xcd 264 pc = some en := h
noncomputable def fm_M_findOrder_22  (K : Int → Int → Int → xa_H → Option (Int × xa_H)) : Nat → Int → Int → Int → Int → xa_H → Option (Int × xa_H)
  | 0, _, _, _, _, _ => none
  | n + 1, x2, x3, x4, x5, sh =>
    if 4 ≤ x5 then
      K x2 x3 x4 sh
    else
      if x4 = 0 then
        if (xand (xshr x2 x5) 1) = 1 then
          xb2 (fm_M_goesAmong x5 x2 sh) fun v4 s5 =>
          if v4 = 0 then
            xnm (w32 (x5 + 1) : Int) fun v7 =>
            fm_M_findOrder_22 K n x2 x3 x4 v7 s5
          else
            if 0 ≤ x3 ∧ x3 < 4 then
              xnm (xup s5 74 0 x3.toNat x5) fun s8 =>
              xnm (w32 (x3 + 1) : Int) fun v9 =>
              xnm ((xand x2 (xxor (xshl 1 x5) (-1))) : Int) fun v10 =>
              xnm (w32 (x5 + 1) : Int) fun v11 =>
              fm_M_findOrder_22 K n v10 v9 1 v11 s8
            else none
        else
          xnm (w32 (x5 + 1) : Int) fun v12 =>
          fm_M_findOrder_22 K n x2 x3 x4 v12 sh
      else
        K x2 x3 x4 sh
theorem jl_M_findOrder_22  (σ : xa_H)  (K : Int → Int → Int → xa_H → Option (Int × xa_H)) (hK22 : ∀ (z0 : Int) (z1 : Int) (z2 : Int) (sz : xa_H), J 264 82 [(0, xr 9 0), (2, xi z0), (3, xi z1), (4, xi z2)] [] sz jqW (K z0 z1 z2 sz)) : ∀ (n : Nat) (x2 : Int) (x3 : Int) (x4 : Int) (x5 : Int) (sh : xa_H), J 264 22 [(0, xr 9 0), (2, xi x2), (3, xi x3), (4, xi x4), (5, xi x5)] [] sh jqW (fm_M_findOrder_22 K n x2 x3 x4 x5 sh) := by
  intro n
  induction n with
  | zero => intro x2 x3 x4 x5 sh; exact jr_none
  | succ n ih22 =>
    intro x2 x3 x4 x5 sh
    rw [fm_M_findOrder_22]
    refine jr_iload (e_264 rfl) rfl rfl ?_
    refine jr_iconst (e_264 rfl) rfl ?_
    refine jr_bri (c := 4 ≤ x5) (pt := 82) (pn := 28) (e_264 rfl) rfl rfl (fun h1 => ?_) (fun h1 => ?_)
    · exact jr_sub (show ([0, 2, 3, 4, 5] : List Nat).Nodup from by decide) (xsb_c (List.Mem.head _) (xsb_c (List.Mem.tail _ (List.Mem.head _)) (xsb_c (List.Mem.tail _ (List.Mem.tail _ (List.Mem.head _))) (xsb_c (List.Mem.tail _ (List.Mem.tail _ (List.Mem.tail _ (List.Mem.head _)))) xsb_n)))) (hK22 x2 x3 x4 sh)
    · refine jr_iload (e_264 rfl) rfl rfl ?_
      refine jr_brx (c := x4 = 0) (pt := 82) (pn := 33) (e_264 rfl) rfl rfl (fun h2 => ?_) (fun h2 => ?_)
      · refine jr_iload_n (e_264 rfl) rfl rfl ?_
        refine jr_iload (e_264 rfl) rfl rfl ?_
        refine jr_ishr (e_264 rfl) rfl ?_
        refine jr_iconst (e_264 rfl) rfl ?_
        refine jr_iand (e_264 rfl) rfl ?_
        refine jr_iconst (e_264 rfl) rfl ?_
        refine jr_brx (c := (xand (xshr x2 x5) 1) = 1) (pt := 76) (pn := 43) (e_264 rfl) rfl rfl (fun h3 => ?_) (fun h3 => ?_)
        · refine jr_aload_n (e_264 rfl) rfl rfl ?_
          refine jr_iload (e_264 rfl) rfl rfl ?_
          refine jr_iload_n (e_264 rfl) rfl rfl ?_
          refine jr_callX (as := [xr 9 0, xi x5, xi x2]) (S1 := []) (e_264 rfl) rfl rfl rfl rfl rfl rfl (jm_M_goesAmong x5 x2 sh) rfl (fun v4 s5 => ?_)
          refine jr_bri (c := v4 = 0) (pt := 76) (pn := 53) (e_264 rfl) rfl rfl (fun h6 => ?_) (fun h6 => ?_)
          · refine jr_iinc (L2 := fun c => [(5, xi c), (0, xr 9 0), (2, xi x2), (3, xi x3), (4, xi x4)]) (e_264 rfl) rfl rfl rfl (fun _ => rfl) (fun v7 => ?_)
            refine jr_goto (pc' := 22) (e_264 rfl) rfl ?_
            exact jr_sub (show ([5, 0, 2, 3, 4] : List Nat).Nodup from by decide) (xsb_c (List.Mem.tail _ (List.Mem.head _)) (xsb_c (List.Mem.tail _ (List.Mem.tail _ (List.Mem.head _))) (xsb_c (List.Mem.tail _ (List.Mem.tail _ (List.Mem.tail _ (List.Mem.head _)))) (xsb_c (List.Mem.tail _ (List.Mem.tail _ (List.Mem.tail _ (List.Mem.tail _ (List.Mem.head _))))) (xsb_c (List.Mem.head _) xsb_n))))) (ih22 x2 x3 x4 v7 s5)
          · refine jr_aload_n (e_264 rfl) rfl rfl ?_
            refine jr_getr (K2 := 74) (i2 := 0) (e_264 rfl) rfl rfl rfl ?_
            refine jr_iload_n (e_264 rfl) rfl rfl ?_
            refine jr_iload (e_264 rfl) rfl rfl ?_
            refine jr_ast (n := 4) (e_264 rfl) rfl rfl rfl rfl ?_
            refine jr_nms (fun s8 => ?_)
            refine jr_iinc (L2 := fun c => [(3, xi c), (0, xr 9 0), (2, xi x2), (4, xi x4), (5, xi x5)]) (e_264 rfl) rfl rfl rfl (fun _ => rfl) (fun v9 => ?_)
            refine jr_iload_n (e_264 rfl) rfl rfl ?_
            refine jr_iconst (e_264 rfl) rfl ?_
            refine jr_iload (e_264 rfl) rfl rfl ?_
            refine jr_ishl (e_264 rfl) rfl ?_
            refine jr_iconst (e_264 rfl) rfl ?_
            refine jr_ixor (e_264 rfl) rfl ?_
            refine jr_iand (e_264 rfl) rfl ?_
            refine jr_nm (fun v10 => ?_)
            refine jr_istore_n (L' := [(2, xi v10), (3, xi v9), (0, xr 9 0), (4, xi x4), (5, xi x5)]) (e_264 rfl) rfl rfl rfl ?_
            refine jr_iconst (e_264 rfl) rfl ?_
            refine jr_istore (L' := [(4, xi 1), (2, xi v10), (3, xi v9), (0, xr 9 0), (5, xi x5)]) (e_264 rfl) rfl rfl rfl ?_
            refine jr_iinc (L2 := fun c => [(5, xi c), (4, xi 1), (2, xi v10), (3, xi v9), (0, xr 9 0)]) (e_264 rfl) rfl rfl rfl (fun _ => rfl) (fun v11 => ?_)
            refine jr_goto (pc' := 22) (e_264 rfl) rfl ?_
            exact jr_sub (show ([5, 4, 2, 3, 0] : List Nat).Nodup from by decide) (xsb_c (List.Mem.tail _ (List.Mem.tail _ (List.Mem.tail _ (List.Mem.tail _ (List.Mem.head _))))) (xsb_c (List.Mem.tail _ (List.Mem.tail _ (List.Mem.head _))) (xsb_c (List.Mem.tail _ (List.Mem.tail _ (List.Mem.tail _ (List.Mem.head _)))) (xsb_c (List.Mem.tail _ (List.Mem.head _)) (xsb_c (List.Mem.head _) xsb_n))))) (ih22 v10 v9 1 v11 s8)
        · refine jr_iinc (L2 := fun c => [(5, xi c), (0, xr 9 0), (2, xi x2), (3, xi x3), (4, xi x4)]) (e_264 rfl) rfl rfl rfl (fun _ => rfl) (fun v12 => ?_)
          refine jr_goto (pc' := 22) (e_264 rfl) rfl ?_
          exact jr_sub (show ([5, 0, 2, 3, 4] : List Nat).Nodup from by decide) (xsb_c (List.Mem.tail _ (List.Mem.head _)) (xsb_c (List.Mem.tail _ (List.Mem.tail _ (List.Mem.head _))) (xsb_c (List.Mem.tail _ (List.Mem.tail _ (List.Mem.tail _ (List.Mem.head _)))) (xsb_c (List.Mem.tail _ (List.Mem.tail _ (List.Mem.tail _ (List.Mem.tail _ (List.Mem.head _))))) (xsb_c (List.Mem.head _) xsb_n))))) (ih22 x2 x3 x4 v12 sh)
      · exact jr_sub (show ([0, 2, 3, 4, 5] : List Nat).Nodup from by decide) (xsb_c (List.Mem.head _) (xsb_c (List.Mem.tail _ (List.Mem.head _)) (xsb_c (List.Mem.tail _ (List.Mem.tail _ (List.Mem.head _))) (xsb_c (List.Mem.tail _ (List.Mem.tail _ (List.Mem.tail _ (List.Mem.head _)))) xsb_n)))) (hK22 x2 x3 x4 sh)
noncomputable def fm_M_findOrder_7  (K : Int → Int → xa_H → Option (Int × xa_H)) : Nat → Int → Int → Int → xa_H → Option (Int × xa_H)
  | 0, _, _, _, _ => none
  | n + 1, x2, x3, x4, sh =>
    if x2 = 0 then
      K x2 x3 sh
    else
      if x4 = 0 then
        K x2 x3 sh
      else
        fm_M_findOrder_22 (fun (v13 : Int) (v14 : Int) (v15 : Int) (s16 : xa_H) =>
          fm_M_findOrder_7 K n v13 v14 v15 s16) xFU x2 x3 0 0 sh
theorem jl_M_findOrder_7  (σ : xa_H)  (K : Int → Int → xa_H → Option (Int × xa_H)) (hK7 : ∀ (z0 : Int) (z1 : Int) (sz : xa_H), J 264 85 [(2, xi z0), (3, xi z1)] [] sz jqW (K z0 z1 sz)) : ∀ (n : Nat) (x2 : Int) (x3 : Int) (x4 : Int) (sh : xa_H), J 264 7 [(0, xr 9 0), (2, xi x2), (3, xi x3), (4, xi x4)] [] sh jqW (fm_M_findOrder_7 K n x2 x3 x4 sh) := by
  intro n
  induction n with
  | zero => intro x2 x3 x4 sh; exact jr_none
  | succ n ih7 =>
    intro x2 x3 x4 sh
    rw [fm_M_findOrder_7]
    refine jr_iload_n (e_264 rfl) rfl rfl ?_
    refine jr_bri (c := x2 = 0) (pt := 85) (pn := 11) (e_264 rfl) rfl rfl (fun h1 => ?_) (fun h1 => ?_)
    · exact jr_sub (show ([0, 2, 3, 4] : List Nat).Nodup from by decide) (xsb_c (List.Mem.tail _ (List.Mem.head _)) (xsb_c (List.Mem.tail _ (List.Mem.tail _ (List.Mem.head _))) xsb_n)) (hK7 x2 x3 sh)
    · refine jr_iload (e_264 rfl) rfl rfl ?_
      refine jr_bri (c := x4 = 0) (pt := 85) (pn := 16) (e_264 rfl) rfl rfl (fun h2 => ?_) (fun h2 => ?_)
      · exact jr_sub (show ([0, 2, 3, 4] : List Nat).Nodup from by decide) (xsb_c (List.Mem.tail _ (List.Mem.head _)) (xsb_c (List.Mem.tail _ (List.Mem.tail _ (List.Mem.head _))) xsb_n)) (hK7 x2 x3 sh)
      · refine jr_iconst (e_264 rfl) rfl ?_
        refine jr_istore (L' := [(4, xi 0), (0, xr 9 0), (2, xi x2), (3, xi x3)]) (e_264 rfl) rfl rfl rfl ?_
        refine jr_iconst (e_264 rfl) rfl ?_
        refine jr_istore (L' := [(5, xi 0), (4, xi 0), (0, xr 9 0), (2, xi x2), (3, xi x3)]) (e_264 rfl) rfl rfl rfl ?_
        refine jr_sub (show ([5, 4, 0, 2, 3] : List Nat).Nodup from by decide) (xsb_c (List.Mem.tail _ (List.Mem.tail _ (List.Mem.head _))) (xsb_c (List.Mem.tail _ (List.Mem.tail _ (List.Mem.tail _ (List.Mem.head _)))) (xsb_c (List.Mem.tail _ (List.Mem.tail _ (List.Mem.tail _ (List.Mem.tail _ (List.Mem.head _))))) (xsb_c (List.Mem.tail _ (List.Mem.head _)) (xsb_c (List.Mem.head _) xsb_n))))) (jl_M_findOrder_22 σ _ (fun v13 v14 v15 s16 => ?_) xFU x2 x3 0 0 sh)
        refine jr_goto (pc' := 7) (e_264 rfl) rfl ?_
        exact jr_sub (show ([0, 2, 3, 4] : List Nat).Nodup from by decide) (xsb_c (List.Mem.head _) (xsb_c (List.Mem.tail _ (List.Mem.head _)) (xsb_c (List.Mem.tail _ (List.Mem.tail _ (List.Mem.head _))) (xsb_c (List.Mem.tail _ (List.Mem.tail _ (List.Mem.tail _ (List.Mem.head _)))) xsb_n)))) (ih7 v13 v14 v15 s16)
noncomputable def fm_M_findOrder (a1 : Int) (σ : xa_H) : Option (Int × xa_H) :=
  fm_M_findOrder_7 (fun (v17 : Int) (v18 : Int) (s19 : xa_H) =>
    if v17 = 0 then
      some (v18, s19)
    else
      some ((-6), s19)) xFU a1 0 1 σ
theorem jm_M_findOrder (a1 : Int) (σ : xa_H) : J 264 0 [(0, xr 9 0), (1, xi a1)] [] σ jqW (fm_M_findOrder a1 σ) := by
  unfold fm_M_findOrder
  refine jr_iload_n (e_264 rfl) rfl rfl ?_
  refine jr_istore_n (L' := [(2, xi a1), (0, xr 9 0), (1, xi a1)]) (e_264 rfl) rfl rfl rfl ?_
  refine jr_iconst (e_264 rfl) rfl ?_
  refine jr_istore_n (L' := [(3, xi 0), (2, xi a1), (0, xr 9 0), (1, xi a1)]) (e_264 rfl) rfl rfl rfl ?_
  refine jr_iconst (e_264 rfl) rfl ?_
  refine jr_istore (L' := [(4, xi 1), (3, xi 0), (2, xi a1), (0, xr 9 0), (1, xi a1)]) (e_264 rfl) rfl rfl rfl ?_
  refine jr_sub (show ([4, 3, 2, 0, 1] : List Nat).Nodup from by decide) (xsb_c (List.Mem.tail _ (List.Mem.tail _ (List.Mem.tail _ (List.Mem.head _)))) (xsb_c (List.Mem.tail _ (List.Mem.tail _ (List.Mem.head _))) (xsb_c (List.Mem.tail _ (List.Mem.head _)) (xsb_c (List.Mem.head _) xsb_n)))) (jl_M_findOrder_7 σ _ (fun v17 v18 s19 => ?_) xFU a1 0 1 σ)
  refine jr_iload_n (e_264 rfl) rfl rfl ?_
  refine jr_brx (c := v17 = 0) (pt := 93) (pn := 89) (e_264 rfl) rfl rfl (fun h20 => ?_) (fun h20 => ?_)
  · refine jr_iload_n (e_264 rfl) rfl rfl ?_
    refine jr_goto (pc' := 95) (e_264 rfl) rfl ?_
    exact jr_retW (e_264 rfl) rfl
  · refine jr_bipush (e_264 rfl) rfl ?_
    exact jr_retW (e_264 rfl) rfl

theorem e_265 {pc : Nat} {en : xa_I} (h : xlk pc xc_265 = some en) : xcd 265 pc = some en := h
noncomputable def fm_M_order_17 (f1 : Int) (f2 : Int) (σ : xa_H) (K : Option (Int × xa_H)) : Nat → Int → Option (Int × xa_H)
  | 0, _ => none
  | n + 1, x3 =>
    if 4 ≤ x3 then
      K
    else
      if (xand (xshr f1 x3) 1) = 1 then
        if 0 ≤ x3 ∧ x3 < 5 then
          if 0 ≤ (σ 62 0 x3.toNat) then
            xnm (w32 (x3 + 1) : Int) fun v4 =>
            fm_M_order_17 f1 f2 σ K n v4
          else
            some ((-3), σ)
        else none
      else
        xnm (w32 (x3 + 1) : Int) fun v5 =>
        fm_M_order_17 f1 f2 σ K n v5
theorem jl_M_order_17 (f1 : Int) (f2 : Int) (σ : xa_H)  (K : Option (Int × xa_H)) (hK17 : J 265 49 [(0, xr 9 0), (1, xi f1), (2, xi f2)] [] σ jqW (K)) : ∀ (n : Nat) (x3 : Int), J 265 17 [(0, xr 9 0), (1, xi f1), (2, xi f2), (3, xi x3)] [] σ jqW (fm_M_order_17 f1 f2 σ K n x3) := by
  intro n
  induction n with
  | zero => intro x3; exact jr_none
  | succ n ih17 =>
    intro x3
    rw [fm_M_order_17]
    refine jr_iload_n (e_265 rfl) rfl rfl ?_
    refine jr_iconst (e_265 rfl) rfl ?_
    refine jr_bri (c := 4 ≤ x3) (pt := 49) (pn := 22) (e_265 rfl) rfl rfl (fun h1 => ?_) (fun h1 => ?_)
    · exact jr_sub (show ([0, 1, 2, 3] : List Nat).Nodup from by decide) (xsb_c (List.Mem.head _) (xsb_c (List.Mem.tail _ (List.Mem.head _)) (xsb_c (List.Mem.tail _ (List.Mem.tail _ (List.Mem.head _))) xsb_n))) (hK17)
    · refine jr_iload_n (e_265 rfl) rfl rfl ?_
      refine jr_iload_n (e_265 rfl) rfl rfl ?_
      refine jr_ishr (e_265 rfl) rfl ?_
      refine jr_iconst (e_265 rfl) rfl ?_
      refine jr_iand (e_265 rfl) rfl ?_
      refine jr_iconst (e_265 rfl) rfl ?_
      refine jr_brx (c := (xand (xshr f1 x3) 1) = 1) (pt := 43) (pn := 31) (e_265 rfl) rfl rfl (fun h2 => ?_) (fun h2 => ?_)
      · refine jr_aload_n (e_265 rfl) rfl rfl ?_
        refine jr_getr (K2 := 62) (i2 := 0) (e_265 rfl) rfl rfl rfl ?_
        refine jr_iload_n (e_265 rfl) rfl rfl ?_
        refine jr_ald (n := 5) (e_265 rfl) rfl rfl rfl ?_
        refine jr_bri (c := 0 ≤ (σ 62 0 x3.toNat)) (pt := 43) (pn := 40) (e_265 rfl) rfl rfl (fun h3 => ?_) (fun h3 => ?_)
        · refine jr_iinc (L2 := fun c => [(3, xi c), (0, xr 9 0), (1, xi f1), (2, xi f2)]) (e_265 rfl) rfl rfl rfl (fun _ => rfl) (fun v4 => ?_)
          refine jr_goto (pc' := 17) (e_265 rfl) rfl ?_
          exact jr_sub (show ([3, 0, 1, 2] : List Nat).Nodup from by decide) (xsb_c (List.Mem.tail _ (List.Mem.head _)) (xsb_c (List.Mem.tail _ (List.Mem.tail _ (List.Mem.head _))) (xsb_c (List.Mem.tail _ (List.Mem.tail _ (List.Mem.tail _ (List.Mem.head _)))) (xsb_c (List.Mem.head _) xsb_n)))) (ih17 v4)
        · refine jr_bipush (e_265 rfl) rfl ?_
          exact jr_retW (e_265 rfl) rfl
      · refine jr_iinc (L2 := fun c => [(3, xi c), (0, xr 9 0), (1, xi f1), (2, xi f2)]) (e_265 rfl) rfl rfl rfl (fun _ => rfl) (fun v5 => ?_)
        refine jr_goto (pc' := 17) (e_265 rfl) rfl ?_
        exact jr_sub (show ([3, 0, 1, 2] : List Nat).Nodup from by decide) (xsb_c (List.Mem.tail _ (List.Mem.head _)) (xsb_c (List.Mem.tail _ (List.Mem.tail _ (List.Mem.head _))) (xsb_c (List.Mem.tail _ (List.Mem.tail _ (List.Mem.tail _ (List.Mem.head _)))) (xsb_c (List.Mem.head _) xsb_n)))) (ih17 v5)
noncomputable def fm_M_order (a1 : Int) (a2 : Int) (σ : xa_H) : Option (Int × xa_H) :=
  (fm_M_in a1 1 15).bind fun v1 =>
  if v1 = 0 then
    some ((-2), σ)
  else
    fm_M_order_17 a1 a2 σ (
      xb2 (fm_M_findOrder a1 σ) fun v6 s7 =>
      (fm_M_in a2 0 (w32 (v6 - 1))).bind fun v8 =>
      if v8 = 0 then
        some ((-6), s7)
      else
        if 0 ≤ a2 ∧ a2 < 4 then
          some ((s7 74 0 a2.toNat), s7)
        else none) xFU 0
theorem jm_M_order (a1 : Int) (a2 : Int) (σ : xa_H) : J 265 0 [(0, xr 9 0), (1, xi a1), (2, xi a2)] [] σ jqW (fm_M_order a1 a2 σ) := by
  unfold fm_M_order
  refine jr_iload_n (e_265 rfl) rfl rfl ?_
  refine jr_i2l (e_265 rfl) rfl ?_
  refine jr_lconst (a := 1) (e_265 rfl) rfl rfl ?_
  refine jr_ldc2 (a := 15) (e_265 rfl) rfl rfl ?_
  refine jr_callP (as := [xl a1, xl 1, xl 15]) (S1 := []) (e_265 rfl) rfl rfl rfl rfl rfl rfl (jm_M_in a1 1 15 σ) rfl (fun v1 => ?_)
  refine jr_brx (c := v1 = 0) (pt := 15) (pn := 12) (e_265 rfl) rfl rfl (fun h2 => ?_) (fun h2 => ?_)
  · refine jr_bipush (e_265 rfl) rfl ?_
    exact jr_retW (e_265 rfl) rfl
  · refine jr_iconst (e_265 rfl) rfl ?_
    refine jr_istore_n (L' := [(3, xi 0), (0, xr 9 0), (1, xi a1), (2, xi a2)]) (e_265 rfl) rfl rfl rfl ?_
    refine jr_sub (show ([3, 0, 1, 2] : List Nat).Nodup from by decide) (xsb_c (List.Mem.tail _ (List.Mem.head _)) (xsb_c (List.Mem.tail _ (List.Mem.tail _ (List.Mem.head _))) (xsb_c (List.Mem.tail _ (List.Mem.tail _ (List.Mem.tail _ (List.Mem.head _)))) (xsb_c (List.Mem.head _) xsb_n)))) (jl_M_order_17 a1 a2 σ _ ?_ xFU 0)
    refine jr_aload_n (e_265 rfl) rfl rfl ?_
    refine jr_iload_n (e_265 rfl) rfl rfl ?_
    refine jr_callX (as := [xr 9 0, xi a1]) (S1 := []) (e_265 rfl) rfl rfl rfl rfl rfl rfl (jm_M_findOrder a1 σ) rfl (fun v6 s7 => ?_)
    refine jr_istore_n (L' := [(3, xi v6), (0, xr 9 0), (1, xi a1), (2, xi a2)]) (e_265 rfl) rfl rfl rfl ?_
    refine jr_iload_n (e_265 rfl) rfl rfl ?_
    refine jr_i2l (e_265 rfl) rfl ?_
    refine jr_lconst (a := 0) (e_265 rfl) rfl rfl ?_
    refine jr_iload_n (e_265 rfl) rfl rfl ?_
    refine jr_iconst (e_265 rfl) rfl ?_
    refine jr_isub (e_265 rfl) rfl ?_
    refine jr_i2l (e_265 rfl) rfl ?_
    refine jr_callP (as := [xl a2, xl 0, xl (w32 (v6 - 1))]) (S1 := []) (e_265 rfl) rfl rfl rfl rfl rfl rfl (jm_M_in a2 0 (w32 (v6 - 1)) s7) rfl (fun v8 => ?_)
    refine jr_bri (c := v8 = 0) (pt := 77) (pn := 68) (e_265 rfl) rfl rfl (fun h9 => ?_) (fun h9 => ?_)
    · refine jr_bipush (e_265 rfl) rfl ?_
      exact jr_retW (e_265 rfl) rfl
    · refine jr_aload_n (e_265 rfl) rfl rfl ?_
      refine jr_getr (K2 := 74) (i2 := 0) (e_265 rfl) rfl rfl rfl ?_
      refine jr_iload_n (e_265 rfl) rfl rfl ?_
      refine jr_ald (n := 4) (e_265 rfl) rfl rfl rfl ?_
      refine jr_goto (pc' := 79) (e_265 rfl) rfl ?_
      exact jr_retW (e_265 rfl) rfl

theorem e_266 {pc : Nat} {en : xa_I} (h : xlk pc xc_266 = some en) : xcd 266 pc = some en := h
noncomputable def fm_M_came_43 (f1 : Int) (f2 : Int) (K : Int → Int → xa_H → Option (Int × xa_H)) : Nat → Int → Int → Int → xa_H → Option (Int × xa_H)
  | 0, _, _, _, _ => none
  | n + 1, x3, x4, x5, sh =>
    if 16 ≤ x5 then
      K x3 x4 sh
    else
      xb2 (fm_M_doesGo f1 0 x5 sh) fun v2 s3 =>
      if v2 = 0 then
        xnm (w32 (x5 + 1) : Int) fun v5 =>
        fm_M_came_43 f1 f2 K n x3 x4 v5 s3
      else
        xnm (w32 (x3 + 1) : Int) fun v6 =>
        xnm ((xand x4 x5) : Int) fun v7 =>
        xnm (w32 (x5 + 1) : Int) fun v8 =>
        fm_M_came_43 f1 f2 K n v6 v7 v8 s3
theorem jl_M_came_43 (f1 : Int) (f2 : Int) (σ : xa_H)  (K : Int → Int → xa_H → Option (Int × xa_H)) (hK43 : ∀ (z0 : Int) (z1 : Int) (sz : xa_H), J 266 77 [(2, xi f2), (3, xi z0), (4, xi z1)] [] sz jqW (K z0 z1 sz)) : ∀ (n : Nat) (x3 : Int) (x4 : Int) (x5 : Int) (sh : xa_H), J 266 43 [(0, xr 9 0), (1, xi f1), (2, xi f2), (3, xi x3), (4, xi x4), (5, xi x5)] [] sh jqW (fm_M_came_43 f1 f2 K n x3 x4 x5 sh) := by
  intro n
  induction n with
  | zero => intro x3 x4 x5 sh; exact jr_none
  | succ n ih43 =>
    intro x3 x4 x5 sh
    rw [fm_M_came_43]
    refine jr_iload (e_266 rfl) rfl rfl ?_
    refine jr_bipush (e_266 rfl) rfl ?_
    refine jr_bri (c := 16 ≤ x5) (pt := 77) (pn := 50) (e_266 rfl) rfl rfl (fun h1 => ?_) (fun h1 => ?_)
    · exact jr_sub (show ([0, 1, 2, 3, 4, 5] : List Nat).Nodup from by decide) (xsb_c (List.Mem.tail _ (List.Mem.tail _ (List.Mem.head _))) (xsb_c (List.Mem.tail _ (List.Mem.tail _ (List.Mem.tail _ (List.Mem.head _)))) (xsb_c (List.Mem.tail _ (List.Mem.tail _ (List.Mem.tail _ (List.Mem.tail _ (List.Mem.head _))))) xsb_n))) (hK43 x3 x4 sh)
    · refine jr_aload_n (e_266 rfl) rfl rfl ?_
      refine jr_iload_n (e_266 rfl) rfl rfl ?_
      refine jr_iconst (e_266 rfl) rfl ?_
      refine jr_iload (e_266 rfl) rfl rfl ?_
      refine jr_callX (as := [xr 9 0, xi f1, xi 0, xi x5]) (S1 := []) (e_266 rfl) rfl rfl rfl rfl rfl rfl (jm_M_doesGo f1 0 x5 sh) rfl (fun v2 s3 => ?_)
      refine jr_bri (c := v2 = 0) (pt := 71) (pn := 61) (e_266 rfl) rfl rfl (fun h4 => ?_) (fun h4 => ?_)
      · refine jr_iinc (L2 := fun c => [(5, xi c), (0, xr 9 0), (1, xi f1), (2, xi f2), (3, xi x3), (4, xi x4)]) (e_266 rfl) rfl rfl rfl (fun _ => rfl) (fun v5 => ?_)
        refine jr_goto (pc' := 43) (e_266 rfl) rfl ?_
        exact jr_sub (show ([5, 0, 1, 2, 3, 4] : List Nat).Nodup from by decide) (xsb_c (List.Mem.tail _ (List.Mem.head _)) (xsb_c (List.Mem.tail _ (List.Mem.tail _ (List.Mem.head _))) (xsb_c (List.Mem.tail _ (List.Mem.tail _ (List.Mem.tail _ (List.Mem.head _)))) (xsb_c (List.Mem.tail _ (List.Mem.tail _ (List.Mem.tail _ (List.Mem.tail _ (List.Mem.head _))))) (xsb_c (List.Mem.tail _ (List.Mem.tail _ (List.Mem.tail _ (List.Mem.tail _ (List.Mem.tail _ (List.Mem.head _)))))) (xsb_c (List.Mem.head _) xsb_n)))))) (ih43 x3 x4 v5 s3)
      · refine jr_iinc (L2 := fun c => [(3, xi c), (0, xr 9 0), (1, xi f1), (2, xi f2), (4, xi x4), (5, xi x5)]) (e_266 rfl) rfl rfl rfl (fun _ => rfl) (fun v6 => ?_)
        refine jr_iload (e_266 rfl) rfl rfl ?_
        refine jr_iload (e_266 rfl) rfl rfl ?_
        refine jr_iand (e_266 rfl) rfl ?_
        refine jr_nm (fun v7 => ?_)
        refine jr_istore (L' := [(4, xi v7), (3, xi v6), (0, xr 9 0), (1, xi f1), (2, xi f2), (5, xi x5)]) (e_266 rfl) rfl rfl rfl ?_
        refine jr_iinc (L2 := fun c => [(5, xi c), (4, xi v7), (3, xi v6), (0, xr 9 0), (1, xi f1), (2, xi f2)]) (e_266 rfl) rfl rfl rfl (fun _ => rfl) (fun v8 => ?_)
        refine jr_goto (pc' := 43) (e_266 rfl) rfl ?_
        exact jr_sub (show ([5, 4, 3, 0, 1, 2] : List Nat).Nodup from by decide) (xsb_c (List.Mem.tail _ (List.Mem.tail _ (List.Mem.tail _ (List.Mem.head _)))) (xsb_c (List.Mem.tail _ (List.Mem.tail _ (List.Mem.tail _ (List.Mem.tail _ (List.Mem.head _))))) (xsb_c (List.Mem.tail _ (List.Mem.tail _ (List.Mem.tail _ (List.Mem.tail _ (List.Mem.tail _ (List.Mem.head _)))))) (xsb_c (List.Mem.tail _ (List.Mem.tail _ (List.Mem.head _))) (xsb_c (List.Mem.tail _ (List.Mem.head _)) (xsb_c (List.Mem.head _) xsb_n)))))) (ih43 v6 v7 v8 s3)
noncomputable def fm_M_came (a1 : Int) (a2 : Int) (σ : xa_H) : Option (Int × xa_H) :=
  (fm_M_isThing a1).bind fun v1 =>
  if v1 = 0 then
    some ((-1), σ)
  else
    (fm_M_in a2 0 1).bind fun v3 =>
    if v3 = 0 then
      some ((-2), σ)
    else
      if 0 ≤ a1 ∧ a1 < 5 then
        if 0 ≤ (σ 62 0 a1.toNat) then
          fm_M_came_43 a1 a2 (fun (v9 : Int) (v10 : Int) (s11 : xa_H) =>
            if a2 = 0 then
              some (v9, s11)
            else
              if v9 = 0 then
                some ((-6), s11)
              else
                some (v10, s11)) xFU 0 15 0 σ
        else
          some ((-3), σ)
      else none
theorem jm_M_came (a1 : Int) (a2 : Int) (σ : xa_H) : J 266 0 [(0, xr 9 0), (1, xi a1), (2, xi a2)] [] σ jqW (fm_M_came a1 a2 σ) := by
  unfold fm_M_came
  refine jr_iload_n (e_266 rfl) rfl rfl ?_
  refine jr_callP (as := [xi a1]) (S1 := []) (e_266 rfl) rfl rfl rfl rfl rfl rfl (jm_M_isThing a1 σ) rfl (fun v1 => ?_)
  refine jr_brx (c := v1 = 0) (pt := 9) (pn := 7) (e_266 rfl) rfl rfl (fun h2 => ?_) (fun h2 => ?_)
  · refine jr_iconst (e_266 rfl) rfl ?_
    exact jr_retW (e_266 rfl) rfl
  · refine jr_iload_n (e_266 rfl) rfl rfl ?_
    refine jr_i2l (e_266 rfl) rfl ?_
    refine jr_lconst (a := 0) (e_266 rfl) rfl rfl ?_
    refine jr_lconst (a := 1) (e_266 rfl) rfl rfl ?_
    refine jr_callP (as := [xl a2, xl 0, xl 1]) (S1 := []) (e_266 rfl) rfl rfl rfl rfl rfl rfl (jm_M_in a2 0 1 σ) rfl (fun v3 => ?_)
    refine jr_brx (c := v3 = 0) (pt := 22) (pn := 19) (e_266 rfl) rfl rfl (fun h4 => ?_) (fun h4 => ?_)
    · refine jr_bipush (e_266 rfl) rfl ?_
      exact jr_retW (e_266 rfl) rfl
    · refine jr_aload_n (e_266 rfl) rfl rfl ?_
      refine jr_getr (K2 := 62) (i2 := 0) (e_266 rfl) rfl rfl rfl ?_
      refine jr_iload_n (e_266 rfl) rfl rfl ?_
      refine jr_ald (n := 5) (e_266 rfl) rfl rfl rfl ?_
      refine jr_bri (c := 0 ≤ (σ 62 0 a1.toNat)) (pt := 34) (pn := 31) (e_266 rfl) rfl rfl (fun h5 => ?_) (fun h5 => ?_)
      · refine jr_iconst (e_266 rfl) rfl ?_
        refine jr_istore_n (L' := [(3, xi 0), (0, xr 9 0), (1, xi a1), (2, xi a2)]) (e_266 rfl) rfl rfl rfl ?_
        refine jr_bipush (e_266 rfl) rfl ?_
        refine jr_istore (L' := [(4, xi 15), (3, xi 0), (0, xr 9 0), (1, xi a1), (2, xi a2)]) (e_266 rfl) rfl rfl rfl ?_
        refine jr_iconst (e_266 rfl) rfl ?_
        refine jr_istore (L' := [(5, xi 0), (4, xi 15), (3, xi 0), (0, xr 9 0), (1, xi a1), (2, xi a2)]) (e_266 rfl) rfl rfl rfl ?_
        refine jr_sub (show ([5, 4, 3, 0, 1, 2] : List Nat).Nodup from by decide) (xsb_c (List.Mem.tail _ (List.Mem.tail _ (List.Mem.tail _ (List.Mem.head _)))) (xsb_c (List.Mem.tail _ (List.Mem.tail _ (List.Mem.tail _ (List.Mem.tail _ (List.Mem.head _))))) (xsb_c (List.Mem.tail _ (List.Mem.tail _ (List.Mem.tail _ (List.Mem.tail _ (List.Mem.tail _ (List.Mem.head _)))))) (xsb_c (List.Mem.tail _ (List.Mem.tail _ (List.Mem.head _))) (xsb_c (List.Mem.tail _ (List.Mem.head _)) (xsb_c (List.Mem.head _) xsb_n)))))) (jl_M_came_43 a1 a2 σ _ (fun v9 v10 s11 => ?_) xFU 0 15 0 σ)
        refine jr_iload_n (e_266 rfl) rfl rfl ?_
        refine jr_brx (c := a2 = 0) (pt := 85) (pn := 81) (e_266 rfl) rfl rfl (fun h12 => ?_) (fun h12 => ?_)
        · refine jr_iload_n (e_266 rfl) rfl rfl ?_
          refine jr_goto (pc' := 96) (e_266 rfl) rfl ?_
          exact jr_retW (e_266 rfl) rfl
        · refine jr_iload_n (e_266 rfl) rfl rfl ?_
          refine jr_brx (c := v9 = 0) (pt := 94) (pn := 89) (e_266 rfl) rfl rfl (fun h13 => ?_) (fun h13 => ?_)
          · refine jr_bipush (e_266 rfl) rfl ?_
            refine jr_goto (pc' := 96) (e_266 rfl) rfl ?_
            exact jr_retW (e_266 rfl) rfl
          · refine jr_iload (e_266 rfl) rfl rfl ?_
            exact jr_retW (e_266 rfl) rfl
      · refine jr_bipush (e_266 rfl) rfl ?_
        exact jr_retW (e_266 rfl) rfl

theorem e_267 {pc : Nat} {en : xa_I} (h : xlk pc xc_267 = some en) : xcd 267 pc = some en := h
noncomputable def fm_M_pass (a1 : Int) (σ : xa_H) : Option (Int × xa_H) :=
  xj (fun (v2 : Int) =>
    if 0 ≤ (σ 9 0 41) ∧ (σ 9 0 41) < 840 then
      xnm (xup σ 75 0 ((σ 9 0 41).toNat) v2) fun s5 =>
      xnm (xup s5 9 0 41 (w32 ((s5 9 0 41) + 1))) fun s6 =>
      some (v2, s6)
    else none) fun K3 =>
  if (σ 9 0 42) = 0 then
    if 0 ≤ (σ 9 0 41) ∧ (σ 9 0 41) < 840 then
      K3 (σ 75 0 ((σ 9 0 41).toNat))
    else none
  else
    K3 a1
theorem jm_M_pass (a1 : Int) (σ : xa_H) : J 267 0 [(0, xr 9 0), (1, xi a1)] [] σ jqW (fm_M_pass a1 σ) := by
  unfold fm_M_pass
  refine jr_aload_n (e_267 rfl) rfl rfl ?_
  refine jr_geti (e_267 rfl) rfl (by decide +kernel) ?_
  refine jr_j (fun K3 => ∀ (v2 : Int), J 267 20 [(0, xr 9 0)] [xi v2] σ jqW (K3 v2)) (fun v2 => ?_) (fun K3 hK3 => ?_)
  · refine jr_istore_n (L' := [(2, xi v2), (0, xr 9 0)]) (e_267 rfl) rfl rfl rfl ?_
    refine jr_aload_n (e_267 rfl) rfl rfl ?_
    refine jr_getr (K2 := 75) (i2 := 0) (e_267 rfl) rfl rfl rfl ?_
    refine jr_aload_n (e_267 rfl) rfl rfl ?_
    refine jr_geti (e_267 rfl) rfl (by decide +kernel) ?_
    refine jr_iload_n (e_267 rfl) rfl rfl ?_
    refine jr_ast (n := 840) (e_267 rfl) rfl rfl rfl rfl ?_
    refine jr_nms (fun s5 => ?_)
    refine jr_aload_n (e_267 rfl) rfl rfl ?_
    refine jr_dup (e_267 rfl) rfl rfl ?_
    refine jr_geti (e_267 rfl) rfl (by decide +kernel) ?_
    refine jr_iconst (e_267 rfl) rfl ?_
    refine jr_iadd (e_267 rfl) rfl ?_
    refine jr_put (e_267 rfl) rfl rfl rfl ?_
    refine jr_nms (fun s6 => ?_)
    refine jr_iload_n (e_267 rfl) rfl rfl ?_
    exact jr_retW (e_267 rfl) rfl
  · refine jr_bri (c := (σ 9 0 42) = 0) (pt := 11) (pn := 7) (e_267 rfl) rfl rfl (fun h4 => ?_) (fun h4 => ?_)
    · refine jr_aload_n (e_267 rfl) rfl rfl ?_
      refine jr_getr (K2 := 75) (i2 := 0) (e_267 rfl) rfl rfl rfl ?_
      refine jr_aload_n (e_267 rfl) rfl rfl ?_
      refine jr_geti (e_267 rfl) rfl (by decide +kernel) ?_
      refine jr_ald (n := 840) (e_267 rfl) rfl rfl rfl ?_
      exact jr_sub (show ([0, 1] : List Nat).Nodup from by decide) (xsb_c (List.Mem.head _) xsb_n) (hK3 (σ 75 0 ((σ 9 0 41).toNat)))
    · refine jr_iload_n (e_267 rfl) rfl rfl ?_
      refine jr_goto (pc' := 20) (e_267 rfl) rfl ?_
      exact jr_sub (show ([0, 1] : List Nat).Nodup from by decide) (xsb_c (List.Mem.head _) xsb_n) (hK3 a1)

theorem e_268 {pc : Nat} {en : xa_I} (h : xlk pc xc_268 = some en) : xcd 268 pc = some en := h
noncomputable def fm_M_passAll_38  (K : xa_H → Option (xa_H)) : Nat → Int → xa_H → Option (xa_H)
  | 0, _, _ => none
  | n + 1, x1, sh =>
    if 144 ≤ x1 then
      K sh
    else
      if 0 ≤ x1 ∧ x1 < 144 then
        xb2 (fm_M_pass (sh 53 0 x1.toNat) sh) fun v2 s3 =>
        if 0 ≤ x1 ∧ x1 < 144 then
          xnm (xup s3 53 0 x1.toNat v2) fun s4 =>
          xnm (w32 (x1 + 1) : Int) fun v5 =>
          fm_M_passAll_38 K n v5 s4
        else none
      else none
set_option maxRecDepth 20000 in
theorem jl_M_passAll_38  (σ : xa_H)  (K : xa_H → Option (xa_H)) (hK38 : ∀ (sz : xa_H), J 268 67 [(0, xr 9 0)] [] sz jqV (K sz)) : ∀ (n : Nat) (x1 : Int) (sh : xa_H), J 268 38 [(0, xr 9 0), (1, xi x1)] [] sh jqV (fm_M_passAll_38 K n x1 sh) := by
  intro n
  induction n with
  | zero => intro x1 sh; exact jr_none
  | succ n ih38 =>
    intro x1 sh
    rw [fm_M_passAll_38]
    refine jr_iload_n (e_268 rfl) rfl rfl ?_
    refine jr_sipush (e_268 rfl) rfl ?_
    refine jr_bri (c := 144 ≤ x1) (pt := 67) (pn := 45) (e_268 rfl) rfl rfl (fun h1 => ?_) (fun h1 => ?_)
    · exact jr_sub (show ([0, 1] : List Nat).Nodup from by decide) (xsb_c (List.Mem.head _) xsb_n) (hK38 sh)
    · refine jr_aload_n (e_268 rfl) rfl rfl ?_
      refine jr_getr (K2 := 53) (i2 := 0) (e_268 rfl) rfl rfl rfl ?_
      refine jr_iload_n (e_268 rfl) rfl rfl ?_
      refine jr_aload_n (e_268 rfl) rfl rfl ?_
      refine jr_aload_n (e_268 rfl) rfl rfl ?_
      refine jr_getr (K2 := 53) (i2 := 0) (e_268 rfl) rfl rfl rfl ?_
      refine jr_iload_n (e_268 rfl) rfl rfl ?_
      refine jr_ald (n := 144) (e_268 rfl) rfl rfl rfl ?_
      refine jr_callX (as := [xr 9 0, xi (sh 53 0 x1.toNat)]) (S1 := [xi x1, xr 53 0]) (e_268 rfl) rfl rfl rfl rfl rfl rfl (jm_M_pass (sh 53 0 x1.toNat) sh) rfl (fun v2 s3 => ?_)
      refine jr_ast (n := 144) (e_268 rfl) rfl rfl rfl rfl ?_
      refine jr_nms (fun s4 => ?_)
      refine jr_iinc (L2 := fun c => [(1, xi c), (0, xr 9 0)]) (e_268 rfl) rfl rfl rfl (fun _ => rfl) (fun v5 => ?_)
      refine jr_goto (pc' := 38) (e_268 rfl) rfl ?_
      exact jr_sub (show ([1, 0] : List Nat).Nodup from by decide) (xsb_c (List.Mem.tail _ (List.Mem.head _)) (xsb_c (List.Mem.head _) xsb_n)) (ih38 v5 s4)
noncomputable def fm_M_passAll_69  (K : xa_H → Option (xa_H)) : Nat → Int → xa_H → Option (xa_H)
  | 0, _, _ => none
  | n + 1, x1, sh =>
    if 4 ≤ x1 then
      K sh
    else
      if 0 ≤ x1 ∧ x1 < 5 then
        xb2 (fm_M_pass (sh 54 0 x1.toNat) sh) fun v2 s3 =>
        if 0 ≤ x1 ∧ x1 < 5 then
          xnm (xup s3 54 0 x1.toNat v2) fun s4 =>
          if 0 ≤ x1 ∧ x1 < 5 then
            xb2 (fm_M_pass (s4 62 0 x1.toNat) s4) fun v5 s6 =>
            if 0 ≤ x1 ∧ x1 < 5 then
              xnm (xup s6 62 0 x1.toNat v5) fun s7 =>
              if 0 ≤ x1 ∧ x1 < 5 then
                xb2 (fm_M_pass (s7 63 0 x1.toNat) s7) fun v8 s9 =>
                if 0 ≤ x1 ∧ x1 < 5 then
                  xnm (xup s9 63 0 x1.toNat v8) fun s10 =>
                  if 0 ≤ x1 ∧ x1 < 5 then
                    xb2 (fm_M_pass (s10 64 0 x1.toNat) s10) fun v11 s12 =>
                    if 0 ≤ x1 ∧ x1 < 5 then
                      xnm (xup s12 64 0 x1.toNat v11) fun s13 =>
                      if 0 ≤ x1 ∧ x1 < 4 then
                        xb2 (fm_M_pass (s13 60 0 x1.toNat) s13) fun v14 s15 =>
                        if 0 ≤ x1 ∧ x1 < 4 then
                          xnm (xup s15 60 0 x1.toNat v14) fun s16 =>
                          if 0 ≤ x1 ∧ x1 < 4 then
                            xb2 (fm_M_pass (s16 61 0 x1.toNat) s16) fun v17 s18 =>
                            if 0 ≤ x1 ∧ x1 < 4 then
                              xnm (xup s18 61 0 x1.toNat v17) fun s19 =>
                              xnm (w32 (x1 + 1) : Int) fun v20 =>
                              fm_M_passAll_69 K n v20 s19
                            else none
                          else none
                        else none
                      else none
                    else none
                  else none
                else none
              else none
            else none
          else none
        else none
      else none
set_option maxRecDepth 20000 in
theorem jl_M_passAll_69  (σ : xa_H)  (K : xa_H → Option (xa_H)) (hK69 : ∀ (sz : xa_H), J 268 176 [(0, xr 9 0)] [] sz jqV (K sz)) : ∀ (n : Nat) (x1 : Int) (sh : xa_H), J 268 69 [(0, xr 9 0), (1, xi x1)] [] sh jqV (fm_M_passAll_69 K n x1 sh) := by
  intro n
  induction n with
  | zero => intro x1 sh; exact jr_none
  | succ n ih69 =>
    intro x1 sh
    rw [fm_M_passAll_69]
    refine jr_iload_n (e_268 rfl) rfl rfl ?_
    refine jr_iconst (e_268 rfl) rfl ?_
    refine jr_bri (c := 4 ≤ x1) (pt := 176) (pn := 74) (e_268 rfl) rfl rfl (fun h1 => ?_) (fun h1 => ?_)
    · exact jr_sub (show ([0, 1] : List Nat).Nodup from by decide) (xsb_c (List.Mem.head _) xsb_n) (hK69 sh)
    · refine jr_aload_n (e_268 rfl) rfl rfl ?_
      refine jr_getr (K2 := 54) (i2 := 0) (e_268 rfl) rfl rfl rfl ?_
      refine jr_iload_n (e_268 rfl) rfl rfl ?_
      refine jr_aload_n (e_268 rfl) rfl rfl ?_
      refine jr_aload_n (e_268 rfl) rfl rfl ?_
      refine jr_getr (K2 := 54) (i2 := 0) (e_268 rfl) rfl rfl rfl ?_
      refine jr_iload_n (e_268 rfl) rfl rfl ?_
      refine jr_ald (n := 5) (e_268 rfl) rfl rfl rfl ?_
      refine jr_callX (as := [xr 9 0, xi (sh 54 0 x1.toNat)]) (S1 := [xi x1, xr 54 0]) (e_268 rfl) rfl rfl rfl rfl rfl rfl (jm_M_pass (sh 54 0 x1.toNat) sh) rfl (fun v2 s3 => ?_)
      refine jr_ast (n := 5) (e_268 rfl) rfl rfl rfl rfl ?_
      refine jr_nms (fun s4 => ?_)
      refine jr_aload_n (e_268 rfl) rfl rfl ?_
      refine jr_getr (K2 := 62) (i2 := 0) (e_268 rfl) rfl rfl rfl ?_
      refine jr_iload_n (e_268 rfl) rfl rfl ?_
      refine jr_aload_n (e_268 rfl) rfl rfl ?_
      refine jr_aload_n (e_268 rfl) rfl rfl ?_
      refine jr_getr (K2 := 62) (i2 := 0) (e_268 rfl) rfl rfl rfl ?_
      refine jr_iload_n (e_268 rfl) rfl rfl ?_
      refine jr_ald (n := 5) (e_268 rfl) rfl rfl rfl ?_
      refine jr_callX (as := [xr 9 0, xi (s4 62 0 x1.toNat)]) (S1 := [xi x1, xr 62 0]) (e_268 rfl) rfl rfl rfl rfl rfl rfl (jm_M_pass (s4 62 0 x1.toNat) s4) rfl (fun v5 s6 => ?_)
      refine jr_ast (n := 5) (e_268 rfl) rfl rfl rfl rfl ?_
      refine jr_nms (fun s7 => ?_)
      refine jr_aload_n (e_268 rfl) rfl rfl ?_
      refine jr_getr (K2 := 63) (i2 := 0) (e_268 rfl) rfl rfl rfl ?_
      refine jr_iload_n (e_268 rfl) rfl rfl ?_
      refine jr_aload_n (e_268 rfl) rfl rfl ?_
      refine jr_aload_n (e_268 rfl) rfl rfl ?_
      refine jr_getr (K2 := 63) (i2 := 0) (e_268 rfl) rfl rfl rfl ?_
      refine jr_iload_n (e_268 rfl) rfl rfl ?_
      refine jr_ald (n := 5) (e_268 rfl) rfl rfl rfl ?_
      refine jr_callX (as := [xr 9 0, xi (s7 63 0 x1.toNat)]) (S1 := [xi x1, xr 63 0]) (e_268 rfl) rfl rfl rfl rfl rfl rfl (jm_M_pass (s7 63 0 x1.toNat) s7) rfl (fun v8 s9 => ?_)
      refine jr_ast (n := 5) (e_268 rfl) rfl rfl rfl rfl ?_
      refine jr_nms (fun s10 => ?_)
      refine jr_aload_n (e_268 rfl) rfl rfl ?_
      refine jr_getr (K2 := 64) (i2 := 0) (e_268 rfl) rfl rfl rfl ?_
      refine jr_iload_n (e_268 rfl) rfl rfl ?_
      refine jr_aload_n (e_268 rfl) rfl rfl ?_
      refine jr_aload_n (e_268 rfl) rfl rfl ?_
      refine jr_getr (K2 := 64) (i2 := 0) (e_268 rfl) rfl rfl rfl ?_
      refine jr_iload_n (e_268 rfl) rfl rfl ?_
      refine jr_ald (n := 5) (e_268 rfl) rfl rfl rfl ?_
      refine jr_callX (as := [xr 9 0, xi (s10 64 0 x1.toNat)]) (S1 := [xi x1, xr 64 0]) (e_268 rfl) rfl rfl rfl rfl rfl rfl (jm_M_pass (s10 64 0 x1.toNat) s10) rfl (fun v11 s12 => ?_)
      refine jr_ast (n := 5) (e_268 rfl) rfl rfl rfl rfl ?_
      refine jr_nms (fun s13 => ?_)
      refine jr_aload_n (e_268 rfl) rfl rfl ?_
      refine jr_getr (K2 := 60) (i2 := 0) (e_268 rfl) rfl rfl rfl ?_
      refine jr_iload_n (e_268 rfl) rfl rfl ?_
      refine jr_aload_n (e_268 rfl) rfl rfl ?_
      refine jr_aload_n (e_268 rfl) rfl rfl ?_
      refine jr_getr (K2 := 60) (i2 := 0) (e_268 rfl) rfl rfl rfl ?_
      refine jr_iload_n (e_268 rfl) rfl rfl ?_
      refine jr_ald (n := 4) (e_268 rfl) rfl rfl rfl ?_
      refine jr_callX (as := [xr 9 0, xi (s13 60 0 x1.toNat)]) (S1 := [xi x1, xr 60 0]) (e_268 rfl) rfl rfl rfl rfl rfl rfl (jm_M_pass (s13 60 0 x1.toNat) s13) rfl (fun v14 s15 => ?_)
      refine jr_ast (n := 4) (e_268 rfl) rfl rfl rfl rfl ?_
      refine jr_nms (fun s16 => ?_)
      refine jr_aload_n (e_268 rfl) rfl rfl ?_
      refine jr_getr (K2 := 61) (i2 := 0) (e_268 rfl) rfl rfl rfl ?_
      refine jr_iload_n (e_268 rfl) rfl rfl ?_
      refine jr_aload_n (e_268 rfl) rfl rfl ?_
      refine jr_aload_n (e_268 rfl) rfl rfl ?_
      refine jr_getr (K2 := 61) (i2 := 0) (e_268 rfl) rfl rfl rfl ?_
      refine jr_iload_n (e_268 rfl) rfl rfl ?_
      refine jr_ald (n := 4) (e_268 rfl) rfl rfl rfl ?_
      refine jr_callX (as := [xr 9 0, xi (s16 61 0 x1.toNat)]) (S1 := [xi x1, xr 61 0]) (e_268 rfl) rfl rfl rfl rfl rfl rfl (jm_M_pass (s16 61 0 x1.toNat) s16) rfl (fun v17 s18 => ?_)
      refine jr_ast (n := 4) (e_268 rfl) rfl rfl rfl rfl ?_
      refine jr_nms (fun s19 => ?_)
      refine jr_iinc (L2 := fun c => [(1, xi c), (0, xr 9 0)]) (e_268 rfl) rfl rfl rfl (fun _ => rfl) (fun v20 => ?_)
      refine jr_goto (pc' := 69) (e_268 rfl) rfl ?_
      exact jr_sub (show ([1, 0] : List Nat).Nodup from by decide) (xsb_c (List.Mem.tail _ (List.Mem.head _)) (xsb_c (List.Mem.head _) xsb_n)) (ih69 v20 s19)
noncomputable def fm_M_passAll_178  (K : xa_H → Option (xa_H)) : Nat → Int → xa_H → Option (xa_H)
  | 0, _, _ => none
  | n + 1, x1, sh =>
    if 40 ≤ x1 then
      K sh
    else
      if 0 ≤ x1 ∧ x1 < 50 then
        xb2 (fm_M_pass (sh 55 0 x1.toNat) sh) fun v2 s3 =>
        if 0 ≤ x1 ∧ x1 < 50 then
          xnm (xup s3 55 0 x1.toNat v2) fun s4 =>
          if 0 ≤ x1 ∧ x1 < 50 then
            xb2 (fm_M_pass (s4 56 0 x1.toNat) s4) fun v5 s6 =>
            if 0 ≤ x1 ∧ x1 < 50 then
              xnm (xup s6 56 0 x1.toNat v5) fun s7 =>
              if 0 ≤ x1 ∧ x1 < 50 then
                xb2 (fm_M_pass (s7 57 0 x1.toNat) s7) fun v8 s9 =>
                if 0 ≤ x1 ∧ x1 < 50 then
                  xnm (xup s9 57 0 x1.toNat v8) fun s10 =>
                  if 0 ≤ x1 ∧ x1 < 50 then
                    xb2 (fm_M_pass (s10 58 0 x1.toNat) s10) fun v11 s12 =>
                    if 0 ≤ x1 ∧ x1 < 50 then
                      xnm (xup s12 58 0 x1.toNat v11) fun s13 =>
                      xnm (w32 (x1 + 1) : Int) fun v14 =>
                      fm_M_passAll_178 K n v14 s13
                    else none
                  else none
                else none
              else none
            else none
          else none
        else none
      else none
set_option maxRecDepth 20000 in
theorem jl_M_passAll_178  (σ : xa_H)  (K : xa_H → Option (xa_H)) (hK178 : ∀ (sz : xa_H), J 268 254 [(0, xr 9 0)] [] sz jqV (K sz)) : ∀ (n : Nat) (x1 : Int) (sh : xa_H), J 268 178 [(0, xr 9 0), (1, xi x1)] [] sh jqV (fm_M_passAll_178 K n x1 sh) := by
  intro n
  induction n with
  | zero => intro x1 sh; exact jr_none
  | succ n ih178 =>
    intro x1 sh
    rw [fm_M_passAll_178]
    refine jr_iload_n (e_268 rfl) rfl rfl ?_
    refine jr_bipush (e_268 rfl) rfl ?_
    refine jr_bri (c := 40 ≤ x1) (pt := 254) (pn := 184) (e_268 rfl) rfl rfl (fun h1 => ?_) (fun h1 => ?_)
    · exact jr_sub (show ([0, 1] : List Nat).Nodup from by decide) (xsb_c (List.Mem.head _) xsb_n) (hK178 sh)
    · refine jr_aload_n (e_268 rfl) rfl rfl ?_
      refine jr_getr (K2 := 55) (i2 := 0) (e_268 rfl) rfl rfl rfl ?_
      refine jr_iload_n (e_268 rfl) rfl rfl ?_
      refine jr_aload_n (e_268 rfl) rfl rfl ?_
      refine jr_aload_n (e_268 rfl) rfl rfl ?_
      refine jr_getr (K2 := 55) (i2 := 0) (e_268 rfl) rfl rfl rfl ?_
      refine jr_iload_n (e_268 rfl) rfl rfl ?_
      refine jr_ald (n := 50) (e_268 rfl) rfl rfl rfl ?_
      refine jr_callX (as := [xr 9 0, xi (sh 55 0 x1.toNat)]) (S1 := [xi x1, xr 55 0]) (e_268 rfl) rfl rfl rfl rfl rfl rfl (jm_M_pass (sh 55 0 x1.toNat) sh) rfl (fun v2 s3 => ?_)
      refine jr_ast (n := 50) (e_268 rfl) rfl rfl rfl rfl ?_
      refine jr_nms (fun s4 => ?_)
      refine jr_aload_n (e_268 rfl) rfl rfl ?_
      refine jr_getr (K2 := 56) (i2 := 0) (e_268 rfl) rfl rfl rfl ?_
      refine jr_iload_n (e_268 rfl) rfl rfl ?_
      refine jr_aload_n (e_268 rfl) rfl rfl ?_
      refine jr_aload_n (e_268 rfl) rfl rfl ?_
      refine jr_getr (K2 := 56) (i2 := 0) (e_268 rfl) rfl rfl rfl ?_
      refine jr_iload_n (e_268 rfl) rfl rfl ?_
      refine jr_ald (n := 50) (e_268 rfl) rfl rfl rfl ?_
      refine jr_callX (as := [xr 9 0, xi (s4 56 0 x1.toNat)]) (S1 := [xi x1, xr 56 0]) (e_268 rfl) rfl rfl rfl rfl rfl rfl (jm_M_pass (s4 56 0 x1.toNat) s4) rfl (fun v5 s6 => ?_)
      refine jr_ast (n := 50) (e_268 rfl) rfl rfl rfl rfl ?_
      refine jr_nms (fun s7 => ?_)
      refine jr_aload_n (e_268 rfl) rfl rfl ?_
      refine jr_getr (K2 := 57) (i2 := 0) (e_268 rfl) rfl rfl rfl ?_
      refine jr_iload_n (e_268 rfl) rfl rfl ?_
      refine jr_aload_n (e_268 rfl) rfl rfl ?_
      refine jr_aload_n (e_268 rfl) rfl rfl ?_
      refine jr_getr (K2 := 57) (i2 := 0) (e_268 rfl) rfl rfl rfl ?_
      refine jr_iload_n (e_268 rfl) rfl rfl ?_
      refine jr_ald (n := 50) (e_268 rfl) rfl rfl rfl ?_
      refine jr_callX (as := [xr 9 0, xi (s7 57 0 x1.toNat)]) (S1 := [xi x1, xr 57 0]) (e_268 rfl) rfl rfl rfl rfl rfl rfl (jm_M_pass (s7 57 0 x1.toNat) s7) rfl (fun v8 s9 => ?_)
      refine jr_ast (n := 50) (e_268 rfl) rfl rfl rfl rfl ?_
      refine jr_nms (fun s10 => ?_)
      refine jr_aload_n (e_268 rfl) rfl rfl ?_
      refine jr_getr (K2 := 58) (i2 := 0) (e_268 rfl) rfl rfl rfl ?_
      refine jr_iload_n (e_268 rfl) rfl rfl ?_
      refine jr_aload_n (e_268 rfl) rfl rfl ?_
      refine jr_aload_n (e_268 rfl) rfl rfl ?_
      refine jr_getr (K2 := 58) (i2 := 0) (e_268 rfl) rfl rfl rfl ?_
      refine jr_iload_n (e_268 rfl) rfl rfl ?_
      refine jr_ald (n := 50) (e_268 rfl) rfl rfl rfl ?_
      refine jr_callX (as := [xr 9 0, xi (s10 58 0 x1.toNat)]) (S1 := [xi x1, xr 58 0]) (e_268 rfl) rfl rfl rfl rfl rfl rfl (jm_M_pass (s10 58 0 x1.toNat) s10) rfl (fun v11 s12 => ?_)
      refine jr_ast (n := 50) (e_268 rfl) rfl rfl rfl rfl ?_
      refine jr_nms (fun s13 => ?_)
      refine jr_iinc (L2 := fun c => [(1, xi c), (0, xr 9 0)]) (e_268 rfl) rfl rfl rfl (fun _ => rfl) (fun v14 => ?_)
      refine jr_goto (pc' := 178) (e_268 rfl) rfl ?_
      exact jr_sub (show ([1, 0] : List Nat).Nodup from by decide) (xsb_c (List.Mem.tail _ (List.Mem.head _)) (xsb_c (List.Mem.head _) xsb_n)) (ih178 v14 s13)
noncomputable def fm_M_passAll_256  (K : xa_H → Option (xa_H)) : Nat → Int → xa_H → Option (xa_H)
  | 0, _, _ => none
  | n + 1, x1, sh =>
    if 16 ≤ x1 then
      K sh
    else
      if 0 ≤ x1 ∧ x1 < 16 then
        xb2 (fm_M_pass (sh 59 0 x1.toNat) sh) fun v2 s3 =>
        if 0 ≤ x1 ∧ x1 < 16 then
          xnm (xup s3 59 0 x1.toNat v2) fun s4 =>
          xnm (w32 (x1 + 1) : Int) fun v5 =>
          fm_M_passAll_256 K n v5 s4
        else none
      else none
set_option maxRecDepth 20000 in
theorem jl_M_passAll_256  (σ : xa_H)  (K : xa_H → Option (xa_H)) (hK256 : ∀ (sz : xa_H), J 268 284 [] [] sz jqV (K sz)) : ∀ (n : Nat) (x1 : Int) (sh : xa_H), J 268 256 [(0, xr 9 0), (1, xi x1)] [] sh jqV (fm_M_passAll_256 K n x1 sh) := by
  intro n
  induction n with
  | zero => intro x1 sh; exact jr_none
  | succ n ih256 =>
    intro x1 sh
    rw [fm_M_passAll_256]
    refine jr_iload_n (e_268 rfl) rfl rfl ?_
    refine jr_bipush (e_268 rfl) rfl ?_
    refine jr_bri (c := 16 ≤ x1) (pt := 284) (pn := 262) (e_268 rfl) rfl rfl (fun h1 => ?_) (fun h1 => ?_)
    · exact jr_sub (show ([0, 1] : List Nat).Nodup from by decide) xsb_n (hK256 sh)
    · refine jr_aload_n (e_268 rfl) rfl rfl ?_
      refine jr_getr (K2 := 59) (i2 := 0) (e_268 rfl) rfl rfl rfl ?_
      refine jr_iload_n (e_268 rfl) rfl rfl ?_
      refine jr_aload_n (e_268 rfl) rfl rfl ?_
      refine jr_aload_n (e_268 rfl) rfl rfl ?_
      refine jr_getr (K2 := 59) (i2 := 0) (e_268 rfl) rfl rfl rfl ?_
      refine jr_iload_n (e_268 rfl) rfl rfl ?_
      refine jr_ald (n := 16) (e_268 rfl) rfl rfl rfl ?_
      refine jr_callX (as := [xr 9 0, xi (sh 59 0 x1.toNat)]) (S1 := [xi x1, xr 59 0]) (e_268 rfl) rfl rfl rfl rfl rfl rfl (jm_M_pass (sh 59 0 x1.toNat) sh) rfl (fun v2 s3 => ?_)
      refine jr_ast (n := 16) (e_268 rfl) rfl rfl rfl rfl ?_
      refine jr_nms (fun s4 => ?_)
      refine jr_iinc (L2 := fun c => [(1, xi c), (0, xr 9 0)]) (e_268 rfl) rfl rfl rfl (fun _ => rfl) (fun v5 => ?_)
      refine jr_goto (pc' := 256) (e_268 rfl) rfl ?_
      exact jr_sub (show ([1, 0] : List Nat).Nodup from by decide) (xsb_c (List.Mem.tail _ (List.Mem.head _)) (xsb_c (List.Mem.head _) xsb_n)) (ih256 v5 s4)
noncomputable def fm_M_passAll (σ : xa_H) : Option (xa_H) :=
  xb2 (fm_M_pass (σ 9 0 3) σ) fun v1 s2 =>
  xnm (xup s2 9 0 3 v1) fun s3 =>
  xb2 (fm_M_pass (s3 9 0 4) s3) fun v4 s5 =>
  xnm (xup s5 9 0 4 v4) fun s6 =>
  xb2 (fm_M_pass (s6 9 0 5) s6) fun v7 s8 =>
  xnm (xup s8 9 0 5 v7) fun s9 =>
  fm_M_passAll_38 (fun (s10 : xa_H) =>
    fm_M_passAll_69 (fun (s21 : xa_H) =>
      fm_M_passAll_178 (fun (s22 : xa_H) =>
        fm_M_passAll_256 (fun (s23 : xa_H) =>
          some s23) xFU 0 s22) xFU 0 s21) xFU 0 s10) xFU 0 s9
set_option maxRecDepth 20000 in
theorem jm_M_passAll (σ : xa_H) : J 268 0 [(0, xr 9 0)] [] σ jqV (fm_M_passAll σ) := by
  unfold fm_M_passAll
  refine jr_aload_n (e_268 rfl) rfl rfl ?_
  refine jr_aload_n (e_268 rfl) rfl rfl ?_
  refine jr_aload_n (e_268 rfl) rfl rfl ?_
  refine jr_geti (e_268 rfl) rfl (by decide +kernel) ?_
  refine jr_callX (as := [xr 9 0, xi (σ 9 0 3)]) (S1 := [xr 9 0]) (e_268 rfl) rfl rfl rfl rfl rfl rfl (jm_M_pass (σ 9 0 3) σ) rfl (fun v1 s2 => ?_)
  refine jr_put (e_268 rfl) rfl rfl rfl ?_
  refine jr_nms (fun s3 => ?_)
  refine jr_aload_n (e_268 rfl) rfl rfl ?_
  refine jr_aload_n (e_268 rfl) rfl rfl ?_
  refine jr_aload_n (e_268 rfl) rfl rfl ?_
  refine jr_geti (e_268 rfl) rfl (by decide +kernel) ?_
  refine jr_callX (as := [xr 9 0, xi (s3 9 0 4)]) (S1 := [xr 9 0]) (e_268 rfl) rfl rfl rfl rfl rfl rfl (jm_M_pass (s3 9 0 4) s3) rfl (fun v4 s5 => ?_)
  refine jr_put (e_268 rfl) rfl rfl rfl ?_
  refine jr_nms (fun s6 => ?_)
  refine jr_aload_n (e_268 rfl) rfl rfl ?_
  refine jr_aload_n (e_268 rfl) rfl rfl ?_
  refine jr_aload_n (e_268 rfl) rfl rfl ?_
  refine jr_geti (e_268 rfl) rfl (by decide +kernel) ?_
  refine jr_callX (as := [xr 9 0, xi (s6 9 0 5)]) (S1 := [xr 9 0]) (e_268 rfl) rfl rfl rfl rfl rfl rfl (jm_M_pass (s6 9 0 5) s6) rfl (fun v7 s8 => ?_)
  refine jr_put (e_268 rfl) rfl rfl rfl ?_
  refine jr_nms (fun s9 => ?_)
  refine jr_iconst (e_268 rfl) rfl ?_
  refine jr_istore_n (L' := [(1, xi 0), (0, xr 9 0)]) (e_268 rfl) rfl rfl rfl ?_
  refine jr_sub (show ([1, 0] : List Nat).Nodup from by decide) (xsb_c (List.Mem.tail _ (List.Mem.head _)) (xsb_c (List.Mem.head _) xsb_n)) (jl_M_passAll_38 σ _ (fun s10 => ?_) xFU 0 s9)
  refine jr_iconst (e_268 rfl) rfl ?_
  refine jr_istore_n (L' := [(1, xi 0), (0, xr 9 0)]) (e_268 rfl) rfl rfl rfl ?_
  refine jr_sub (show ([1, 0] : List Nat).Nodup from by decide) (xsb_c (List.Mem.tail _ (List.Mem.head _)) (xsb_c (List.Mem.head _) xsb_n)) (jl_M_passAll_69 σ _ (fun s21 => ?_) xFU 0 s10)
  refine jr_iconst (e_268 rfl) rfl ?_
  refine jr_istore_n (L' := [(1, xi 0), (0, xr 9 0)]) (e_268 rfl) rfl rfl rfl ?_
  refine jr_sub (show ([1, 0] : List Nat).Nodup from by decide) (xsb_c (List.Mem.tail _ (List.Mem.head _)) (xsb_c (List.Mem.head _) xsb_n)) (jl_M_passAll_178 σ _ (fun s22 => ?_) xFU 0 s21)
  refine jr_iconst (e_268 rfl) rfl ?_
  refine jr_istore_n (L' := [(1, xi 0), (0, xr 9 0)]) (e_268 rfl) rfl rfl rfl ?_
  refine jr_sub (show ([1, 0] : List Nat).Nodup from by decide) (xsb_c (List.Mem.tail _ (List.Mem.head _)) (xsb_c (List.Mem.head _) xsb_n)) (jl_M_passAll_256 σ _ (fun s23 => ?_) xFU 0 s22)
  exact jr_retV (e_268 rfl)

theorem e_269 {pc : Nat} {en : xa_I} (h : xlk pc xc_269 = some en) : xcd 269 pc = some en := h
noncomputable def fm_M_image (a1 : Int) (σ : xa_H) : Option (Int × xa_H) :=
  (fm_M_in a1 0 1).bind fun v1 =>
  if v1 = 0 then
    some ((-2), σ)
  else
    xnm (xup σ 9 0 41 (w32 (420 * a1))) fun s3 =>
    xnm (xup s3 9 0 42 1) fun s4 =>
    (fm_M_passAll s4).bind fun s5 =>
    if 0 ≤ a1 ∧ a1 < 2 then
      xnm (xup s5 76 0 a1.toNat (1 % 2)) fun s6 =>
      some (1, s6)
    else none
theorem jm_M_image (a1 : Int) (σ : xa_H) : J 269 0 [(0, xr 9 0), (1, xi a1)] [] σ jqW (fm_M_image a1 σ) := by
  unfold fm_M_image
  refine jr_iload_n (e_269 rfl) rfl rfl ?_
  refine jr_i2l (e_269 rfl) rfl ?_
  refine jr_lconst (a := 0) (e_269 rfl) rfl rfl ?_
  refine jr_lconst (a := 1) (e_269 rfl) rfl rfl ?_
  refine jr_callP (as := [xl a1, xl 0, xl 1]) (S1 := []) (e_269 rfl) rfl rfl rfl rfl rfl rfl (jm_M_in a1 0 1 σ) rfl (fun v1 => ?_)
  refine jr_brx (c := v1 = 0) (pt := 13) (pn := 10) (e_269 rfl) rfl rfl (fun h2 => ?_) (fun h2 => ?_)
  · refine jr_bipush (e_269 rfl) rfl ?_
    exact jr_retW (e_269 rfl) rfl
  · refine jr_aload_n (e_269 rfl) rfl rfl ?_
    refine jr_sipush (e_269 rfl) rfl ?_
    refine jr_iload_n (e_269 rfl) rfl rfl ?_
    refine jr_imul (e_269 rfl) rfl ?_
    refine jr_put (e_269 rfl) rfl rfl rfl ?_
    refine jr_nms (fun s3 => ?_)
    refine jr_aload_n (e_269 rfl) rfl rfl ?_
    refine jr_iconst (e_269 rfl) rfl ?_
    refine jr_putz (e_269 rfl) rfl rfl rfl (by decide) ?_
    refine jr_nms (fun s4 => ?_)
    refine jr_aload_n (e_269 rfl) rfl rfl ?_
    refine jr_callV (as := [xr 9 0]) (S1 := []) (e_269 rfl) rfl rfl rfl rfl rfl rfl (jm_M_passAll s4) rfl (fun s5 => ?_)
    refine jr_aload_n (e_269 rfl) rfl rfl ?_
    refine jr_getr (K2 := 76) (i2 := 0) (e_269 rfl) rfl rfl rfl ?_
    refine jr_iload_n (e_269 rfl) rfl rfl ?_
    refine jr_iconst (e_269 rfl) rfl ?_
    refine jr_bast (n := 2) (e_269 rfl) rfl rfl rfl rfl ?_
    refine jr_nms (fun s6 => ?_)
    refine jr_iconst (e_269 rfl) rfl ?_
    exact jr_retW (e_269 rfl) rfl

theorem e_270 {pc : Nat} {en : xa_I} (h : xlk pc xc_270 = some en) : xcd 270 pc = some en := h
noncomputable def fm_M_restore (a1 : Int) (σ : xa_H) : Option (Int × xa_H) :=
  (fm_M_in a1 0 1).bind fun v1 =>
  if v1 = 0 then
    some ((-2), σ)
  else
    if 0 ≤ a1 ∧ a1 < 2 then
      if (σ 76 0 a1.toNat) = 0 then
        some ((-3), σ)
      else
        xnm (xup σ 9 0 41 (w32 (420 * a1))) fun s4 =>
        xnm (xup s4 9 0 42 0) fun s5 =>
        (fm_M_passAll s5).bind fun s6 =>
        some (1, s6)
    else none
theorem jm_M_restore (a1 : Int) (σ : xa_H) : J 270 0 [(0, xr 9 0), (1, xi a1)] [] σ jqW (fm_M_restore a1 σ) := by
  unfold fm_M_restore
  refine jr_iload_n (e_270 rfl) rfl rfl ?_
  refine jr_i2l (e_270 rfl) rfl ?_
  refine jr_lconst (a := 0) (e_270 rfl) rfl rfl ?_
  refine jr_lconst (a := 1) (e_270 rfl) rfl rfl ?_
  refine jr_callP (as := [xl a1, xl 0, xl 1]) (S1 := []) (e_270 rfl) rfl rfl rfl rfl rfl rfl (jm_M_in a1 0 1 σ) rfl (fun v1 => ?_)
  refine jr_brx (c := v1 = 0) (pt := 13) (pn := 10) (e_270 rfl) rfl rfl (fun h2 => ?_) (fun h2 => ?_)
  · refine jr_bipush (e_270 rfl) rfl ?_
    exact jr_retW (e_270 rfl) rfl
  · refine jr_aload_n (e_270 rfl) rfl rfl ?_
    refine jr_getr (K2 := 76) (i2 := 0) (e_270 rfl) rfl rfl rfl ?_
    refine jr_iload_n (e_270 rfl) rfl rfl ?_
    refine jr_bald (n := 2) (e_270 rfl) rfl rfl rfl ?_
    refine jr_brx (c := (σ 76 0 a1.toNat) = 0) (pt := 25) (pn := 22) (e_270 rfl) rfl rfl (fun h3 => ?_) (fun h3 => ?_)
    · refine jr_bipush (e_270 rfl) rfl ?_
      exact jr_retW (e_270 rfl) rfl
    · refine jr_aload_n (e_270 rfl) rfl rfl ?_
      refine jr_sipush (e_270 rfl) rfl ?_
      refine jr_iload_n (e_270 rfl) rfl rfl ?_
      refine jr_imul (e_270 rfl) rfl ?_
      refine jr_put (e_270 rfl) rfl rfl rfl ?_
      refine jr_nms (fun s4 => ?_)
      refine jr_aload_n (e_270 rfl) rfl rfl ?_
      refine jr_iconst (e_270 rfl) rfl ?_
      refine jr_putz (e_270 rfl) rfl rfl rfl (by decide) ?_
      refine jr_nms (fun s5 => ?_)
      refine jr_aload_n (e_270 rfl) rfl rfl ?_
      refine jr_callV (as := [xr 9 0]) (S1 := []) (e_270 rfl) rfl rfl rfl rfl rfl rfl (jm_M_passAll s5) rfl (fun s6 => ?_)
      refine jr_iconst (e_270 rfl) rfl ?_
      exact jr_retW (e_270 rfl) rfl

theorem e_271 {pc : Nat} {en : xa_I} (h : xlk pc xc_271 = some en) : xcd 271 pc = some en := h
noncomputable def fm_M_told (a1 : Int) (σ : xa_H) : Option (Int) :=
  (fm_M_in a1 10 13).bind fun v1 =>
  if v1 = 0 then
    (fm_M_in a1 20 23).bind fun v3 =>
    if v3 = 0 then
      (fm_M_in a1 30 33).bind fun v5 =>
      if v5 = 0 then
        if a1 = 0 then
          some (σ 9 0 19)
        else
          if a1 = 1 then
            some (σ 9 0 3)
          else
            if a1 = 2 then
              some (σ 9 0 4)
            else
              if a1 = 3 then
                some (σ 9 0 5)
              else
                some (-2)
      else
        if 0 ≤ (w32 (a1 - 30)) ∧ (w32 (a1 - 30)) < 5 then
          (fm_M_numberOf (σ 64 0 ((w32 (a1 - 30)).toNat))).bind fun v11 =>
          some v11
        else none
    else
      if 0 ≤ (w32 (a1 - 20)) ∧ (w32 (a1 - 20)) < 5 then
        if 0 ≤ (σ 62 0 ((w32 (a1 - 20)).toNat)) then
          if 0 ≤ (w32 (a1 - 20)) ∧ (w32 (a1 - 20)) < 5 then
            (fm_M_numberOf (σ 62 0 ((w32 (a1 - 20)).toNat))).bind fun v13 =>
            some v13
          else none
        else
          some (-6)
      else none
  else
    if 0 ≤ (w32 (a1 - 10)) ∧ (w32 (a1 - 10)) < 5 then
      some (σ 54 0 ((w32 (a1 - 10)).toNat))
    else none
theorem jm_M_told (a1 : Int) (σ : xa_H) : J 271 0 [(0, xr 9 0), (1, xi a1)] [] σ (jqP σ) (fm_M_told a1 σ) := by
  unfold fm_M_told
  refine jr_iload_n (e_271 rfl) rfl rfl ?_
  refine jr_i2l (e_271 rfl) rfl ?_
  refine jr_ldc2 (a := 10) (e_271 rfl) rfl rfl ?_
  refine jr_ldc2 (a := 13) (e_271 rfl) rfl rfl ?_
  refine jr_callP (as := [xl a1, xl 10, xl 13]) (S1 := []) (e_271 rfl) rfl rfl rfl rfl rfl rfl (jm_M_in a1 10 13 σ) rfl (fun v1 => ?_)
  refine jr_bri (c := v1 = 0) (pt := 24) (pn := 14) (e_271 rfl) rfl rfl (fun h2 => ?_) (fun h2 => ?_)
  · refine jr_iload_n (e_271 rfl) rfl rfl ?_
    refine jr_i2l (e_271 rfl) rfl ?_
    refine jr_ldc2 (a := 20) (e_271 rfl) rfl rfl ?_
    refine jr_ldc2 (a := 23) (e_271 rfl) rfl rfl ?_
    refine jr_callP (as := [xl a1, xl 20, xl 23]) (S1 := []) (e_271 rfl) rfl rfl rfl rfl rfl rfl (jm_M_in a1 20 23 σ) rfl (fun v3 => ?_)
    refine jr_bri (c := v3 = 0) (pt := 68) (pn := 38) (e_271 rfl) rfl rfl (fun h4 => ?_) (fun h4 => ?_)
    · refine jr_iload_n (e_271 rfl) rfl rfl ?_
      refine jr_i2l (e_271 rfl) rfl ?_
      refine jr_ldc2 (a := 30) (e_271 rfl) rfl rfl ?_
      refine jr_ldc2 (a := 33) (e_271 rfl) rfl rfl ?_
      refine jr_callP (as := [xl a1, xl 30, xl 33]) (S1 := []) (e_271 rfl) rfl rfl rfl rfl rfl rfl (jm_M_in a1 30 33 σ) rfl (fun v5 => ?_)
      refine jr_bri (c := v5 = 0) (pt := 95) (pn := 82) (e_271 rfl) rfl rfl (fun h6 => ?_) (fun h6 => ?_)
      · refine jr_iload_n (e_271 rfl) rfl rfl ?_
        refine jr_brx (c := a1 = 0) (pt := 106) (pn := 99) (e_271 rfl) rfl rfl (fun h7 => ?_) (fun h7 => ?_)
        · refine jr_aload_n (e_271 rfl) rfl rfl ?_
          refine jr_geti (e_271 rfl) rfl (by decide +kernel) ?_
          refine jr_goto (pc' := 144) (e_271 rfl) rfl ?_
          exact jr_retP (e_271 rfl) rfl
        · refine jr_iload_n (e_271 rfl) rfl rfl ?_
          refine jr_iconst (e_271 rfl) rfl ?_
          refine jr_brx (c := a1 = 1) (pt := 118) (pn := 111) (e_271 rfl) rfl rfl (fun h8 => ?_) (fun h8 => ?_)
          · refine jr_aload_n (e_271 rfl) rfl rfl ?_
            refine jr_geti (e_271 rfl) rfl (by decide +kernel) ?_
            refine jr_goto (pc' := 144) (e_271 rfl) rfl ?_
            exact jr_retP (e_271 rfl) rfl
          · refine jr_iload_n (e_271 rfl) rfl rfl ?_
            refine jr_iconst (e_271 rfl) rfl ?_
            refine jr_brx (c := a1 = 2) (pt := 130) (pn := 123) (e_271 rfl) rfl rfl (fun h9 => ?_) (fun h9 => ?_)
            · refine jr_aload_n (e_271 rfl) rfl rfl ?_
              refine jr_geti (e_271 rfl) rfl (by decide +kernel) ?_
              refine jr_goto (pc' := 144) (e_271 rfl) rfl ?_
              exact jr_retP (e_271 rfl) rfl
            · refine jr_iload_n (e_271 rfl) rfl rfl ?_
              refine jr_iconst (e_271 rfl) rfl ?_
              refine jr_brx (c := a1 = 3) (pt := 142) (pn := 135) (e_271 rfl) rfl rfl (fun h10 => ?_) (fun h10 => ?_)
              · refine jr_aload_n (e_271 rfl) rfl rfl ?_
                refine jr_geti (e_271 rfl) rfl (by decide +kernel) ?_
                refine jr_goto (pc' := 144) (e_271 rfl) rfl ?_
                exact jr_retP (e_271 rfl) rfl
              · refine jr_bipush (e_271 rfl) rfl ?_
                exact jr_retP (e_271 rfl) rfl
      · refine jr_aload_n (e_271 rfl) rfl rfl ?_
        refine jr_getr (K2 := 64) (i2 := 0) (e_271 rfl) rfl rfl rfl ?_
        refine jr_iload_n (e_271 rfl) rfl rfl ?_
        refine jr_bipush (e_271 rfl) rfl ?_
        refine jr_isub (e_271 rfl) rfl ?_
        refine jr_ald (n := 5) (e_271 rfl) rfl rfl rfl ?_
        refine jr_callP (as := [xi (σ 64 0 ((w32 (a1 - 30)).toNat))]) (S1 := []) (e_271 rfl) rfl rfl rfl rfl rfl rfl (jm_M_numberOf (σ 64 0 ((w32 (a1 - 30)).toNat)) σ) rfl (fun v11 => ?_)
        exact jr_retP (e_271 rfl) rfl
    · refine jr_aload_n (e_271 rfl) rfl rfl ?_
      refine jr_getr (K2 := 62) (i2 := 0) (e_271 rfl) rfl rfl rfl ?_
      refine jr_iload_n (e_271 rfl) rfl rfl ?_
      refine jr_bipush (e_271 rfl) rfl ?_
      refine jr_isub (e_271 rfl) rfl ?_
      refine jr_ald (n := 5) (e_271 rfl) rfl rfl rfl ?_
      refine jr_bri (c := 0 ≤ (σ 62 0 ((w32 (a1 - 20)).toNat))) (pt := 55) (pn := 50) (e_271 rfl) rfl rfl (fun h12 => ?_) (fun h12 => ?_)
      · refine jr_aload_n (e_271 rfl) rfl rfl ?_
        refine jr_getr (K2 := 62) (i2 := 0) (e_271 rfl) rfl rfl rfl ?_
        refine jr_iload_n (e_271 rfl) rfl rfl ?_
        refine jr_bipush (e_271 rfl) rfl ?_
        refine jr_isub (e_271 rfl) rfl ?_
        refine jr_ald (n := 5) (e_271 rfl) rfl rfl rfl ?_
        refine jr_callP (as := [xi (σ 62 0 ((w32 (a1 - 20)).toNat))]) (S1 := []) (e_271 rfl) rfl rfl rfl rfl rfl rfl (jm_M_numberOf (σ 62 0 ((w32 (a1 - 20)).toNat)) σ) rfl (fun v13 => ?_)
        exact jr_retP (e_271 rfl) rfl
      · refine jr_bipush (e_271 rfl) rfl ?_
        refine jr_goto (pc' := 67) (e_271 rfl) rfl ?_
        exact jr_retP (e_271 rfl) rfl
  · refine jr_aload_n (e_271 rfl) rfl rfl ?_
    refine jr_getr (K2 := 54) (i2 := 0) (e_271 rfl) rfl rfl rfl ?_
    refine jr_iload_n (e_271 rfl) rfl rfl ?_
    refine jr_bipush (e_271 rfl) rfl ?_
    refine jr_isub (e_271 rfl) rfl ?_
    refine jr_ald (n := 5) (e_271 rfl) rfl rfl rfl ?_
    exact jr_retP (e_271 rfl) rfl
