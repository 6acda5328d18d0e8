/-! methods as functions, printed by wip/whole/gen/gen5.py -/
theorem e_37 {pc : Nat} {en : xa_I} (h : xlk pc xc_37 = some en) : xcd 37 pc = some en := h
noncomputable def fm_Search_off_18 (f1 : Int) (f3 : Int) (K : xa_H → Option (xa_H)) : Nat → Int → xa_H → Option (xa_H)
  | 0, _, _ => none
  | n + 1, x4, sh =>
    if 5 ≤ x4 then
      K sh
    else
      (fm_S_has (xshl f1 1) x4).bind fun v2 =>
      xnm ((if v2 = 0 then (xshl f3 (w32 (x4 * 6))) else 0) : Int) fun v4 =>
      xnm (xup sh 3 0 9 (xor2 (sh 3 0 9) v4)) fun s6 =>
      xnm (w32 (x4 + 1) : Int) fun v7 =>
      fm_Search_off_18 f1 f3 K n v7 s6
theorem jl_Search_off_18 (f1 : Int) (f3 : Int) (σ : xa_H)  (K : xa_H → Option (xa_H)) (hK18 : ∀ (sz : xa_H), J 37 61 [] [] sz jqV (K sz)) : ∀ (n : Nat) (x4 : Int) (sh : xa_H), J 37 18 [(0, xr 3 0), (1, xi f1), (3, xi f3), (4, xi x4)] [] sh jqV (fm_Search_off_18 f1 f3 K n x4 sh) := by
  intro n
  induction n with
  | zero => intro x4 sh; exact jr_none
  | succ n ih18 =>
    intro x4 sh
    rw [fm_Search_off_18]
    refine jr_iload (e_37 rfl) rfl rfl ?_
    refine jr_iconst (e_37 rfl) rfl ?_
    refine jr_bri (c := 5 ≤ x4) (pt := 61) (pn := 24) (e_37 rfl) rfl rfl (fun h1 => ?_) (fun h1 => ?_)
    · exact jr_sub (show ([0, 1, 3, 4] : List Nat).Nodup from by decide) xsb_n (hK18 sh)
    · refine jr_aload_n (e_37 rfl) rfl rfl ?_
      refine jr_dup (e_37 rfl) rfl rfl ?_
      refine jr_geti (e_37 rfl) rfl (by decide +kernel) ?_
      refine jr_iload_n (e_37 rfl) rfl rfl ?_
      refine jr_iconst (e_37 rfl) rfl ?_
      refine jr_ishl (e_37 rfl) rfl ?_
      refine jr_iload (e_37 rfl) rfl rfl ?_
      refine jr_callP (as := [xi (xshl f1 1), xi x4]) (S1 := [xi (sh 3 0 9), xr 3 0]) (e_37 rfl) rfl rfl rfl rfl rfl rfl (jm_S_has (xshl f1 1) x4 sh) rfl (fun v2 => ?_)
      refine jr_pm1 (fun T => ∀ v4 : Int, J 37 51 [(0, xr 3 0), (1, xi f1), (3, xi f3), (4, xi x4)] [xi v4, xi (sh 3 0 9), xr 3 0] sh jqV (T v4)) (fun v4 => ?_) (fun T hT => ?_)
      · refine jr_ior (e_37 rfl) rfl ?_
        refine jr_put (e_37 rfl) rfl rfl rfl ?_
        refine jr_nms (fun s6 => ?_)
        refine jr_iinc (L2 := fun c => [(4, xi c), (0, xr 3 0), (1, xi f1), (3, xi f3)]) (e_37 rfl) rfl rfl rfl (fun _ => rfl) (fun v7 => ?_)
        refine jr_goto (pc' := 18) (e_37 rfl) rfl ?_
        exact jr_sub (show ([4, 0, 1, 3] : List Nat).Nodup from by decide) (xsb_c (List.Mem.tail _ (List.Mem.head _)) (xsb_c (List.Mem.tail _ (List.Mem.tail _ (List.Mem.head _))) (xsb_c (List.Mem.tail _ (List.Mem.tail _ (List.Mem.tail _ (List.Mem.head _)))) (xsb_c (List.Mem.head _) xsb_n)))) (ih18 v7 s6)
      · refine jr_br (c := v2 = 0) (pt := 44) (pn := 40) (e_37 rfl) rfl rfl (fun h5 => ?_) (fun h5 => ?_)
        · refine jr_iload_n (e_37 rfl) rfl rfl ?_
          refine jr_iload (e_37 rfl) rfl rfl ?_
          refine jr_bipush (e_37 rfl) rfl ?_
          refine jr_imul (e_37 rfl) rfl ?_
          refine jr_ishl (e_37 rfl) rfl ?_
          exact (jr_nme (if_pos h5) (jr_sub (show ([0, 1, 3, 4] : List Nat).Nodup from by decide) (xsb_c (List.Mem.head _) (xsb_c (List.Mem.tail _ (List.Mem.head _)) (xsb_c (List.Mem.tail _ (List.Mem.tail _ (List.Mem.head _))) (xsb_c (List.Mem.tail _ (List.Mem.tail _ (List.Mem.tail _ (List.Mem.head _)))) xsb_n)))) (hT (xshl f3 (w32 (x4 * 6))))))
        · refine jr_iconst (e_37 rfl) rfl ?_
          refine jr_goto (pc' := 51) (e_37 rfl) rfl ?_
          exact (jr_nme (if_neg h5) (jr_sub (show ([0, 1, 3, 4] : List Nat).Nodup from by decide) (xsb_c (List.Mem.head _) (xsb_c (List.Mem.tail _ (List.Mem.head _)) (xsb_c (List.Mem.tail _ (List.Mem.tail _ (List.Mem.head _))) (xsb_c (List.Mem.tail _ (List.Mem.tail _ (List.Mem.tail _ (List.Mem.head _)))) xsb_n)))) (hT 0)))
noncomputable def fm_Search_off (a1 : Int) (a2 : Int) (σ : xa_H) : Option (xa_H) :=
  xnm ((xor2 48 (xand 15 (xxor a2 (-1)))) : Int) fun v1 =>
  xnm (xup σ 3 0 9 0) fun s2 =>
  fm_Search_off_18 a1 v1 (fun (s8 : xa_H) =>
    some s8) xFU 0 s2
theorem jm_Search_off (a1 : Int) (a2 : Int) (σ : xa_H) : J 37 0 [(0, xr 3 0), (1, xi a1), (2, xi a2)] [] σ jqV (fm_Search_off a1 a2 σ) := by
  unfold fm_Search_off
  refine jr_bipush (e_37 rfl) rfl ?_
  refine jr_bipush (e_37 rfl) rfl ?_
  refine jr_iload_n (e_37 rfl) rfl rfl ?_
  refine jr_iconst (e_37 rfl) rfl ?_
  refine jr_ixor (e_37 rfl) rfl ?_
  refine jr_iand (e_37 rfl) rfl ?_
  refine jr_ior (e_37 rfl) rfl ?_
  refine jr_nm (fun v1 => ?_)
  refine jr_istore_n (L' := [(3, xi v1), (0, xr 3 0), (1, xi a1), (2, xi a2)]) (e_37 rfl) rfl rfl rfl ?_
  refine jr_aload_n (e_37 rfl) rfl rfl ?_
  refine jr_iconst (e_37 rfl) rfl ?_
  refine jr_put (e_37 rfl) rfl rfl rfl ?_
  refine jr_nms (fun s2 => ?_)
  refine jr_iconst (e_37 rfl) rfl ?_
  refine jr_istore (L' := [(4, xi 0), (3, xi v1), (0, xr 3 0), (1, xi a1), (2, xi a2)]) (e_37 rfl) rfl rfl rfl ?_
  refine jr_sub (show ([4, 3, 0, 1, 2] : List Nat).Nodup from by decide) (xsb_c (List.Mem.tail _ (List.Mem.tail _ (List.Mem.head _))) (xsb_c (List.Mem.tail _ (List.Mem.tail _ (List.Mem.tail _ (List.Mem.head _)))) (xsb_c (List.Mem.tail _ (List.Mem.head _)) (xsb_c (List.Mem.head _) xsb_n)))) (jl_Search_off_18 a1 v1 σ _ (fun s8 => ?_) xFU 0 s2)
  exact jr_retV (e_37 rfl)

theorem e_39 {pc : Nat} {en : xa_I} (h : xlk pc xc_39 = some en) : xcd 39 pc = some en := h
noncomputable def fm_Search_why (a1 : Int) (σ : xa_H) : Option (Int) :=
  xj (fun (v2 : Int) =>
    if (xand v2 545392672) = 0 then
      if v2 = 0 then
        some 0
      else
        some 2
    else
      some 1) fun K3 =>
  if 0 ≤ a1 then
    (fm_Search_lookAt a1 σ).bind fun v5 =>
    K3 v5
  else
    K3 545392672
theorem jm_Search_why (a1 : Int) (σ : xa_H) : J 39 0 [(0, xr 3 0), (1, xi a1)] [] σ (jqP σ) (fm_Search_why a1 σ) := by
  unfold fm_Search_why
  refine jr_iload_n (e_39 rfl) rfl rfl ?_
  refine jr_j (fun K3 => ∀ (v2 : Int), J 39 14 [] [xi v2] σ (jqP σ) (K3 v2)) (fun v2 => ?_) (fun K3 hK3 => ?_)
  · refine jr_istore_n (L' := [(2, xi v2)]) (e_39 rfl) rfl rfl rfl ?_
    refine jr_iload_n (e_39 rfl) rfl rfl ?_
    refine jr_ldc (a := 545392672) (e_39 rfl) rfl rfl ?_
    refine jr_iand (e_39 rfl) rfl ?_
    refine jr_bri (c := (xand v2 545392672) = 0) (pt := 26) (pn := 22) (e_39 rfl) rfl rfl (fun h6 => ?_) (fun h6 => ?_)
    · refine jr_iload_n (e_39 rfl) rfl rfl ?_
      refine jr_bri (c := v2 = 0) (pt := 34) (pn := 30) (e_39 rfl) rfl rfl (fun h7 => ?_) (fun h7 => ?_)
      · refine jr_iconst (e_39 rfl) rfl ?_
        exact jr_retP (e_39 rfl) rfl
      · refine jr_iconst (e_39 rfl) rfl ?_
        refine jr_goto (pc' := 35) (e_39 rfl) rfl ?_
        exact jr_retP (e_39 rfl) rfl
    · refine jr_iconst (e_39 rfl) rfl ?_
      refine jr_goto (pc' := 35) (e_39 rfl) rfl ?_
      exact jr_retP (e_39 rfl) rfl
  · refine jr_bri (c := 0 ≤ a1) (pt := 9) (pn := 4) (e_39 rfl) rfl rfl (fun h4 => ?_) (fun h4 => ?_)
    · refine jr_aload_n (e_39 rfl) rfl rfl ?_
      refine jr_iload_n (e_39 rfl) rfl rfl ?_
      refine jr_callP (as := [xr 3 0, xi a1]) (S1 := []) (e_39 rfl) rfl rfl rfl rfl rfl rfl (jm_Search_lookAt a1 σ) rfl (fun v5 => ?_)
      exact jr_sub (show ([0, 1] : List Nat).Nodup from by decide) xsb_n (hK3 v5)
    · refine jr_ldc (a := 545392672) (e_39 rfl) rfl rfl ?_
      refine jr_goto (pc' := 14) (e_39 rfl) rfl ?_
      exact jr_sub (show ([0, 1] : List Nat).Nodup from by decide) xsb_n (hK3 545392672)

theorem e_45 {pc : Nat} {en : xa_I} (h : xlk pc xc_45 = some en) : xcd 45 pc = some en := h
noncomputable def fm_Search_reach (a1 : Int) (a2 : Int) (σ : xa_H) : Option (xa_H) :=
  (fm_S_write 23 0 a1 a2 σ).bind fun s1 =>
  (fm_S_write 22 0 (s1 3 0 10) a1 s1).bind fun s2 =>
  xnm (xup s2 3 0 10 (w32 ((s2 3 0 10) + 1))) fun s3 =>
  some s3
theorem jm_Search_reach (a1 : Int) (a2 : Int) (σ : xa_H) : J 45 0 [(0, xr 3 0), (1, xi a1), (2, xi a2)] [] σ jqV (fm_Search_reach a1 a2 σ) := by
  unfold fm_Search_reach
  refine jr_aload_n (e_45 rfl) rfl rfl ?_
  refine jr_getr (K2 := 23) (i2 := 0) (e_45 rfl) rfl rfl rfl ?_
  refine jr_iload_n (e_45 rfl) rfl rfl ?_
  refine jr_iload_n (e_45 rfl) rfl rfl ?_
  refine jr_callV (as := [xr 23 0, xi a1, xi a2]) (S1 := []) (e_45 rfl) rfl rfl rfl rfl rfl rfl (jm_S_write 23 0 a1 a2 σ rfl rfl) rfl (fun s1 => ?_)
  refine jr_aload_n (e_45 rfl) rfl rfl ?_
  refine jr_getr (K2 := 22) (i2 := 0) (e_45 rfl) rfl rfl rfl ?_
  refine jr_aload_n (e_45 rfl) rfl rfl ?_
  refine jr_geti (e_45 rfl) rfl (by decide +kernel) ?_
  refine jr_iload_n (e_45 rfl) rfl rfl ?_
  refine jr_callV (as := [xr 22 0, xi (s1 3 0 10), xi a1]) (S1 := []) (e_45 rfl) rfl rfl rfl rfl rfl rfl (jm_S_write 22 0 (s1 3 0 10) a1 s1 rfl rfl) rfl (fun s2 => ?_)
  refine jr_aload_n (e_45 rfl) rfl rfl ?_
  refine jr_dup (e_45 rfl) rfl rfl ?_
  refine jr_geti (e_45 rfl) rfl (by decide +kernel) ?_
  refine jr_iconst (e_45 rfl) rfl ?_
  refine jr_iadd (e_45 rfl) rfl ?_
  refine jr_put (e_45 rfl) rfl rfl rfl ?_
  refine jr_nms (fun s3 => ?_)
  exact jr_retV (e_45 rfl)

theorem e_41 {pc : Nat} {en : xa_I} (h : xlk pc xc_41 = some en) : xcd 41 pc = some en := h
noncomputable def fm_Search_flood_2 (f1 : Int) (f2 : Int) (K : xa_H → Option (Int × xa_H)) : Nat → Int → xa_H → Option (Int × xa_H)
  | 0, _, _ => none
  | n + 1, x3, sh =>
    if (sh 3 0 10) ≤ x3 then
      K sh
    else
      if 3456 ≤ x3 then
        K sh
      else
        if 0 ≤ x3 ∧ x3 < 3456 then
          (fm_S_write 23 0 (sh 22 0 x3.toNat) (-1) sh).bind fun s3 =>
          xnm (w32 (x3 + 1) : Int) fun v4 =>
          fm_Search_flood_2 f1 f2 K n v4 s3
        else none
theorem jl_Search_flood_2 (f1 : Int) (f2 : Int) (σ : xa_H)  (K : xa_H → Option (Int × xa_H)) (hK2 : ∀ (sz : xa_H), J 41 39 [(0, xr 3 0), (1, xi f1), (2, xi f2)] [] sz jqW (K sz)) : ∀ (n : Nat) (x3 : Int) (sh : xa_H), J 41 2 [(0, xr 3 0), (1, xi f1), (2, xi f2), (3, xi x3)] [] sh jqW (fm_Search_flood_2 f1 f2 K n x3 sh) := by
  intro n
  induction n with
  | zero => intro x3 sh; exact jr_none
  | succ n ih2 =>
    intro x3 sh
    rw [fm_Search_flood_2]
    refine jr_iload_n (e_41 rfl) rfl rfl ?_
    refine jr_aload_n (e_41 rfl) rfl rfl ?_
    refine jr_geti (e_41 rfl) rfl (by decide +kernel) ?_
    refine jr_bri (c := (sh 3 0 10) ≤ x3) (pt := 39) (pn := 10) (e_41 rfl) rfl rfl (fun h1 => ?_) (fun h1 => ?_)
    · exact jr_sub (show ([0, 1, 2, 3] : List Nat).Nodup from by decide) (xsb_c (List.Mem.head _) (xsb_c (List.Mem.tail _ (List.Mem.head _)) (xsb_c (List.Mem.tail _ (List.Mem.tail _ (List.Mem.head _))) xsb_n))) (hK2 sh)
    · refine jr_iload_n (e_41 rfl) rfl rfl ?_
      refine jr_aload_n (e_41 rfl) rfl rfl ?_
      refine jr_getr (K2 := 22) (i2 := 0) (e_41 rfl) rfl rfl rfl ?_
      refine jr_alen (a := 3456) (e_41 rfl) rfl (by decide +kernel) rfl ?_
      refine jr_bri (c := 3456 ≤ x3) (pt := 39) (pn := 19) (e_41 rfl) rfl rfl (fun h2 => ?_) (fun h2 => ?_)
      · exact jr_sub (show ([0, 1, 2, 3] : List Nat).Nodup from by decide) (xsb_c (List.Mem.head _) (xsb_c (List.Mem.tail _ (List.Mem.head _)) (xsb_c (List.Mem.tail _ (List.Mem.tail _ (List.Mem.head _))) xsb_n))) (hK2 sh)
      · refine jr_aload_n (e_41 rfl) rfl rfl ?_
        refine jr_getr (K2 := 23) (i2 := 0) (e_41 rfl) rfl rfl rfl ?_
        refine jr_aload_n (e_41 rfl) rfl rfl ?_
        refine jr_getr (K2 := 22) (i2 := 0) (e_41 rfl) rfl rfl rfl ?_
        refine jr_iload_n (e_41 rfl) rfl rfl ?_
        refine jr_ald (n := 3456) (e_41 rfl) rfl rfl rfl ?_
        refine jr_iconst (e_41 rfl) rfl ?_
        refine jr_callV (as := [xr 23 0, xi (sh 22 0 x3.toNat), xi (-1)]) (S1 := []) (e_41 rfl) rfl rfl rfl rfl rfl rfl (jm_S_write 23 0 (sh 22 0 x3.toNat) (-1) sh rfl rfl) rfl (fun s3 => ?_)
        refine jr_iinc (L2 := fun c => [(3, xi c), (0, xr 3 0), (1, xi f1), (2, xi f2)]) (e_41 rfl) rfl rfl rfl (fun _ => rfl) (fun v4 => ?_)
        refine jr_goto (pc' := 2) (e_41 rfl) rfl ?_
        exact jr_sub (show ([3, 0, 1, 2] : List Nat).Nodup from by decide) (xsb_c (List.Mem.tail _ (List.Mem.head _)) (xsb_c (List.Mem.tail _ (List.Mem.tail _ (List.Mem.head _))) (xsb_c (List.Mem.tail _ (List.Mem.tail _ (List.Mem.tail _ (List.Mem.head _)))) (xsb_c (List.Mem.head _) xsb_n)))) (ih2 v4 s3)
noncomputable def fm_Search_flood_101 (f2 : Int) (f3 : Int) (f4 : Int) (K : xa_H → Option (Int × xa_H)) : Nat → Int → xa_H → Option (Int × xa_H)
  | 0, _, _ => none
  | n + 1, x5, sh =>
    if 12 ≤ x5 then
      K sh
    else
      (fm_Search_step f4 x5 sh).bind fun v2 =>
      if v2 < 0 then
        xnm (w32 (x5 + 1) : Int) fun v4 =>
        fm_Search_flood_101 f2 f3 f4 K n v4 sh
      else
        (fm_S_read 23 0 v2 sh).bind fun v5 =>
        if v5 = (-1) then
          xb2 (fm_Search_fits v2 sh) fun v7 s8 =>
          if v7 = 0 then
            xnm (w32 (x5 + 1) : Int) fun v10 =>
            fm_Search_flood_101 f2 f3 f4 K n v10 s8
          else
            (fm_Search_reach v2 x5 s8).bind fun s11 =>
            xnm (w32 (x5 + 1) : Int) fun v12 =>
            fm_Search_flood_101 f2 f3 f4 K n v12 s11
        else
          xnm (w32 (x5 + 1) : Int) fun v13 =>
          fm_Search_flood_101 f2 f3 f4 K n v13 sh
theorem jl_Search_flood_101 (f2 : Int) (f3 : Int) (f4 : Int) (σ : xa_H)  (K : xa_H → Option (Int × xa_H)) (hK101 : ∀ (sz : xa_H), J 41 159 [(0, xr 3 0), (2, xi f2), (3, xi f3)] [] sz jqW (K sz)) : ∀ (n : Nat) (x5 : Int) (sh : xa_H), J 41 101 [(0, xr 3 0), (2, xi f2), (3, xi f3), (4, xi f4), (5, xi x5)] [] sh jqW (fm_Search_flood_101 f2 f3 f4 K n x5 sh) := by
  intro n
  induction n with
  | zero => intro x5 sh; exact jr_none
  | succ n ih101 =>
    intro x5 sh
    rw [fm_Search_flood_101]
    refine jr_iload (e_41 rfl) rfl rfl ?_
    refine jr_bipush (e_41 rfl) rfl ?_
    refine jr_bri (c := 12 ≤ x5) (pt := 159) (pn := 108) (e_41 rfl) rfl rfl (fun h1 => ?_) (fun h1 => ?_)
    · exact jr_sub (show ([0, 2, 3, 4, 5] : List Nat).Nodup from by decide) (xsb_c (List.Mem.head _) (xsb_c (List.Mem.tail _ (List.Mem.head _)) (xsb_c (List.Mem.tail _ (List.Mem.tail _ (List.Mem.head _))) xsb_n))) (hK101 sh)
    · refine jr_aload_n (e_41 rfl) rfl rfl ?_
      refine jr_iload (e_41 rfl) rfl rfl ?_
      refine jr_iload (e_41 rfl) rfl rfl ?_
      refine jr_callP (as := [xr 3 0, xi f4, xi x5]) (S1 := []) (e_41 rfl) rfl rfl rfl rfl rfl rfl (jm_Search_step f4 x5 sh) rfl (fun v2 => ?_)
      refine jr_istore (L' := [(6, xi v2), (0, xr 3 0), (2, xi f2), (3, xi f3), (4, xi f4), (5, xi x5)]) (e_41 rfl) rfl rfl rfl ?_
      refine jr_iload (e_41 rfl) rfl rfl ?_
      refine jr_bri (c := v2 < 0) (pt := 153) (pn := 123) (e_41 rfl) rfl rfl (fun h3 => ?_) (fun h3 => ?_)
      · refine jr_iinc (L2 := fun c => [(5, xi c), (6, xi v2), (0, xr 3 0), (2, xi f2), (3, xi f3), (4, xi f4)]) (e_41 rfl) rfl rfl rfl (fun _ => rfl) (fun v4 => ?_)
        refine jr_goto (pc' := 101) (e_41 rfl) rfl ?_
        exact jr_sub (show ([5, 6, 0, 2, 3, 4] : List Nat).Nodup from by decide) (xsb_c (List.Mem.tail _ (List.Mem.tail _ (List.Mem.head _))) (xsb_c (List.Mem.tail _ (List.Mem.tail _ (List.Mem.tail _ (List.Mem.head _)))) (xsb_c (List.Mem.tail _ (List.Mem.tail _ (List.Mem.tail _ (List.Mem.tail _ (List.Mem.head _))))) (xsb_c (List.Mem.tail _ (List.Mem.tail _ (List.Mem.tail _ (List.Mem.tail _ (List.Mem.tail _ (List.Mem.head _)))))) (xsb_c (List.Mem.head _) xsb_n))))) (ih101 v4 sh)
      · refine jr_aload_n (e_41 rfl) rfl rfl ?_
        refine jr_getr (K2 := 23) (i2 := 0) (e_41 rfl) rfl rfl rfl ?_
        refine jr_iload (e_41 rfl) rfl rfl ?_
        refine jr_callP (as := [xr 23 0, xi v2]) (S1 := []) (e_41 rfl) rfl rfl rfl rfl rfl rfl (jm_S_read 23 0 v2 sh rfl) rfl (fun v5 => ?_)
        refine jr_iconst (e_41 rfl) rfl ?_
        refine jr_brx (c := v5 = (-1)) (pt := 153) (pn := 136) (e_41 rfl) rfl rfl (fun h6 => ?_) (fun h6 => ?_)
        · refine jr_aload_n (e_41 rfl) rfl rfl ?_
          refine jr_iload (e_41 rfl) rfl rfl ?_
          refine jr_callX (as := [xr 3 0, xi v2]) (S1 := []) (e_41 rfl) rfl rfl rfl rfl rfl rfl (jm_Search_fits v2 sh) rfl (fun v7 s8 => ?_)
          refine jr_bri (c := v7 = 0) (pt := 153) (pn := 145) (e_41 rfl) rfl rfl (fun h9 => ?_) (fun h9 => ?_)
          · refine jr_iinc (L2 := fun c => [(5, xi c), (6, xi v2), (0, xr 3 0), (2, xi f2), (3, xi f3), (4, xi f4)]) (e_41 rfl) rfl rfl rfl (fun _ => rfl) (fun v10 => ?_)
            refine jr_goto (pc' := 101) (e_41 rfl) rfl ?_
            exact jr_sub (show ([5, 6, 0, 2, 3, 4] : List Nat).Nodup from by decide) (xsb_c (List.Mem.tail _ (List.Mem.tail _ (List.Mem.head _))) (xsb_c (List.Mem.tail _ (List.Mem.tail _ (List.Mem.tail _ (List.Mem.head _)))) (xsb_c (List.Mem.tail _ (List.Mem.tail _ (List.Mem.tail _ (List.Mem.tail _ (List.Mem.head _))))) (xsb_c (List.Mem.tail _ (List.Mem.tail _ (List.Mem.tail _ (List.Mem.tail _ (List.Mem.tail _ (List.Mem.head _)))))) (xsb_c (List.Mem.head _) xsb_n))))) (ih101 v10 s8)
          · refine jr_aload_n (e_41 rfl) rfl rfl ?_
            refine jr_iload (e_41 rfl) rfl rfl ?_
            refine jr_iload (e_41 rfl) rfl rfl ?_
            refine jr_callV (as := [xr 3 0, xi v2, xi x5]) (S1 := []) (e_41 rfl) rfl rfl rfl rfl rfl rfl (jm_Search_reach v2 x5 s8) rfl (fun s11 => ?_)
            refine jr_iinc (L2 := fun c => [(5, xi c), (6, xi v2), (0, xr 3 0), (2, xi f2), (3, xi f3), (4, xi f4)]) (e_41 rfl) rfl rfl rfl (fun _ => rfl) (fun v12 => ?_)
            refine jr_goto (pc' := 101) (e_41 rfl) rfl ?_
            exact jr_sub (show ([5, 6, 0, 2, 3, 4] : List Nat).Nodup from by decide) (xsb_c (List.Mem.tail _ (List.Mem.tail _ (List.Mem.head _))) (xsb_c (List.Mem.tail _ (List.Mem.tail _ (List.Mem.tail _ (List.Mem.head _)))) (xsb_c (List.Mem.tail _ (List.Mem.tail _ (List.Mem.tail _ (List.Mem.tail _ (List.Mem.head _))))) (xsb_c (List.Mem.tail _ (List.Mem.tail _ (List.Mem.tail _ (List.Mem.tail _ (List.Mem.tail _ (List.Mem.head _)))))) (xsb_c (List.Mem.head _) xsb_n))))) (ih101 v12 s11)
        · refine jr_iinc (L2 := fun c => [(5, xi c), (6, xi v2), (0, xr 3 0), (2, xi f2), (3, xi f3), (4, xi f4)]) (e_41 rfl) rfl rfl rfl (fun _ => rfl) (fun v13 => ?_)
          refine jr_goto (pc' := 101) (e_41 rfl) rfl ?_
          exact jr_sub (show ([5, 6, 0, 2, 3, 4] : List Nat).Nodup from by decide) (xsb_c (List.Mem.tail _ (List.Mem.tail _ (List.Mem.head _))) (xsb_c (List.Mem.tail _ (List.Mem.tail _ (List.Mem.tail _ (List.Mem.head _)))) (xsb_c (List.Mem.tail _ (List.Mem.tail _ (List.Mem.tail _ (List.Mem.tail _ (List.Mem.head _))))) (xsb_c (List.Mem.tail _ (List.Mem.tail _ (List.Mem.tail _ (List.Mem.tail _ (List.Mem.tail _ (List.Mem.head _)))))) (xsb_c (List.Mem.head _) xsb_n))))) (ih101 v13 sh)
noncomputable def fm_Search_flood_61 (f2 : Int) (K : xa_H → Option (Int × xa_H)) : Nat → Int → xa_H → Option (Int × xa_H)
  | 0, _, _ => none
  | n + 1, x3, sh =>
    if (sh 3 0 10) ≤ x3 then
      K sh
    else
      if 3456 ≤ x3 then
        K sh
      else
        if 0 ≤ x3 ∧ x3 < 3456 then
          xnm ((sh 22 0 x3.toNat) : Int) fun v3 =>
          if (xdiv v3 24) = f2 then
            some (v3, sh)
          else
            fm_Search_flood_101 f2 x3 v3 (fun (s14 : xa_H) =>
              xnm (w32 (x3 + 1) : Int) fun v15 =>
              fm_Search_flood_61 f2 K n v15 s14) xFU 0 sh
        else none
theorem jl_Search_flood_61 (f2 : Int) (σ : xa_H)  (K : xa_H → Option (Int × xa_H)) (hK61 : ∀ (sz : xa_H), J 41 165 [] [] sz jqW (K sz)) : ∀ (n : Nat) (x3 : Int) (sh : xa_H), J 41 61 [(0, xr 3 0), (2, xi f2), (3, xi x3)] [] sh jqW (fm_Search_flood_61 f2 K n x3 sh) := by
  intro n
  induction n with
  | zero => intro x3 sh; exact jr_none
  | succ n ih61 =>
    intro x3 sh
    rw [fm_Search_flood_61]
    refine jr_iload_n (e_41 rfl) rfl rfl ?_
    refine jr_aload_n (e_41 rfl) rfl rfl ?_
    refine jr_geti (e_41 rfl) rfl (by decide +kernel) ?_
    refine jr_bri (c := (sh 3 0 10) ≤ x3) (pt := 165) (pn := 69) (e_41 rfl) rfl rfl (fun h1 => ?_) (fun h1 => ?_)
    · exact jr_sub (show ([0, 2, 3] : List Nat).Nodup from by decide) xsb_n (hK61 sh)
    · refine jr_iload_n (e_41 rfl) rfl rfl ?_
      refine jr_aload_n (e_41 rfl) rfl rfl ?_
      refine jr_getr (K2 := 22) (i2 := 0) (e_41 rfl) rfl rfl rfl ?_
      refine jr_alen (a := 3456) (e_41 rfl) rfl (by decide +kernel) rfl ?_
      refine jr_bri (c := 3456 ≤ x3) (pt := 165) (pn := 78) (e_41 rfl) rfl rfl (fun h2 => ?_) (fun h2 => ?_)
      · exact jr_sub (show ([0, 2, 3] : List Nat).Nodup from by decide) xsb_n (hK61 sh)
      · refine jr_aload_n (e_41 rfl) rfl rfl ?_
        refine jr_getr (K2 := 22) (i2 := 0) (e_41 rfl) rfl rfl rfl ?_
        refine jr_iload_n (e_41 rfl) rfl rfl ?_
        refine jr_ald (n := 3456) (e_41 rfl) rfl rfl rfl ?_
        refine jr_nm (fun v3 => ?_)
        refine jr_istore (L' := [(4, xi v3), (0, xr 3 0), (2, xi f2), (3, xi x3)]) (e_41 rfl) rfl rfl rfl ?_
        refine jr_iload (e_41 rfl) rfl rfl ?_
        refine jr_bipush (e_41 rfl) rfl ?_
        refine jr_idiv (e_41 rfl) rfl (by decide) ?_
        refine jr_iload_n (e_41 rfl) rfl rfl ?_
        refine jr_brx (c := (xdiv v3 24) = f2) (pt := 98) (pn := 95) (e_41 rfl) rfl rfl (fun h4 => ?_) (fun h4 => ?_)
        · refine jr_iload (e_41 rfl) rfl rfl ?_
          exact jr_retW (e_41 rfl) rfl
        · refine jr_iconst (e_41 rfl) rfl ?_
          refine jr_istore (L' := [(5, xi 0), (4, xi v3), (0, xr 3 0), (2, xi f2), (3, xi x3)]) (e_41 rfl) rfl rfl rfl ?_
          refine jr_sub (show ([5, 4, 0, 2, 3] : List Nat).Nodup from by decide) (xsb_c (List.Mem.tail _ (List.Mem.tail _ (List.Mem.head _))) (xsb_c (List.Mem.tail _ (List.Mem.tail _ (List.Mem.tail _ (List.Mem.head _)))) (xsb_c (List.Mem.tail _ (List.Mem.tail _ (List.Mem.tail _ (List.Mem.tail _ (List.Mem.head _))))) (xsb_c (List.Mem.tail _ (List.Mem.head _)) (xsb_c (List.Mem.head _) xsb_n))))) (jl_Search_flood_101 f2 x3 v3 σ _ (fun s14 => ?_) xFU 0 sh)
          refine jr_iinc (L2 := fun c => [(3, xi c), (0, xr 3 0), (2, xi f2)]) (e_41 rfl) rfl rfl rfl (fun _ => rfl) (fun v15 => ?_)
          refine jr_goto (pc' := 61) (e_41 rfl) rfl ?_
          exact jr_sub (show ([3, 0, 2] : List Nat).Nodup from by decide) (xsb_c (List.Mem.tail _ (List.Mem.head _)) (xsb_c (List.Mem.tail _ (List.Mem.tail _ (List.Mem.head _))) (xsb_c (List.Mem.head _) xsb_n))) (ih61 v15 s14)
noncomputable def fm_Search_flood (a1 : Int) (a2 : Int) (σ : xa_H) : Option (Int × xa_H) :=
  fm_Search_flood_2 a1 a2 (fun (s5 : xa_H) =>
    xnm (xup s5 3 0 10 0) fun s6 =>
    xb2 (fm_Search_fits a1 s6) fun v7 s8 =>
    xj (fun (s10 : xa_H) =>
      fm_Search_flood_61 a2 (fun (s16 : xa_H) =>
        some ((-6), s16)) xFU 0 s10) fun K11 =>
    if v7 = 0 then
      K11 s8
    else
      (fm_Search_reach a1 12 s8).bind fun s13 =>
      K11 s13) xFU 0 σ
theorem jm_Search_flood (a1 : Int) (a2 : Int) (σ : xa_H) : J 41 0 [(0, xr 3 0), (1, xi a1), (2, xi a2)] [] σ jqW (fm_Search_flood a1 a2 σ) := by
  unfold fm_Search_flood
  refine jr_iconst (e_41 rfl) rfl ?_
  refine jr_istore_n (L' := [(3, xi 0), (0, xr 3 0), (1, xi a1), (2, xi a2)]) (e_41 rfl) rfl rfl rfl ?_
  refine jr_sub (show ([3, 0, 1, 2] : List Nat).Nodup from by decide) (xsb_c (List.Mem.tail _ (List.Mem.head _)) (xsb_c (List.Mem.tail _ (List.Mem.tail _ (List.Mem.head _))) (xsb_c (List.Mem.tail _ (List.Mem.tail _ (List.Mem.tail _ (List.Mem.head _)))) (xsb_c (List.Mem.head _) xsb_n)))) (jl_Search_flood_2 a1 a2 σ _ (fun s5 => ?_) xFU 0 σ)
  refine jr_aload_n (e_41 rfl) rfl rfl ?_
  refine jr_iconst (e_41 rfl) rfl ?_
  refine jr_put (e_41 rfl) rfl rfl rfl ?_
  refine jr_nms (fun s6 => ?_)
  refine jr_aload_n (e_41 rfl) rfl rfl ?_
  refine jr_iload_n (e_41 rfl) rfl rfl ?_
  refine jr_callX (as := [xr 3 0, xi a1]) (S1 := []) (e_41 rfl) rfl rfl rfl rfl rfl rfl (jm_Search_fits a1 s6) rfl (fun v7 s8 => ?_)
  refine jr_j (fun K11 => ∀ (s10 : xa_H), J 41 59 [(0, xr 3 0), (2, xi a2)] [] s10 jqW (K11 s10)) (fun s10 => ?_) (fun K11 hK11 => ?_)
  · refine jr_iconst (e_41 rfl) rfl ?_
    refine jr_istore_n (L' := [(3, xi 0), (0, xr 3 0), (2, xi a2)]) (e_41 rfl) rfl rfl rfl ?_
    refine jr_sub (show ([3, 0, 2] : List Nat).Nodup from by decide) (xsb_c (List.Mem.tail _ (List.Mem.head _)) (xsb_c (List.Mem.tail _ (List.Mem.tail _ (List.Mem.head _))) (xsb_c (List.Mem.head _) xsb_n))) (jl_Search_flood_61 a2 σ _ (fun s16 => ?_) xFU 0 s10)
    refine jr_bipush (e_41 rfl) rfl ?_
    exact jr_retW (e_41 rfl) rfl
  · refine jr_bri (c := v7 = 0) (pt := 59) (pn := 52) (e_41 rfl) rfl rfl (fun h12 => ?_) (fun h12 => ?_)
    · exact jr_sub (show ([0, 1, 2] : List Nat).Nodup from by decide) (xsb_c (List.Mem.head _) (xsb_c (List.Mem.tail _ (List.Mem.tail _ (List.Mem.head _))) xsb_n)) (hK11 s8)
    · refine jr_aload_n (e_41 rfl) rfl rfl ?_
      refine jr_iload_n (e_41 rfl) rfl rfl ?_
      refine jr_bipush (e_41 rfl) rfl ?_
      refine jr_callV (as := [xr 3 0, xi a1, xi 12]) (S1 := []) (e_41 rfl) rfl rfl rfl rfl rfl rfl (jm_Search_reach a1 12 s8) rfl (fun s13 => ?_)
      exact jr_sub (show ([0, 1, 2] : List Nat).Nodup from by decide) (xsb_c (List.Mem.head _) (xsb_c (List.Mem.tail _ (List.Mem.tail _ (List.Mem.head _))) xsb_n)) (hK11 s13)

theorem e_42 {pc : Nat} {en : xa_I} (h : xlk pc xc_42 = some en) : xcd 42 pc = some en := h
noncomputable def fm_Search_trace_5 (f1 : Int) (σ : xa_H) (K : Int → Option (xa_H)) : Nat → Int → Int → Option (xa_H)
  | 0, _, _ => none
  | n + 1, x3, x4 =>
    if 3456 ≤ x3 then
      K x3
    else
      (fm_S_read 23 0 x4 σ).bind fun v2 =>
      if 12 ≤ v2 then
        K x3
      else
        (fm_S_read 23 0 x4 σ).bind fun v4 =>
        (fm_Search_opposite v4).bind fun v5 =>
        (fm_Search_step x4 v5 σ).bind fun v6 =>
        xnm (w32 (x3 + 1) : Int) fun v7 =>
        fm_Search_trace_5 f1 σ K n v7 v6
theorem jl_Search_trace_5 (f1 : Int) (σ : xa_H)  (K : Int → Option (xa_H)) (hK5 : ∀ (z0 : Int), J 42 52 [(0, xr 3 0), (1, xi f1), (2, xr 0 0), (3, xi z0)] [] σ jqV (K z0)) : ∀ (n : Nat) (x3 : Int) (x4 : Int), J 42 5 [(0, xr 3 0), (1, xi f1), (2, xr 0 0), (3, xi x3), (4, xi x4)] [] σ jqV (fm_Search_trace_5 f1 σ K n x3 x4) := by
  intro n
  induction n with
  | zero => intro x3 x4; exact jr_none
  | succ n ih5 =>
    intro x3 x4
    rw [fm_Search_trace_5]
    refine jr_iload_n (e_42 rfl) rfl rfl ?_
    refine jr_sipush (e_42 rfl) rfl ?_
    refine jr_bri (c := 3456 ≤ x3) (pt := 52) (pn := 12) (e_42 rfl) rfl rfl (fun h1 => ?_) (fun h1 => ?_)
    · exact jr_sub (show ([0, 1, 2, 3, 4] : List Nat).Nodup from by decide) (xsb_c (List.Mem.head _) (xsb_c (List.Mem.tail _ (List.Mem.head _)) (xsb_c (List.Mem.tail _ (List.Mem.tail _ (List.Mem.head _))) (xsb_c (List.Mem.tail _ (List.Mem.tail _ (List.Mem.tail _ (List.Mem.head _)))) xsb_n)))) (hK5 x3)
    · refine jr_aload_n (e_42 rfl) rfl rfl ?_
      refine jr_getr (K2 := 23) (i2 := 0) (e_42 rfl) rfl rfl rfl ?_
      refine jr_iload (e_42 rfl) rfl rfl ?_
      refine jr_callP (as := [xr 23 0, xi x4]) (S1 := []) (e_42 rfl) rfl rfl rfl rfl rfl rfl (jm_S_read 23 0 x4 σ rfl) rfl (fun v2 => ?_)
      refine jr_bipush (e_42 rfl) rfl ?_
      refine jr_bri (c := 12 ≤ v2) (pt := 52) (pn := 26) (e_42 rfl) rfl rfl (fun h3 => ?_) (fun h3 => ?_)
      · exact jr_sub (show ([0, 1, 2, 3, 4] : List Nat).Nodup from by decide) (xsb_c (List.Mem.head _) (xsb_c (List.Mem.tail _ (List.Mem.head _)) (xsb_c (List.Mem.tail _ (List.Mem.tail _ (List.Mem.head _))) (xsb_c (List.Mem.tail _ (List.Mem.tail _ (List.Mem.tail _ (List.Mem.head _)))) xsb_n)))) (hK5 x3)
      · refine jr_aload_n (e_42 rfl) rfl rfl ?_
        refine jr_iload (e_42 rfl) rfl rfl ?_
        refine jr_aload_n (e_42 rfl) rfl rfl ?_
        refine jr_getr (K2 := 23) (i2 := 0) (e_42 rfl) rfl rfl rfl ?_
        refine jr_iload (e_42 rfl) rfl rfl ?_
        refine jr_callP (as := [xr 23 0, xi x4]) (S1 := [xi x4, xr 3 0]) (e_42 rfl) rfl rfl rfl rfl rfl rfl (jm_S_read 23 0 x4 σ rfl) rfl (fun v4 => ?_)
        refine jr_callP (as := [xi v4]) (S1 := [xi x4, xr 3 0]) (e_42 rfl) rfl rfl rfl rfl rfl rfl (jm_Search_opposite v4 σ) rfl (fun v5 => ?_)
        refine jr_callP (as := [xr 3 0, xi x4, xi v5]) (S1 := []) (e_42 rfl) rfl rfl rfl rfl rfl rfl (jm_Search_step x4 v5 σ) rfl (fun v6 => ?_)
        refine jr_istore (L' := [(4, xi v6), (0, xr 3 0), (1, xi f1), (2, xr 0 0), (3, xi x3)]) (e_42 rfl) rfl rfl rfl ?_
        refine jr_iinc (L2 := fun c => [(3, xi c), (4, xi v6), (0, xr 3 0), (1, xi f1), (2, xr 0 0)]) (e_42 rfl) rfl rfl rfl (fun _ => rfl) (fun v7 => ?_)
        refine jr_goto (pc' := 5) (e_42 rfl) rfl ?_
        exact jr_sub (show ([3, 4, 0, 1, 2] : List Nat).Nodup from by decide) (xsb_c (List.Mem.tail _ (List.Mem.tail _ (List.Mem.head _))) (xsb_c (List.Mem.tail _ (List.Mem.tail _ (List.Mem.tail _ (List.Mem.head _)))) (xsb_c (List.Mem.tail _ (List.Mem.tail _ (List.Mem.tail _ (List.Mem.tail _ (List.Mem.head _))))) (xsb_c (List.Mem.head _) (xsb_c (List.Mem.tail _ (List.Mem.head _)) xsb_n))))) (ih5 v7 v6)
noncomputable def fm_Search_trace_69  (K : xa_H → Option (xa_H)) : Nat → Int → Int → xa_H → Option (xa_H)
  | 0, _, _, _ => none
  | n + 1, x4, x5, sh =>
    if x5 < 0 then
      K sh
    else
      (fm_S_read 23 0 x4 sh).bind fun v2 =>
      (fm_Search_signOf v2).bind fun v3 =>
      (fm_S_write 12 0 x5 v3 sh).bind fun s4 =>
      (fm_Search_opposite v2).bind fun v5 =>
      (fm_Search_step x4 v5 s4).bind fun v6 =>
      xnm (w32 (x5 + (-1)) : Int) fun v7 =>
      fm_Search_trace_69 K n v6 v7 s4
theorem jl_Search_trace_69  (σ : xa_H)  (K : xa_H → Option (xa_H)) (hK69 : ∀ (sz : xa_H), J 42 118 [] [] sz jqV (K sz)) : ∀ (n : Nat) (x4 : Int) (x5 : Int) (sh : xa_H), J 42 69 [(0, xr 3 0), (2, xr 0 0), (4, xi x4), (5, xi x5)] [] sh jqV (fm_Search_trace_69 K n x4 x5 sh) := by
  intro n
  induction n with
  | zero => intro x4 x5 sh; exact jr_none
  | succ n ih69 =>
    intro x4 x5 sh
    rw [fm_Search_trace_69]
    refine jr_iload (e_42 rfl) rfl rfl ?_
    refine jr_bri (c := x5 < 0) (pt := 118) (pn := 74) (e_42 rfl) rfl rfl (fun h1 => ?_) (fun h1 => ?_)
    · exact jr_sub (show ([0, 2, 4, 5] : List Nat).Nodup from by decide) xsb_n (hK69 sh)
    · refine jr_aload_n (e_42 rfl) rfl rfl ?_
      refine jr_getr (K2 := 23) (i2 := 0) (e_42 rfl) rfl rfl rfl ?_
      refine jr_iload (e_42 rfl) rfl rfl ?_
      refine jr_callP (as := [xr 23 0, xi x4]) (S1 := []) (e_42 rfl) rfl rfl rfl rfl rfl rfl (jm_S_read 23 0 x4 sh rfl) rfl (fun v2 => ?_)
      refine jr_istore (L' := [(6, xi v2), (0, xr 3 0), (2, xr 0 0), (4, xi x4), (5, xi x5)]) (e_42 rfl) rfl rfl rfl ?_
      refine jr_aload_n (e_42 rfl) rfl rfl ?_
      refine jr_getr (K2 := 12) (i2 := 0) (e_42 rfl) rfl rfl rfl ?_
      refine jr_iload (e_42 rfl) rfl rfl ?_
      refine jr_iload (e_42 rfl) rfl rfl ?_
      refine jr_callP (as := [xi v2]) (S1 := [xi x5, xr 12 0]) (e_42 rfl) rfl rfl rfl rfl rfl rfl (jm_Search_signOf v2 sh) rfl (fun v3 => ?_)
      refine jr_callV (as := [xr 12 0, xi x5, xi v3]) (S1 := []) (e_42 rfl) rfl rfl rfl rfl rfl rfl (jm_S_write 12 0 x5 v3 sh rfl rfl) rfl (fun s4 => ?_)
      refine jr_aload_n (e_42 rfl) rfl rfl ?_
      refine jr_iload (e_42 rfl) rfl rfl ?_
      refine jr_iload (e_42 rfl) rfl rfl ?_
      refine jr_callP (as := [xi v2]) (S1 := [xi x4, xr 3 0]) (e_42 rfl) rfl rfl rfl rfl rfl rfl (jm_Search_opposite v2 s4) rfl (fun v5 => ?_)
      refine jr_callP (as := [xr 3 0, xi x4, xi v5]) (S1 := []) (e_42 rfl) rfl rfl rfl rfl rfl rfl (jm_Search_step x4 v5 s4) rfl (fun v6 => ?_)
      refine jr_istore (L' := [(4, xi v6), (6, xi v2), (0, xr 3 0), (2, xr 0 0), (5, xi x5)]) (e_42 rfl) rfl rfl rfl ?_
      refine jr_iinc (L2 := fun c => [(5, xi c), (4, xi v6), (6, xi v2), (0, xr 3 0), (2, xr 0 0)]) (e_42 rfl) rfl rfl rfl (fun _ => rfl) (fun v7 => ?_)
      refine jr_goto (pc' := 69) (e_42 rfl) rfl ?_
      exact jr_sub (show ([5, 4, 6, 0, 2] : List Nat).Nodup from by decide) (xsb_c (List.Mem.tail _ (List.Mem.tail _ (List.Mem.tail _ (List.Mem.head _)))) (xsb_c (List.Mem.tail _ (List.Mem.tail _ (List.Mem.tail _ (List.Mem.tail _ (List.Mem.head _))))) (xsb_c (List.Mem.tail _ (List.Mem.head _)) (xsb_c (List.Mem.head _) xsb_n)))) (ih69 v6 v7 s4)
noncomputable def fm_Search_trace (a1 : Int) (σ : xa_H) : Option (xa_H) :=
  fm_Search_trace_5 a1 σ (fun (v8 : Int) =>
    (fm_Answer_none σ).bind fun s9 =>
    xnm (xup s9 0 0 2 v8) fun s10 =>
    xnm ((w32 (v8 - 1)) : Int) fun v11 =>
    fm_Search_trace_69 (fun (s12 : xa_H) =>
      some s12) xFU a1 v11 s10) xFU 0 a1
theorem jm_Search_trace (a1 : Int) (σ : xa_H) : J 42 0 [(0, xr 3 0), (1, xi a1), (2, xr 0 0)] [] σ jqV (fm_Search_trace a1 σ) := by
  unfold fm_Search_trace
  refine jr_iconst (e_42 rfl) rfl ?_
  refine jr_istore_n (L' := [(3, xi 0), (0, xr 3 0), (1, xi a1), (2, xr 0 0)]) (e_42 rfl) rfl rfl rfl ?_
  refine jr_iload_n (e_42 rfl) rfl rfl ?_
  refine jr_istore (L' := [(4, xi a1), (3, xi 0), (0, xr 3 0), (1, xi a1), (2, xr 0 0)]) (e_42 rfl) rfl rfl rfl ?_
  refine jr_sub (show ([4, 3, 0, 1, 2] : List Nat).Nodup from by decide) (xsb_c (List.Mem.tail _ (List.Mem.tail _ (List.Mem.head _))) (xsb_c (List.Mem.tail _ (List.Mem.tail _ (List.Mem.tail _ (List.Mem.head _)))) (xsb_c (List.Mem.tail _ (List.Mem.tail _ (List.Mem.tail _ (List.Mem.tail _ (List.Mem.head _))))) (xsb_c (List.Mem.tail _ (List.Mem.head _)) (xsb_c (List.Mem.head _) xsb_n))))) (jl_Search_trace_5 a1 σ _ (fun v8 => ?_) xFU 0 a1)
  refine jr_aload_n (e_42 rfl) rfl rfl ?_
  refine jr_callV (as := [xr 0 0]) (S1 := []) (e_42 rfl) rfl rfl rfl rfl rfl rfl (jm_Answer_none σ) rfl (fun s9 => ?_)
  refine jr_aload_n (e_42 rfl) rfl rfl ?_
  refine jr_iload_n (e_42 rfl) rfl rfl ?_
  refine jr_put (e_42 rfl) rfl rfl rfl ?_
  refine jr_nms (fun s10 => ?_)
  refine jr_iload_n (e_42 rfl) rfl rfl ?_
  refine jr_istore (L' := [(4, xi a1), (0, xr 3 0), (1, xi a1), (2, xr 0 0), (3, xi v8)]) (e_42 rfl) rfl rfl rfl ?_
  refine jr_iload_n (e_42 rfl) rfl rfl ?_
  refine jr_iconst (e_42 rfl) rfl ?_
  refine jr_isub (e_42 rfl) rfl ?_
  refine jr_nm (fun v11 => ?_)
  refine jr_istore (L' := [(5, xi v11), (4, xi a1), (0, xr 3 0), (1, xi a1), (2, xr 0 0), (3, xi v8)]) (e_42 rfl) rfl rfl rfl ?_
  refine jr_sub (show ([5, 4, 0, 1, 2, 3] : List Nat).Nodup from by decide) (xsb_c (List.Mem.tail _ (List.Mem.tail _ (List.Mem.head _))) (xsb_c (List.Mem.tail _ (List.Mem.tail _ (List.Mem.tail _ (List.Mem.tail _ (List.Mem.head _))))) (xsb_c (List.Mem.tail _ (List.Mem.head _)) (xsb_c (List.Mem.head _) xsb_n)))) (jl_Search_trace_69 σ _ (fun s12 => ?_) xFU a1 v11 s10)
  exact jr_retV (e_42 rfl)

theorem e_132 {pc : Nat} {en : xa_I} (h : xlk pc xc_132 = some en) : xcd 132 pc = some en := h
noncomputable def fm_S_copy_2 (K0 : Nat) (i0 : Nat) (K1 : Nat) (i1 : Nat) (K : xa_H → Option (xa_H)) : Nat → Int → xa_H → Option (xa_H)
  | 0, _, _ => none
  | n + 1, x2, sh =>
    if (xalen K0 : Int) ≤ x2 then
      K sh
    else
      if (xalen K1 : Int) ≤ x2 then
        K sh
      else
        if 0 ≤ x2 ∧ x2 < (xalen K0 : Int) then
          if 0 ≤ x2 ∧ x2 < (xalen K1 : Int) then
            xnm (xup sh K1 i1 x2.toNat (sh K0 i0 x2.toNat)) fun s3 =>
            xnm (w32 (x2 + 1) : Int) fun v4 =>
            fm_S_copy_2 K0 i0 K1 i1 K n v4 s3
          else none
        else none
theorem jl_S_copy_2 (K0 : Nat) (i0 : Nat) (K1 : Nat) (i1 : Nat) (σ : xa_H) (hk0 : xaty K0 = 0) (hg0 : xkg K0 = xmg 132) (hk1 : xaty K1 = 0) (hg1 : xkg K1 = xmg 132) (K : xa_H → Option (xa_H)) (hK2 : ∀ (sz : xa_H), J 132 26 [] [] sz jqV (K sz)) : ∀ (n : Nat) (x2 : Int) (sh : xa_H), J 132 2 [(0, xr K0 i0), (1, xr K1 i1), (2, xi x2)] [] sh jqV (fm_S_copy_2 K0 i0 K1 i1 K n x2 sh) := by
  intro n
  induction n with
  | zero => intro x2 sh; exact jr_none
  | succ n ih2 =>
    intro x2 sh
    rw [fm_S_copy_2]
    refine jr_iload_n (e_132 rfl) rfl rfl ?_
    refine jr_aload_n (e_132 rfl) rfl rfl ?_
    refine jr_alen (a := (xalen K0 : Int)) (e_132 rfl) rfl (xno9 hk0) rfl ?_
    refine jr_bri (c := (xalen K0 : Int) ≤ x2) (pt := 26) (pn := 8) (e_132 rfl) rfl rfl (fun h1 => ?_) (fun h1 => ?_)
    · exact jr_sub (show ([0, 1, 2] : List Nat).Nodup from by decide) xsb_n (hK2 sh)
    · refine jr_iload_n (e_132 rfl) rfl rfl ?_
      refine jr_aload_n (e_132 rfl) rfl rfl ?_
      refine jr_alen (a := (xalen K1 : Int)) (e_132 rfl) rfl (xno9 hk1) rfl ?_
      refine jr_bri (c := (xalen K1 : Int) ≤ x2) (pt := 26) (pn := 14) (e_132 rfl) rfl rfl (fun h2 => ?_) (fun h2 => ?_)
      · exact jr_sub (show ([0, 1, 2] : List Nat).Nodup from by decide) xsb_n (hK2 sh)
      · refine jr_aload_n (e_132 rfl) rfl rfl ?_
        refine jr_iload_n (e_132 rfl) rfl rfl ?_
        refine jr_aload_n (e_132 rfl) rfl rfl ?_
        refine jr_iload_n (e_132 rfl) rfl rfl ?_
        refine jr_ald (n := (xalen K0 : Int)) (e_132 rfl) rfl hk0 rfl ?_
        refine jr_ast (n := (xalen K1 : Int)) (e_132 rfl) rfl hk1 hg1 rfl ?_
        refine jr_nms (fun s3 => ?_)
        refine jr_iinc (L2 := fun c => [(2, xi c), (0, xr K0 i0), (1, xr K1 i1)]) (e_132 rfl) rfl rfl rfl (fun _ => rfl) (fun v4 => ?_)
        refine jr_goto (pc' := 2) (e_132 rfl) rfl ?_
        exact jr_sub (show ([2, 0, 1] : List Nat).Nodup from by decide) (xsb_c (List.Mem.tail _ (List.Mem.head _)) (xsb_c (List.Mem.tail _ (List.Mem.tail _ (List.Mem.head _))) (xsb_c (List.Mem.head _) xsb_n))) (ih2 v4 s3)
noncomputable def fm_S_copy (K0 i0 : Nat) (K1 i1 : Nat) (σ : xa_H) : Option (xa_H) :=
  fm_S_copy_2 K0 i0 K1 i1 (fun (s5 : xa_H) =>
    some s5) xFU 0 σ
theorem jm_S_copy (K0 i0 : Nat) (K1 i1 : Nat) (σ : xa_H) (hk0 : xaty K0 = 0) (hg0 : xkg K0 = xmg 132) (hk1 : xaty K1 = 0) (hg1 : xkg K1 = xmg 132) : J 132 0 [(0, xr K0 i0), (1, xr K1 i1)] [] σ jqV (fm_S_copy K0 i0 K1 i1 σ) := by
  unfold fm_S_copy
  refine jr_iconst (e_132 rfl) rfl ?_
  refine jr_istore_n (L' := [(2, xi 0), (0, xr K0 i0), (1, xr K1 i1)]) (e_132 rfl) rfl rfl rfl ?_
  refine jr_sub (show ([2, 0, 1] : List Nat).Nodup from by decide) (xsb_c (List.Mem.tail _ (List.Mem.head _)) (xsb_c (List.Mem.tail _ (List.Mem.tail _ (List.Mem.head _))) (xsb_c (List.Mem.head _) xsb_n))) (jl_S_copy_2 K0 i0 K1 i1 σ hk0 hg0 hk1 hg1 _ (fun s5 => ?_) xFU 0 σ)
  exact jr_retV (e_132 rfl)

theorem e_58 {pc : Nat} {en : xa_I} (h : xlk pc xc_58 = some en) : xcd 58 pc = some en := h
noncomputable def fm_Thing_copyFrom (i0 : Nat) (i1 : Nat) (σ : xa_H) : Option (xa_H) :=
  xnm (xup σ 5 i0 0 (σ 5 i1 0)) fun s1 =>
  xnm (xup s1 5 i0 1 (s1 5 i1 1)) fun s2 =>
  xnm (xup s2 5 i0 2 (s2 5 i1 2)) fun s3 =>
  xnm (xup s3 5 i0 3 (s3 5 i1 3)) fun s4 =>
  (fm_S_copy 27 i1 27 i0 s4).bind fun s5 =>
  (fm_S_copy 28 i1 28 i0 s5).bind fun s6 =>
  (fm_S_copy 29 i1 29 i0 s6).bind fun s7 =>
  (fm_S_copy 30 i1 30 i0 s7).bind fun s8 =>
  some s8
theorem jm_Thing_copyFrom (i0 : Nat) (i1 : Nat) (σ : xa_H) : J 58 0 [(0, xr 5 i0), (1, xr 5 i1)] [] σ jqV (fm_Thing_copyFrom i0 i1 σ) := by
  unfold fm_Thing_copyFrom
  refine jr_aload_n (e_58 rfl) rfl rfl ?_
  refine jr_aload_n (e_58 rfl) rfl rfl ?_
  refine jr_geti (e_58 rfl) rfl (by decide +kernel) ?_
  refine jr_put (e_58 rfl) rfl rfl rfl ?_
  refine jr_nms (fun s1 => ?_)
  refine jr_aload_n (e_58 rfl) rfl rfl ?_
  refine jr_aload_n (e_58 rfl) rfl rfl ?_
  refine jr_geti (e_58 rfl) rfl (by decide +kernel) ?_
  refine jr_put (e_58 rfl) rfl rfl rfl ?_
  refine jr_nms (fun s2 => ?_)
  refine jr_aload_n (e_58 rfl) rfl rfl ?_
  refine jr_aload_n (e_58 rfl) rfl rfl ?_
  refine jr_geti (e_58 rfl) rfl (by decide +kernel) ?_
  refine jr_put (e_58 rfl) rfl rfl rfl ?_
  refine jr_nms (fun s3 => ?_)
  refine jr_aload_n (e_58 rfl) rfl rfl ?_
  refine jr_aload_n (e_58 rfl) rfl rfl ?_
  refine jr_geti (e_58 rfl) rfl (by decide +kernel) ?_
  refine jr_put (e_58 rfl) rfl rfl rfl ?_
  refine jr_nms (fun s4 => ?_)
  refine jr_aload_n (e_58 rfl) rfl rfl ?_
  refine jr_getr (K2 := 27) (i2 := i1) (e_58 rfl) rfl rfl rfl ?_
  refine jr_aload_n (e_58 rfl) rfl rfl ?_
  refine jr_getr (K2 := 27) (i2 := i0) (e_58 rfl) rfl rfl rfl ?_
  refine jr_callV (as := [xr 27 i1, xr 27 i0]) (S1 := []) (e_58 rfl) rfl rfl rfl rfl rfl rfl (jm_S_copy 27 i1 27 i0 s4 rfl rfl rfl rfl) rfl (fun s5 => ?_)
  refine jr_aload_n (e_58 rfl) rfl rfl ?_
  refine jr_getr (K2 := 28) (i2 := i1) (e_58 rfl) rfl rfl rfl ?_
  refine jr_aload_n (e_58 rfl) rfl rfl ?_
  refine jr_getr (K2 := 28) (i2 := i0) (e_58 rfl) rfl rfl rfl ?_
  refine jr_callV (as := [xr 28 i1, xr 28 i0]) (S1 := []) (e_58 rfl) rfl rfl rfl rfl rfl rfl (jm_S_copy 28 i1 28 i0 s5 rfl rfl rfl rfl) rfl (fun s6 => ?_)
  refine jr_aload_n (e_58 rfl) rfl rfl ?_
  refine jr_getr (K2 := 29) (i2 := i1) (e_58 rfl) rfl rfl rfl ?_
  refine jr_aload_n (e_58 rfl) rfl rfl ?_
  refine jr_getr (K2 := 29) (i2 := i0) (e_58 rfl) rfl rfl rfl ?_
  refine jr_callV (as := [xr 29 i1, xr 29 i0]) (S1 := []) (e_58 rfl) rfl rfl rfl rfl rfl rfl (jm_S_copy 29 i1 29 i0 s6 rfl rfl rfl rfl) rfl (fun s7 => ?_)
  refine jr_aload_n (e_58 rfl) rfl rfl ?_
  refine jr_getr (K2 := 30) (i2 := i1) (e_58 rfl) rfl rfl rfl ?_
  refine jr_aload_n (e_58 rfl) rfl rfl ?_
  refine jr_getr (K2 := 30) (i2 := i0) (e_58 rfl) rfl rfl rfl ?_
  refine jr_callV (as := [xr 30 i1, xr 30 i0]) (S1 := []) (e_58 rfl) rfl rfl rfl rfl rfl rfl (jm_S_copy 30 i1 30 i0 s7 rfl rfl rfl rfl) rfl (fun s8 => ?_)
  exact jr_retV (e_58 rfl)

theorem e_73 {pc : Nat} {en : xa_I} (h : xlk pc xc_73 = some en) : xcd 73 pc = some en := h
noncomputable def fm_Way_placeAt (i0 : Nat) (a1 : Int) (a2 : Int) (a3 : Int) (σ : xa_H) : Option (Int) :=
  xnm ((if a1 < 0 then 0 else (if (σ 7 i0 0) ≤ a1 then 0 else (if a2 < 0 then 0 else (if (σ 7 i0 1) ≤ a2 then 0 else (if a3 < 0 then 0 else (if (σ 7 i0 2) ≤ a3 then 0 else 1)))))) : Int) fun v2 =>
  if v2 = 0 then
    some (-6)
  else
    some (w32 ((w32 ((w32 ((w32 (a1 * 6)) + a2)) * 4)) + a3))
theorem jm_Way_placeAt (i0 : Nat) (a1 : Int) (a2 : Int) (a3 : Int) (σ : xa_H) : J 73 0 [(0, xr 7 i0), (1, xi a1), (2, xi a2), (3, xi a3)] [] σ (jqP σ) (fm_Way_placeAt i0 a1 a2 a3 σ) := by
  unfold fm_Way_placeAt
  refine jr_iload_n (e_73 rfl) rfl rfl ?_
  refine jr_pm1 (fun T => ∀ v2 : Int, J 73 41 [(1, xi a1), (2, xi a2), (3, xi a3)] [xi v2] σ (jqP σ) (T v2)) (fun v2 => ?_) (fun T hT => ?_)
  · refine jr_istore (L' := [(4, xi v2), (1, xi a1), (2, xi a2), (3, xi a3)]) (e_73 rfl) rfl rfl rfl ?_
    refine jr_iload (e_73 rfl) rfl rfl ?_
    refine jr_bri (c := v2 = 0) (pt := 61) (pn := 48) (e_73 rfl) rfl rfl (fun h9 => ?_) (fun h9 => ?_)
    · refine jr_bipush (e_73 rfl) rfl ?_
      exact jr_retP (e_73 rfl) rfl
    · refine jr_iload_n (e_73 rfl) rfl rfl ?_
      refine jr_bipush (e_73 rfl) rfl ?_
      refine jr_imul (e_73 rfl) rfl ?_
      refine jr_iload_n (e_73 rfl) rfl rfl ?_
      refine jr_iadd (e_73 rfl) rfl ?_
      refine jr_iconst (e_73 rfl) rfl ?_
      refine jr_imul (e_73 rfl) rfl ?_
      refine jr_iload_n (e_73 rfl) rfl rfl ?_
      refine jr_iadd (e_73 rfl) rfl ?_
      refine jr_goto (pc' := 63) (e_73 rfl) rfl ?_
      exact jr_retP (e_73 rfl) rfl
  · refine jr_br (c := a1 < 0) (pt := 40) (pn := 4) (e_73 rfl) rfl rfl (fun h3 => ?_) (fun h3 => ?_)
    · refine jr_iconst (e_73 rfl) rfl ?_
      exact (jr_nme (if_pos h3) (jr_sub (show ([0, 1, 2, 3] : List Nat).Nodup from by decide) (xsb_c (List.Mem.tail _ (List.Mem.head _)) (xsb_c (List.Mem.tail _ (List.Mem.tail _ (List.Mem.head _))) (xsb_c (List.Mem.tail _ (List.Mem.tail _ (List.Mem.tail _ (List.Mem.head _)))) xsb_n))) (hT 0)))
    · refine jr_iload_n (e_73 rfl) rfl rfl ?_
      refine jr_aload_n (e_73 rfl) rfl rfl ?_
      refine jr_geti (e_73 rfl) rfl (by decide +kernel) ?_
      refine jr_br (c := (σ 7 i0 0) ≤ a1) (pt := 40) (pn := 12) (e_73 rfl) rfl rfl (fun h4 => ?_) (fun h4 => ?_)
      · refine jr_iconst (e_73 rfl) rfl ?_
        exact (jr_nme ((if_neg h3).trans (if_pos h4)) (jr_sub (show ([0, 1, 2, 3] : List Nat).Nodup from by decide) (xsb_c (List.Mem.tail _ (List.Mem.head _)) (xsb_c (List.Mem.tail _ (List.Mem.tail _ (List.Mem.head _))) (xsb_c (List.Mem.tail _ (List.Mem.tail _ (List.Mem.tail _ (List.Mem.head _)))) xsb_n))) (hT 0)))
      · refine jr_iload_n (e_73 rfl) rfl rfl ?_
        refine jr_br (c := a2 < 0) (pt := 40) (pn := 16) (e_73 rfl) rfl rfl (fun h5 => ?_) (fun h5 => ?_)
        · refine jr_iconst (e_73 rfl) rfl ?_
          exact (jr_nme ((if_neg h3).trans ((if_neg h4).trans (if_pos h5))) (jr_sub (show ([0, 1, 2, 3] : List Nat).Nodup from by decide) (xsb_c (List.Mem.tail _ (List.Mem.head _)) (xsb_c (List.Mem.tail _ (List.Mem.tail _ (List.Mem.head _))) (xsb_c (List.Mem.tail _ (List.Mem.tail _ (List.Mem.tail _ (List.Mem.head _)))) xsb_n))) (hT 0)))
        · refine jr_iload_n (e_73 rfl) rfl rfl ?_
          refine jr_aload_n (e_73 rfl) rfl rfl ?_
          refine jr_geti (e_73 rfl) rfl (by decide +kernel) ?_
          refine jr_br (c := (σ 7 i0 1) ≤ a2) (pt := 40) (pn := 24) (e_73 rfl) rfl rfl (fun h6 => ?_) (fun h6 => ?_)
          · refine jr_iconst (e_73 rfl) rfl ?_
            exact (jr_nme ((if_neg h3).trans ((if_neg h4).trans ((if_neg h5).trans (if_pos h6)))) (jr_sub (show ([0, 1, 2, 3] : List Nat).Nodup from by decide) (xsb_c (List.Mem.tail _ (List.Mem.head _)) (xsb_c (List.Mem.tail _ (List.Mem.tail _ (List.Mem.head _))) (xsb_c (List.Mem.tail _ (List.Mem.tail _ (List.Mem.tail _ (List.Mem.head _)))) xsb_n))) (hT 0)))
          · refine jr_iload_n (e_73 rfl) rfl rfl ?_
            refine jr_br (c := a3 < 0) (pt := 40) (pn := 28) (e_73 rfl) rfl rfl (fun h7 => ?_) (fun h7 => ?_)
            · refine jr_iconst (e_73 rfl) rfl ?_
              exact (jr_nme ((if_neg h3).trans ((if_neg h4).trans ((if_neg h5).trans ((if_neg h6).trans (if_pos h7))))) (jr_sub (show ([0, 1, 2, 3] : List Nat).Nodup from by decide) (xsb_c (List.Mem.tail _ (List.Mem.head _)) (xsb_c (List.Mem.tail _ (List.Mem.tail _ (List.Mem.head _))) (xsb_c (List.Mem.tail _ (List.Mem.tail _ (List.Mem.tail _ (List.Mem.head _)))) xsb_n))) (hT 0)))
            · refine jr_iload_n (e_73 rfl) rfl rfl ?_
              refine jr_aload_n (e_73 rfl) rfl rfl ?_
              refine jr_geti (e_73 rfl) rfl (by decide +kernel) ?_
              refine jr_br (c := (σ 7 i0 2) ≤ a3) (pt := 40) (pn := 36) (e_73 rfl) rfl rfl (fun h8 => ?_) (fun h8 => ?_)
              · refine jr_iconst (e_73 rfl) rfl ?_
                exact (jr_nme ((if_neg h3).trans ((if_neg h4).trans ((if_neg h5).trans ((if_neg h6).trans ((if_neg h7).trans (if_pos h8)))))) (jr_sub (show ([0, 1, 2, 3] : List Nat).Nodup from by decide) (xsb_c (List.Mem.tail _ (List.Mem.head _)) (xsb_c (List.Mem.tail _ (List.Mem.tail _ (List.Mem.head _))) (xsb_c (List.Mem.tail _ (List.Mem.tail _ (List.Mem.tail _ (List.Mem.head _)))) xsb_n))) (hT 0)))
              · refine jr_iconst (e_73 rfl) rfl ?_
                refine jr_goto (pc' := 41) (e_73 rfl) rfl ?_
                exact (jr_nme ((if_neg h3).trans ((if_neg h4).trans ((if_neg h5).trans ((if_neg h6).trans ((if_neg h7).trans (if_neg h8)))))) (jr_sub (show ([0, 1, 2, 3] : List Nat).Nodup from by decide) (xsb_c (List.Mem.tail _ (List.Mem.head _)) (xsb_c (List.Mem.tail _ (List.Mem.tail _ (List.Mem.head _))) (xsb_c (List.Mem.tail _ (List.Mem.tail _ (List.Mem.tail _ (List.Mem.head _)))) xsb_n))) (hT 1)))

theorem e_72 {pc : Nat} {en : xa_I} (h : xlk pc xc_72 = some en) : xcd 72 pc = some en := h
noncomputable def fm_Way_measure_18 (i0 : Nat) (K : xa_H → Option (xa_H)) : Nat → Int → xa_H → Option (xa_H)
  | 0, _, _ => none
  | n + 1, x4, sh =>
    if 144 ≤ x4 then
      K sh
    else
      xnm ((w32 (x4 * 6)) : Int) fun v2 =>
      (fm_S_xOf x4).bind fun v3 =>
      (fm_S_yOf x4).bind fun v4 =>
      (fm_S_zOf x4).bind fun v5 =>
      (fm_Way_placeAt i0 v3 (w32 (v4 - 1)) v5 sh).bind fun v6 =>
      (fm_S_write 34 i0 v2 v6 sh).bind fun s7 =>
      (fm_S_xOf x4).bind fun v8 =>
      (fm_S_yOf x4).bind fun v9 =>
      (fm_S_zOf x4).bind fun v10 =>
      (fm_Way_placeAt i0 v8 (w32 (v9 + 1)) v10 s7).bind fun v11 =>
      (fm_S_write 34 i0 (w32 (v2 + 1)) v11 s7).bind fun s12 =>
      (fm_S_xOf x4).bind fun v13 =>
      (fm_S_yOf x4).bind fun v14 =>
      (fm_S_zOf x4).bind fun v15 =>
      (fm_Way_placeAt i0 (w32 (v13 - 1)) v14 v15 s12).bind fun v16 =>
      (fm_S_write 34 i0 (w32 (v2 + 2)) v16 s12).bind fun s17 =>
      (fm_S_xOf x4).bind fun v18 =>
      (fm_S_yOf x4).bind fun v19 =>
      (fm_S_zOf x4).bind fun v20 =>
      (fm_Way_placeAt i0 (w32 (v18 + 1)) v19 v20 s17).bind fun v21 =>
      (fm_S_write 34 i0 (w32 (v2 + 3)) v21 s17).bind fun s22 =>
      (fm_S_xOf x4).bind fun v23 =>
      (fm_S_yOf x4).bind fun v24 =>
      (fm_S_zOf x4).bind fun v25 =>
      (fm_Way_placeAt i0 v23 v24 (w32 (v25 + 1)) s22).bind fun v26 =>
      (fm_S_write 34 i0 (w32 (v2 + 4)) v26 s22).bind fun s27 =>
      (fm_S_xOf x4).bind fun v28 =>
      (fm_S_yOf x4).bind fun v29 =>
      (fm_S_zOf x4).bind fun v30 =>
      (fm_Way_placeAt i0 v28 v29 (w32 (v30 - 1)) s27).bind fun v31 =>
      (fm_S_write 34 i0 (w32 (v2 + 5)) v31 s27).bind fun s32 =>
      xnm (w32 (x4 + 1) : Int) fun v33 =>
      fm_Way_measure_18 i0 K n v33 s32
theorem jl_Way_measure_18 (i0 : Nat) (σ : xa_H)  (K : xa_H → Option (xa_H)) (hK18 : ∀ (sz : xa_H), J 72 229 [] [] sz jqV (K sz)) : ∀ (n : Nat) (x4 : Int) (sh : xa_H), J 72 18 [(0, xr 7 i0), (4, xi x4)] [] sh jqV (fm_Way_measure_18 i0 K n x4 sh) := by
  intro n
  induction n with
  | zero => intro x4 sh; exact jr_none
  | succ n ih18 =>
    intro x4 sh
    rw [fm_Way_measure_18]
    refine jr_iload (e_72 rfl) rfl rfl ?_
    refine jr_sipush (e_72 rfl) rfl ?_
    refine jr_bri (c := 144 ≤ x4) (pt := 229) (pn := 26) (e_72 rfl) rfl rfl (fun h1 => ?_) (fun h1 => ?_)
    · exact jr_sub (show ([0, 4] : List Nat).Nodup from by decide) xsb_n (hK18 sh)
    · refine jr_iload (e_72 rfl) rfl rfl ?_
      refine jr_bipush (e_72 rfl) rfl ?_
      refine jr_imul (e_72 rfl) rfl ?_
      refine jr_nm (fun v2 => ?_)
      refine jr_istore (L' := [(5, xi v2), (0, xr 7 i0), (4, xi x4)]) (e_72 rfl) rfl rfl rfl ?_
      refine jr_aload_n (e_72 rfl) rfl rfl ?_
      refine jr_getr (K2 := 34) (i2 := i0) (e_72 rfl) rfl rfl rfl ?_
      refine jr_iload (e_72 rfl) rfl rfl ?_
      refine jr_aload_n (e_72 rfl) rfl rfl ?_
      refine jr_iload (e_72 rfl) rfl rfl ?_
      refine jr_callP (as := [xi x4]) (S1 := [xr 7 i0, xi v2, xr 34 i0]) (e_72 rfl) rfl rfl rfl rfl rfl rfl (jm_S_xOf x4 sh) rfl (fun v3 => ?_)
      refine jr_iload (e_72 rfl) rfl rfl ?_
      refine jr_callP (as := [xi x4]) (S1 := [xi v3, xr 7 i0, xi v2, xr 34 i0]) (e_72 rfl) rfl rfl rfl rfl rfl rfl (jm_S_yOf x4 sh) rfl (fun v4 => ?_)
      refine jr_iconst (e_72 rfl) rfl ?_
      refine jr_isub (e_72 rfl) rfl ?_
      refine jr_iload (e_72 rfl) rfl rfl ?_
      refine jr_callP (as := [xi x4]) (S1 := [xi (w32 (v4 - 1)), xi v3, xr 7 i0, xi v2, xr 34 i0]) (e_72 rfl) rfl rfl rfl rfl rfl rfl (jm_S_zOf x4 sh) rfl (fun v5 => ?_)
      refine jr_callP (as := [xr 7 i0, xi v3, xi (w32 (v4 - 1)), xi v5]) (S1 := [xi v2, xr 34 i0]) (e_72 rfl) rfl rfl rfl rfl rfl rfl (jm_Way_placeAt i0 v3 (w32 (v4 - 1)) v5 sh) rfl (fun v6 => ?_)
      refine jr_callV (as := [xr 34 i0, xi v2, xi v6]) (S1 := []) (e_72 rfl) rfl rfl rfl rfl rfl rfl (jm_S_write 34 i0 v2 v6 sh rfl rfl) rfl (fun s7 => ?_)
      refine jr_aload_n (e_72 rfl) rfl rfl ?_
      refine jr_getr (K2 := 34) (i2 := i0) (e_72 rfl) rfl rfl rfl ?_
      refine jr_iload (e_72 rfl) rfl rfl ?_
      refine jr_iconst (e_72 rfl) rfl ?_
      refine jr_iadd (e_72 rfl) rfl ?_
      refine jr_aload_n (e_72 rfl) rfl rfl ?_
      refine jr_iload (e_72 rfl) rfl rfl ?_
      refine jr_callP (as := [xi x4]) (S1 := [xr 7 i0, xi (w32 (v2 + 1)), xr 34 i0]) (e_72 rfl) rfl rfl rfl rfl rfl rfl (jm_S_xOf x4 s7) rfl (fun v8 => ?_)
      refine jr_iload (e_72 rfl) rfl rfl ?_
      refine jr_callP (as := [xi x4]) (S1 := [xi v8, xr 7 i0, xi (w32 (v2 + 1)), xr 34 i0]) (e_72 rfl) rfl rfl rfl rfl rfl rfl (jm_S_yOf x4 s7) rfl (fun v9 => ?_)
      refine jr_iconst (e_72 rfl) rfl ?_
      refine jr_iadd (e_72 rfl) rfl ?_
      refine jr_iload (e_72 rfl) rfl rfl ?_
      refine jr_callP (as := [xi x4]) (S1 := [xi (w32 (v9 + 1)), xi v8, xr 7 i0, xi (w32 (v2 + 1)), xr 34 i0]) (e_72 rfl) rfl rfl rfl rfl rfl rfl (jm_S_zOf x4 s7) rfl (fun v10 => ?_)
      refine jr_callP (as := [xr 7 i0, xi v8, xi (w32 (v9 + 1)), xi v10]) (S1 := [xi (w32 (v2 + 1)), xr 34 i0]) (e_72 rfl) rfl rfl rfl rfl rfl rfl (jm_Way_placeAt i0 v8 (w32 (v9 + 1)) v10 s7) rfl (fun v11 => ?_)
      refine jr_callV (as := [xr 34 i0, xi (w32 (v2 + 1)), xi v11]) (S1 := []) (e_72 rfl) rfl rfl rfl rfl rfl rfl (jm_S_write 34 i0 (w32 (v2 + 1)) v11 s7 rfl rfl) rfl (fun s12 => ?_)
      refine jr_aload_n (e_72 rfl) rfl rfl ?_
      refine jr_getr (K2 := 34) (i2 := i0) (e_72 rfl) rfl rfl rfl ?_
      refine jr_iload (e_72 rfl) rfl rfl ?_
      refine jr_iconst (e_72 rfl) rfl ?_
      refine jr_iadd (e_72 rfl) rfl ?_
      refine jr_aload_n (e_72 rfl) rfl rfl ?_
      refine jr_iload (e_72 rfl) rfl rfl ?_
      refine jr_callP (as := [xi x4]) (S1 := [xr 7 i0, xi (w32 (v2 + 2)), xr 34 i0]) (e_72 rfl) rfl rfl rfl rfl rfl rfl (jm_S_xOf x4 s12) rfl (fun v13 => ?_)
      refine jr_iconst (e_72 rfl) rfl ?_
      refine jr_isub (e_72 rfl) rfl ?_
      refine jr_iload (e_72 rfl) rfl rfl ?_
      refine jr_callP (as := [xi x4]) (S1 := [xi (w32 (v13 - 1)), xr 7 i0, xi (w32 (v2 + 2)), xr 34 i0]) (e_72 rfl) rfl rfl rfl rfl rfl rfl (jm_S_yOf x4 s12) rfl (fun v14 => ?_)
      refine jr_iload (e_72 rfl) rfl rfl ?_
      refine jr_callP (as := [xi x4]) (S1 := [xi v14, xi (w32 (v13 - 1)), xr 7 i0, xi (w32 (v2 + 2)), xr 34 i0]) (e_72 rfl) rfl rfl rfl rfl rfl rfl (jm_S_zOf x4 s12) rfl (fun v15 => ?_)
      refine jr_callP (as := [xr 7 i0, xi (w32 (v13 - 1)), xi v14, xi v15]) (S1 := [xi (w32 (v2 + 2)), xr 34 i0]) (e_72 rfl) rfl rfl rfl rfl rfl rfl (jm_Way_placeAt i0 (w32 (v13 - 1)) v14 v15 s12) rfl (fun v16 => ?_)
      refine jr_callV (as := [xr 34 i0, xi (w32 (v2 + 2)), xi v16]) (S1 := []) (e_72 rfl) rfl rfl rfl rfl rfl rfl (jm_S_write 34 i0 (w32 (v2 + 2)) v16 s12 rfl rfl) rfl (fun s17 => ?_)
      refine jr_aload_n (e_72 rfl) rfl rfl ?_
      refine jr_getr (K2 := 34) (i2 := i0) (e_72 rfl) rfl rfl rfl ?_
      refine jr_iload (e_72 rfl) rfl rfl ?_
      refine jr_iconst (e_72 rfl) rfl ?_
      refine jr_iadd (e_72 rfl) rfl ?_
      refine jr_aload_n (e_72 rfl) rfl rfl ?_
      refine jr_iload (e_72 rfl) rfl rfl ?_
      refine jr_callP (as := [xi x4]) (S1 := [xr 7 i0, xi (w32 (v2 + 3)), xr 34 i0]) (e_72 rfl) rfl rfl rfl rfl rfl rfl (jm_S_xOf x4 s17) rfl (fun v18 => ?_)
      refine jr_iconst (e_72 rfl) rfl ?_
      refine jr_iadd (e_72 rfl) rfl ?_
      refine jr_iload (e_72 rfl) rfl rfl ?_
      refine jr_callP (as := [xi x4]) (S1 := [xi (w32 (v18 + 1)), xr 7 i0, xi (w32 (v2 + 3)), xr 34 i0]) (e_72 rfl) rfl rfl rfl rfl rfl rfl (jm_S_yOf x4 s17) rfl (fun v19 => ?_)
      refine jr_iload (e_72 rfl) rfl rfl ?_
      refine jr_callP (as := [xi x4]) (S1 := [xi v19, xi (w32 (v18 + 1)), xr 7 i0, xi (w32 (v2 + 3)), xr 34 i0]) (e_72 rfl) rfl rfl rfl rfl rfl rfl (jm_S_zOf x4 s17) rfl (fun v20 => ?_)
      refine jr_callP (as := [xr 7 i0, xi (w32 (v18 + 1)), xi v19, xi v20]) (S1 := [xi (w32 (v2 + 3)), xr 34 i0]) (e_72 rfl) rfl rfl rfl rfl rfl rfl (jm_Way_placeAt i0 (w32 (v18 + 1)) v19 v20 s17) rfl (fun v21 => ?_)
      refine jr_callV (as := [xr 34 i0, xi (w32 (v2 + 3)), xi v21]) (S1 := []) (e_72 rfl) rfl rfl rfl rfl rfl rfl (jm_S_write 34 i0 (w32 (v2 + 3)) v21 s17 rfl rfl) rfl (fun s22 => ?_)
      refine jr_aload_n (e_72 rfl) rfl rfl ?_
      refine jr_getr (K2 := 34) (i2 := i0) (e_72 rfl) rfl rfl rfl ?_
      refine jr_iload (e_72 rfl) rfl rfl ?_
      refine jr_iconst (e_72 rfl) rfl ?_
      refine jr_iadd (e_72 rfl) rfl ?_
      refine jr_aload_n (e_72 rfl) rfl rfl ?_
      refine jr_iload (e_72 rfl) rfl rfl ?_
      refine jr_callP (as := [xi x4]) (S1 := [xr 7 i0, xi (w32 (v2 + 4)), xr 34 i0]) (e_72 rfl) rfl rfl rfl rfl rfl rfl (jm_S_xOf x4 s22) rfl (fun v23 => ?_)
      refine jr_iload (e_72 rfl) rfl rfl ?_
      refine jr_callP (as := [xi x4]) (S1 := [xi v23, xr 7 i0, xi (w32 (v2 + 4)), xr 34 i0]) (e_72 rfl) rfl rfl rfl rfl rfl rfl (jm_S_yOf x4 s22) rfl (fun v24 => ?_)
      refine jr_iload (e_72 rfl) rfl rfl ?_
      refine jr_callP (as := [xi x4]) (S1 := [xi v24, xi v23, xr 7 i0, xi (w32 (v2 + 4)), xr 34 i0]) (e_72 rfl) rfl rfl rfl rfl rfl rfl (jm_S_zOf x4 s22) rfl (fun v25 => ?_)
      refine jr_iconst (e_72 rfl) rfl ?_
      refine jr_iadd (e_72 rfl) rfl ?_
      refine jr_callP (as := [xr 7 i0, xi v23, xi v24, xi (w32 (v25 + 1))]) (S1 := [xi (w32 (v2 + 4)), xr 34 i0]) (e_72 rfl) rfl rfl rfl rfl rfl rfl (jm_Way_placeAt i0 v23 v24 (w32 (v25 + 1)) s22) rfl (fun v26 => ?_)
      refine jr_callV (as := [xr 34 i0, xi (w32 (v2 + 4)), xi v26]) (S1 := []) (e_72 rfl) rfl rfl rfl rfl rfl rfl (jm_S_write 34 i0 (w32 (v2 + 4)) v26 s22 rfl rfl) rfl (fun s27 => ?_)
      refine jr_aload_n (e_72 rfl) rfl rfl ?_
      refine jr_getr (K2 := 34) (i2 := i0) (e_72 rfl) rfl rfl rfl ?_
      refine jr_iload (e_72 rfl) rfl rfl ?_
      refine jr_iconst (e_72 rfl) rfl ?_
      refine jr_iadd (e_72 rfl) rfl ?_
      refine jr_aload_n (e_72 rfl) rfl rfl ?_
      refine jr_iload (e_72 rfl) rfl rfl ?_
      refine jr_callP (as := [xi x4]) (S1 := [xr 7 i0, xi (w32 (v2 + 5)), xr 34 i0]) (e_72 rfl) rfl rfl rfl rfl rfl rfl (jm_S_xOf x4 s27) rfl (fun v28 => ?_)
      refine jr_iload (e_72 rfl) rfl rfl ?_
      refine jr_callP (as := [xi x4]) (S1 := [xi v28, xr 7 i0, xi (w32 (v2 + 5)), xr 34 i0]) (e_72 rfl) rfl rfl rfl rfl rfl rfl (jm_S_yOf x4 s27) rfl (fun v29 => ?_)
      refine jr_iload (e_72 rfl) rfl rfl ?_
      refine jr_callP (as := [xi x4]) (S1 := [xi v29, xi v28, xr 7 i0, xi (w32 (v2 + 5)), xr 34 i0]) (e_72 rfl) rfl rfl rfl rfl rfl rfl (jm_S_zOf x4 s27) rfl (fun v30 => ?_)
      refine jr_iconst (e_72 rfl) rfl ?_
      refine jr_isub (e_72 rfl) rfl ?_
      refine jr_callP (as := [xr 7 i0, xi v28, xi v29, xi (w32 (v30 - 1))]) (S1 := [xi (w32 (v2 + 5)), xr 34 i0]) (e_72 rfl) rfl rfl rfl rfl rfl rfl (jm_Way_placeAt i0 v28 v29 (w32 (v30 - 1)) s27) rfl (fun v31 => ?_)
      refine jr_callV (as := [xr 34 i0, xi (w32 (v2 + 5)), xi v31]) (S1 := []) (e_72 rfl) rfl rfl rfl rfl rfl rfl (jm_S_write 34 i0 (w32 (v2 + 5)) v31 s27 rfl rfl) rfl (fun s32 => ?_)
      refine jr_iinc (L2 := fun c => [(4, xi c), (5, xi v2), (0, xr 7 i0)]) (e_72 rfl) rfl rfl rfl (fun _ => rfl) (fun v33 => ?_)
      refine jr_goto (pc' := 18) (e_72 rfl) rfl ?_
      exact jr_sub (show ([4, 5, 0] : List Nat).Nodup from by decide) (xsb_c (List.Mem.tail _ (List.Mem.tail _ (List.Mem.head _))) (xsb_c (List.Mem.head _) xsb_n)) (ih18 v33 s32)
noncomputable def fm_Way_measure (i0 : Nat) (a1 : Int) (a2 : Int) (a3 : Int) (σ : xa_H) : Option (xa_H) :=
  xnm (xup σ 7 i0 0 a1) fun s1 =>
  xnm (xup s1 7 i0 1 a2) fun s2 =>
  xnm (xup s2 7 i0 2 a3) fun s3 =>
  fm_Way_measure_18 i0 (fun (s34 : xa_H) =>
    some s34) xFU 0 s3
theorem jm_Way_measure (i0 : Nat) (a1 : Int) (a2 : Int) (a3 : Int) (σ : xa_H) : J 72 0 [(0, xr 7 i0), (1, xi a1), (2, xi a2), (3, xi a3)] [] σ jqV (fm_Way_measure i0 a1 a2 a3 σ) := by
  unfold fm_Way_measure
  refine jr_aload_n (e_72 rfl) rfl rfl ?_
  refine jr_iload_n (e_72 rfl) rfl rfl ?_
  refine jr_put (e_72 rfl) rfl rfl rfl ?_
  refine jr_nms (fun s1 => ?_)
  refine jr_aload_n (e_72 rfl) rfl rfl ?_
  refine jr_iload_n (e_72 rfl) rfl rfl ?_
  refine jr_put (e_72 rfl) rfl rfl rfl ?_
  refine jr_nms (fun s2 => ?_)
  refine jr_aload_n (e_72 rfl) rfl rfl ?_
  refine jr_iload_n (e_72 rfl) rfl rfl ?_
  refine jr_put (e_72 rfl) rfl rfl rfl ?_
  refine jr_nms (fun s3 => ?_)
  refine jr_iconst (e_72 rfl) rfl ?_
  refine jr_istore (L' := [(4, xi 0), (0, xr 7 i0), (1, xi a1), (2, xi a2), (3, xi a3)]) (e_72 rfl) rfl rfl rfl ?_
  refine jr_sub (show ([4, 0, 1, 2, 3] : List Nat).Nodup from by decide) (xsb_c (List.Mem.tail _ (List.Mem.head _)) (xsb_c (List.Mem.head _) xsb_n)) (jl_Way_measure_18 i0 σ _ (fun s34 => ?_) xFU 0 s3)
  exact jr_retV (e_72 rfl)

theorem e_71 {pc : Nat} {en : xa_I} (h : xlk pc xc_71 = some en) : xcd 71 pc = some en := h
noncomputable def fm_Way_copyFrom (i0 : Nat) (i1 : Nat) (σ : xa_H) : Option (xa_H) :=
  (fm_Way_measure i0 (σ 7 i1 0) (σ 7 i1 1) (σ 7 i1 2) σ).bind fun s1 =>
  (fm_S_copy 33 i1 33 i0 s1).bind fun s2 =>
  some s2
theorem jm_Way_copyFrom (i0 : Nat) (i1 : Nat) (σ : xa_H) : J 71 0 [(0, xr 7 i0), (1, xr 7 i1)] [] σ jqV (fm_Way_copyFrom i0 i1 σ) := by
  unfold fm_Way_copyFrom
  refine jr_aload_n (e_71 rfl) rfl rfl ?_
  refine jr_aload_n (e_71 rfl) rfl rfl ?_
  refine jr_geti (e_71 rfl) rfl (by decide +kernel) ?_
  refine jr_aload_n (e_71 rfl) rfl rfl ?_
  refine jr_geti (e_71 rfl) rfl (by decide +kernel) ?_
  refine jr_aload_n (e_71 rfl) rfl rfl ?_
  refine jr_geti (e_71 rfl) rfl (by decide +kernel) ?_
  refine jr_callV (as := [xr 7 i0, xi (σ 7 i1 0), xi (σ 7 i1 1), xi (σ 7 i1 2)]) (S1 := []) (e_71 rfl) rfl rfl rfl rfl rfl rfl (jm_Way_measure i0 (σ 7 i1 0) (σ 7 i1 1) (σ 7 i1 2) σ) rfl (fun s1 => ?_)
  refine jr_aload_n (e_71 rfl) rfl rfl ?_
  refine jr_getr (K2 := 33) (i2 := i1) (e_71 rfl) rfl rfl rfl ?_
  refine jr_aload_n (e_71 rfl) rfl rfl ?_
  refine jr_getr (K2 := 33) (i2 := i0) (e_71 rfl) rfl rfl rfl ?_
  refine jr_callV (as := [xr 33 i1, xr 33 i0]) (S1 := []) (e_71 rfl) rfl rfl rfl rfl rfl rfl (jm_S_copy 33 i1 33 i0 s1 rfl rfl rfl rfl) rfl (fun s2 => ?_)
  exact jr_retV (e_71 rfl)

theorem e_53 {pc : Nat} {en : xa_I} (h : xlk pc xc_53 = some en) : xcd 53 pc = some en := h
noncomputable def fm_Stair_copyFrom_35 (i0 : Nat) (i1 : Nat) (K : xa_H → Option (xa_H)) : Nat → Int → xa_H → Option (xa_H)
  | 0, _, _ => none
  | n + 1, x2, sh =>
    if 4 ≤ x2 then
      K sh
    else
      if x2 < 0 then
        if x2 < 0 then
          xnm (w32 (x2 + 1) : Int) fun v2 =>
          fm_Stair_copyFrom_35 i0 i1 K n v2 sh
        else
          if 4 ≤ x2 then
            xnm (w32 (x2 + 1) : Int) fun v3 =>
            fm_Stair_copyFrom_35 i0 i1 K n v3 sh
          else
            if 0 ≤ x2 ∧ x2 < 4 then
              xnm (w32 (x2 + 1) : Int) fun v4 =>
              fm_Stair_copyFrom_35 i0 i1 K n v4 sh
            else none
      else
        if 4 ≤ x2 then
          if x2 < 0 then
            xnm (w32 (x2 + 1) : Int) fun v5 =>
            fm_Stair_copyFrom_35 i0 i1 K n v5 sh
          else
            if 4 ≤ x2 then
              xnm (w32 (x2 + 1) : Int) fun v6 =>
              fm_Stair_copyFrom_35 i0 i1 K n v6 sh
            else
              if 0 ≤ x2 ∧ x2 < 4 then
                xnm (w32 (x2 + 1) : Int) fun v7 =>
                fm_Stair_copyFrom_35 i0 i1 K n v7 sh
              else none
        else
          if 0 ≤ x2 ∧ x2 < 4 then
            if x2 < 0 then
              xnm (w32 (x2 + 1) : Int) fun v8 =>
              fm_Stair_copyFrom_35 i0 i1 K n v8 sh
            else
              if 4 ≤ x2 then
                xnm (w32 (x2 + 1) : Int) fun v9 =>
                fm_Stair_copyFrom_35 i0 i1 K n v9 sh
              else
                if 0 ≤ x2 ∧ x2 < 4 then
                  (fm_Thing_copyFrom (4 * i0 + x2.toNat) (4 * i1 + x2.toNat) sh).bind fun s10 =>
                  xnm (w32 (x2 + 1) : Int) fun v11 =>
                  fm_Stair_copyFrom_35 i0 i1 K n v11 s10
                else none
          else none
theorem jl_Stair_copyFrom_35 (i0 : Nat) (i1 : Nat) (σ : xa_H)  (K : xa_H → Option (xa_H)) (hK35 : ∀ (sz : xa_H), J 53 74 [] [] sz jqV (K sz)) : ∀ (n : Nat) (x2 : Int) (sh : xa_H), J 53 35 [(0, xr 4 i0), (1, xr 4 i1), (2, xi x2)] [] sh jqV (fm_Stair_copyFrom_35 i0 i1 K n x2 sh) := by
  intro n
  induction n with
  | zero => intro x2 sh; exact jr_none
  | succ n ih35 =>
    intro x2 sh
    rw [fm_Stair_copyFrom_35]
    refine jr_iload_n (e_53 rfl) rfl rfl ?_
    refine jr_iconst (e_53 rfl) rfl ?_
    refine jr_bri (c := 4 ≤ x2) (pt := 74) (pn := 40) (e_53 rfl) rfl rfl (fun h1 => ?_) (fun h1 => ?_)
    · exact jr_sub (show ([0, 1, 2] : List Nat).Nodup from by decide) xsb_n (hK35 sh)
    · refine jr_aload_n (e_53 rfl) rfl rfl ?_
      refine jr_iload_n (e_53 rfl) rfl rfl ?_
      refine jr_inl (as := [xr 4 i0, xi x2]) (S1 := []) (L' := [(0, xr 4 i0), (1, xi x2)]) (e_53 rfl) rfl rfl rfl rfl rfl rfl rfl rfl ?_
      refine jr_iload_n (e_51 rfl) rfl rfl ?_
      refine jr_bri (c := x2 < 0) (pt := 22) (pn := 4) (e_51 rfl) rfl rfl (fun h1002 => ?_) (fun h1002 => ?_)
      · refine jr_null (e_51 rfl) rfl ?_
        refine jr_retC (e_51 rfl) ?_
        refine jr_astore_n (L' := [(3, xn), (0, xr 4 i0), (1, xr 4 i1), (2, xi x2)]) (e_53 rfl) rfl rfl rfl ?_
        refine jr_aload_n (e_53 rfl) rfl rfl ?_
        refine jr_iload_n (e_53 rfl) rfl rfl ?_
        refine jr_inl (as := [xr 4 i1, xi x2]) (S1 := []) (L' := [(0, xr 4 i1), (1, xi x2)]) (e_53 rfl) rfl rfl rfl rfl rfl rfl rfl rfl ?_
        refine jr_iload_n (e_51 rfl) rfl rfl ?_
        refine jr_bri (c := x2 < 0) (pt := 22) (pn := 4) (e_51 rfl) rfl rfl (fun h1002 => ?_) (fun h1002 => ?_)
        · refine jr_null (e_51 rfl) rfl ?_
          refine jr_retC (e_51 rfl) ?_
          refine jr_astore (L' := [(4, xn), (3, xn), (0, xr 4 i0), (1, xr 4 i1), (2, xi x2)]) (e_53 rfl) rfl rfl rfl ?_
          refine jr_aload_n (e_53 rfl) rfl rfl ?_
          refine jr_s (q := (68, [(4, xn), (3, xn), (0, xr 4 i0), (1, xr 4 i1), (2, xi x2)], [], sh)) (e_53 rfl) rfl rfl ?_
          refine jr_iinc (L2 := fun c => [(2, xi c), (4, xn), (3, xn), (0, xr 4 i0), (1, xr 4 i1)]) (e_53 rfl) rfl rfl rfl (fun _ => rfl) (fun v2 => ?_)
          refine jr_goto (pc' := 35) (e_53 rfl) rfl ?_
          exact jr_sub (show ([2, 4, 3, 0, 1] : List Nat).Nodup from by decide) (xsb_c (List.Mem.tail _ (List.Mem.tail _ (List.Mem.tail _ (List.Mem.head _)))) (xsb_c (List.Mem.tail _ (List.Mem.tail _ (List.Mem.tail _ (List.Mem.tail _ (List.Mem.head _))))) (xsb_c (List.Mem.head _) xsb_n))) (ih35 v2 sh)
        · refine jr_iload_n (e_51 rfl) rfl rfl ?_
          refine jr_aload_n (e_51 rfl) rfl rfl ?_
          refine jr_getr (K2 := 24) (i2 := i1) (e_51 rfl) rfl rfl rfl ?_
          refine jr_alen (a := 4) (e_51 rfl) rfl (by decide +kernel) rfl ?_
          refine jr_bri (c := 4 ≤ x2) (pt := 22) (pn := 13) (e_51 rfl) rfl rfl (fun h1003 => ?_) (fun h1003 => ?_)
          · refine jr_null (e_51 rfl) rfl ?_
            refine jr_retC (e_51 rfl) ?_
            refine jr_astore (L' := [(4, xn), (3, xn), (0, xr 4 i0), (1, xr 4 i1), (2, xi x2)]) (e_53 rfl) rfl rfl rfl ?_
            refine jr_aload_n (e_53 rfl) rfl rfl ?_
            refine jr_s (q := (68, [(4, xn), (3, xn), (0, xr 4 i0), (1, xr 4 i1), (2, xi x2)], [], sh)) (e_53 rfl) rfl rfl ?_
            refine jr_iinc (L2 := fun c => [(2, xi c), (4, xn), (3, xn), (0, xr 4 i0), (1, xr 4 i1)]) (e_53 rfl) rfl rfl rfl (fun _ => rfl) (fun v3 => ?_)
            refine jr_goto (pc' := 35) (e_53 rfl) rfl ?_
            exact jr_sub (show ([2, 4, 3, 0, 1] : List Nat).Nodup from by decide) (xsb_c (List.Mem.tail _ (List.Mem.tail _ (List.Mem.tail _ (List.Mem.head _)))) (xsb_c (List.Mem.tail _ (List.Mem.tail _ (List.Mem.tail _ (List.Mem.tail _ (List.Mem.head _))))) (xsb_c (List.Mem.head _) xsb_n))) (ih35 v3 sh)
          · refine jr_aload_n (e_51 rfl) rfl rfl ?_
            refine jr_getr (K2 := 24) (i2 := i1) (e_51 rfl) rfl rfl rfl ?_
            refine jr_iload_n (e_51 rfl) rfl rfl ?_
            refine jr_aald (n := 4) (K2 := 5) (i2 := (4 * i1 + x2.toNat)) (e_51 rfl) rfl (by decide +kernel) rfl rfl ?_
            refine jr_goto (pc' := 23) (e_51 rfl) rfl ?_
            refine jr_retC (e_51 rfl) ?_
            refine jr_astore (L' := [(4, xr 5 (4 * i1 + x2.toNat)), (3, xn), (0, xr 4 i0), (1, xr 4 i1), (2, xi x2)]) (e_53 rfl) rfl rfl rfl ?_
            refine jr_aload_n (e_53 rfl) rfl rfl ?_
            refine jr_s (q := (68, [(4, xr 5 (4 * i1 + x2.toNat)), (3, xn), (0, xr 4 i0), (1, xr 4 i1), (2, xi x2)], [], sh)) (e_53 rfl) rfl rfl ?_
            refine jr_iinc (L2 := fun c => [(2, xi c), (4, xr 5 (4 * i1 + x2.toNat)), (3, xn), (0, xr 4 i0), (1, xr 4 i1)]) (e_53 rfl) rfl rfl rfl (fun _ => rfl) (fun v4 => ?_)
            refine jr_goto (pc' := 35) (e_53 rfl) rfl ?_
            exact jr_sub (show ([2, 4, 3, 0, 1] : List Nat).Nodup from by decide) (xsb_c (List.Mem.tail _ (List.Mem.tail _ (List.Mem.tail _ (List.Mem.head _)))) (xsb_c (List.Mem.tail _ (List.Mem.tail _ (List.Mem.tail _ (List.Mem.tail _ (List.Mem.head _))))) (xsb_c (List.Mem.head _) xsb_n))) (ih35 v4 sh)
      · refine jr_iload_n (e_51 rfl) rfl rfl ?_
        refine jr_aload_n (e_51 rfl) rfl rfl ?_
        refine jr_getr (K2 := 24) (i2 := i0) (e_51 rfl) rfl rfl rfl ?_
        refine jr_alen (a := 4) (e_51 rfl) rfl (by decide +kernel) rfl ?_
        refine jr_bri (c := 4 ≤ x2) (pt := 22) (pn := 13) (e_51 rfl) rfl rfl (fun h1003 => ?_) (fun h1003 => ?_)
        · refine jr_null (e_51 rfl) rfl ?_
          refine jr_retC (e_51 rfl) ?_
          refine jr_astore_n (L' := [(3, xn), (0, xr 4 i0), (1, xr 4 i1), (2, xi x2)]) (e_53 rfl) rfl rfl rfl ?_
          refine jr_aload_n (e_53 rfl) rfl rfl ?_
          refine jr_iload_n (e_53 rfl) rfl rfl ?_
          refine jr_inl (as := [xr 4 i1, xi x2]) (S1 := []) (L' := [(0, xr 4 i1), (1, xi x2)]) (e_53 rfl) rfl rfl rfl rfl rfl rfl rfl rfl ?_
          refine jr_iload_n (e_51 rfl) rfl rfl ?_
          refine jr_bri (c := x2 < 0) (pt := 22) (pn := 4) (e_51 rfl) rfl rfl (fun h1005 => ?_) (fun h1005 => ?_)
          · refine jr_null (e_51 rfl) rfl ?_
            refine jr_retC (e_51 rfl) ?_
            refine jr_astore (L' := [(4, xn), (3, xn), (0, xr 4 i0), (1, xr 4 i1), (2, xi x2)]) (e_53 rfl) rfl rfl rfl ?_
            refine jr_aload_n (e_53 rfl) rfl rfl ?_
            refine jr_s (q := (68, [(4, xn), (3, xn), (0, xr 4 i0), (1, xr 4 i1), (2, xi x2)], [], sh)) (e_53 rfl) rfl rfl ?_
            refine jr_iinc (L2 := fun c => [(2, xi c), (4, xn), (3, xn), (0, xr 4 i0), (1, xr 4 i1)]) (e_53 rfl) rfl rfl rfl (fun _ => rfl) (fun v5 => ?_)
            refine jr_goto (pc' := 35) (e_53 rfl) rfl ?_
            exact jr_sub (show ([2, 4, 3, 0, 1] : List Nat).Nodup from by decide) (xsb_c (List.Mem.tail _ (List.Mem.tail _ (List.Mem.tail _ (List.Mem.head _)))) (xsb_c (List.Mem.tail _ (List.Mem.tail _ (List.Mem.tail _ (List.Mem.tail _ (List.Mem.head _))))) (xsb_c (List.Mem.head _) xsb_n))) (ih35 v5 sh)
          · refine jr_iload_n (e_51 rfl) rfl rfl ?_
            refine jr_aload_n (e_51 rfl) rfl rfl ?_
            refine jr_getr (K2 := 24) (i2 := i1) (e_51 rfl) rfl rfl rfl ?_
            refine jr_alen (a := 4) (e_51 rfl) rfl (by decide +kernel) rfl ?_
            refine jr_bri (c := 4 ≤ x2) (pt := 22) (pn := 13) (e_51 rfl) rfl rfl (fun h1006 => ?_) (fun h1006 => ?_)
            · refine jr_null (e_51 rfl) rfl ?_
              refine jr_retC (e_51 rfl) ?_
              refine jr_astore (L' := [(4, xn), (3, xn), (0, xr 4 i0), (1, xr 4 i1), (2, xi x2)]) (e_53 rfl) rfl rfl rfl ?_
              refine jr_aload_n (e_53 rfl) rfl rfl ?_
              refine jr_s (q := (68, [(4, xn), (3, xn), (0, xr 4 i0), (1, xr 4 i1), (2, xi x2)], [], sh)) (e_53 rfl) rfl rfl ?_
              refine jr_iinc (L2 := fun c => [(2, xi c), (4, xn), (3, xn), (0, xr 4 i0), (1, xr 4 i1)]) (e_53 rfl) rfl rfl rfl (fun _ => rfl) (fun v6 => ?_)
              refine jr_goto (pc' := 35) (e_53 rfl) rfl ?_
              exact jr_sub (show ([2, 4, 3, 0, 1] : List Nat).Nodup from by decide) (xsb_c (List.Mem.tail _ (List.Mem.tail _ (List.Mem.tail _ (List.Mem.head _)))) (xsb_c (List.Mem.tail _ (List.Mem.tail _ (List.Mem.tail _ (List.Mem.tail _ (List.Mem.head _))))) (xsb_c (List.Mem.head _) xsb_n))) (ih35 v6 sh)
            · refine jr_aload_n (e_51 rfl) rfl rfl ?_
              refine jr_getr (K2 := 24) (i2 := i1) (e_51 rfl) rfl rfl rfl ?_
              refine jr_iload_n (e_51 rfl) rfl rfl ?_
              refine jr_aald (n := 4) (K2 := 5) (i2 := (4 * i1 + x2.toNat)) (e_51 rfl) rfl (by decide +kernel) rfl rfl ?_
              refine jr_goto (pc' := 23) (e_51 rfl) rfl ?_
              refine jr_retC (e_51 rfl) ?_
              refine jr_astore (L' := [(4, xr 5 (4 * i1 + x2.toNat)), (3, xn), (0, xr 4 i0), (1, xr 4 i1), (2, xi x2)]) (e_53 rfl) rfl rfl rfl ?_
              refine jr_aload_n (e_53 rfl) rfl rfl ?_
              refine jr_s (q := (68, [(4, xr 5 (4 * i1 + x2.toNat)), (3, xn), (0, xr 4 i0), (1, xr 4 i1), (2, xi x2)], [], sh)) (e_53 rfl) rfl rfl ?_
              refine jr_iinc (L2 := fun c => [(2, xi c), (4, xr 5 (4 * i1 + x2.toNat)), (3, xn), (0, xr 4 i0), (1, xr 4 i1)]) (e_53 rfl) rfl rfl rfl (fun _ => rfl) (fun v7 => ?_)
              refine jr_goto (pc' := 35) (e_53 rfl) rfl ?_
              exact jr_sub (show ([2, 4, 3, 0, 1] : List Nat).Nodup from by decide) (xsb_c (List.Mem.tail _ (List.Mem.tail _ (List.Mem.tail _ (List.Mem.head _)))) (xsb_c (List.Mem.tail _ (List.Mem.tail _ (List.Mem.tail _ (List.Mem.tail _ (List.Mem.head _))))) (xsb_c (List.Mem.head _) xsb_n))) (ih35 v7 sh)
        · refine jr_aload_n (e_51 rfl) rfl rfl ?_
          refine jr_getr (K2 := 24) (i2 := i0) (e_51 rfl) rfl rfl rfl ?_
          refine jr_iload_n (e_51 rfl) rfl rfl ?_
          refine jr_aald (n := 4) (K2 := 5) (i2 := (4 * i0 + x2.toNat)) (e_51 rfl) rfl (by decide +kernel) rfl rfl ?_
          refine jr_goto (pc' := 23) (e_51 rfl) rfl ?_
          refine jr_retC (e_51 rfl) ?_
          refine jr_astore_n (L' := [(3, xr 5 (4 * i0 + x2.toNat)), (0, xr 4 i0), (1, xr 4 i1), (2, xi x2)]) (e_53 rfl) rfl rfl rfl ?_
          refine jr_aload_n (e_53 rfl) rfl rfl ?_
          refine jr_iload_n (e_53 rfl) rfl rfl ?_
          refine jr_inl (as := [xr 4 i1, xi x2]) (S1 := []) (L' := [(0, xr 4 i1), (1, xi x2)]) (e_53 rfl) rfl rfl rfl rfl rfl rfl rfl rfl ?_
          refine jr_iload_n (e_51 rfl) rfl rfl ?_
          refine jr_bri (c := x2 < 0) (pt := 22) (pn := 4) (e_51 rfl) rfl rfl (fun h1008 => ?_) (fun h1008 => ?_)
          · refine jr_null (e_51 rfl) rfl ?_
            refine jr_retC (e_51 rfl) ?_
            refine jr_astore (L' := [(4, xn), (3, xr 5 (4 * i0 + x2.toNat)), (0, xr 4 i0), (1, xr 4 i1), (2, xi x2)]) (e_53 rfl) rfl rfl rfl ?_
            refine jr_aload_n (e_53 rfl) rfl rfl ?_
            refine jr_s (q := (57, [(4, xn), (3, xr 5 (4 * i0 + x2.toNat)), (0, xr 4 i0), (1, xr 4 i1), (2, xi x2)], [], sh)) (e_53 rfl) rfl rfl ?_
            refine jr_aload (e_53 rfl) rfl rfl ?_
            refine jr_s (q := (68, [(4, xn), (3, xr 5 (4 * i0 + x2.toNat)), (0, xr 4 i0), (1, xr 4 i1), (2, xi x2)], [], sh)) (e_53 rfl) rfl rfl ?_
            refine jr_iinc (L2 := fun c => [(2, xi c), (4, xn), (3, xr 5 (4 * i0 + x2.toNat)), (0, xr 4 i0), (1, xr 4 i1)]) (e_53 rfl) rfl rfl rfl (fun _ => rfl) (fun v8 => ?_)
            refine jr_goto (pc' := 35) (e_53 rfl) rfl ?_
            exact jr_sub (show ([2, 4, 3, 0, 1] : List Nat).Nodup from by decide) (xsb_c (List.Mem.tail _ (List.Mem.tail _ (List.Mem.tail _ (List.Mem.head _)))) (xsb_c (List.Mem.tail _ (List.Mem.tail _ (List.Mem.tail _ (List.Mem.tail _ (List.Mem.head _))))) (xsb_c (List.Mem.head _) xsb_n))) (ih35 v8 sh)
          · refine jr_iload_n (e_51 rfl) rfl rfl ?_
            refine jr_aload_n (e_51 rfl) rfl rfl ?_
            refine jr_getr (K2 := 24) (i2 := i1) (e_51 rfl) rfl rfl rfl ?_
            refine jr_alen (a := 4) (e_51 rfl) rfl (by decide +kernel) rfl ?_
            refine jr_bri (c := 4 ≤ x2) (pt := 22) (pn := 13) (e_51 rfl) rfl rfl (fun h1009 => ?_) (fun h1009 => ?_)
            · refine jr_null (e_51 rfl) rfl ?_
              refine jr_retC (e_51 rfl) ?_
              refine jr_astore (L' := [(4, xn), (3, xr 5 (4 * i0 + x2.toNat)), (0, xr 4 i0), (1, xr 4 i1), (2, xi x2)]) (e_53 rfl) rfl rfl rfl ?_
              refine jr_aload_n (e_53 rfl) rfl rfl ?_
              refine jr_s (q := (57, [(4, xn), (3, xr 5 (4 * i0 + x2.toNat)), (0, xr 4 i0), (1, xr 4 i1), (2, xi x2)], [], sh)) (e_53 rfl) rfl rfl ?_
              refine jr_aload (e_53 rfl) rfl rfl ?_
              refine jr_s (q := (68, [(4, xn), (3, xr 5 (4 * i0 + x2.toNat)), (0, xr 4 i0), (1, xr 4 i1), (2, xi x2)], [], sh)) (e_53 rfl) rfl rfl ?_
              refine jr_iinc (L2 := fun c => [(2, xi c), (4, xn), (3, xr 5 (4 * i0 + x2.toNat)), (0, xr 4 i0), (1, xr 4 i1)]) (e_53 rfl) rfl rfl rfl (fun _ => rfl) (fun v9 => ?_)
              refine jr_goto (pc' := 35) (e_53 rfl) rfl ?_
              exact jr_sub (show ([2, 4, 3, 0, 1] : List Nat).Nodup from by decide) (xsb_c (List.Mem.tail _ (List.Mem.tail _ (List.Mem.tail _ (List.Mem.head _)))) (xsb_c (List.Mem.tail _ (List.Mem.tail _ (List.Mem.tail _ (List.Mem.tail _ (List.Mem.head _))))) (xsb_c (List.Mem.head _) xsb_n))) (ih35 v9 sh)
            · refine jr_aload_n (e_51 rfl) rfl rfl ?_
              refine jr_getr (K2 := 24) (i2 := i1) (e_51 rfl) rfl rfl rfl ?_
              refine jr_iload_n (e_51 rfl) rfl rfl ?_
              refine jr_aald (n := 4) (K2 := 5) (i2 := (4 * i1 + x2.toNat)) (e_51 rfl) rfl (by decide +kernel) rfl rfl ?_
              refine jr_goto (pc' := 23) (e_51 rfl) rfl ?_
              refine jr_retC (e_51 rfl) ?_
              refine jr_astore (L' := [(4, xr 5 (4 * i1 + x2.toNat)), (3, xr 5 (4 * i0 + x2.toNat)), (0, xr 4 i0), (1, xr 4 i1), (2, xi x2)]) (e_53 rfl) rfl rfl rfl ?_
              refine jr_aload_n (e_53 rfl) rfl rfl ?_
              refine jr_s (q := (57, [(4, xr 5 (4 * i1 + x2.toNat)), (3, xr 5 (4 * i0 + x2.toNat)), (0, xr 4 i0), (1, xr 4 i1), (2, xi x2)], [], sh)) (e_53 rfl) rfl rfl ?_
              refine jr_aload (e_53 rfl) rfl rfl ?_
              refine jr_s (q := (62, [(4, xr 5 (4 * i1 + x2.toNat)), (3, xr 5 (4 * i0 + x2.toNat)), (0, xr 4 i0), (1, xr 4 i1), (2, xi x2)], [], sh)) (e_53 rfl) rfl rfl ?_
              refine jr_aload_n (e_53 rfl) rfl rfl ?_
              refine jr_aload (e_53 rfl) rfl rfl ?_
              refine jr_callV (as := [xr 5 (4 * i0 + x2.toNat), xr 5 (4 * i1 + x2.toNat)]) (S1 := []) (e_53 rfl) rfl rfl rfl rfl rfl rfl (jm_Thing_copyFrom (4 * i0 + x2.toNat) (4 * i1 + x2.toNat) sh) rfl (fun s10 => ?_)
              refine jr_iinc (L2 := fun c => [(2, xi c), (4, xr 5 (4 * i1 + x2.toNat)), (3, xr 5 (4 * i0 + x2.toNat)), (0, xr 4 i0), (1, xr 4 i1)]) (e_53 rfl) rfl rfl rfl (fun _ => rfl) (fun v11 => ?_)
              refine jr_goto (pc' := 35) (e_53 rfl) rfl ?_
              exact jr_sub (show ([2, 4, 3, 0, 1] : List Nat).Nodup from by decide) (xsb_c (List.Mem.tail _ (List.Mem.tail _ (List.Mem.tail _ (List.Mem.head _)))) (xsb_c (List.Mem.tail _ (List.Mem.tail _ (List.Mem.tail _ (List.Mem.tail _ (List.Mem.head _))))) (xsb_c (List.Mem.head _) xsb_n))) (ih35 v11 s10)
noncomputable def fm_Stair_copyFrom (i0 : Nat) (i1 : Nat) (σ : xa_H) : Option (xa_H) :=
  (fm_Way_copyFrom i0 i1 σ).bind fun s1 =>
  (fm_S_copy 25 i1 25 i0 s1).bind fun s2 =>
  (fm_S_copy 26 i1 26 i0 s2).bind fun s3 =>
  fm_Stair_copyFrom_35 i0 i1 (fun (s12 : xa_H) =>
    some s12) xFU 0 s3
theorem jm_Stair_copyFrom (i0 : Nat) (i1 : Nat) (σ : xa_H) : J 53 0 [(0, xr 4 i0), (1, xr 4 i1)] [] σ jqV (fm_Stair_copyFrom i0 i1 σ) := by
  unfold fm_Stair_copyFrom
  refine jr_aload_n (e_53 rfl) rfl rfl ?_
  refine jr_getr (K2 := 7) (i2 := i0) (e_53 rfl) rfl rfl rfl ?_
  refine jr_aload_n (e_53 rfl) rfl rfl ?_
  refine jr_getr (K2 := 7) (i2 := i1) (e_53 rfl) rfl rfl rfl ?_
  refine jr_callV (as := [xr 7 i0, xr 7 i1]) (S1 := []) (e_53 rfl) rfl rfl rfl rfl rfl rfl (jm_Way_copyFrom i0 i1 σ) rfl (fun s1 => ?_)
  refine jr_aload_n (e_53 rfl) rfl rfl ?_
  refine jr_getr (K2 := 25) (i2 := i1) (e_53 rfl) rfl rfl rfl ?_
  refine jr_aload_n (e_53 rfl) rfl rfl ?_
  refine jr_getr (K2 := 25) (i2 := i0) (e_53 rfl) rfl rfl rfl ?_
  refine jr_callV (as := [xr 25 i1, xr 25 i0]) (S1 := []) (e_53 rfl) rfl rfl rfl rfl rfl rfl (jm_S_copy 25 i1 25 i0 s1 rfl rfl rfl rfl) rfl (fun s2 => ?_)
  refine jr_aload_n (e_53 rfl) rfl rfl ?_
  refine jr_getr (K2 := 26) (i2 := i1) (e_53 rfl) rfl rfl rfl ?_
  refine jr_aload_n (e_53 rfl) rfl rfl ?_
  refine jr_getr (K2 := 26) (i2 := i0) (e_53 rfl) rfl rfl rfl ?_
  refine jr_callV (as := [xr 26 i1, xr 26 i0]) (S1 := []) (e_53 rfl) rfl rfl rfl rfl rfl rfl (jm_S_copy 26 i1 26 i0 s2 rfl rfl rfl rfl) rfl (fun s3 => ?_)
  refine jr_iconst (e_53 rfl) rfl ?_
  refine jr_istore_n (L' := [(2, xi 0), (0, xr 4 i0), (1, xr 4 i1)]) (e_53 rfl) rfl rfl rfl ?_
  refine jr_sub (show ([2, 0, 1] : List Nat).Nodup from by decide) (xsb_c (List.Mem.tail _ (List.Mem.head _)) (xsb_c (List.Mem.tail _ (List.Mem.tail _ (List.Mem.head _))) (xsb_c (List.Mem.head _) xsb_n))) (jl_Stair_copyFrom_35 i0 i1 σ _ (fun s12 => ?_) xFU 0 s3)
  exact jr_retV (e_53 rfl)

theorem e_57 {pc : Nat} {en : xa_I} (h : xlk pc xc_57 = some en) : xcd 57 pc = some en := h
noncomputable def fm_Thing_put (i0 : Nat) (a1 : Int) (a2 : Int) (a3 : Int) (a4 : Int) (σ : xa_H) : Option (xa_H) :=
  (fm_S_write 27 i0 (w32 (a1 * 3)) a2 σ).bind fun s1 =>
  (fm_S_write 27 i0 (w32 ((w32 (a1 * 3)) + 1)) a3 s1).bind fun s2 =>
  (fm_S_write 27 i0 (w32 ((w32 (a1 * 3)) + 2)) a4 s2).bind fun s3 =>
  xnm (xup s3 29 i0 ((0 : Int).toNat) (if (s3 29 i0 ((0 : Int).toNat)) < a2 then a2 else (s3 29 i0 ((0 : Int).toNat)))) fun s4 =>
  xnm (xup s4 29 i0 ((1 : Int).toNat) (if (s4 29 i0 ((1 : Int).toNat)) < a3 then a3 else (s4 29 i0 ((1 : Int).toNat)))) fun s5 =>
  xnm (xup s5 29 i0 ((2 : Int).toNat) (if (s5 29 i0 ((2 : Int).toNat)) < a4 then a4 else (s5 29 i0 ((2 : Int).toNat)))) fun s6 =>
  some s6
theorem jm_Thing_put (i0 : Nat) (a1 : Int) (a2 : Int) (a3 : Int) (a4 : Int) (σ : xa_H) : J 57 0 [(0, xr 5 i0), (1, xi a1), (2, xi a2), (3, xi a3), (4, xi a4)] [] σ jqV (fm_Thing_put i0 a1 a2 a3 a4 σ) := by
  unfold fm_Thing_put
  refine jr_aload_n (e_57 rfl) rfl rfl ?_
  refine jr_getr (K2 := 27) (i2 := i0) (e_57 rfl) rfl rfl rfl ?_
  refine jr_iload_n (e_57 rfl) rfl rfl ?_
  refine jr_iconst (e_57 rfl) rfl ?_
  refine jr_imul (e_57 rfl) rfl ?_
  refine jr_iload_n (e_57 rfl) rfl rfl ?_
  refine jr_callV (as := [xr 27 i0, xi (w32 (a1 * 3)), xi a2]) (S1 := []) (e_57 rfl) rfl rfl rfl rfl rfl rfl (jm_S_write 27 i0 (w32 (a1 * 3)) a2 σ rfl rfl) rfl (fun s1 => ?_)
  refine jr_aload_n (e_57 rfl) rfl rfl ?_
  refine jr_getr (K2 := 27) (i2 := i0) (e_57 rfl) rfl rfl rfl ?_
  refine jr_iload_n (e_57 rfl) rfl rfl ?_
  refine jr_iconst (e_57 rfl) rfl ?_
  refine jr_imul (e_57 rfl) rfl ?_
  refine jr_iconst (e_57 rfl) rfl ?_
  refine jr_iadd (e_57 rfl) rfl ?_
  refine jr_iload_n (e_57 rfl) rfl rfl ?_
  refine jr_callV (as := [xr 27 i0, xi (w32 ((w32 (a1 * 3)) + 1)), xi a3]) (S1 := []) (e_57 rfl) rfl rfl rfl rfl rfl rfl (jm_S_write 27 i0 (w32 ((w32 (a1 * 3)) + 1)) a3 s1 rfl rfl) rfl (fun s2 => ?_)
  refine jr_aload_n (e_57 rfl) rfl rfl ?_
  refine jr_getr (K2 := 27) (i2 := i0) (e_57 rfl) rfl rfl rfl ?_
  refine jr_iload_n (e_57 rfl) rfl rfl ?_
  refine jr_iconst (e_57 rfl) rfl ?_
  refine jr_imul (e_57 rfl) rfl ?_
  refine jr_iconst (e_57 rfl) rfl ?_
  refine jr_iadd (e_57 rfl) rfl ?_
  refine jr_iload (e_57 rfl) rfl rfl ?_
  refine jr_callV (as := [xr 27 i0, xi (w32 ((w32 (a1 * 3)) + 2)), xi a4]) (S1 := []) (e_57 rfl) rfl rfl rfl rfl rfl rfl (jm_S_write 27 i0 (w32 ((w32 (a1 * 3)) + 2)) a4 s2 rfl rfl) rfl (fun s3 => ?_)
  refine jr_aload_n (e_57 rfl) rfl rfl ?_
  refine jr_getr (K2 := 29) (i2 := i0) (e_57 rfl) rfl rfl rfl ?_
  refine jr_iconst (e_57 rfl) rfl ?_
  refine jr_aload_n (e_57 rfl) rfl rfl ?_
  refine jr_getr (K2 := 29) (i2 := i0) (e_57 rfl) rfl rfl rfl ?_
  refine jr_iconst (e_57 rfl) rfl ?_
  refine jr_ald' (n := 3) (e_57 rfl) rfl rfl rfl (by decide) ?_
  refine jr_iload_n (e_57 rfl) rfl rfl ?_
  refine jr_prim (as := [xi (s3 29 i0 ((0 : Int).toNat)), xi a2]) (S1 := [xi 0, xr 29 i0]) (v := xi (if (s3 29 i0 ((0 : Int).toNat)) < a2 then a2 else (s3 29 i0 ((0 : Int).toNat)))) (e_57 rfl) rfl rfl rfl rfl rfl rfl rfl ?_
  refine jr_ast' (n := 3) (e_57 rfl) rfl rfl rfl rfl (by decide) ?_
  refine jr_nms (fun s4 => ?_)
  refine jr_aload_n (e_57 rfl) rfl rfl ?_
  refine jr_getr (K2 := 29) (i2 := i0) (e_57 rfl) rfl rfl rfl ?_
  refine jr_iconst (e_57 rfl) rfl ?_
  refine jr_aload_n (e_57 rfl) rfl rfl ?_
  refine jr_getr (K2 := 29) (i2 := i0) (e_57 rfl) rfl rfl rfl ?_
  refine jr_iconst (e_57 rfl) rfl ?_
  refine jr_ald' (n := 3) (e_57 rfl) rfl rfl rfl (by decide) ?_
  refine jr_iload_n (e_57 rfl) rfl rfl ?_
  refine jr_prim (as := [xi (s4 29 i0 ((1 : Int).toNat)), xi a3]) (S1 := [xi 1, xr 29 i0]) (v := xi (if (s4 29 i0 ((1 : Int).toNat)) < a3 then a3 else (s4 29 i0 ((1 : Int).toNat)))) (e_57 rfl) rfl rfl rfl rfl rfl rfl rfl ?_
  refine jr_ast' (n := 3) (e_57 rfl) rfl rfl rfl rfl (by decide) ?_
  refine jr_nms (fun s5 => ?_)
  refine jr_aload_n (e_57 rfl) rfl rfl ?_
  refine jr_getr (K2 := 29) (i2 := i0) (e_57 rfl) rfl rfl rfl ?_
  refine jr_iconst (e_57 rfl) rfl ?_
  refine jr_aload_n (e_57 rfl) rfl rfl ?_
  refine jr_getr (K2 := 29) (i2 := i0) (e_57 rfl) rfl rfl rfl ?_
  refine jr_iconst (e_57 rfl) rfl ?_
  refine jr_ald' (n := 3) (e_57 rfl) rfl rfl rfl (by decide) ?_
  refine jr_iload (e_57 rfl) rfl rfl ?_
  refine jr_prim (as := [xi (s5 29 i0 ((2 : Int).toNat)), xi a4]) (S1 := [xi 2, xr 29 i0]) (v := xi (if (s5 29 i0 ((2 : Int).toNat)) < a4 then a4 else (s5 29 i0 ((2 : Int).toNat)))) (e_57 rfl) rfl rfl rfl rfl rfl rfl rfl ?_
  refine jr_ast' (n := 3) (e_57 rfl) rfl rfl rfl rfl (by decide) ?_
  refine jr_nms (fun s6 => ?_)
  exact jr_retV (e_57 rfl)

theorem e_55 {pc : Nat} {en : xa_I} (h : xlk pc xc_55 = some en) : xcd 55 pc = some en := h
noncomputable def fm_Thing_tell_31 (i0 : Nat) (K : xa_H → Option (xa_H)) : Nat → Int → xa_H → Option (xa_H)
  | 0, _, _ => none
  | n + 1, x2, sh =>
    if (sh 5 i0 0) ≤ x2 then
      K sh
    else
      xnm ((w32 (x2 * 4)) : Int) fun v2 =>
      (fm_Pad_digitAt v2 sh).bind fun v3 =>
      (fm_Pad_digitAt (w32 (v2 + 1)) sh).bind fun v4 =>
      (fm_Pad_digitAt (w32 (v2 + 2)) sh).bind fun v5 =>
      (fm_Thing_put i0 x2 v3 v4 v5 sh).bind fun s6 =>
      (fm_Pad_groupAt (w32 (v2 + 3)) s6).bind fun v7 =>
      (fm_S_write 28 i0 x2 v7 s6).bind fun s8 =>
      xnm (w32 (x2 + 1) : Int) fun v9 =>
      fm_Thing_tell_31 i0 K n v9 s8
theorem jl_Thing_tell_31 (i0 : Nat) (σ : xa_H)  (K : xa_H → Option (xa_H)) (hK31 : ∀ (sz : xa_H), J 55 88 [] [] sz jqV (K sz)) : ∀ (n : Nat) (x2 : Int) (sh : xa_H), J 55 31 [(0, xr 5 i0), (1, xr 2 0), (2, xi x2)] [] sh jqV (fm_Thing_tell_31 i0 K n x2 sh) := by
  intro n
  induction n with
  | zero => intro x2 sh; exact jr_none
  | succ n ih31 =>
    intro x2 sh
    rw [fm_Thing_tell_31]
    refine jr_iload_n (e_55 rfl) rfl rfl ?_
    refine jr_aload_n (e_55 rfl) rfl rfl ?_
    refine jr_geti (e_55 rfl) rfl (by decide +kernel) ?_
    refine jr_bri (c := (sh 5 i0 0) ≤ x2) (pt := 88) (pn := 39) (e_55 rfl) rfl rfl (fun h1 => ?_) (fun h1 => ?_)
    · exact jr_sub (show ([0, 1, 2] : List Nat).Nodup from by decide) xsb_n (hK31 sh)
    · refine jr_iload_n (e_55 rfl) rfl rfl ?_
      refine jr_iconst (e_55 rfl) rfl ?_
      refine jr_imul (e_55 rfl) rfl ?_
      refine jr_nm (fun v2 => ?_)
      refine jr_istore_n (L' := [(3, xi v2), (0, xr 5 i0), (1, xr 2 0), (2, xi x2)]) (e_55 rfl) rfl rfl rfl ?_
      refine jr_aload_n (e_55 rfl) rfl rfl ?_
      refine jr_iload_n (e_55 rfl) rfl rfl ?_
      refine jr_aload_n (e_55 rfl) rfl rfl ?_
      refine jr_iload_n (e_55 rfl) rfl rfl ?_
      refine jr_callP (as := [xr 2 0, xi v2]) (S1 := [xi x2, xr 5 i0]) (e_55 rfl) rfl rfl rfl rfl rfl rfl (jm_Pad_digitAt v2 sh) rfl (fun v3 => ?_)
      refine jr_aload_n (e_55 rfl) rfl rfl ?_
      refine jr_iload_n (e_55 rfl) rfl rfl ?_
      refine jr_iconst (e_55 rfl) rfl ?_
      refine jr_iadd (e_55 rfl) rfl ?_
      refine jr_callP (as := [xr 2 0, xi (w32 (v2 + 1))]) (S1 := [xi v3, xi x2, xr 5 i0]) (e_55 rfl) rfl rfl rfl rfl rfl rfl (jm_Pad_digitAt (w32 (v2 + 1)) sh) rfl (fun v4 => ?_)
      refine jr_aload_n (e_55 rfl) rfl rfl ?_
      refine jr_iload_n (e_55 rfl) rfl rfl ?_
      refine jr_iconst (e_55 rfl) rfl ?_
      refine jr_iadd (e_55 rfl) rfl ?_
      refine jr_callP (as := [xr 2 0, xi (w32 (v2 + 2))]) (S1 := [xi v4, xi v3, xi x2, xr 5 i0]) (e_55 rfl) rfl rfl rfl rfl rfl rfl (jm_Pad_digitAt (w32 (v2 + 2)) sh) rfl (fun v5 => ?_)
      refine jr_callV (as := [xr 5 i0, xi x2, xi v3, xi v4, xi v5]) (S1 := []) (e_55 rfl) rfl rfl rfl rfl rfl rfl (jm_Thing_put i0 x2 v3 v4 v5 sh) rfl (fun s6 => ?_)
      refine jr_aload_n (e_55 rfl) rfl rfl ?_
      refine jr_getr (K2 := 28) (i2 := i0) (e_55 rfl) rfl rfl rfl ?_
      refine jr_iload_n (e_55 rfl) rfl rfl ?_
      refine jr_aload_n (e_55 rfl) rfl rfl ?_
      refine jr_iload_n (e_55 rfl) rfl rfl ?_
      refine jr_iconst (e_55 rfl) rfl ?_
      refine jr_iadd (e_55 rfl) rfl ?_
      refine jr_callP (as := [xr 2 0, xi (w32 (v2 + 3))]) (S1 := [xi x2, xr 28 i0]) (e_55 rfl) rfl rfl rfl rfl rfl rfl (jm_Pad_groupAt (w32 (v2 + 3)) s6) rfl (fun v7 => ?_)
      refine jr_callV (as := [xr 28 i0, xi x2, xi v7]) (S1 := []) (e_55 rfl) rfl rfl rfl rfl rfl rfl (jm_S_write 28 i0 x2 v7 s6 rfl rfl) rfl (fun s8 => ?_)
      refine jr_iinc (L2 := fun c => [(2, xi c), (3, xi v2), (0, xr 5 i0), (1, xr 2 0)]) (e_55 rfl) rfl rfl rfl (fun _ => rfl) (fun v9 => ?_)
      refine jr_goto (pc' := 31) (e_55 rfl) rfl ?_
      exact jr_sub (show ([2, 3, 0, 1] : List Nat).Nodup from by decide) (xsb_c (List.Mem.tail _ (List.Mem.tail _ (List.Mem.head _))) (xsb_c (List.Mem.tail _ (List.Mem.tail _ (List.Mem.tail _ (List.Mem.head _)))) (xsb_c (List.Mem.head _) xsb_n))) (ih31 v9 s8)
noncomputable def fm_Thing_tell (i0 : Nat) (σ : xa_H) : Option (xa_H) :=
  xnm (xup σ 5 i0 0 (if 10 < (xdiv (σ 2 0 1) 4) then 10 else (xdiv (σ 2 0 1) 4))) fun s1 =>
  xnm (xup s1 5 i0 1 (-6)) fun s2 =>
  (fm_Arrays_fill 29 i0 0 s2).bind fun s3 =>
  fm_Thing_tell_31 i0 (fun (s10 : xa_H) =>
    some s10) xFU 0 s3
theorem jm_Thing_tell (i0 : Nat) (σ : xa_H) : J 55 0 [(0, xr 5 i0), (1, xr 2 0)] [] σ jqV (fm_Thing_tell i0 σ) := by
  unfold fm_Thing_tell
  refine jr_aload_n (e_55 rfl) rfl rfl ?_
  refine jr_aload_n (e_55 rfl) rfl rfl ?_
  refine jr_geti (e_55 rfl) rfl (by decide +kernel) ?_
  refine jr_iconst (e_55 rfl) rfl ?_
  refine jr_idiv (e_55 rfl) rfl (by decide) ?_
  refine jr_bipush (e_55 rfl) rfl ?_
  refine jr_prim (as := [xi (xdiv (σ 2 0 1) 4), xi 10]) (S1 := [xr 5 i0]) (v := xi (if 10 < (xdiv (σ 2 0 1) 4) then 10 else (xdiv (σ 2 0 1) 4))) (e_55 rfl) rfl rfl rfl rfl rfl rfl rfl ?_
  refine jr_put (e_55 rfl) rfl rfl rfl ?_
  refine jr_nms (fun s1 => ?_)
  refine jr_aload_n (e_55 rfl) rfl rfl ?_
  refine jr_bipush (e_55 rfl) rfl ?_
  refine jr_put (e_55 rfl) rfl rfl rfl ?_
  refine jr_nms (fun s2 => ?_)
  refine jr_aload_n (e_55 rfl) rfl rfl ?_
  refine jr_getr (K2 := 29) (i2 := i0) (e_55 rfl) rfl rfl rfl ?_
  refine jr_iconst (e_55 rfl) rfl ?_
  refine jr_callV (as := [xr 29 i0, xi 0]) (S1 := []) (e_55 rfl) rfl rfl rfl rfl rfl rfl (jm_Arrays_fill 29 i0 0 s2 rfl rfl) rfl (fun s3 => ?_)
  refine jr_iconst (e_55 rfl) rfl ?_
  refine jr_istore_n (L' := [(2, xi 0), (0, xr 5 i0), (1, xr 2 0)]) (e_55 rfl) rfl rfl rfl ?_
  refine jr_sub (show ([2, 0, 1] : List Nat).Nodup from by decide) (xsb_c (List.Mem.tail _ (List.Mem.head _)) (xsb_c (List.Mem.tail _ (List.Mem.tail _ (List.Mem.head _))) (xsb_c (List.Mem.head _) xsb_n))) (jl_Thing_tell_31 i0 σ _ (fun s10 => ?_) xFU 0 s3)
  exact jr_retV (e_55 rfl)

theorem e_56 {pc : Nat} {en : xa_I} (h : xlk pc xc_56 = some en) : xcd 56 pc = some en := h
noncomputable def fm_Thing_becomeBar_20 (i0 : Nat) (K : xa_H → Option (xa_H)) : Nat → Int → xa_H → Option (xa_H)
  | 0, _, _ => none
  | n + 1, x2, sh =>
    if (sh 5 i0 0) ≤ x2 then
      K sh
    else
      (fm_Thing_put i0 x2 x2 0 0 sh).bind fun s2 =>
      xnm (w32 (x2 + 1) : Int) fun v3 =>
      fm_Thing_becomeBar_20 i0 K n v3 s2
theorem jl_Thing_becomeBar_20 (i0 : Nat) (σ : xa_H)  (K : xa_H → Option (xa_H)) (hK20 : ∀ (sz : xa_H), J 56 42 [] [] sz jqV (K sz)) : ∀ (n : Nat) (x2 : Int) (sh : xa_H), J 56 20 [(0, xr 5 i0), (2, xi x2)] [] sh jqV (fm_Thing_becomeBar_20 i0 K n x2 sh) := by
  intro n
  induction n with
  | zero => intro x2 sh; exact jr_none
  | succ n ih20 =>
    intro x2 sh
    rw [fm_Thing_becomeBar_20]
    refine jr_iload_n (e_56 rfl) rfl rfl ?_
    refine jr_aload_n (e_56 rfl) rfl rfl ?_
    refine jr_geti (e_56 rfl) rfl (by decide +kernel) ?_
    refine jr_bri (c := (sh 5 i0 0) ≤ x2) (pt := 42) (pn := 28) (e_56 rfl) rfl rfl (fun h1 => ?_) (fun h1 => ?_)
    · exact jr_sub (show ([0, 2] : List Nat).Nodup from by decide) xsb_n (hK20 sh)
    · refine jr_aload_n (e_56 rfl) rfl rfl ?_
      refine jr_iload_n (e_56 rfl) rfl rfl ?_
      refine jr_iload_n (e_56 rfl) rfl rfl ?_
      refine jr_iconst (e_56 rfl) rfl ?_
      refine jr_iconst (e_56 rfl) rfl ?_
      refine jr_callV (as := [xr 5 i0, xi x2, xi x2, xi 0, xi 0]) (S1 := []) (e_56 rfl) rfl rfl rfl rfl rfl rfl (jm_Thing_put i0 x2 x2 0 0 sh) rfl (fun s2 => ?_)
      refine jr_iinc (L2 := fun c => [(2, xi c), (0, xr 5 i0)]) (e_56 rfl) rfl rfl rfl (fun _ => rfl) (fun v3 => ?_)
      refine jr_goto (pc' := 20) (e_56 rfl) rfl ?_
      exact jr_sub (show ([2, 0] : List Nat).Nodup from by decide) (xsb_c (List.Mem.tail _ (List.Mem.head _)) (xsb_c (List.Mem.head _) xsb_n)) (ih20 v3 s2)
noncomputable def fm_Thing_becomeBar (i0 : Nat) (a1 : Int) (σ : xa_H) : Option (xa_H) :=
  xnm (xup σ 5 i0 0 (if 6 < a1 then 6 else a1)) fun s1 =>
  (fm_Arrays_fill 29 i0 0 s1).bind fun s2 =>
  fm_Thing_becomeBar_20 i0 (fun (s4 : xa_H) =>
    some s4) xFU 0 s2
theorem jm_Thing_becomeBar (i0 : Nat) (a1 : Int) (σ : xa_H) : J 56 0 [(0, xr 5 i0), (1, xi a1)] [] σ jqV (fm_Thing_becomeBar i0 a1 σ) := by
  unfold fm_Thing_becomeBar
  refine jr_aload_n (e_56 rfl) rfl rfl ?_
  refine jr_iload_n (e_56 rfl) rfl rfl ?_
  refine jr_bipush (e_56 rfl) rfl ?_
  refine jr_prim (as := [xi a1, xi 6]) (S1 := [xr 5 i0]) (v := xi (if 6 < a1 then 6 else a1)) (e_56 rfl) rfl rfl rfl rfl rfl rfl rfl ?_
  refine jr_put (e_56 rfl) rfl rfl rfl ?_
  refine jr_nms (fun s1 => ?_)
  refine jr_aload_n (e_56 rfl) rfl rfl ?_
  refine jr_getr (K2 := 29) (i2 := i0) (e_56 rfl) rfl rfl rfl ?_
  refine jr_iconst (e_56 rfl) rfl ?_
  refine jr_callV (as := [xr 29 i0, xi 0]) (S1 := []) (e_56 rfl) rfl rfl rfl rfl rfl rfl (jm_Arrays_fill 29 i0 0 s1 rfl rfl) rfl (fun s2 => ?_)
  refine jr_iconst (e_56 rfl) rfl ?_
  refine jr_istore_n (L' := [(2, xi 0), (0, xr 5 i0), (1, xi a1)]) (e_56 rfl) rfl rfl rfl ?_
  refine jr_sub (show ([2, 0, 1] : List Nat).Nodup from by decide) (xsb_c (List.Mem.tail _ (List.Mem.head _)) (xsb_c (List.Mem.head _) xsb_n)) (jl_Thing_becomeBar_20 i0 σ _ (fun s4 => ?_) xFU 0 s2)
  exact jr_retV (e_56 rfl)

theorem e_59 {pc : Nat} {en : xa_I} (h : xlk pc xc_59 = some en) : xcd 59 pc = some en := h
noncomputable def fm_Thing_stand (i0 : Nat) (σ : xa_H) : Option (Int) :=
  some (w32 ((w32 ((σ 5 i0 1) * 24)) + (σ 5 i0 2)))
theorem jm_Thing_stand (i0 : Nat) (σ : xa_H) : J 59 0 [(0, xr 5 i0)] [] σ (jqP σ) (fm_Thing_stand i0 σ) := by
  unfold fm_Thing_stand
  refine jr_aload_n (e_59 rfl) rfl rfl ?_
  refine jr_geti (e_59 rfl) rfl (by decide +kernel) ?_
  refine jr_bipush (e_59 rfl) rfl ?_
  refine jr_imul (e_59 rfl) rfl ?_
  refine jr_aload_n (e_59 rfl) rfl rfl ?_
  refine jr_geti (e_59 rfl) rfl (by decide +kernel) ?_
  refine jr_iadd (e_59 rfl) rfl ?_
  exact jr_retP (e_59 rfl) rfl

theorem e_60 {pc : Nat} {en : xa_I} (h : xlk pc xc_60 = some en) : xcd 60 pc = some en := h
noncomputable def fm_Thing_groupOf (i0 : Nat) (a1 : Int) (σ : xa_H) : Option (Int) :=
  (fm_S_read 28 i0 a1 σ).bind fun v1 =>
  some v1
theorem jm_Thing_groupOf (i0 : Nat) (a1 : Int) (σ : xa_H) : J 60 0 [(0, xr 5 i0), (1, xi a1)] [] σ (jqP σ) (fm_Thing_groupOf i0 a1 σ) := by
  unfold fm_Thing_groupOf
  refine jr_aload_n (e_60 rfl) rfl rfl ?_
  refine jr_getr (K2 := 28) (i2 := i0) (e_60 rfl) rfl rfl rfl ?_
  refine jr_iload_n (e_60 rfl) rfl rfl ?_
  refine jr_callP (as := [xr 28 i0, xi a1]) (S1 := []) (e_60 rfl) rfl rfl rfl rfl rfl rfl (jm_S_read 28 i0 a1 σ rfl) rfl (fun v1 => ?_)
  exact jr_retP (e_60 rfl) rfl

theorem e_62 {pc : Nat} {en : xa_I} (h : xlk pc xc_62 = some en) : xcd 62 pc = some en := h
noncomputable def fm_Thing_partsSet_4 (i0 : Nat) (σ : xa_H) (K : Int → Option (Int)) : Nat → Int → Int → Option (Int)
  | 0, _, _ => none
  | n + 1, x1, x2 =>
    if (σ 5 i0 0) ≤ x2 then
      K x1
    else
      (fm_Thing_groupOf i0 x2 σ).bind fun v2 =>
      xnm ((xor2 x1 (xshr (xshl 1 v2) 1)) : Int) fun v3 =>
      xnm (w32 (x2 + 1) : Int) fun v4 =>
      fm_Thing_partsSet_4 i0 σ K n v3 v4
theorem jl_Thing_partsSet_4 (i0 : Nat) (σ : xa_H)  (K : Int → Option (Int)) (hK4 : ∀ (z0 : Int), J 62 30 [(1, xi z0)] [] σ (jqP σ) (K z0)) : ∀ (n : Nat) (x1 : Int) (x2 : Int), J 62 4 [(0, xr 5 i0), (1, xi x1), (2, xi x2)] [] σ (jqP σ) (fm_Thing_partsSet_4 i0 σ K n x1 x2) := by
  intro n
  induction n with
  | zero => intro x1 x2; exact jr_none
  | succ n ih4 =>
    intro x1 x2
    rw [fm_Thing_partsSet_4]
    refine jr_iload_n (e_62 rfl) rfl rfl ?_
    refine jr_aload_n (e_62 rfl) rfl rfl ?_
    refine jr_geti (e_62 rfl) rfl (by decide +kernel) ?_
    refine jr_bri (c := (σ 5 i0 0) ≤ x2) (pt := 30) (pn := 12) (e_62 rfl) rfl rfl (fun h1 => ?_) (fun h1 => ?_)
    · exact jr_sub (show ([0, 1, 2] : List Nat).Nodup from by decide) (xsb_c (List.Mem.tail _ (List.Mem.head _)) xsb_n) (hK4 x1)
    · refine jr_iload_n (e_62 rfl) rfl rfl ?_
      refine jr_iconst (e_62 rfl) rfl ?_
      refine jr_aload_n (e_62 rfl) rfl rfl ?_
      refine jr_iload_n (e_62 rfl) rfl rfl ?_
      refine jr_callP (as := [xr 5 i0, xi x2]) (S1 := [xi 1, xi x1]) (e_62 rfl) rfl rfl rfl rfl rfl rfl (jm_Thing_groupOf i0 x2 σ) rfl (fun v2 => ?_)
      refine jr_ishl (e_62 rfl) rfl ?_
      refine jr_iconst (e_62 rfl) rfl ?_
      refine jr_ishr (e_62 rfl) rfl ?_
      refine jr_ior (e_62 rfl) rfl ?_
      refine jr_nm (fun v3 => ?_)
      refine jr_istore_n (L' := [(1, xi v3), (0, xr 5 i0), (2, xi x2)]) (e_62 rfl) rfl rfl rfl ?_
      refine jr_iinc (L2 := fun c => [(2, xi c), (1, xi v3), (0, xr 5 i0)]) (e_62 rfl) rfl rfl rfl (fun _ => rfl) (fun v4 => ?_)
      refine jr_goto (pc' := 4) (e_62 rfl) rfl ?_
      exact jr_sub (show ([2, 1, 0] : List Nat).Nodup from by decide) (xsb_c (List.Mem.tail _ (List.Mem.tail _ (List.Mem.head _))) (xsb_c (List.Mem.tail _ (List.Mem.head _)) (xsb_c (List.Mem.head _) xsb_n))) (ih4 v3 v4)
noncomputable def fm_Thing_partsSet (i0 : Nat) (σ : xa_H) : Option (Int) :=
  fm_Thing_partsSet_4 i0 σ (fun (v5 : Int) =>
    some v5) xFU 0 0
theorem jm_Thing_partsSet (i0 : Nat) (σ : xa_H) : J 62 0 [(0, xr 5 i0)] [] σ (jqP σ) (fm_Thing_partsSet i0 σ) := by
  unfold fm_Thing_partsSet
  refine jr_iconst (e_62 rfl) rfl ?_
  refine jr_istore_n (L' := [(1, xi 0), (0, xr 5 i0)]) (e_62 rfl) rfl rfl rfl ?_
  refine jr_iconst (e_62 rfl) rfl ?_
  refine jr_istore_n (L' := [(2, xi 0), (1, xi 0), (0, xr 5 i0)]) (e_62 rfl) rfl rfl rfl ?_
  refine jr_sub (show ([2, 1, 0] : List Nat).Nodup from by decide) (xsb_c (List.Mem.tail _ (List.Mem.tail _ (List.Mem.head _))) (xsb_c (List.Mem.tail _ (List.Mem.head _)) (xsb_c (List.Mem.head _) xsb_n))) (jl_Thing_partsSet_4 i0 σ _ (fun v5 => ?_) xFU 0 0)
  refine jr_iload_n (e_62 rfl) rfl rfl ?_
  exact jr_retP (e_62 rfl) rfl

theorem e_63 {pc : Nat} {en : xa_I} (h : xlk pc xc_63 = some en) : xcd 63 pc = some en := h
noncomputable def fm_Thing_cubesOn_4 (i0 : Nat) (f1 : Int) (σ : xa_H) (K : Int → Option (Int)) : Nat → Int → Int → Option (Int)
  | 0, _, _ => none
  | n + 1, x2, x3 =>
    if (σ 5 i0 0) ≤ x3 then
      K x2
    else
      (fm_Thing_groupOf i0 x3 σ).bind fun v2 =>
      (fm_S_has (xshl f1 1) v2).bind fun v3 =>
      if v3 = 0 then
        xnm ((w32 (x2 + 1)) : Int) fun v5 =>
        xnm (w32 (x3 + 1) : Int) fun v6 =>
        fm_Thing_cubesOn_4 i0 f1 σ K n v5 v6
      else
        xnm ((w32 (x2 + 0)) : Int) fun v7 =>
        xnm (w32 (x3 + 1) : Int) fun v8 =>
        fm_Thing_cubesOn_4 i0 f1 σ K n v7 v8
theorem jl_Thing_cubesOn_4 (i0 : Nat) (f1 : Int) (σ : xa_H)  (K : Int → Option (Int)) (hK4 : ∀ (z0 : Int), J 63 40 [(2, xi z0)] [] σ (jqP σ) (K z0)) : ∀ (n : Nat) (x2 : Int) (x3 : Int), J 63 4 [(0, xr 5 i0), (1, xi f1), (2, xi x2), (3, xi x3)] [] σ (jqP σ) (fm_Thing_cubesOn_4 i0 f1 σ K n x2 x3) := by
  intro n
  induction n with
  | zero => intro x2 x3; exact jr_none
  | succ n ih4 =>
    intro x2 x3
    rw [fm_Thing_cubesOn_4]
    refine jr_iload_n (e_63 rfl) rfl rfl ?_
    refine jr_aload_n (e_63 rfl) rfl rfl ?_
    refine jr_geti (e_63 rfl) rfl (by decide +kernel) ?_
    refine jr_bri (c := (σ 5 i0 0) ≤ x3) (pt := 40) (pn := 12) (e_63 rfl) rfl rfl (fun h1 => ?_) (fun h1 => ?_)
    · exact jr_sub (show ([0, 1, 2, 3] : List Nat).Nodup from by decide) (xsb_c (List.Mem.tail _ (List.Mem.tail _ (List.Mem.head _))) xsb_n) (hK4 x2)
    · refine jr_iload_n (e_63 rfl) rfl rfl ?_
      refine jr_iload_n (e_63 rfl) rfl rfl ?_
      refine jr_iconst (e_63 rfl) rfl ?_
      refine jr_ishl (e_63 rfl) rfl ?_
      refine jr_aload_n (e_63 rfl) rfl rfl ?_
      refine jr_iload_n (e_63 rfl) rfl rfl ?_
      refine jr_callP (as := [xr 5 i0, xi x3]) (S1 := [xi (xshl f1 1), xi x2]) (e_63 rfl) rfl rfl rfl rfl rfl rfl (jm_Thing_groupOf i0 x3 σ) rfl (fun v2 => ?_)
      refine jr_callP (as := [xi (xshl f1 1), xi v2]) (S1 := [xi x2]) (e_63 rfl) rfl rfl rfl rfl rfl rfl (jm_S_has (xshl f1 1) v2 σ) rfl (fun v3 => ?_)
      refine jr_bri (c := v3 = 0) (pt := 31) (pn := 27) (e_63 rfl) rfl rfl (fun h4 => ?_) (fun h4 => ?_)
      · refine jr_iconst (e_63 rfl) rfl ?_
        refine jr_iadd (e_63 rfl) rfl ?_
        refine jr_nm (fun v5 => ?_)
        refine jr_istore_n (L' := [(2, xi v5), (0, xr 5 i0), (1, xi f1), (3, xi x3)]) (e_63 rfl) rfl rfl rfl ?_
        refine jr_iinc (L2 := fun c => [(3, xi c), (2, xi v5), (0, xr 5 i0), (1, xi f1)]) (e_63 rfl) rfl rfl rfl (fun _ => rfl) (fun v6 => ?_)
        refine jr_goto (pc' := 4) (e_63 rfl) rfl ?_
        exact jr_sub (show ([3, 2, 0, 1] : List Nat).Nodup from by decide) (xsb_c (List.Mem.tail _ (List.Mem.tail _ (List.Mem.head _))) (xsb_c (List.Mem.tail _ (List.Mem.tail _ (List.Mem.tail _ (List.Mem.head _)))) (xsb_c (List.Mem.tail _ (List.Mem.head _)) (xsb_c (List.Mem.head _) xsb_n)))) (ih4 v5 v6)
      · refine jr_iconst (e_63 rfl) rfl ?_
        refine jr_goto (pc' := 32) (e_63 rfl) rfl ?_
        refine jr_iadd (e_63 rfl) rfl ?_
        refine jr_nm (fun v7 => ?_)
        refine jr_istore_n (L' := [(2, xi v7), (0, xr 5 i0), (1, xi f1), (3, xi x3)]) (e_63 rfl) rfl rfl rfl ?_
        refine jr_iinc (L2 := fun c => [(3, xi c), (2, xi v7), (0, xr 5 i0), (1, xi f1)]) (e_63 rfl) rfl rfl rfl (fun _ => rfl) (fun v8 => ?_)
        refine jr_goto (pc' := 4) (e_63 rfl) rfl ?_
        exact jr_sub (show ([3, 2, 0, 1] : List Nat).Nodup from by decide) (xsb_c (List.Mem.tail _ (List.Mem.tail _ (List.Mem.head _))) (xsb_c (List.Mem.tail _ (List.Mem.tail _ (List.Mem.tail _ (List.Mem.head _)))) (xsb_c (List.Mem.tail _ (List.Mem.head _)) (xsb_c (List.Mem.head _) xsb_n)))) (ih4 v7 v8)
noncomputable def fm_Thing_cubesOn (i0 : Nat) (a1 : Int) (σ : xa_H) : Option (Int) :=
  fm_Thing_cubesOn_4 i0 a1 σ (fun (v9 : Int) =>
    some v9) xFU 0 0
theorem jm_Thing_cubesOn (i0 : Nat) (a1 : Int) (σ : xa_H) : J 63 0 [(0, xr 5 i0), (1, xi a1)] [] σ (jqP σ) (fm_Thing_cubesOn i0 a1 σ) := by
  unfold fm_Thing_cubesOn
  refine jr_iconst (e_63 rfl) rfl ?_
  refine jr_istore_n (L' := [(2, xi 0), (0, xr 5 i0), (1, xi a1)]) (e_63 rfl) rfl rfl rfl ?_
  refine jr_iconst (e_63 rfl) rfl ?_
  refine jr_istore_n (L' := [(3, xi 0), (2, xi 0), (0, xr 5 i0), (1, xi a1)]) (e_63 rfl) rfl rfl rfl ?_
  refine jr_sub (show ([3, 2, 0, 1] : List Nat).Nodup from by decide) (xsb_c (List.Mem.tail _ (List.Mem.tail _ (List.Mem.head _))) (xsb_c (List.Mem.tail _ (List.Mem.tail _ (List.Mem.tail _ (List.Mem.head _)))) (xsb_c (List.Mem.tail _ (List.Mem.head _)) (xsb_c (List.Mem.head _) xsb_n)))) (jl_Thing_cubesOn_4 i0 a1 σ _ (fun v9 => ?_) xFU 0 0)
  refine jr_iload_n (e_63 rfl) rfl rfl ?_
  exact jr_retP (e_63 rfl) rfl

theorem e_67 {pc : Nat} {en : xa_I} (h : xlk pc xc_67 = some en) : xcd 67 pc = some en := h
noncomputable def fm_Turns_find_3 (f1 : Int) (f2 : Int) (f3 : Int) (f4 : Int) (σ : xa_H) (K : Option (Int)) : Nat → Int → Option (Int)
  | 0, _ => none
  | n + 1, x5 =>
    if f1 ≤ x5 then
      K
    else
      (fm_Turns_axisAt x5 0 σ).bind fun v2 =>
      if v2 = f2 then
        (fm_Turns_axisAt x5 1 σ).bind fun v4 =>
        if v4 = f3 then
          (fm_Turns_axisAt x5 2 σ).bind fun v6 =>
          if v6 = f4 then
            some x5
          else
            xnm (w32 (x5 + 1) : Int) fun v8 =>
            fm_Turns_find_3 f1 f2 f3 f4 σ K n v8
        else
          xnm (w32 (x5 + 1) : Int) fun v9 =>
          fm_Turns_find_3 f1 f2 f3 f4 σ K n v9
      else
        xnm (w32 (x5 + 1) : Int) fun v10 =>
        fm_Turns_find_3 f1 f2 f3 f4 σ K n v10
theorem jl_Turns_find_3 (f1 : Int) (f2 : Int) (f3 : Int) (f4 : Int) (σ : xa_H)  (K : Option (Int)) (hK3 : J 67 52 [(1, xi f1)] [] σ (jqP σ) (K)) : ∀ (n : Nat) (x5 : Int), J 67 3 [(0, xr 6 0), (1, xi f1), (2, xi f2), (3, xi f3), (4, xi f4), (5, xi x5)] [] σ (jqP σ) (fm_Turns_find_3 f1 f2 f3 f4 σ K n x5) := by
  intro n
  induction n with
  | zero => intro x5; exact jr_none
  | succ n ih3 =>
    intro x5
    rw [fm_Turns_find_3]
    refine jr_iload (e_67 rfl) rfl rfl ?_
    refine jr_iload_n (e_67 rfl) rfl rfl ?_
    refine jr_bri (c := f1 ≤ x5) (pt := 52) (pn := 9) (e_67 rfl) rfl rfl (fun h1 => ?_) (fun h1 => ?_)
    · exact jr_sub (show ([0, 1, 2, 3, 4, 5] : List Nat).Nodup from by decide) (xsb_c (List.Mem.tail _ (List.Mem.head _)) xsb_n) (hK3)
    · refine jr_aload_n (e_67 rfl) rfl rfl ?_
      refine jr_iload (e_67 rfl) rfl rfl ?_
      refine jr_iconst (e_67 rfl) rfl ?_
      refine jr_callP (as := [xr 6 0, xi x5, xi 0]) (S1 := []) (e_67 rfl) rfl rfl rfl rfl rfl rfl (jm_Turns_axisAt x5 0 σ) rfl (fun v2 => ?_)
      refine jr_iload_n (e_67 rfl) rfl rfl ?_
      refine jr_brx (c := v2 = f2) (pt := 46) (pn := 20) (e_67 rfl) rfl rfl (fun h3 => ?_) (fun h3 => ?_)
      · refine jr_aload_n (e_67 rfl) rfl rfl ?_
        refine jr_iload (e_67 rfl) rfl rfl ?_
        refine jr_iconst (e_67 rfl) rfl ?_
        refine jr_callP (as := [xr 6 0, xi x5, xi 1]) (S1 := []) (e_67 rfl) rfl rfl rfl rfl rfl rfl (jm_Turns_axisAt x5 1 σ) rfl (fun v4 => ?_)
        refine jr_iload_n (e_67 rfl) rfl rfl ?_
        refine jr_brx (c := v4 = f3) (pt := 46) (pn := 31) (e_67 rfl) rfl rfl (fun h5 => ?_) (fun h5 => ?_)
        · refine jr_aload_n (e_67 rfl) rfl rfl ?_
          refine jr_iload (e_67 rfl) rfl rfl ?_
          refine jr_iconst (e_67 rfl) rfl ?_
          refine jr_callP (as := [xr 6 0, xi x5, xi 2]) (S1 := []) (e_67 rfl) rfl rfl rfl rfl rfl rfl (jm_Turns_axisAt x5 2 σ) rfl (fun v6 => ?_)
          refine jr_iload (e_67 rfl) rfl rfl ?_
          refine jr_brx (c := v6 = f4) (pt := 46) (pn := 43) (e_67 rfl) rfl rfl (fun h7 => ?_) (fun h7 => ?_)
          · refine jr_iload (e_67 rfl) rfl rfl ?_
            exact jr_retP (e_67 rfl) rfl
          · refine jr_iinc (L2 := fun c => [(5, xi c), (0, xr 6 0), (1, xi f1), (2, xi f2), (3, xi f3), (4, xi f4)]) (e_67 rfl) rfl rfl rfl (fun _ => rfl) (fun v8 => ?_)
            refine jr_goto (pc' := 3) (e_67 rfl) rfl ?_
            exact jr_sub (show ([5, 0, 1, 2, 3, 4] : List Nat).Nodup from by decide) (xsb_c (List.Mem.tail _ (List.Mem.head _)) (xsb_c (List.Mem.tail _ (List.Mem.tail _ (List.Mem.head _))) (xsb_c (List.Mem.tail _ (List.Mem.tail _ (List.Mem.tail _ (List.Mem.head _)))) (xsb_c (List.Mem.tail _ (List.Mem.tail _ (List.Mem.tail _ (List.Mem.tail _ (List.Mem.head _))))) (xsb_c (List.Mem.tail _ (List.Mem.tail _ (List.Mem.tail _ (List.Mem.tail _ (List.Mem.tail _ (List.Mem.head _)))))) (xsb_c (List.Mem.head _) xsb_n)))))) (ih3 v8)
        · refine jr_iinc (L2 := fun c => [(5, xi c), (0, xr 6 0), (1, xi f1), (2, xi f2), (3, xi f3), (4, xi f4)]) (e_67 rfl) rfl rfl rfl (fun _ => rfl) (fun v9 => ?_)
          refine jr_goto (pc' := 3) (e_67 rfl) rfl ?_
          exact jr_sub (show ([5, 0, 1, 2, 3, 4] : List Nat).Nodup from by decide) (xsb_c (List.Mem.tail _ (List.Mem.head _)) (xsb_c (List.Mem.tail _ (List.Mem.tail _ (List.Mem.head _))) (xsb_c (List.Mem.tail _ (List.Mem.tail _ (List.Mem.tail _ (List.Mem.head _)))) (xsb_c (List.Mem.tail _ (List.Mem.tail _ (List.Mem.tail _ (List.Mem.tail _ (List.Mem.head _))))) (xsb_c (List.Mem.tail _ (List.Mem.tail _ (List.Mem.tail _ (List.Mem.tail _ (List.Mem.tail _ (List.Mem.head _)))))) (xsb_c (List.Mem.head _) xsb_n)))))) (ih3 v9)
      · refine jr_iinc (L2 := fun c => [(5, xi c), (0, xr 6 0), (1, xi f1), (2, xi f2), (3, xi f3), (4, xi f4)]) (e_67 rfl) rfl rfl rfl (fun _ => rfl) (fun v10 => ?_)
        refine jr_goto (pc' := 3) (e_67 rfl) rfl ?_
        exact jr_sub (show ([5, 0, 1, 2, 3, 4] : List Nat).Nodup from by decide) (xsb_c (List.Mem.tail _ (List.Mem.head _)) (xsb_c (List.Mem.tail _ (List.Mem.tail _ (List.Mem.head _))) (xsb_c (List.Mem.tail _ (List.Mem.tail _ (List.Mem.tail _ (List.Mem.head _)))) (xsb_c (List.Mem.tail _ (List.Mem.tail _ (List.Mem.tail _ (List.Mem.tail _ (List.Mem.head _))))) (xsb_c (List.Mem.tail _ (List.Mem.tail _ (List.Mem.tail _ (List.Mem.tail _ (List.Mem.tail _ (List.Mem.head _)))))) (xsb_c (List.Mem.head _) xsb_n)))))) (ih3 v10)
noncomputable def fm_Turns_find (a1 : Int) (a2 : Int) (a3 : Int) (a4 : Int) (σ : xa_H) : Option (Int) :=
  fm_Turns_find_3 a1 a2 a3 a4 σ (
    some a1) xFU 0
theorem jm_Turns_find (a1 : Int) (a2 : Int) (a3 : Int) (a4 : Int) (σ : xa_H) : J 67 0 [(0, xr 6 0), (1, xi a1), (2, xi a2), (3, xi a3), (4, xi a4)] [] σ (jqP σ) (fm_Turns_find a1 a2 a3 a4 σ) := by
  unfold fm_Turns_find
  refine jr_iconst (e_67 rfl) rfl ?_
  refine jr_istore (L' := [(5, xi 0), (0, xr 6 0), (1, xi a1), (2, xi a2), (3, xi a3), (4, xi a4)]) (e_67 rfl) rfl rfl rfl ?_
  refine jr_sub (show ([5, 0, 1, 2, 3, 4] : List Nat).Nodup from by decide) (xsb_c (List.Mem.tail _ (List.Mem.head _)) (xsb_c (List.Mem.tail _ (List.Mem.tail _ (List.Mem.head _))) (xsb_c (List.Mem.tail _ (List.Mem.tail _ (List.Mem.tail _ (List.Mem.head _)))) (xsb_c (List.Mem.tail _ (List.Mem.tail _ (List.Mem.tail _ (List.Mem.tail _ (List.Mem.head _))))) (xsb_c (List.Mem.tail _ (List.Mem.tail _ (List.Mem.tail _ (List.Mem.tail _ (List.Mem.tail _ (List.Mem.head _)))))) (xsb_c (List.Mem.head _) xsb_n)))))) (jl_Turns_find_3 a1 a2 a3 a4 σ _ ?_ xFU 0)
  refine jr_iload_n (e_67 rfl) rfl rfl ?_
  exact jr_retP (e_67 rfl) rfl

theorem e_68 {pc : Nat} {en : xa_I} (h : xlk pc xc_68 = some en) : xcd 68 pc = some en := h
noncomputable def fm_Turns_turnedAxis (a1 : Int) (a2 : Int) (a3 : Int) (σ : xa_H) : Option (Int) :=
  xnm ((xrem a2 3) : Int) fun v1 =>
  if a3 = v1 then
    (fm_Turns_axisAt a1 a3 σ).bind fun v3 =>
    some v3
  else
    xnm ((w32 ((w32 (3 - v1)) - a3)) : Int) fun v4 =>
    xnm ((if a3 = (xrem (w32 (v1 + 1)) 3) then 1 else 0) : Int) fun v6 =>
    xnm ((if a2 < 3 then 0 else 1) : Int) fun v9 =>
    if v6 = v9 then
      (fm_Turns_axisAt a1 v4 σ).bind fun v12 =>
      some v12
    else
      (fm_Turns_axisAt a1 v4 σ).bind fun v13 =>
      some (w32 (-v13))
theorem jm_Turns_turnedAxis (a1 : Int) (a2 : Int) (a3 : Int) (σ : xa_H) : J 68 0 [(0, xr 6 0), (1, xi a1), (2, xi a2), (3, xi a3)] [] σ (jqP σ) (fm_Turns_turnedAxis a1 a2 a3 σ) := by
  unfold fm_Turns_turnedAxis
  refine jr_iload_n (e_68 rfl) rfl rfl ?_
  refine jr_iconst (e_68 rfl) rfl ?_
  refine jr_irem (e_68 rfl) rfl (by decide) ?_
  refine jr_nm (fun v1 => ?_)
  refine jr_istore (L' := [(4, xi v1), (0, xr 6 0), (1, xi a1), (2, xi a2), (3, xi a3)]) (e_68 rfl) rfl rfl rfl ?_
  refine jr_iload_n (e_68 rfl) rfl rfl ?_
  refine jr_iload (e_68 rfl) rfl rfl ?_
  refine jr_brx (c := a3 = v1) (pt := 18) (pn := 11) (e_68 rfl) rfl rfl (fun h2 => ?_) (fun h2 => ?_)
  · refine jr_aload_n (e_68 rfl) rfl rfl ?_
    refine jr_iload_n (e_68 rfl) rfl rfl ?_
    refine jr_iload_n (e_68 rfl) rfl rfl ?_
    refine jr_callP (as := [xr 6 0, xi a1, xi a3]) (S1 := []) (e_68 rfl) rfl rfl rfl rfl rfl rfl (jm_Turns_axisAt a1 a3 σ) rfl (fun v3 => ?_)
    exact jr_retP (e_68 rfl) rfl
  · refine jr_iconst (e_68 rfl) rfl ?_
    refine jr_iload (e_68 rfl) rfl rfl ?_
    refine jr_isub (e_68 rfl) rfl ?_
    refine jr_iload_n (e_68 rfl) rfl rfl ?_
    refine jr_isub (e_68 rfl) rfl ?_
    refine jr_nm (fun v4 => ?_)
    refine jr_istore (L' := [(5, xi v4), (4, xi v1), (0, xr 6 0), (1, xi a1), (2, xi a2), (3, xi a3)]) (e_68 rfl) rfl rfl rfl ?_
    refine jr_iload_n (e_68 rfl) rfl rfl ?_
    refine jr_iload (e_68 rfl) rfl rfl ?_
    refine jr_iconst (e_68 rfl) rfl ?_
    refine jr_iadd (e_68 rfl) rfl ?_
    refine jr_iconst (e_68 rfl) rfl ?_
    refine jr_irem (e_68 rfl) rfl (by decide) ?_
    refine jr_pm1 (fun T => ∀ v6 : Int, J 68 41 [(0, xr 6 0), (1, xi a1), (2, xi a2), (5, xi v4)] [xi v6] σ (jqP σ) (T v6)) (fun v6 => ?_) (fun T hT => ?_)
    · refine jr_istore (L' := [(6, xi v6), (0, xr 6 0), (1, xi a1), (2, xi a2), (5, xi v4)]) (e_68 rfl) rfl rfl rfl ?_
      refine jr_iload_n (e_68 rfl) rfl rfl ?_
      refine jr_iconst (e_68 rfl) rfl ?_
      refine jr_pm1 (fun T => ∀ v9 : Int, J 68 53 [(0, xr 6 0), (1, xi a1), (5, xi v4), (6, xi v6)] [xi v9] σ (jqP σ) (T v9)) (fun v9 => ?_) (fun T hT => ?_)
      · refine jr_istore (L' := [(7, xi v9), (0, xr 6 0), (1, xi a1), (5, xi v4), (6, xi v6)]) (e_68 rfl) rfl rfl rfl ?_
        refine jr_iload (e_68 rfl) rfl rfl ?_
        refine jr_iload (e_68 rfl) rfl rfl ?_
        refine jr_bri (c := v6 = v9) (pt := 73) (pn := 62) (e_68 rfl) rfl rfl (fun h11 => ?_) (fun h11 => ?_)
        · refine jr_aload_n (e_68 rfl) rfl rfl ?_
          refine jr_iload_n (e_68 rfl) rfl rfl ?_
          refine jr_iload (e_68 rfl) rfl rfl ?_
          refine jr_callP (as := [xr 6 0, xi a1, xi v4]) (S1 := []) (e_68 rfl) rfl rfl rfl rfl rfl rfl (jm_Turns_axisAt a1 v4 σ) rfl (fun v12 => ?_)
          exact jr_retP (e_68 rfl) rfl
        · refine jr_aload_n (e_68 rfl) rfl rfl ?_
          refine jr_iload_n (e_68 rfl) rfl rfl ?_
          refine jr_iload (e_68 rfl) rfl rfl ?_
          refine jr_callP (as := [xr 6 0, xi a1, xi v4]) (S1 := []) (e_68 rfl) rfl rfl rfl rfl rfl rfl (jm_Turns_axisAt a1 v4 σ) rfl (fun v13 => ?_)
          refine jr_ineg (e_68 rfl) rfl ?_
          refine jr_goto (pc' := 80) (e_68 rfl) rfl ?_
          exact jr_retP (e_68 rfl) rfl
      · refine jr_br (c := a2 < 3) (pt := 52) (pn := 48) (e_68 rfl) rfl rfl (fun h10 => ?_) (fun h10 => ?_)
        · refine jr_iconst (e_68 rfl) rfl ?_
          exact (jr_nme (if_pos h10) (jr_sub (show ([6, 0, 1, 2, 5] : List Nat).Nodup from by decide) (xsb_c (List.Mem.tail _ (List.Mem.head _)) (xsb_c (List.Mem.tail _ (List.Mem.tail _ (List.Mem.head _))) (xsb_c (List.Mem.tail _ (List.Mem.tail _ (List.Mem.tail _ (List.Mem.tail _ (List.Mem.head _))))) (xsb_c (List.Mem.head _) xsb_n)))) (hT 0)))
        · refine jr_iconst (e_68 rfl) rfl ?_
          refine jr_goto (pc' := 53) (e_68 rfl) rfl ?_
          exact (jr_nme (if_neg h10) (jr_sub (show ([6, 0, 1, 2, 5] : List Nat).Nodup from by decide) (xsb_c (List.Mem.tail _ (List.Mem.head _)) (xsb_c (List.Mem.tail _ (List.Mem.tail _ (List.Mem.head _))) (xsb_c (List.Mem.tail _ (List.Mem.tail _ (List.Mem.tail _ (List.Mem.tail _ (List.Mem.head _))))) (xsb_c (List.Mem.head _) xsb_n)))) (hT 1)))
    · refine jr_bx (c := a3 = (xrem (w32 (v1 + 1)) 3)) (pt := 40) (pn := 36) (e_68 rfl) rfl rfl (fun h7 => ?_) (fun h7 => ?_)
      · refine jr_iconst (e_68 rfl) rfl ?_
        refine jr_goto (pc' := 41) (e_68 rfl) rfl ?_
        exact (jr_nme (if_pos h7) (jr_sub (show ([5, 4, 0, 1, 2, 3] : List Nat).Nodup from by decide) (xsb_c (List.Mem.tail _ (List.Mem.tail _ (List.Mem.head _))) (xsb_c (List.Mem.tail _ (List.Mem.tail _ (List.Mem.tail _ (List.Mem.head _)))) (xsb_c (List.Mem.tail _ (List.Mem.tail _ (List.Mem.tail _ (List.Mem.tail _ (List.Mem.head _))))) (xsb_c (List.Mem.head _) xsb_n)))) (hT 1)))
      · refine jr_iconst (e_68 rfl) rfl ?_
        exact (jr_nme (if_neg h7) (jr_sub (show ([5, 4, 0, 1, 2, 3] : List Nat).Nodup from by decide) (xsb_c (List.Mem.tail _ (List.Mem.tail _ (List.Mem.head _))) (xsb_c (List.Mem.tail _ (List.Mem.tail _ (List.Mem.tail _ (List.Mem.head _)))) (xsb_c (List.Mem.tail _ (List.Mem.tail _ (List.Mem.tail _ (List.Mem.tail _ (List.Mem.head _))))) (xsb_c (List.Mem.head _) xsb_n)))) (hT 0)))

theorem e_70 {pc : Nat} {en : xa_I} (h : xlk pc xc_70 = some en) : xcd 70 pc = some en := h
noncomputable def fm_Way_resize (i0 : Nat) (a1 : Int) (a2 : Int) (a3 : Int) (σ : xa_H) : Option (xa_H) :=
  (fm_Way_measure i0 a1 a2 a3 σ).bind fun s1 =>
  (fm_Arrays_fill 33 i0 0 s1).bind fun s2 =>
  some s2
theorem jm_Way_resize (i0 : Nat) (a1 : Int) (a2 : Int) (a3 : Int) (σ : xa_H) : J 70 0 [(0, xr 7 i0), (1, xi a1), (2, xi a2), (3, xi a3)] [] σ jqV (fm_Way_resize i0 a1 a2 a3 σ) := by
  unfold fm_Way_resize
  refine jr_aload_n (e_70 rfl) rfl rfl ?_
  refine jr_iload_n (e_70 rfl) rfl rfl ?_
  refine jr_iload_n (e_70 rfl) rfl rfl ?_
  refine jr_iload_n (e_70 rfl) rfl rfl ?_
  refine jr_callV (as := [xr 7 i0, xi a1, xi a2, xi a3]) (S1 := []) (e_70 rfl) rfl rfl rfl rfl rfl rfl (jm_Way_measure i0 a1 a2 a3 σ) rfl (fun s1 => ?_)
  refine jr_aload_n (e_70 rfl) rfl rfl ?_
  refine jr_getr (K2 := 33) (i2 := i0) (e_70 rfl) rfl rfl rfl ?_
  refine jr_iconst (e_70 rfl) rfl ?_
  refine jr_callV (as := [xr 33 i0, xi 0]) (S1 := []) (e_70 rfl) rfl rfl rfl rfl rfl rfl (jm_Arrays_fill 33 i0 0 s1 rfl rfl) rfl (fun s2 => ?_)
  exact jr_retV (e_70 rfl)

theorem e_74 {pc : Nat} {en : xa_I} (h : xlk pc xc_74 = some en) : xcd 74 pc = some en := h
noncomputable def fm_Way_placeOf (i0 : Nat) (a1 : Int) (σ : xa_H) : Option (Int) :=
  if 0 ≤ a1 then
    (fm_Way_placeAt i0 (xdiv a1 100) (xrem (xdiv a1 10) 10) (xrem a1 10) σ).bind fun v2 =>
    some v2
  else
    some (-6)
theorem jm_Way_placeOf (i0 : Nat) (a1 : Int) (σ : xa_H) : J 74 0 [(0, xr 7 i0), (1, xi a1)] [] σ (jqP σ) (fm_Way_placeOf i0 a1 σ) := by
  unfold fm_Way_placeOf
  refine jr_iload_n (e_74 rfl) rfl rfl ?_
  refine jr_bri (c := 0 ≤ a1) (pt := 9) (pn := 4) (e_74 rfl) rfl rfl (fun h1 => ?_) (fun h1 => ?_)
  · refine jr_aload_n (e_74 rfl) rfl rfl ?_
    refine jr_iload_n (e_74 rfl) rfl rfl ?_
    refine jr_bipush (e_74 rfl) rfl ?_
    refine jr_idiv (e_74 rfl) rfl (by decide) ?_
    refine jr_iload_n (e_74 rfl) rfl rfl ?_
    refine jr_bipush (e_74 rfl) rfl ?_
    refine jr_idiv (e_74 rfl) rfl (by decide) ?_
    refine jr_bipush (e_74 rfl) rfl ?_
    refine jr_irem (e_74 rfl) rfl (by decide) ?_
    refine jr_iload_n (e_74 rfl) rfl rfl ?_
    refine jr_bipush (e_74 rfl) rfl ?_
    refine jr_irem (e_74 rfl) rfl (by decide) ?_
    refine jr_callP (as := [xr 7 i0, xi (xdiv a1 100), xi (xrem (xdiv a1 10) 10), xi (xrem a1 10)]) (S1 := []) (e_74 rfl) rfl rfl rfl rfl rfl rfl (jm_Way_placeAt i0 (xdiv a1 100) (xrem (xdiv a1 10) 10) (xrem a1 10) σ) rfl (fun v2 => ?_)
    exact jr_retP (e_74 rfl) rfl
  · refine jr_bipush (e_74 rfl) rfl ?_
    refine jr_goto (pc' := 28) (e_74 rfl) rfl ?_
    exact jr_retP (e_74 rfl) rfl

theorem e_78 {pc : Nat} {en : xa_I} (h : xlk pc xc_78 = some en) : xcd 78 pc = some en := h
noncomputable def fm_Way_paint_39 (i0 : Nat) (f1 : Int) (f2 : Int) (f3 : Int) (f5 : Int) (f6 : Int) (K : Int → xa_H → Option (Int × xa_H)) : Nat → Int → Int → xa_H → Option (Int × xa_H)
  | 0, _, _, _ => none
  | n + 1, x4, x7, sh =>
    (fm_S_zOf f2).bind fun v1 =>
    if v1 < x7 then
      K x4 sh
    else
      (fm_Way_placeAt i0 f5 f6 x7 sh).bind fun v3 =>
      (fm_S_write 33 i0 v3 f3 sh).bind fun s4 =>
      xnm (w32 (x4 + 1) : Int) fun v5 =>
      xnm (w32 (x7 + 1) : Int) fun v6 =>
      fm_Way_paint_39 i0 f1 f2 f3 f5 f6 K n v5 v6 s4
theorem jl_Way_paint_39 (i0 : Nat) (f1 : Int) (f2 : Int) (f3 : Int) (f5 : Int) (f6 : Int) (σ : xa_H)  (K : Int → xa_H → Option (Int × xa_H)) (hK39 : ∀ (z0 : Int) (sz : xa_H), J 78 75 [(0, xr 7 i0), (1, xi f1), (2, xi f2), (3, xi f3), (4, xi z0), (5, xi f5), (6, xi f6)] [] sz jqW (K z0 sz)) : ∀ (n : Nat) (x4 : Int) (x7 : Int) (sh : xa_H), J 78 39 [(0, xr 7 i0), (1, xi f1), (2, xi f2), (3, xi f3), (4, xi x4), (5, xi f5), (6, xi f6), (7, xi x7)] [] sh jqW (fm_Way_paint_39 i0 f1 f2 f3 f5 f6 K n x4 x7 sh) := by
  intro n
  induction n with
  | zero => intro x4 x7 sh; exact jr_none
  | succ n ih39 =>
    intro x4 x7 sh
    rw [fm_Way_paint_39]
    refine jr_iload (e_78 rfl) rfl rfl ?_
    refine jr_iload_n (e_78 rfl) rfl rfl ?_
    refine jr_callP (as := [xi f2]) (S1 := [xi x7]) (e_78 rfl) rfl rfl rfl rfl rfl rfl (jm_S_zOf f2 sh) rfl (fun v1 => ?_)
    refine jr_bri (c := v1 < x7) (pt := 75) (pn := 48) (e_78 rfl) rfl rfl (fun h2 => ?_) (fun h2 => ?_)
    · exact jr_sub (show ([0, 1, 2, 3, 4, 5, 6, 7] : List Nat).Nodup from by decide) (xsb_c (List.Mem.head _) (xsb_c (List.Mem.tail _ (List.Mem.head _)) (xsb_c (List.Mem.tail _ (List.Mem.tail _ (List.Mem.head _))) (xsb_c (List.Mem.tail _ (List.Mem.tail _ (List.Mem.tail _ (List.Mem.head _)))) (xsb_c (List.Mem.tail _ (List.Mem.tail _ (List.Mem.tail _ (List.Mem.tail _ (List.Mem.head _))))) (xsb_c (List.Mem.tail _ (List.Mem.tail _ (List.Mem.tail _ (List.Mem.tail _ (List.Mem.tail _ (List.Mem.head _)))))) (xsb_c (List.Mem.tail _ (List.Mem.tail _ (List.Mem.tail _ (List.Mem.tail _ (List.Mem.tail _ (List.Mem.tail _ (List.Mem.head _))))))) xsb_n))))))) (hK39 x4 sh)
    · refine jr_aload_n (e_78 rfl) rfl rfl ?_
      refine jr_getr (K2 := 33) (i2 := i0) (e_78 rfl) rfl rfl rfl ?_
      refine jr_aload_n (e_78 rfl) rfl rfl ?_
      refine jr_iload (e_78 rfl) rfl rfl ?_
      refine jr_iload (e_78 rfl) rfl rfl ?_
      refine jr_iload (e_78 rfl) rfl rfl ?_
      refine jr_callP (as := [xr 7 i0, xi f5, xi f6, xi x7]) (S1 := [xr 33 i0]) (e_78 rfl) rfl rfl rfl rfl rfl rfl (jm_Way_placeAt i0 f5 f6 x7 sh) rfl (fun v3 => ?_)
      refine jr_iload_n (e_78 rfl) rfl rfl ?_
      refine jr_callV (as := [xr 33 i0, xi v3, xi f3]) (S1 := []) (e_78 rfl) rfl rfl rfl rfl rfl rfl (jm_S_write 33 i0 v3 f3 sh rfl rfl) rfl (fun s4 => ?_)
      refine jr_iinc (L2 := fun c => [(4, xi c), (0, xr 7 i0), (1, xi f1), (2, xi f2), (3, xi f3), (5, xi f5), (6, xi f6), (7, xi x7)]) (e_78 rfl) rfl rfl rfl (fun _ => rfl) (fun v5 => ?_)
      refine jr_iinc (L2 := fun c => [(7, xi c), (4, xi v5), (0, xr 7 i0), (1, xi f1), (2, xi f2), (3, xi f3), (5, xi f5), (6, xi f6)]) (e_78 rfl) rfl rfl rfl (fun _ => rfl) (fun v6 => ?_)
      refine jr_goto (pc' := 39) (e_78 rfl) rfl ?_
      exact jr_sub (show ([7, 4, 0, 1, 2, 3, 5, 6] : List Nat).Nodup from by decide) (xsb_c (List.Mem.tail _ (List.Mem.tail _ (List.Mem.head _))) (xsb_c (List.Mem.tail _ (List.Mem.tail _ (List.Mem.tail _ (List.Mem.head _)))) (xsb_c (List.Mem.tail _ (List.Mem.tail _ (List.Mem.tail _ (List.Mem.tail _ (List.Mem.head _))))) (xsb_c (List.Mem.tail _ (List.Mem.tail _ (List.Mem.tail _ (List.Mem.tail _ (List.Mem.tail _ (List.Mem.head _)))))) (xsb_c (List.Mem.tail _ (List.Mem.head _)) (xsb_c (List.Mem.tail _ (List.Mem.tail _ (List.Mem.tail _ (List.Mem.tail _ (List.Mem.tail _ (List.Mem.tail _ (List.Mem.head _))))))) (xsb_c (List.Mem.tail _ (List.Mem.tail _ (List.Mem.tail _ (List.Mem.tail _ (List.Mem.tail _ (List.Mem.tail _ (List.Mem.tail _ (List.Mem.head _)))))))) (xsb_c (List.Mem.head _) xsb_n)))))))) (ih39 v5 v6 s4)
noncomputable def fm_Way_paint_24 (i0 : Nat) (f1 : Int) (f2 : Int) (f3 : Int) (f5 : Int) (K : Int → xa_H → Option (Int × xa_H)) : Nat → Int → Int → xa_H → Option (Int × xa_H)
  | 0, _, _, _ => none
  | n + 1, x4, x6, sh =>
    (fm_S_yOf f2).bind fun v1 =>
    if v1 < x6 then
      K x4 sh
    else
      (fm_S_zOf f1).bind fun v3 =>
      fm_Way_paint_39 i0 f1 f2 f3 f5 x6 (fun (v7 : Int) (s8 : xa_H) =>
        xnm (w32 (x6 + 1) : Int) fun v9 =>
        fm_Way_paint_24 i0 f1 f2 f3 f5 K n v7 v9 s8) xFU x4 v3 sh
theorem jl_Way_paint_24 (i0 : Nat) (f1 : Int) (f2 : Int) (f3 : Int) (f5 : Int) (σ : xa_H)  (K : Int → xa_H → Option (Int × xa_H)) (hK24 : ∀ (z0 : Int) (sz : xa_H), J 78 81 [(0, xr 7 i0), (1, xi f1), (2, xi f2), (3, xi f3), (4, xi z0), (5, xi f5)] [] sz jqW (K z0 sz)) : ∀ (n : Nat) (x4 : Int) (x6 : Int) (sh : xa_H), J 78 24 [(0, xr 7 i0), (1, xi f1), (2, xi f2), (3, xi f3), (4, xi x4), (5, xi f5), (6, xi x6)] [] sh jqW (fm_Way_paint_24 i0 f1 f2 f3 f5 K n x4 x6 sh) := by
  intro n
  induction n with
  | zero => intro x4 x6 sh; exact jr_none
  | succ n ih24 =>
    intro x4 x6 sh
    rw [fm_Way_paint_24]
    refine jr_iload (e_78 rfl) rfl rfl ?_
    refine jr_iload_n (e_78 rfl) rfl rfl ?_
    refine jr_callP (as := [xi f2]) (S1 := [xi x6]) (e_78 rfl) rfl rfl rfl rfl rfl rfl (jm_S_yOf f2 sh) rfl (fun v1 => ?_)
    refine jr_bri (c := v1 < x6) (pt := 81) (pn := 33) (e_78 rfl) rfl rfl (fun h2 => ?_) (fun h2 => ?_)
    · exact jr_sub (show ([0, 1, 2, 3, 4, 5, 6] : List Nat).Nodup from by decide) (xsb_c (List.Mem.head _) (xsb_c (List.Mem.tail _ (List.Mem.head _)) (xsb_c (List.Mem.tail _ (List.Mem.tail _ (List.Mem.head _))) (xsb_c (List.Mem.tail _ (List.Mem.tail _ (List.Mem.tail _ (List.Mem.head _)))) (xsb_c (List.Mem.tail _ (List.Mem.tail _ (List.Mem.tail _ (List.Mem.tail _ (List.Mem.head _))))) (xsb_c (List.Mem.tail _ (List.Mem.tail _ (List.Mem.tail _ (List.Mem.tail _ (List.Mem.tail _ (List.Mem.head _)))))) xsb_n)))))) (hK24 x4 sh)
    · refine jr_iload_n (e_78 rfl) rfl rfl ?_
      refine jr_callP (as := [xi f1]) (S1 := []) (e_78 rfl) rfl rfl rfl rfl rfl rfl (jm_S_zOf f1 sh) rfl (fun v3 => ?_)
      refine jr_istore (L' := [(7, xi v3), (0, xr 7 i0), (1, xi f1), (2, xi f2), (3, xi f3), (4, xi x4), (5, xi f5), (6, xi x6)]) (e_78 rfl) rfl rfl rfl ?_
      refine jr_sub (show ([7, 0, 1, 2, 3, 4, 5, 6] : List Nat).Nodup from by decide) (xsb_c (List.Mem.tail _ (List.Mem.head _)) (xsb_c (List.Mem.tail _ (List.Mem.tail _ (List.Mem.head _))) (xsb_c (List.Mem.tail _ (List.Mem.tail _ (List.Mem.tail _ (List.Mem.head _)))) (xsb_c (List.Mem.tail _ (List.Mem.tail _ (List.Mem.tail _ (List.Mem.tail _ (List.Mem.head _))))) (xsb_c (List.Mem.tail _ (List.Mem.tail _ (List.Mem.tail _ (List.Mem.tail _ (List.Mem.tail _ (List.Mem.head _)))))) (xsb_c (List.Mem.tail _ (List.Mem.tail _ (List.Mem.tail _ (List.Mem.tail _ (List.Mem.tail _ (List.Mem.tail _ (List.Mem.head _))))))) (xsb_c (List.Mem.tail _ (List.Mem.tail _ (List.Mem.tail _ (List.Mem.tail _ (List.Mem.tail _ (List.Mem.tail _ (List.Mem.tail _ (List.Mem.head _)))))))) (xsb_c (List.Mem.head _) xsb_n)))))))) (jl_Way_paint_39 i0 f1 f2 f3 f5 x6 σ _ (fun v7 s8 => ?_) xFU x4 v3 sh)
      refine jr_iinc (L2 := fun c => [(6, xi c), (0, xr 7 i0), (1, xi f1), (2, xi f2), (3, xi f3), (4, xi v7), (5, xi f5)]) (e_78 rfl) rfl rfl rfl (fun _ => rfl) (fun v9 => ?_)
      refine jr_goto (pc' := 24) (e_78 rfl) rfl ?_
      exact jr_sub (show ([6, 0, 1, 2, 3, 4, 5] : List Nat).Nodup from by decide) (xsb_c (List.Mem.tail _ (List.Mem.head _)) (xsb_c (List.Mem.tail _ (List.Mem.tail _ (List.Mem.head _))) (xsb_c (List.Mem.tail _ (List.Mem.tail _ (List.Mem.tail _ (List.Mem.head _)))) (xsb_c (List.Mem.tail _ (List.Mem.tail _ (List.Mem.tail _ (List.Mem.tail _ (List.Mem.head _))))) (xsb_c (List.Mem.tail _ (List.Mem.tail _ (List.Mem.tail _ (List.Mem.tail _ (List.Mem.tail _ (List.Mem.head _)))))) (xsb_c (List.Mem.tail _ (List.Mem.tail _ (List.Mem.tail _ (List.Mem.tail _ (List.Mem.tail _ (List.Mem.tail _ (List.Mem.head _))))))) (xsb_c (List.Mem.head _) xsb_n))))))) (ih24 v7 v9 s8)
noncomputable def fm_Way_paint_9 (i0 : Nat) (f1 : Int) (f2 : Int) (f3 : Int) (K : Int → xa_H → Option (Int × xa_H)) : Nat → Int → Int → xa_H → Option (Int × xa_H)
  | 0, _, _, _ => none
  | n + 1, x4, x5, sh =>
    (fm_S_xOf f2).bind fun v1 =>
    if v1 < x5 then
      K x4 sh
    else
      (fm_S_yOf f1).bind fun v3 =>
      fm_Way_paint_24 i0 f1 f2 f3 x5 (fun (v10 : Int) (s11 : xa_H) =>
        xnm (w32 (x5 + 1) : Int) fun v12 =>
        fm_Way_paint_9 i0 f1 f2 f3 K n v10 v12 s11) xFU x4 v3 sh
theorem jl_Way_paint_9 (i0 : Nat) (f1 : Int) (f2 : Int) (f3 : Int) (σ : xa_H)  (K : Int → xa_H → Option (Int × xa_H)) (hK9 : ∀ (z0 : Int) (sz : xa_H), J 78 87 [(4, xi z0)] [] sz jqW (K z0 sz)) : ∀ (n : Nat) (x4 : Int) (x5 : Int) (sh : xa_H), J 78 9 [(0, xr 7 i0), (1, xi f1), (2, xi f2), (3, xi f3), (4, xi x4), (5, xi x5)] [] sh jqW (fm_Way_paint_9 i0 f1 f2 f3 K n x4 x5 sh) := by
  intro n
  induction n with
  | zero => intro x4 x5 sh; exact jr_none
  | succ n ih9 =>
    intro x4 x5 sh
    rw [fm_Way_paint_9]
    refine jr_iload (e_78 rfl) rfl rfl ?_
    refine jr_iload_n (e_78 rfl) rfl rfl ?_
    refine jr_callP (as := [xi f2]) (S1 := [xi x5]) (e_78 rfl) rfl rfl rfl rfl rfl rfl (jm_S_xOf f2 sh) rfl (fun v1 => ?_)
    refine jr_bri (c := v1 < x5) (pt := 87) (pn := 18) (e_78 rfl) rfl rfl (fun h2 => ?_) (fun h2 => ?_)
    · exact jr_sub (show ([0, 1, 2, 3, 4, 5] : List Nat).Nodup from by decide) (xsb_c (List.Mem.tail _ (List.Mem.tail _ (List.Mem.tail _ (List.Mem.tail _ (List.Mem.head _))))) xsb_n) (hK9 x4 sh)
    · refine jr_iload_n (e_78 rfl) rfl rfl ?_
      refine jr_callP (as := [xi f1]) (S1 := []) (e_78 rfl) rfl rfl rfl rfl rfl rfl (jm_S_yOf f1 sh) rfl (fun v3 => ?_)
      refine jr_istore (L' := [(6, xi v3), (0, xr 7 i0), (1, xi f1), (2, xi f2), (3, xi f3), (4, xi x4), (5, xi x5)]) (e_78 rfl) rfl rfl rfl ?_
      refine jr_sub (show ([6, 0, 1, 2, 3, 4, 5] : List Nat).Nodup from by decide) (xsb_c (List.Mem.tail _ (List.Mem.head _)) (xsb_c (List.Mem.tail _ (List.Mem.tail _ (List.Mem.head _))) (xsb_c (List.Mem.tail _ (List.Mem.tail _ (List.Mem.tail _ (List.Mem.head _)))) (xsb_c (List.Mem.tail _ (List.Mem.tail _ (List.Mem.tail _ (List.Mem.tail _ (List.Mem.head _))))) (xsb_c (List.Mem.tail _ (List.Mem.tail _ (List.Mem.tail _ (List.Mem.tail _ (List.Mem.tail _ (List.Mem.head _)))))) (xsb_c (List.Mem.tail _ (List.Mem.tail _ (List.Mem.tail _ (List.Mem.tail _ (List.Mem.tail _ (List.Mem.tail _ (List.Mem.head _))))))) (xsb_c (List.Mem.head _) xsb_n))))))) (jl_Way_paint_24 i0 f1 f2 f3 x5 σ _ (fun v10 s11 => ?_) xFU x4 v3 sh)
      refine jr_iinc (L2 := fun c => [(5, xi c), (0, xr 7 i0), (1, xi f1), (2, xi f2), (3, xi f3), (4, xi v10)]) (e_78 rfl) rfl rfl rfl (fun _ => rfl) (fun v12 => ?_)
      refine jr_goto (pc' := 9) (e_78 rfl) rfl ?_
      exact jr_sub (show ([5, 0, 1, 2, 3, 4] : List Nat).Nodup from by decide) (xsb_c (List.Mem.tail _ (List.Mem.head _)) (xsb_c (List.Mem.tail _ (List.Mem.tail _ (List.Mem.head _))) (xsb_c (List.Mem.tail _ (List.Mem.tail _ (List.Mem.tail _ (List.Mem.head _)))) (xsb_c (List.Mem.tail _ (List.Mem.tail _ (List.Mem.tail _ (List.Mem.tail _ (List.Mem.head _))))) (xsb_c (List.Mem.tail _ (List.Mem.tail _ (List.Mem.tail _ (List.Mem.tail _ (List.Mem.tail _ (List.Mem.head _)))))) (xsb_c (List.Mem.head _) xsb_n)))))) (ih9 v10 v12 s11)
noncomputable def fm_Way_paint (i0 : Nat) (a1 : Int) (a2 : Int) (a3 : Int) (σ : xa_H) : Option (Int × xa_H) :=
  (fm_S_xOf a1).bind fun v1 =>
  fm_Way_paint_9 i0 a1 a2 a3 (fun (v13 : Int) (s14 : xa_H) =>
    some (v13, s14)) xFU 0 v1 σ
theorem jm_Way_paint (i0 : Nat) (a1 : Int) (a2 : Int) (a3 : Int) (σ : xa_H) : J 78 0 [(0, xr 7 i0), (1, xi a1), (2, xi a2), (3, xi a3)] [] σ jqW (fm_Way_paint i0 a1 a2 a3 σ) := by
  unfold fm_Way_paint
  refine jr_iconst (e_78 rfl) rfl ?_
  refine jr_istore (L' := [(4, xi 0), (0, xr 7 i0), (1, xi a1), (2, xi a2), (3, xi a3)]) (e_78 rfl) rfl rfl rfl ?_
  refine jr_iload_n (e_78 rfl) rfl rfl ?_
  refine jr_callP (as := [xi a1]) (S1 := []) (e_78 rfl) rfl rfl rfl rfl rfl rfl (jm_S_xOf a1 σ) rfl (fun v1 => ?_)
  refine jr_istore (L' := [(5, xi v1), (4, xi 0), (0, xr 7 i0), (1, xi a1), (2, xi a2), (3, xi a3)]) (e_78 rfl) rfl rfl rfl ?_
  refine jr_sub (show ([5, 4, 0, 1, 2, 3] : List Nat).Nodup from by decide) (xsb_c (List.Mem.tail _ (List.Mem.tail _ (List.Mem.head _))) (xsb_c (List.Mem.tail _ (List.Mem.tail _ (List.Mem.tail _ (List.Mem.head _)))) (xsb_c (List.Mem.tail _ (List.Mem.tail _ (List.Mem.tail _ (List.Mem.tail _ (List.Mem.head _))))) (xsb_c (List.Mem.tail _ (List.Mem.tail _ (List.Mem.tail _ (List.Mem.tail _ (List.Mem.tail _ (List.Mem.head _)))))) (xsb_c (List.Mem.tail _ (List.Mem.head _)) (xsb_c (List.Mem.head _) xsb_n)))))) (jl_Way_paint_9 i0 a1 a2 a3 σ _ (fun v13 s14 => ?_) xFU 0 v1 σ)
  refine jr_iload (e_78 rfl) rfl rfl ?_
  exact jr_retW (e_78 rfl) rfl

theorem e_79 {pc : Nat} {en : xa_I} (h : xlk pc xc_79 = some en) : xcd 79 pc = some en := h
noncomputable def fm_Way_doorsSet_4 (i0 : Nat) (σ : xa_H) (K : Int → Option (Int)) : Nat → Int → Int → Option (Int)
  | 0, _, _ => none
  | n + 1, x1, x2 =>
    if 144 ≤ x2 then
      K x1
    else
      if 0 ≤ x2 ∧ x2 < 144 then
        if (σ 33 i0 x2.toNat) < 2 then
          xnm ((xor2 x1 0) : Int) fun v3 =>
          xnm (w32 (x2 + 1) : Int) fun v4 =>
          fm_Way_doorsSet_4 i0 σ K n v3 v4
        else
          if 0 ≤ x2 ∧ x2 < 144 then
            xnm ((xor2 x1 (xshl 1 (w32 ((σ 33 i0 x2.toNat) - 2)))) : Int) fun v5 =>
            xnm (w32 (x2 + 1) : Int) fun v6 =>
            fm_Way_doorsSet_4 i0 σ K n v5 v6
          else none
      else none
theorem jl_Way_doorsSet_4 (i0 : Nat) (σ : xa_H)  (K : Int → Option (Int)) (hK4 : ∀ (z0 : Int), J 79 44 [(1, xi z0)] [] σ (jqP σ) (K z0)) : ∀ (n : Nat) (x1 : Int) (x2 : Int), J 79 4 [(0, xr 7 i0), (1, xi x1), (2, xi x2)] [] σ (jqP σ) (fm_Way_doorsSet_4 i0 σ K n x1 x2) := by
  intro n
  induction n with
  | zero => intro x1 x2; exact jr_none
  | succ n ih4 =>
    intro x1 x2
    rw [fm_Way_doorsSet_4]
    refine jr_iload_n (e_79 rfl) rfl rfl ?_
    refine jr_sipush (e_79 rfl) rfl ?_
    refine jr_bri (c := 144 ≤ x2) (pt := 44) (pn := 11) (e_79 rfl) rfl rfl (fun h1 => ?_) (fun h1 => ?_)
    · exact jr_sub (show ([0, 1, 2] : List Nat).Nodup from by decide) (xsb_c (List.Mem.tail _ (List.Mem.head _)) xsb_n) (hK4 x1)
    · refine jr_iload_n (e_79 rfl) rfl rfl ?_
      refine jr_aload_n (e_79 rfl) rfl rfl ?_
      refine jr_getr (K2 := 33) (i2 := i0) (e_79 rfl) rfl rfl rfl ?_
      refine jr_iload_n (e_79 rfl) rfl rfl ?_
      refine jr_ald (n := 144) (e_79 rfl) rfl rfl rfl ?_
      refine jr_iconst (e_79 rfl) rfl ?_
      refine jr_bri (c := (σ 33 i0 x2.toNat) < 2) (pt := 35) (pn := 22) (e_79 rfl) rfl rfl (fun h2 => ?_) (fun h2 => ?_)
      · refine jr_iconst (e_79 rfl) rfl ?_
        refine jr_ior (e_79 rfl) rfl ?_
        refine jr_nm (fun v3 => ?_)
        refine jr_istore_n (L' := [(1, xi v3), (0, xr 7 i0), (2, xi x2)]) (e_79 rfl) rfl rfl rfl ?_
        refine jr_iinc (L2 := fun c => [(2, xi c), (1, xi v3), (0, xr 7 i0)]) (e_79 rfl) rfl rfl rfl (fun _ => rfl) (fun v4 => ?_)
        refine jr_goto (pc' := 4) (e_79 rfl) rfl ?_
        exact jr_sub (show ([2, 1, 0] : List Nat).Nodup from by decide) (xsb_c (List.Mem.tail _ (List.Mem.tail _ (List.Mem.head _))) (xsb_c (List.Mem.tail _ (List.Mem.head _)) (xsb_c (List.Mem.head _) xsb_n))) (ih4 v3 v4)
      · refine jr_iconst (e_79 rfl) rfl ?_
        refine jr_aload_n (e_79 rfl) rfl rfl ?_
        refine jr_getr (K2 := 33) (i2 := i0) (e_79 rfl) rfl rfl rfl ?_
        refine jr_iload_n (e_79 rfl) rfl rfl ?_
        refine jr_ald (n := 144) (e_79 rfl) rfl rfl rfl ?_
        refine jr_iconst (e_79 rfl) rfl ?_
        refine jr_isub (e_79 rfl) rfl ?_
        refine jr_ishl (e_79 rfl) rfl ?_
        refine jr_goto (pc' := 36) (e_79 rfl) rfl ?_
        refine jr_ior (e_79 rfl) rfl ?_
        refine jr_nm (fun v5 => ?_)
        refine jr_istore_n (L' := [(1, xi v5), (0, xr 7 i0), (2, xi x2)]) (e_79 rfl) rfl rfl rfl ?_
        refine jr_iinc (L2 := fun c => [(2, xi c), (1, xi v5), (0, xr 7 i0)]) (e_79 rfl) rfl rfl rfl (fun _ => rfl) (fun v6 => ?_)
        refine jr_goto (pc' := 4) (e_79 rfl) rfl ?_
        exact jr_sub (show ([2, 1, 0] : List Nat).Nodup from by decide) (xsb_c (List.Mem.tail _ (List.Mem.tail _ (List.Mem.head _))) (xsb_c (List.Mem.tail _ (List.Mem.head _)) (xsb_c (List.Mem.head _) xsb_n))) (ih4 v5 v6)
noncomputable def fm_Way_doorsSet (i0 : Nat) (σ : xa_H) : Option (Int) :=
  fm_Way_doorsSet_4 i0 σ (fun (v7 : Int) =>
    some v7) xFU 0 0
theorem jm_Way_doorsSet (i0 : Nat) (σ : xa_H) : J 79 0 [(0, xr 7 i0)] [] σ (jqP σ) (fm_Way_doorsSet i0 σ) := by
  unfold fm_Way_doorsSet
  refine jr_iconst (e_79 rfl) rfl ?_
  refine jr_istore_n (L' := [(1, xi 0), (0, xr 7 i0)]) (e_79 rfl) rfl rfl rfl ?_
  refine jr_iconst (e_79 rfl) rfl ?_
  refine jr_istore_n (L' := [(2, xi 0), (1, xi 0), (0, xr 7 i0)]) (e_79 rfl) rfl rfl rfl ?_
  refine jr_sub (show ([2, 1, 0] : List Nat).Nodup from by decide) (xsb_c (List.Mem.tail _ (List.Mem.tail _ (List.Mem.head _))) (xsb_c (List.Mem.tail _ (List.Mem.head _)) (xsb_c (List.Mem.head _) xsb_n))) (jl_Way_doorsSet_4 i0 σ _ (fun v7 => ?_) xFU 0 0)
  refine jr_iload_n (e_79 rfl) rfl rfl ?_
  exact jr_retP (e_79 rfl) rfl

theorem e_80 {pc : Nat} {en : xa_I} (h : xlk pc xc_80 = some en) : xcd 80 pc = some en := h
noncomputable def fm_Way_sizeAlong (i0 : Nat) (a1 : Int) (σ : xa_H) : Option (Int) :=
  if a1 = 1 then
    some (σ 7 i0 0)
  else
    if a1 = 2 then
      some (σ 7 i0 1)
    else
      if a1 = 3 then
        some (σ 7 i0 2)
      else
        some (-2)
theorem jm_Way_sizeAlong (i0 : Nat) (a1 : Int) (σ : xa_H) : J 80 0 [(0, xr 7 i0), (1, xi a1)] [] σ (jqP σ) (fm_Way_sizeAlong i0 a1 σ) := by
  unfold fm_Way_sizeAlong
  refine jr_iload_n (e_80 rfl) rfl rfl ?_
  refine jr_ite (fun h3 => ?_) (fun h3 => ?_)
  · refine jr_tabc (pt := 28) (e_80 rfl) rfl h3 rfl ?_
    refine jr_aload_n (e_80 rfl) rfl rfl ?_
    refine jr_geti (e_80 rfl) rfl (by decide +kernel) ?_
    exact jr_retP (e_80 rfl) rfl
  · refine jr_ite (fun h2 => ?_) (fun h2 => ?_)
    · refine jr_tabc (pt := 33) (e_80 rfl) rfl h2 rfl ?_
      refine jr_aload_n (e_80 rfl) rfl rfl ?_
      refine jr_geti (e_80 rfl) rfl (by decide +kernel) ?_
      exact jr_retP (e_80 rfl) rfl
    · refine jr_ite (fun h1 => ?_) (fun h1 => ?_)
      · refine jr_tabc (pt := 38) (e_80 rfl) rfl h1 rfl ?_
        refine jr_aload_n (e_80 rfl) rfl rfl ?_
        refine jr_geti (e_80 rfl) rfl (by decide +kernel) ?_
        exact jr_retP (e_80 rfl) rfl
      · refine jr_tabd (pt := 43) (e_80 rfl) rfl (fun hr => by exfalso; omega) ?_
        refine jr_bipush (e_80 rfl) rfl ?_
        exact jr_retP (e_80 rfl) rfl
