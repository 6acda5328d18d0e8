/-! methods as functions -/
theorem e_51 {pc : Nat} {en : xa_I} (h : xlk pc xc_51 = some en) : xcd 51 pc = some en := h
theorem e_52 {pc : Nat} {en : xa_I} (h : xlk pc xc_52 = some en) : xcd 52 pc = some en := h
theorem e_124 {pc : Nat} {en : xa_I} (h : xlk pc xc_124 = some en) : xcd 124 pc = some en := h
theorem e_0 {pc : Nat} {en : xa_I} (h : xlk pc xc_0 = some en) : xcd 0 pc = some en := h
noncomputable def fm_Arrays_fill_5 (K0 : Nat) (i0 : Nat) (f1 : Int) (f3 : Int) (K : xa_H → Option (xa_H)) : Nat → Int → xa_H → Option (xa_H)
  | 0, _, _ => none
  | n + 1, x2, sh =>
    if f3 ≤ x2 then
      K sh
    else
      if 0 ≤ x2 ∧ x2 < (xalen K0 : Int) then
        xnm (xup sh K0 i0 x2.toNat f1) fun s3 =>
        xnm (w32 (x2 + 1)) fun v4 =>
        fm_Arrays_fill_5 K0 i0 f1 f3 K n v4 s3
      else none
theorem jl_Arrays_fill_5 (K0 : Nat) (i0 : Nat) (f1 : Int) (f3 : Int) (σ : xa_H) (hk0 : xaty K0 = 0) (hg0 : xkg K0 = xmg 0) (K : xa_H → Option (xa_H)) (hK5 : ∀ (sz : xa_H), J 0 20 [] [] sz jqV (K sz)) : ∀ (n : Nat) (x2 : Int) (sh : xa_H), J 0 5 [(0, xr K0 i0), (1, xi f1), (2, xi x2), (3, xi f3)] [] sh jqV (fm_Arrays_fill_5 K0 i0 f1 f3 K n x2 sh) := by
  intro n
  induction n with
  | zero => intro x2 sh; exact jr_none
  | succ n ih5 =>
    intro x2 sh
    rw [fm_Arrays_fill_5]
    refine jr_iload_n (e_0 rfl) rfl rfl ?_
    refine jr_iload_n (e_0 rfl) rfl rfl ?_
    refine jr_bri (c := f3 ≤ x2) (pt := 20) (pn := 10) (e_0 rfl) rfl rfl (fun h2 => ?_) (fun h2 => ?_)
    · exact jr_sub (show ([0, 1, 2, 3] : List Nat).Nodup from by decide) xsb_n (hK5 sh)
    · refine jr_aload_n (e_0 rfl) rfl rfl ?_
      refine jr_iload_n (e_0 rfl) rfl rfl ?_
      refine jr_iload_n (e_0 rfl) rfl rfl ?_
      refine jr_ast (n := (xalen K0 : Int)) (e_0 rfl) rfl hk0 hg0 rfl ?_
      refine jr_nms (fun s3 => ?_)
      refine jr_iinc (L2 := fun c => [(2, xi c), (0, xr K0 i0), (1, xi f1), (3, xi f3)]) (e_0 rfl) rfl rfl rfl (fun _ => rfl) (fun v4 => ?_)
      refine jr_goto (pc' := 5) (e_0 rfl) rfl ?_
      exact jr_sub (show ([2, 0, 1, 3] : List Nat).Nodup from by decide) (xsb_c (List.Mem.tail _ (List.Mem.head _)) (xsb_c (List.Mem.tail _ (List.Mem.tail _ (List.Mem.head _))) (xsb_c (List.Mem.head _) (xsb_c (List.Mem.tail _ (List.Mem.tail _ (List.Mem.tail _ (List.Mem.head _)))) xsb_n)))) (ih5 v4 s3)
noncomputable def fm_Arrays_fill (K0 i0 : Nat) (a1 : Int) (σ : xa_H) : Option (xa_H) :=
  xnm ((xalen K0 : Int)) fun v1 =>
  fm_Arrays_fill_5 K0 i0 a1 v1 (fun (s5 : xa_H) =>
    some s5) xFU 0 σ
theorem jm_Arrays_fill (K0 i0 : Nat) (a1 : Int) (σ : xa_H) (hk0 : xaty K0 = 0) (hg0 : xkg K0 = xmg 0) : J 0 0 [(0, xr K0 i0), (1, xi a1)] [] σ jqV (fm_Arrays_fill K0 i0 a1 σ) := by
  unfold fm_Arrays_fill
  refine jr_iconst (e_0 rfl) rfl ?_
  refine jr_istore_n (L' := [(2, xi 0), (0, xr K0 i0), (1, xi a1)]) (e_0 rfl) rfl rfl rfl ?_
  refine jr_aload_n (e_0 rfl) rfl rfl ?_
  refine jr_alen (a := (xalen K0 : Int)) (e_0 rfl) rfl (xno9 hk0) rfl ?_
  refine jr_nm (fun v1 => ?_)
  refine jr_istore_n (L' := [(3, xi v1), (2, xi 0), (0, xr K0 i0), (1, xi a1)]) (e_0 rfl) rfl rfl rfl ?_
  refine jr_sub (show ([3, 2, 0, 1] : List Nat).Nodup from by decide) (xsb_c (List.Mem.tail _ (List.Mem.tail _ (List.Mem.head _))) (xsb_c (List.Mem.tail _ (List.Mem.tail _ (List.Mem.tail _ (List.Mem.head _)))) (xsb_c (List.Mem.tail _ (List.Mem.head _)) (xsb_c (List.Mem.head _) xsb_n)))) (jl_Arrays_fill_5 K0 i0 a1 v1 σ hk0 hg0 _ (fun s5 => ?_) xFU 0 σ)
  exact jr_retV (e_0 rfl)

theorem e_5 {pc : Nat} {en : xa_I} (h : xlk pc xc_5 = some en) : xcd 5 pc = some en := h
noncomputable def fm_Answer_forget (σ : xa_H) : Option (xa_H) :=
  xnm (xup σ 0 0 1 0) fun s1 =>
  some s1
theorem jm_Answer_forget (σ : xa_H) : J 5 0 [(0, xr 0 0)] [] σ jqV (fm_Answer_forget σ) := by
  unfold fm_Answer_forget
  refine jr_aload_n (e_5 rfl) rfl rfl ?_
  refine jr_iconst (e_5 rfl) rfl ?_
  refine jr_put (e_5 rfl) rfl rfl rfl ?_
  refine jr_nms (fun s1 => ?_)
  exact jr_retV (e_5 rfl)

theorem e_6 {pc : Nat} {en : xa_I} (h : xlk pc xc_6 = some en) : xcd 6 pc = some en := h
noncomputable def fm_Answer_isNew (a1 : Int) (a2 : Int) (a3 : Int) (a4 : Int) (σ : xa_H) : Option (Int × xa_H) :=
  xnm ((w32 ((w32 ((w32 ((w32 ((w32 ((w32 (a1 * 4)) + a2)) * 16)) + a3)) * 16)) + a4))) fun v1 =>
  xnm ((if v1 = (σ 0 0 1) then 0 else 1)) fun v3 =>
  xnm (xup σ 0 0 1 v1) fun s5 =>
  some ((v3 % 2), s5)
theorem jm_Answer_isNew (a1 : Int) (a2 : Int) (a3 : Int) (a4 : Int) (σ : xa_H) : J 6 0 [(0, xr 0 0), (1, xi a1), (2, xi a2), (3, xi a3), (4, xi a4)] [] σ jqW (fm_Answer_isNew a1 a2 a3 a4 σ) := by
  unfold fm_Answer_isNew
  refine jr_iload_n (e_6 rfl) rfl rfl ?_
  refine jr_iconst (e_6 rfl) rfl ?_
  refine jr_imul (e_6 rfl) rfl ?_
  refine jr_iload_n (e_6 rfl) rfl rfl ?_
  refine jr_iadd (e_6 rfl) rfl ?_
  refine jr_bipush (e_6 rfl) rfl ?_
  refine jr_imul (e_6 rfl) rfl ?_
  refine jr_iload_n (e_6 rfl) rfl rfl ?_
  refine jr_iadd (e_6 rfl) rfl ?_
  refine jr_bipush (e_6 rfl) rfl ?_
  refine jr_imul (e_6 rfl) rfl ?_
  refine jr_iload (e_6 rfl) rfl rfl ?_
  refine jr_iadd (e_6 rfl) rfl ?_
  refine jr_nm (fun v1 => ?_)
  refine jr_istore (L' := [(5, xi v1), (0, xr 0 0), (1, xi a1), (2, xi a2), (3, xi a3), (4, xi a4)]) (e_6 rfl) rfl rfl rfl ?_
  refine jr_iload (e_6 rfl) rfl rfl ?_
  refine jr_aload_n (e_6 rfl) rfl rfl ?_
  refine jr_geti (e_6 rfl) rfl (by decide +kernel) ?_
  refine jr_pm1 (fun T => ∀ v3 : Int, J 6 32 [(0, xr 0 0), (5, xi v1)] [xi v3] σ jqW (T v3)) (fun v3 => ?_) (fun T hT => ?_)
  · refine jr_istore (L' := [(6, xi v3), (0, xr 0 0), (5, xi v1)]) (e_6 rfl) rfl rfl rfl ?_
    refine jr_aload_n (e_6 rfl) rfl rfl ?_
    refine jr_iload (e_6 rfl) rfl rfl ?_
    refine jr_put (e_6 rfl) rfl rfl rfl ?_
    refine jr_nms (fun s5 => ?_)
    refine jr_iload (e_6 rfl) rfl rfl ?_
    exact jr_retWz (e_6 rfl) rfl rfl
  · refine jr_br (c := v1 = (σ 0 0 1)) (pt := 31) (pn := 27) (e_6 rfl) rfl rfl (fun h4 => ?_) (fun h4 => ?_)
    · refine jr_iconst (e_6 rfl) rfl ?_
      exact (jr_nme (if_pos h4) (jr_sub (show ([5, 0, 1, 2, 3, 4] : List Nat).Nodup from by decide) (xsb_c (List.Mem.tail _ (List.Mem.head _)) (xsb_c (List.Mem.head _) xsb_n)) (hT 0)))
    · refine jr_iconst (e_6 rfl) rfl ?_
      refine jr_goto (pc' := 32) (e_6 rfl) rfl ?_
      exact (jr_nme (if_neg h4) (jr_sub (show ([5, 0, 1, 2, 3, 4] : List Nat).Nodup from by decide) (xsb_c (List.Mem.tail _ (List.Mem.head _)) (xsb_c (List.Mem.head _) xsb_n)) (hT 1)))

theorem e_7 {pc : Nat} {en : xa_I} (h : xlk pc xc_7 = some en) : xcd 7 pc = some en := h
noncomputable def fm_Answer_none (σ : xa_H) : Option (xa_H) :=
  xnm (xup σ 0 0 2 0) fun s1 =>
  xnm (xup s1 0 0 3 (-6)) fun s2 =>
  some s2
theorem jm_Answer_none (σ : xa_H) : J 7 0 [(0, xr 0 0)] [] σ jqV (fm_Answer_none σ) := by
  unfold fm_Answer_none
  refine jr_aload_n (e_7 rfl) rfl rfl ?_
  refine jr_iconst (e_7 rfl) rfl ?_
  refine jr_put (e_7 rfl) rfl rfl rfl ?_
  refine jr_nms (fun s1 => ?_)
  refine jr_aload_n (e_7 rfl) rfl rfl ?_
  refine jr_bipush (e_7 rfl) rfl ?_
  refine jr_put (e_7 rfl) rfl rfl rfl ?_
  refine jr_nms (fun s2 => ?_)
  exact jr_retV (e_7 rfl)

theorem e_131 {pc : Nat} {en : xa_I} (h : xlk pc xc_131 = some en) : xcd 131 pc = some en := h
noncomputable def fm_S_write (K0 i0 : Nat) (a1 : Int) (a2 : Int) (σ : xa_H) : Option (xa_H) :=
  if a1 < 0 then
    some σ
  else
    if (xalen K0 : Int) ≤ a1 then
      some σ
    else
      if 0 ≤ a1 ∧ a1 < (xalen K0 : Int) then
        xnm (xup σ K0 i0 a1.toNat a2) fun s3 =>
        some s3
      else none
theorem jm_S_write (K0 i0 : Nat) (a1 : Int) (a2 : Int) (σ : xa_H) (hk0 : xaty K0 = 0) (hg0 : xkg K0 = xmg 131) : J 131 0 [(0, xr K0 i0), (1, xi a1), (2, xi a2)] [] σ jqV (fm_S_write K0 i0 a1 a2 σ) := by
  unfold fm_S_write
  refine jr_iload_n (e_131 rfl) rfl rfl ?_
  refine jr_bri (c := a1 < 0) (pt := 14) (pn := 4) (e_131 rfl) rfl rfl (fun h1 => ?_) (fun h1 => ?_)
  · exact jr_retV (e_131 rfl)
  · refine jr_iload_n (e_131 rfl) rfl rfl ?_
    refine jr_aload_n (e_131 rfl) rfl rfl ?_
    refine jr_alen (a := (xalen K0 : Int)) (e_131 rfl) rfl (xno9 hk0) rfl ?_
    refine jr_bri (c := (xalen K0 : Int) ≤ a1) (pt := 14) (pn := 10) (e_131 rfl) rfl rfl (fun h2 => ?_) (fun h2 => ?_)
    · exact jr_retV (e_131 rfl)
    · refine jr_aload_n (e_131 rfl) rfl rfl ?_
      refine jr_iload_n (e_131 rfl) rfl rfl ?_
      refine jr_iload_n (e_131 rfl) rfl rfl ?_
      refine jr_ast (n := (xalen K0 : Int)) (e_131 rfl) rfl hk0 hg0 rfl ?_
      refine jr_nms (fun s3 => ?_)
      exact jr_retV (e_131 rfl)

theorem e_8 {pc : Nat} {en : xa_I} (h : xlk pc xc_8 = some en) : xcd 8 pc = some en := h
noncomputable def fm_Answer_add (a1 : Int) (σ : xa_H) : Option (xa_H) :=
  (fm_S_write 12 0 (σ 0 0 2) a1 σ).bind fun s1 =>
  xnm (xup s1 0 0 2 (w32 ((s1 0 0 2) + 1))) fun s2 =>
  some s2
theorem jm_Answer_add (a1 : Int) (σ : xa_H) : J 8 0 [(0, xr 0 0), (1, xi a1)] [] σ jqV (fm_Answer_add a1 σ) := by
  unfold fm_Answer_add
  refine jr_aload_n (e_8 rfl) rfl rfl ?_
  refine jr_getr (K2 := 12) (i2 := 0) (e_8 rfl) rfl rfl rfl ?_
  refine jr_aload_n (e_8 rfl) rfl rfl ?_
  refine jr_geti (e_8 rfl) rfl (by decide +kernel) ?_
  refine jr_iload_n (e_8 rfl) rfl rfl ?_
  refine jr_callV (as := [xr 12 0, xi (σ 0 0 2), xi a1]) (S1 := []) (e_8 rfl) rfl rfl rfl rfl rfl rfl (jm_S_write 12 0 (σ 0 0 2) a1 σ rfl rfl) rfl (fun s1 => ?_)
  refine jr_aload_n (e_8 rfl) rfl rfl ?_
  refine jr_dup (e_8 rfl) rfl rfl ?_
  refine jr_geti (e_8 rfl) rfl (by decide +kernel) ?_
  refine jr_iconst (e_8 rfl) rfl ?_
  refine jr_iadd (e_8 rfl) rfl ?_
  refine jr_put (e_8 rfl) rfl rfl rfl ?_
  refine jr_nms (fun s2 => ?_)
  exact jr_retV (e_8 rfl)

theorem e_130 {pc : Nat} {en : xa_I} (h : xlk pc xc_130 = some en) : xcd 130 pc = some en := h
noncomputable def fm_S_read (K0 i0 : Nat) (a1 : Int) (σ : xa_H) : Option (Int) :=
  if a1 < 0 then
    some 0
  else
    if (xalen K0 : Int) ≤ a1 then
      some 0
    else
      if 0 ≤ a1 ∧ a1 < (xalen K0 : Int) then
        some (σ K0 i0 a1.toNat)
      else none
theorem jm_S_read (K0 i0 : Nat) (a1 : Int) (σ : xa_H) (hk0 : xaty K0 = 0) : J 130 0 [(0, xr K0 i0), (1, xi a1)] [] σ (jqP σ) (fm_S_read K0 i0 a1 σ) := by
  unfold fm_S_read
  refine jr_iload_n (e_130 rfl) rfl rfl ?_
  refine jr_bri (c := a1 < 0) (pt := 16) (pn := 4) (e_130 rfl) rfl rfl (fun h1 => ?_) (fun h1 => ?_)
  · refine jr_iconst (e_130 rfl) rfl ?_
    exact jr_retP (e_130 rfl) rfl
  · refine jr_iload_n (e_130 rfl) rfl rfl ?_
    refine jr_aload_n (e_130 rfl) rfl rfl ?_
    refine jr_alen (a := (xalen K0 : Int)) (e_130 rfl) rfl (xno9 hk0) rfl ?_
    refine jr_bri (c := (xalen K0 : Int) ≤ a1) (pt := 16) (pn := 10) (e_130 rfl) rfl rfl (fun h2 => ?_) (fun h2 => ?_)
    · refine jr_iconst (e_130 rfl) rfl ?_
      exact jr_retP (e_130 rfl) rfl
    · refine jr_aload_n (e_130 rfl) rfl rfl ?_
      refine jr_iload_n (e_130 rfl) rfl rfl ?_
      refine jr_ald (n := (xalen K0 : Int)) (e_130 rfl) rfl hk0 rfl ?_
      refine jr_goto (pc' := 17) (e_130 rfl) rfl ?_
      exact jr_retP (e_130 rfl) rfl

theorem e_9 {pc : Nat} {en : xa_I} (h : xlk pc xc_9 = some en) : xcd 9 pc = some en := h
noncomputable def fm_Answer_at (a1 : Int) (σ : xa_H) : Option (Int) :=
  if a1 < 0 then
    some (-6)
  else
    if (σ 0 0 2) ≤ a1 then
      some (-6)
    else
      (fm_S_read 12 0 a1 σ).bind fun v3 =>
      some v3
theorem jm_Answer_at (a1 : Int) (σ : xa_H) : J 9 0 [(0, xr 0 0), (1, xi a1)] [] σ (jqP σ) (fm_Answer_at a1 σ) := by
  unfold fm_Answer_at
  refine jr_iload_n (e_9 rfl) rfl rfl ?_
  refine jr_bri (c := a1 < 0) (pt := 23) (pn := 4) (e_9 rfl) rfl rfl (fun h1 => ?_) (fun h1 => ?_)
  · refine jr_bipush (e_9 rfl) rfl ?_
    exact jr_retP (e_9 rfl) rfl
  · refine jr_iload_n (e_9 rfl) rfl rfl ?_
    refine jr_aload_n (e_9 rfl) rfl rfl ?_
    refine jr_geti (e_9 rfl) rfl (by decide +kernel) ?_
    refine jr_bri (c := (σ 0 0 2) ≤ a1) (pt := 23) (pn := 12) (e_9 rfl) rfl rfl (fun h2 => ?_) (fun h2 => ?_)
    · refine jr_bipush (e_9 rfl) rfl ?_
      exact jr_retP (e_9 rfl) rfl
    · refine jr_aload_n (e_9 rfl) rfl rfl ?_
      refine jr_getr (K2 := 12) (i2 := 0) (e_9 rfl) rfl rfl rfl ?_
      refine jr_iload_n (e_9 rfl) rfl rfl ?_
      refine jr_callP (as := [xr 12 0, xi a1]) (S1 := []) (e_9 rfl) rfl rfl rfl rfl rfl rfl (jm_S_read 12 0 a1 σ rfl) rfl (fun v3 => ?_)
      refine jr_goto (pc' := 25) (e_9 rfl) rfl ?_
      exact jr_retP (e_9 rfl) rfl

theorem e_11 {pc : Nat} {en : xa_I} (h : xlk pc xc_11 = some en) : xcd 11 pc = some en := h
noncomputable def fm_Cheapest_weigh_2 (K1 : Nat) (i1 : Nat) (f2 : Int) (K : xa_H → Option (xa_H)) : Nat → Int → xa_H → Option (xa_H)
  | 0, _, _ => none
  | n + 1, x3, sh =>
    if 12 ≤ x3 then
      K sh
    else
      (fm_S_read K1 i1 0 sh).bind fun v2 =>
      xj (fun (v4 : Int) =>
        if 0 ≤ x3 ∧ x3 < 12 then
          xnm (xup sh 13 0 x3.toNat (w32 ((w32 (v4 * 4096)) + 1))) fun s6 =>
          xnm (w32 (x3 + 1)) fun v7 =>
          fm_Cheapest_weigh_2 K1 i1 f2 K n v7 s6
        else none) fun K5 =>
      if x3 = 4 then
        (fm_S_read K1 i1 1 sh).bind fun v9 =>
        xnm ((w32 (v9 * f2))) fun v10 =>
        K5 v10
      else
        if x3 = 5 then
          (fm_S_read K1 i1 2 sh).bind fun v12 =>
          K5 v12
        else
          if x3 < 6 then
            K5 v2
          else
            (fm_S_read K1 i1 3 sh).bind fun v14 =>
            K5 v14
theorem jl_Cheapest_weigh_2 (K1 : Nat) (i1 : Nat) (f2 : Int) (σ : xa_H) (hk1 : xaty K1 = 0) (hg1 : xkg K1 = xmg 11) (K : xa_H → Option (xa_H)) (hK2 : ∀ (sz : xa_H), J 11 80 [] [] sz jqV (K sz)) : ∀ (n : Nat) (x3 : Int) (sh : xa_H), J 11 2 [(0, xr 1 0), (1, xr K1 i1), (2, xi f2), (3, xi x3)] [] sh jqV (fm_Cheapest_weigh_2 K1 i1 f2 K n x3 sh) := by
  intro n
  induction n with
  | zero => intro x3 sh; exact jr_none
  | succ n ih2 =>
    intro x3 sh
    rw [fm_Cheapest_weigh_2]
    refine jr_iload_n (e_11 rfl) rfl rfl ?_
    refine jr_bipush (e_11 rfl) rfl ?_
    refine jr_bri (c := 12 ≤ x3) (pt := 80) (pn := 8) (e_11 rfl) rfl rfl (fun h1 => ?_) (fun h1 => ?_)
    · exact jr_sub (show ([0, 1, 2, 3] : List Nat).Nodup from by decide) xsb_n (hK2 sh)
    · refine jr_aload_n (e_11 rfl) rfl rfl ?_
      refine jr_iconst (e_11 rfl) rfl ?_
      refine jr_callP (as := [xr K1 i1, xi 0]) (S1 := []) (e_11 rfl) rfl rfl rfl rfl rfl rfl (jm_S_read K1 i1 0 sh hk1) rfl (fun v2 => ?_)
      refine jr_istore (L' := [(4, xi v2), (0, xr 1 0), (1, xr K1 i1), (2, xi f2), (3, xi x3)]) (e_11 rfl) rfl rfl rfl ?_
      refine jr_iload_n (e_11 rfl) rfl rfl ?_
      refine jr_iconst (e_11 rfl) rfl ?_
      refine jr_j (fun K5 => ∀ (v4 : Int), J 11 60 [(0, xr 1 0), (1, xr K1 i1), (2, xi f2), (3, xi x3), (4, xi v4)] [] sh jqV (K5 v4)) (fun v4 => ?_) (fun K5 hK5 => ?_)
      · refine jr_aload_n (e_11 rfl) rfl rfl ?_
        refine jr_getr (K2 := 13) (i2 := 0) (e_11 rfl) rfl rfl rfl ?_
        refine jr_iload_n (e_11 rfl) rfl rfl ?_
        refine jr_iload (e_11 rfl) rfl rfl ?_
        refine jr_sipush (e_11 rfl) rfl ?_
        refine jr_imul (e_11 rfl) rfl ?_
        refine jr_iconst (e_11 rfl) rfl ?_
        refine jr_iadd (e_11 rfl) rfl ?_
        refine jr_ast (n := 12) (e_11 rfl) rfl rfl rfl rfl ?_
        refine jr_nms (fun s6 => ?_)
        refine jr_iinc (L2 := fun c => [(3, xi c), (0, xr 1 0), (1, xr K1 i1), (2, xi f2), (4, xi v4)]) (e_11 rfl) rfl rfl rfl (fun _ => rfl) (fun v7 => ?_)
        refine jr_goto (pc' := 2) (e_11 rfl) rfl ?_
        exact jr_sub (show ([3, 0, 1, 2, 4] : List Nat).Nodup from by decide) (xsb_c (List.Mem.tail _ (List.Mem.head _)) (xsb_c (List.Mem.tail _ (List.Mem.tail _ (List.Mem.head _))) (xsb_c (List.Mem.tail _ (List.Mem.tail _ (List.Mem.tail _ (List.Mem.head _)))) (xsb_c (List.Mem.head _) xsb_n)))) (ih2 v7 s6)
      · refine jr_brx (c := x3 = 4) (pt := 32) (pn := 20) (e_11 rfl) rfl rfl (fun h8 => ?_) (fun h8 => ?_)
        · refine jr_aload_n (e_11 rfl) rfl rfl ?_
          refine jr_iconst (e_11 rfl) rfl ?_
          refine jr_callP (as := [xr K1 i1, xi 1]) (S1 := []) (e_11 rfl) rfl rfl rfl rfl rfl rfl (jm_S_read K1 i1 1 sh hk1) rfl (fun v9 => ?_)
          refine jr_iload_n (e_11 rfl) rfl rfl ?_
          refine jr_imul (e_11 rfl) rfl ?_
          refine jr_nm (fun v10 => ?_)
          refine jr_istore (L' := [(4, xi v10), (0, xr 1 0), (1, xr K1 i1), (2, xi f2), (3, xi x3)]) (e_11 rfl) rfl rfl rfl ?_
          refine jr_goto (pc' := 60) (e_11 rfl) rfl ?_
          exact jr_sub (show ([4, 0, 1, 2, 3] : List Nat).Nodup from by decide) (xsb_c (List.Mem.tail _ (List.Mem.head _)) (xsb_c (List.Mem.tail _ (List.Mem.tail _ (List.Mem.head _))) (xsb_c (List.Mem.tail _ (List.Mem.tail _ (List.Mem.tail _ (List.Mem.head _)))) (xsb_c (List.Mem.tail _ (List.Mem.tail _ (List.Mem.tail _ (List.Mem.tail _ (List.Mem.head _))))) (xsb_c (List.Mem.head _) xsb_n))))) (hK5 v10)
        · refine jr_iload_n (e_11 rfl) rfl rfl ?_
          refine jr_iconst (e_11 rfl) rfl ?_
          refine jr_brx (c := x3 = 5) (pt := 47) (pn := 37) (e_11 rfl) rfl rfl (fun h11 => ?_) (fun h11 => ?_)
          · refine jr_aload_n (e_11 rfl) rfl rfl ?_
            refine jr_iconst (e_11 rfl) rfl ?_
            refine jr_callP (as := [xr K1 i1, xi 2]) (S1 := []) (e_11 rfl) rfl rfl rfl rfl rfl rfl (jm_S_read K1 i1 2 sh hk1) rfl (fun v12 => ?_)
            refine jr_istore (L' := [(4, xi v12), (0, xr 1 0), (1, xr K1 i1), (2, xi f2), (3, xi x3)]) (e_11 rfl) rfl rfl rfl ?_
            refine jr_goto (pc' := 60) (e_11 rfl) rfl ?_
            exact jr_sub (show ([4, 0, 1, 2, 3] : List Nat).Nodup from by decide) (xsb_c (List.Mem.tail _ (List.Mem.head _)) (xsb_c (List.Mem.tail _ (List.Mem.tail _ (List.Mem.head _))) (xsb_c (List.Mem.tail _ (List.Mem.tail _ (List.Mem.tail _ (List.Mem.head _)))) (xsb_c (List.Mem.tail _ (List.Mem.tail _ (List.Mem.tail _ (List.Mem.tail _ (List.Mem.head _))))) (xsb_c (List.Mem.head _) xsb_n))))) (hK5 v12)
          · refine jr_iload_n (e_11 rfl) rfl rfl ?_
            refine jr_bipush (e_11 rfl) rfl ?_
            refine jr_bri (c := x3 < 6) (pt := 60) (pn := 53) (e_11 rfl) rfl rfl (fun h13 => ?_) (fun h13 => ?_)
            · exact jr_sub (show ([4, 0, 1, 2, 3] : List Nat).Nodup from by decide) (xsb_c (List.Mem.tail _ (List.Mem.head _)) (xsb_c (List.Mem.tail _ (List.Mem.tail _ (List.Mem.head _))) (xsb_c (List.Mem.tail _ (List.Mem.tail _ (List.Mem.tail _ (List.Mem.head _)))) (xsb_c (List.Mem.tail _ (List.Mem.tail _ (List.Mem.tail _ (List.Mem.tail _ (List.Mem.head _))))) (xsb_c (List.Mem.head _) xsb_n))))) (hK5 v2)
            · refine jr_aload_n (e_11 rfl) rfl rfl ?_
              refine jr_iconst (e_11 rfl) rfl ?_
              refine jr_callP (as := [xr K1 i1, xi 3]) (S1 := []) (e_11 rfl) rfl rfl rfl rfl rfl rfl (jm_S_read K1 i1 3 sh hk1) rfl (fun v14 => ?_)
              refine jr_istore (L' := [(4, xi v14), (0, xr 1 0), (1, xr K1 i1), (2, xi f2), (3, xi x3)]) (e_11 rfl) rfl rfl rfl ?_
              exact jr_sub (show ([4, 0, 1, 2, 3] : List Nat).Nodup from by decide) (xsb_c (List.Mem.tail _ (List.Mem.head _)) (xsb_c (List.Mem.tail _ (List.Mem.tail _ (List.Mem.head _))) (xsb_c (List.Mem.tail _ (List.Mem.tail _ (List.Mem.tail _ (List.Mem.head _)))) (xsb_c (List.Mem.tail _ (List.Mem.tail _ (List.Mem.tail _ (List.Mem.tail _ (List.Mem.head _))))) (xsb_c (List.Mem.head _) xsb_n))))) (hK5 v14)
noncomputable def fm_Cheapest_weigh (K1 i1 : Nat) (a2 : Int) (σ : xa_H) : Option (xa_H) :=
  fm_Cheapest_weigh_2 K1 i1 a2 (fun (s15 : xa_H) =>
    some s15) xFU 0 σ
theorem jm_Cheapest_weigh (K1 i1 : Nat) (a2 : Int) (σ : xa_H) (hk1 : xaty K1 = 0) (hg1 : xkg K1 = xmg 11) : J 11 0 [(0, xr 1 0), (1, xr K1 i1), (2, xi a2)] [] σ jqV (fm_Cheapest_weigh K1 i1 a2 σ) := by
  unfold fm_Cheapest_weigh
  refine jr_iconst (e_11 rfl) rfl ?_
  refine jr_istore_n (L' := [(3, xi 0), (0, xr 1 0), (1, xr K1 i1), (2, xi a2)]) (e_11 rfl) rfl rfl rfl ?_
  refine jr_sub (show ([3, 0, 1, 2] : List Nat).Nodup from by decide) (xsb_c (List.Mem.tail _ (List.Mem.head _)) (xsb_c (List.Mem.tail _ (List.Mem.tail _ (List.Mem.head _))) (xsb_c (List.Mem.tail _ (List.Mem.tail _ (List.Mem.tail _ (List.Mem.head _)))) (xsb_c (List.Mem.head _) xsb_n)))) (jl_Cheapest_weigh_2 K1 i1 a2 σ hk1 hg1 _ (fun s15 => ?_) xFU 0 σ)
  exact jr_retV (e_11 rfl)

theorem e_17 {pc : Nat} {en : xa_I} (h : xlk pc xc_17 = some en) : xcd 17 pc = some en := h
noncomputable def fm_Cheapest_put (a1 : Int) (a2 : Int) (σ : xa_H) : Option (xa_H) :=
  (fm_S_write 15 0 a1 a2 σ).bind fun s1 =>
  (fm_S_write 16 0 a2 a1 s1).bind fun s2 =>
  some s2
theorem jm_Cheapest_put (a1 : Int) (a2 : Int) (σ : xa_H) : J 17 0 [(0, xr 1 0), (1, xi a1), (2, xi a2)] [] σ jqV (fm_Cheapest_put a1 a2 σ) := by
  unfold fm_Cheapest_put
  refine jr_aload_n (e_17 rfl) rfl rfl ?_
  refine jr_getr (K2 := 15) (i2 := 0) (e_17 rfl) rfl rfl rfl ?_
  refine jr_iload_n (e_17 rfl) rfl rfl ?_
  refine jr_iload_n (e_17 rfl) rfl rfl ?_
  refine jr_callV (as := [xr 15 0, xi a1, xi a2]) (S1 := []) (e_17 rfl) rfl rfl rfl rfl rfl rfl (jm_S_write 15 0 a1 a2 σ rfl rfl) rfl (fun s1 => ?_)
  refine jr_aload_n (e_17 rfl) rfl rfl ?_
  refine jr_getr (K2 := 16) (i2 := 0) (e_17 rfl) rfl rfl rfl ?_
  refine jr_iload_n (e_17 rfl) rfl rfl ?_
  refine jr_iload_n (e_17 rfl) rfl rfl ?_
  refine jr_callV (as := [xr 16 0, xi a2, xi a1]) (S1 := []) (e_17 rfl) rfl rfl rfl rfl rfl rfl (jm_S_write 16 0 a2 a1 s1 rfl rfl) rfl (fun s2 => ?_)
  exact jr_retV (e_17 rfl)

theorem e_18 {pc : Nat} {en : xa_I} (h : xlk pc xc_18 = some en) : xcd 18 pc = some en := h
noncomputable def fm_Cheapest_rise_9 (f1 : Int) (K : Int → xa_H → Option (xa_H)) : Nat → Int → xa_H → Option (xa_H)
  | 0, _, _ => none
  | n + 1, x2, sh =>
    if x2 ≤ 0 then
      K x2 sh
    else
      (fm_S_read 15 0 (xdiv (w32 (x2 - 1)) 2) sh).bind fun v3 =>
      (fm_S_read 14 0 v3 sh).bind fun v4 =>
      (fm_S_read 14 0 f1 sh).bind fun v5 =>
      if v5 < v4 then
        (fm_Cheapest_put x2 v3 sh).bind fun s7 =>
        xnm ((xdiv (w32 (x2 - 1)) 2)) fun v8 =>
        fm_Cheapest_rise_9 f1 K n v8 s7
      else
        K x2 sh
theorem jl_Cheapest_rise_9 (f1 : Int) (σ : xa_H)  (K : Int → xa_H → Option (xa_H)) (hK9 : ∀ (z0 : Int) (sz : xa_H), J 18 63 [(0, xr 1 0), (1, xi f1), (2, xi z0)] [] sz jqV (K z0 sz)) : ∀ (n : Nat) (x2 : Int) (sh : xa_H), J 18 9 [(0, xr 1 0), (1, xi f1), (2, xi x2)] [] sh jqV (fm_Cheapest_rise_9 f1 K n x2 sh) := by
  intro n
  induction n with
  | zero => intro x2 sh; exact jr_none
  | succ n ih9 =>
    intro x2 sh
    rw [fm_Cheapest_rise_9]
    refine jr_iload_n (e_18 rfl) rfl rfl ?_
    refine jr_bri (c := x2 ≤ 0) (pt := 63) (pn := 13) (e_18 rfl) rfl rfl (fun h2 => ?_) (fun h2 => ?_)
    · exact jr_sub (show ([0, 1, 2] : List Nat).Nodup from by decide) (xsb_c (List.Mem.head _) (xsb_c (List.Mem.tail _ (List.Mem.head _)) (xsb_c (List.Mem.tail _ (List.Mem.tail _ (List.Mem.head _))) xsb_n))) (hK9 x2 sh)
    · refine jr_aload_n (e_18 rfl) rfl rfl ?_
      refine jr_getr (K2 := 15) (i2 := 0) (e_18 rfl) rfl rfl rfl ?_
      refine jr_iload_n (e_18 rfl) rfl rfl ?_
      refine jr_iconst (e_18 rfl) rfl ?_
      refine jr_isub (e_18 rfl) rfl ?_
      refine jr_iconst (e_18 rfl) rfl ?_
      refine jr_idiv (e_18 rfl) rfl (by decide) ?_
      refine jr_callP (as := [xr 15 0, xi (xdiv (w32 (x2 - 1)) 2)]) (S1 := []) (e_18 rfl) rfl rfl rfl rfl rfl rfl (jm_S_read 15 0 (xdiv (w32 (x2 - 1)) 2) sh rfl) rfl (fun v3 => ?_)
      refine jr_istore_n (L' := [(3, xi v3), (0, xr 1 0), (1, xi f1), (2, xi x2)]) (e_18 rfl) rfl rfl rfl ?_
      refine jr_aload_n (e_18 rfl) rfl rfl ?_
      refine jr_getr (K2 := 14) (i2 := 0) (e_18 rfl) rfl rfl rfl ?_
      refine jr_iload_n (e_18 rfl) rfl rfl ?_
      refine jr_callP (as := [xr 14 0, xi v3]) (S1 := []) (e_18 rfl) rfl rfl rfl rfl rfl rfl (jm_S_read 14 0 v3 sh rfl) rfl (fun v4 => ?_)
      refine jr_aload_n (e_18 rfl) rfl rfl ?_
      refine jr_getr (K2 := 14) (i2 := 0) (e_18 rfl) rfl rfl rfl ?_
      refine jr_iload_n (e_18 rfl) rfl rfl ?_
      refine jr_callP (as := [xr 14 0, xi f1]) (S1 := [xi v4]) (e_18 rfl) rfl rfl rfl rfl rfl rfl (jm_S_read 14 0 f1 sh rfl) rfl (fun v5 => ?_)
      refine jr_bri (c := v5 < v4) (pt := 48) (pn := 45) (e_18 rfl) rfl rfl (fun h6 => ?_) (fun h6 => ?_)
      · refine jr_aload_n (e_18 rfl) rfl rfl ?_
        refine jr_iload_n (e_18 rfl) rfl rfl ?_
        refine jr_iload_n (e_18 rfl) rfl rfl ?_
        refine jr_callV (as := [xr 1 0, xi x2, xi v3]) (S1 := []) (e_18 rfl) rfl rfl rfl rfl rfl rfl (jm_Cheapest_put x2 v3 sh) rfl (fun s7 => ?_)
        refine jr_iload_n (e_18 rfl) rfl rfl ?_
        refine jr_iconst (e_18 rfl) rfl ?_
        refine jr_isub (e_18 rfl) rfl ?_
        refine jr_iconst (e_18 rfl) rfl ?_
        refine jr_idiv (e_18 rfl) rfl (by decide) ?_
        refine jr_nm (fun v8 => ?_)
        refine jr_istore_n (L' := [(2, xi v8), (3, xi v3), (0, xr 1 0), (1, xi f1)]) (e_18 rfl) rfl rfl rfl ?_
        refine jr_goto (pc' := 9) (e_18 rfl) rfl ?_
        exact jr_sub (show ([2, 3, 0, 1] : List Nat).Nodup from by decide) (xsb_c (List.Mem.tail _ (List.Mem.tail _ (List.Mem.head _))) (xsb_c (List.Mem.tail _ (List.Mem.tail _ (List.Mem.tail _ (List.Mem.head _)))) (xsb_c (List.Mem.head _) xsb_n))) (ih9 v8 s7)
      · refine jr_goto (pc' := 63) (e_18 rfl) rfl ?_
        exact jr_sub (show ([3, 0, 1, 2] : List Nat).Nodup from by decide) (xsb_c (List.Mem.tail _ (List.Mem.head _)) (xsb_c (List.Mem.tail _ (List.Mem.tail _ (List.Mem.head _))) (xsb_c (List.Mem.tail _ (List.Mem.tail _ (List.Mem.tail _ (List.Mem.head _)))) xsb_n))) (hK9 x2 sh)
noncomputable def fm_Cheapest_rise (a1 : Int) (σ : xa_H) : Option (xa_H) :=
  (fm_S_read 16 0 a1 σ).bind fun v1 =>
  fm_Cheapest_rise_9 a1 (fun (v9 : Int) (s10 : xa_H) =>
    (fm_Cheapest_put v9 a1 s10).bind fun s11 =>
    some s11) xFU v1 σ
theorem jm_Cheapest_rise (a1 : Int) (σ : xa_H) : J 18 0 [(0, xr 1 0), (1, xi a1)] [] σ jqV (fm_Cheapest_rise a1 σ) := by
  unfold fm_Cheapest_rise
  refine jr_aload_n (e_18 rfl) rfl rfl ?_
  refine jr_getr (K2 := 16) (i2 := 0) (e_18 rfl) rfl rfl rfl ?_
  refine jr_iload_n (e_18 rfl) rfl rfl ?_
  refine jr_callP (as := [xr 16 0, xi a1]) (S1 := []) (e_18 rfl) rfl rfl rfl rfl rfl rfl (jm_S_read 16 0 a1 σ rfl) rfl (fun v1 => ?_)
  refine jr_istore_n (L' := [(2, xi v1), (0, xr 1 0), (1, xi a1)]) (e_18 rfl) rfl rfl rfl ?_
  refine jr_sub (show ([2, 0, 1] : List Nat).Nodup from by decide) (xsb_c (List.Mem.tail _ (List.Mem.head _)) (xsb_c (List.Mem.tail _ (List.Mem.tail _ (List.Mem.head _))) (xsb_c (List.Mem.head _) xsb_n))) (jl_Cheapest_rise_9 a1 σ _ (fun v9 s10 => ?_) xFU v1 σ)
  refine jr_aload_n (e_18 rfl) rfl rfl ?_
  refine jr_iload_n (e_18 rfl) rfl rfl ?_
  refine jr_iload_n (e_18 rfl) rfl rfl ?_
  refine jr_callV (as := [xr 1 0, xi v9, xi a1]) (S1 := []) (e_18 rfl) rfl rfl rfl rfl rfl rfl (jm_Cheapest_put v9 a1 s10) rfl (fun s11 => ?_)
  exact jr_retV (e_18 rfl)

theorem e_38 {pc : Nat} {en : xa_I} (h : xlk pc xc_38 = some en) : xcd 38 pc = some en := h
noncomputable def fm_Search_fits (a1 : Int) (σ : xa_H) : Option (Int × xa_H) :=
  (fm_S_read 21 0 a1 σ).bind fun v1 =>
  xj (fun (v3 : Int) (s4 : xa_H) =>
    if (xand v3 (s4 3 0 9)) = 0 then
      some (1, s4)
    else
      some (0, s4)) fun K5 =>
  if v1 = (-1) then
    (fm_Search_lookAt a1 σ).bind fun v8 =>
    (fm_S_write 21 0 a1 v8 σ).bind fun s9 =>
    K5 v8 s9
  else
    K5 v1 σ
theorem jm_Search_fits (a1 : Int) (σ : xa_H) : J 38 0 [(0, xr 3 0), (1, xi a1)] [] σ jqW (fm_Search_fits a1 σ) := by
  unfold fm_Search_fits
  refine jr_aload_n (e_38 rfl) rfl rfl ?_
  refine jr_getr (K2 := 21) (i2 := 0) (e_38 rfl) rfl rfl rfl ?_
  refine jr_iload_n (e_38 rfl) rfl rfl ?_
  refine jr_callP (as := [xr 21 0, xi a1]) (S1 := []) (e_38 rfl) rfl rfl rfl rfl rfl rfl (jm_S_read 21 0 a1 σ rfl) rfl (fun v1 => ?_)
  refine jr_istore_n (L' := [(2, xi v1), (0, xr 3 0), (1, xi a1)]) (e_38 rfl) rfl rfl rfl ?_
  refine jr_iload_n (e_38 rfl) rfl rfl ?_
  refine jr_iconst (e_38 rfl) rfl ?_
  refine jr_j (fun K5 => ∀ (v3 : Int) (s4 : xa_H), J 38 29 [(0, xr 3 0), (2, xi v3)] [] s4 jqW (K5 v3 s4)) (fun v3 s4 => ?_) (fun K5 hK5 => ?_)
  · refine jr_iload_n (e_38 rfl) rfl rfl ?_
    refine jr_aload_n (e_38 rfl) rfl rfl ?_
    refine jr_geti (e_38 rfl) rfl (by decide +kernel) ?_
    refine jr_iand (e_38 rfl) rfl ?_
    refine jr_brx (c := (xand v3 (s4 3 0 9)) = 0) (pt := 42) (pn := 38) (e_38 rfl) rfl rfl (fun h6 => ?_) (fun h6 => ?_)
    · refine jr_iconst (e_38 rfl) rfl ?_
      refine jr_goto (pc' := 43) (e_38 rfl) rfl ?_
      exact jr_retWz (e_38 rfl) rfl rfl
    · refine jr_iconst (e_38 rfl) rfl ?_
      exact jr_retWz (e_38 rfl) rfl rfl
  · refine jr_brx (c := v1 = (-1)) (pt := 29) (pn := 14) (e_38 rfl) rfl rfl (fun h7 => ?_) (fun h7 => ?_)
    · refine jr_aload_n (e_38 rfl) rfl rfl ?_
      refine jr_iload_n (e_38 rfl) rfl rfl ?_
      refine jr_callP (as := [xr 3 0, xi a1]) (S1 := []) (e_38 rfl) rfl rfl rfl rfl rfl rfl (jm_Search_lookAt a1 σ) rfl (fun v8 => ?_)
      refine jr_istore_n (L' := [(2, xi v8), (0, xr 3 0), (1, xi a1)]) (e_38 rfl) rfl rfl rfl ?_
      refine jr_aload_n (e_38 rfl) rfl rfl ?_
      refine jr_getr (K2 := 21) (i2 := 0) (e_38 rfl) rfl rfl rfl ?_
      refine jr_iload_n (e_38 rfl) rfl rfl ?_
      refine jr_iload_n (e_38 rfl) rfl rfl ?_
      refine jr_callV (as := [xr 21 0, xi a1, xi v8]) (S1 := []) (e_38 rfl) rfl rfl rfl rfl rfl rfl (jm_S_write 21 0 a1 v8 σ rfl rfl) rfl (fun s9 => ?_)
      exact jr_sub (show ([2, 0, 1] : List Nat).Nodup from by decide) (xsb_c (List.Mem.tail _ (List.Mem.head _)) (xsb_c (List.Mem.head _) xsb_n)) (hK5 v8 s9)
    · exact jr_sub (show ([2, 0, 1] : List Nat).Nodup from by decide) (xsb_c (List.Mem.tail _ (List.Mem.head _)) (xsb_c (List.Mem.head _) xsb_n)) (hK5 v1 σ)

theorem e_14 {pc : Nat} {en : xa_I} (h : xlk pc xc_14 = some en) : xcd 14 pc = some en := h
noncomputable def fm_Cheapest_come (a1 : Int) (a2 : Int) (σ : xa_H) : Option (xa_H) :=
  (fm_S_read 14 0 a1 σ).bind fun v1 =>
  if v1 ≤ a2 then
    some σ
  else
    xb2 (fm_Search_fits a1 σ) fun v3 s4 =>
    if v3 = 0 then
      some s4
    else
      (fm_S_read 14 0 a1 s4).bind fun v6 =>
      xj (fun (s8 : xa_H) =>
        (fm_S_write 14 0 a1 a2 s8).bind fun s10 =>
        (fm_Cheapest_rise a1 s10).bind fun s11 =>
        some s11) fun K9 =>
      if v6 = 2147483647 then
        (fm_S_write 16 0 a1 (s4 1 0 5) s4).bind fun s13 =>
        xnm (xup s13 1 0 5 (w32 ((s13 1 0 5) + 1))) fun s14 =>
        K9 s14
      else
        K9 s4
theorem jm_Cheapest_come (a1 : Int) (a2 : Int) (σ : xa_H) : J 14 0 [(0, xr 1 0), (1, xi a1), (2, xi a2)] [] σ jqV (fm_Cheapest_come a1 a2 σ) := by
  unfold fm_Cheapest_come
  refine jr_iload_n (e_14 rfl) rfl rfl ?_
  refine jr_aload_n (e_14 rfl) rfl rfl ?_
  refine jr_getr (K2 := 14) (i2 := 0) (e_14 rfl) rfl rfl rfl ?_
  refine jr_iload_n (e_14 rfl) rfl rfl ?_
  refine jr_callP (as := [xr 14 0, xi a1]) (S1 := [xi a2]) (e_14 rfl) rfl rfl rfl rfl rfl rfl (jm_S_read 14 0 a1 σ rfl) rfl (fun v1 => ?_)
  refine jr_bri (c := v1 ≤ a2) (pt := 23) (pn := 12) (e_14 rfl) rfl rfl (fun h2 => ?_) (fun h2 => ?_)
  · exact jr_retV (e_14 rfl)
  · refine jr_aload_n (e_14 rfl) rfl rfl ?_
    refine jr_getr (K2 := 3) (i2 := 0) (e_14 rfl) rfl rfl rfl ?_
    refine jr_iload_n (e_14 rfl) rfl rfl ?_
    refine jr_callX (as := [xr 3 0, xi a1]) (S1 := []) (e_14 rfl) rfl rfl rfl rfl rfl rfl (jm_Search_fits a1 σ) rfl (fun v3 s4 => ?_)
    refine jr_brx (c := v3 = 0) (pt := 24) (pn := 23) (e_14 rfl) rfl rfl (fun h5 => ?_) (fun h5 => ?_)
    · exact jr_retV (e_14 rfl)
    · refine jr_aload_n (e_14 rfl) rfl rfl ?_
      refine jr_getr (K2 := 14) (i2 := 0) (e_14 rfl) rfl rfl rfl ?_
      refine jr_iload_n (e_14 rfl) rfl rfl ?_
      refine jr_callP (as := [xr 14 0, xi a1]) (S1 := []) (e_14 rfl) rfl rfl rfl rfl rfl rfl (jm_S_read 14 0 a1 s4 rfl) rfl (fun v6 => ?_)
      refine jr_ldc (a := 2147483647) (e_14 rfl) rfl rfl ?_
      refine jr_j (fun K9 => ∀ (s8 : xa_H), J 14 59 [(0, xr 1 0), (1, xi a1), (2, xi a2)] [] s8 jqV (K9 s8)) (fun s8 => ?_) (fun K9 hK9 => ?_)
      · refine jr_aload_n (e_14 rfl) rfl rfl ?_
        refine jr_getr (K2 := 14) (i2 := 0) (e_14 rfl) rfl rfl rfl ?_
        refine jr_iload_n (e_14 rfl) rfl rfl ?_
        refine jr_iload_n (e_14 rfl) rfl rfl ?_
        refine jr_callV (as := [xr 14 0, xi a1, xi a2]) (S1 := []) (e_14 rfl) rfl rfl rfl rfl rfl rfl (jm_S_write 14 0 a1 a2 s8 rfl rfl) rfl (fun s10 => ?_)
        refine jr_aload_n (e_14 rfl) rfl rfl ?_
        refine jr_iload_n (e_14 rfl) rfl rfl ?_
        refine jr_callV (as := [xr 1 0, xi a1]) (S1 := []) (e_14 rfl) rfl rfl rfl rfl rfl rfl (jm_Cheapest_rise a1 s10) rfl (fun s11 => ?_)
        exact jr_retV (e_14 rfl)
      · refine jr_brx (c := v6 = 2147483647) (pt := 59) (pn := 37) (e_14 rfl) rfl rfl (fun h12 => ?_) (fun h12 => ?_)
        · refine jr_aload_n (e_14 rfl) rfl rfl ?_
          refine jr_getr (K2 := 16) (i2 := 0) (e_14 rfl) rfl rfl rfl ?_
          refine jr_iload_n (e_14 rfl) rfl rfl ?_
          refine jr_aload_n (e_14 rfl) rfl rfl ?_
          refine jr_geti (e_14 rfl) rfl (by decide +kernel) ?_
          refine jr_callV (as := [xr 16 0, xi a1, xi (s4 1 0 5)]) (S1 := []) (e_14 rfl) rfl rfl rfl rfl rfl rfl (jm_S_write 16 0 a1 (s4 1 0 5) s4 rfl rfl) rfl (fun s13 => ?_)
          refine jr_aload_n (e_14 rfl) rfl rfl ?_
          refine jr_dup (e_14 rfl) rfl rfl ?_
          refine jr_geti (e_14 rfl) rfl (by decide +kernel) ?_
          refine jr_iconst (e_14 rfl) rfl ?_
          refine jr_iadd (e_14 rfl) rfl ?_
          refine jr_put (e_14 rfl) rfl rfl rfl ?_
          refine jr_nms (fun s14 => ?_)
          exact jr_sub (show ([0, 1, 2] : List Nat).Nodup from by decide) (xsb_c (List.Mem.head _) (xsb_c (List.Mem.tail _ (List.Mem.head _)) (xsb_c (List.Mem.tail _ (List.Mem.tail _ (List.Mem.head _))) xsb_n))) (hK9 s14)
        · exact jr_sub (show ([0, 1, 2] : List Nat).Nodup from by decide) (xsb_c (List.Mem.head _) (xsb_c (List.Mem.tail _ (List.Mem.head _)) (xsb_c (List.Mem.tail _ (List.Mem.tail _ (List.Mem.head _))) xsb_n))) (hK9 s4)
