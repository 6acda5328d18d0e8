/-! methods as functions, printed by wip/whole/gen/gen5.py -/
theorem e_51 {pc : Nat} {en : xa_I} (h : xlk pc xc_51 = some en) : xcd 51 pc = some en := h
theorem e_52 {pc : Nat} {en : xa_I} (h : xlk pc xc_52 = some en) : xcd 52 pc = some en := h
theorem e_126 {pc : Nat} {en : xa_I} (h : xlk pc xc_126 = some en) : xcd 126 pc = some en := h
theorem e_124 {pc : Nat} {en : xa_I} (h : xlk pc xc_124 = some en) : xcd 124 pc = some en := h
theorem e_0 {pc : Nat} {en : xa_I} (h : xlk pc xc_0 = some en) : xcd 0 pc = some en := h
noncomputable def fm_Arrays_fill_5 (K0 : Nat) (i0 : Nat) (f1 : Int) (f3 : Int) (K : xa_H → Option (xa_H)) : Nat → Int → xa_H → Option (xa_H)
  | 0, _, _ => none
  | n + 1, x2, sh =>
    if f3 ≤ x2 then
      K sh
    else
      if 0 ≤ x2 ∧ x2 < (xalen K0 : Int) then
        xnm (xup sh K0 i0 x2.toNat f1) fun s2 =>
        xnm (w32 (x2 + 1) : Int) fun v3 =>
        fm_Arrays_fill_5 K0 i0 f1 f3 K n v3 s2
      else none
theorem jl_Arrays_fill_5 (K0 : Nat) (i0 : Nat) (f1 : Int) (f3 : Int) (σ : xa_H) (hk0 : xaty K0 = 0) (hg0 : xkg K0 = xmg 0) (K : xa_H → Option (xa_H)) (hK5 : ∀ (sz : xa_H), J 0 20 [] [] sz jqV (K sz)) : ∀ (n : Nat) (x2 : Int) (sh : xa_H), J 0 5 [(0, xr K0 i0), (1, xi f1), (2, xi x2), (3, xi f3)] [] sh jqV (fm_Arrays_fill_5 K0 i0 f1 f3 K n x2 sh) := by
  intro n
  induction n with
  | zero => intro x2 sh; exact jr_none
  | succ n ih5 =>
    intro x2 sh
    rw [fm_Arrays_fill_5]
    refine jr_iload_n (e_0 rfl) rfl rfl ?_
    refine jr_iload_n (e_0 rfl) rfl rfl ?_
    refine jr_bri (c := f3 ≤ x2) (pt := 20) (pn := 10) (e_0 rfl) rfl rfl (fun h1 => ?_) (fun h1 => ?_)
    · exact jr_sub (show ([0, 1, 2, 3] : List Nat).Nodup from by decide) xsb_n (hK5 sh)
    · refine jr_aload_n (e_0 rfl) rfl rfl ?_
      refine jr_iload_n (e_0 rfl) rfl rfl ?_
      refine jr_iload_n (e_0 rfl) rfl rfl ?_
      refine jr_ast (n := (xalen K0 : Int)) (e_0 rfl) rfl hk0 hg0 rfl ?_
      refine jr_nms (fun s2 => ?_)
      refine jr_iinc (L2 := fun c => [(2, xi c), (0, xr K0 i0), (1, xi f1), (3, xi f3)]) (e_0 rfl) rfl rfl rfl (fun _ => rfl) (fun v3 => ?_)
      refine jr_goto (pc' := 5) (e_0 rfl) rfl ?_
      exact jr_sub (show ([2, 0, 1, 3] : List Nat).Nodup from by decide) (xsb_c (List.Mem.tail _ (List.Mem.head _)) (xsb_c (List.Mem.tail _ (List.Mem.tail _ (List.Mem.head _))) (xsb_c (List.Mem.head _) (xsb_c (List.Mem.tail _ (List.Mem.tail _ (List.Mem.tail _ (List.Mem.head _)))) xsb_n)))) (ih5 v3 s2)
noncomputable def fm_Arrays_fill (K0 i0 : Nat) (a1 : Int) (σ : xa_H) : Option (xa_H) :=
  xnm ((xalen K0 : Int) : Int) fun v1 =>
  fm_Arrays_fill_5 K0 i0 a1 v1 (fun (s4 : xa_H) =>
    some s4) xFU 0 σ
theorem jm_Arrays_fill (K0 i0 : Nat) (a1 : Int) (σ : xa_H) (hk0 : xaty K0 = 0) (hg0 : xkg K0 = xmg 0) : J 0 0 [(0, xr K0 i0), (1, xi a1)] [] σ jqV (fm_Arrays_fill K0 i0 a1 σ) := by
  unfold fm_Arrays_fill
  refine jr_iconst (e_0 rfl) rfl ?_
  refine jr_istore_n (L' := [(2, xi 0), (0, xr K0 i0), (1, xi a1)]) (e_0 rfl) rfl rfl rfl ?_
  refine jr_aload_n (e_0 rfl) rfl rfl ?_
  refine jr_alen (a := (xalen K0 : Int)) (e_0 rfl) rfl (xno9 hk0) rfl ?_
  refine jr_nm (fun v1 => ?_)
  refine jr_istore_n (L' := [(3, xi v1), (2, xi 0), (0, xr K0 i0), (1, xi a1)]) (e_0 rfl) rfl rfl rfl ?_
  refine jr_sub (show ([3, 2, 0, 1] : List Nat).Nodup from by decide) (xsb_c (List.Mem.tail _ (List.Mem.tail _ (List.Mem.head _))) (xsb_c (List.Mem.tail _ (List.Mem.tail _ (List.Mem.tail _ (List.Mem.head _)))) (xsb_c (List.Mem.tail _ (List.Mem.head _)) (xsb_c (List.Mem.head _) xsb_n)))) (jl_Arrays_fill_5 K0 i0 a1 v1 σ hk0 hg0 _ (fun s4 => ?_) xFU 0 σ)
  exact jr_retV (e_0 rfl)

theorem e_5 {pc : Nat} {en : xa_I} (h : xlk pc xc_5 = some en) : xcd 5 pc = some en := h
noncomputable def fm_Answer_forget (σ : xa_H) : Option (xa_H) :=
  xnm (xup σ 0 0 1 0) fun s1 =>
  some s1
theorem jm_Answer_forget (σ : xa_H) : J 5 0 [(0, xr 0 0)] [] σ jqV (fm_Answer_forget σ) := by
  unfold fm_Answer_forget
  refine jr_aload_n (e_5 rfl) rfl rfl ?_
  refine jr_iconst (e_5 rfl) rfl ?_
  refine jr_put (e_5 rfl) rfl rfl rfl ?_
  refine jr_nms (fun s1 => ?_)
  exact jr_retV (e_5 rfl)

theorem e_6 {pc : Nat} {en : xa_I} (h : xlk pc xc_6 = some en) : xcd 6 pc = some en := h
noncomputable def fm_Answer_isNew (a1 : Int) (a2 : Int) (a3 : Int) (a4 : Int) (σ : xa_H) : Option (Int × xa_H) :=
  xnm ((w32 ((w32 ((w32 ((w32 ((w32 ((w32 (a1 * 4)) + a2)) * 16)) + a3)) * 16)) + a4)) : Int) fun v1 =>
  xnm ((if v1 = (σ 0 0 1) then 0 else 1) : Int) fun v3 =>
  xnm (xup σ 0 0 1 v1) fun s5 =>
  some ((v3 % 2), s5)
theorem jm_Answer_isNew (a1 : Int) (a2 : Int) (a3 : Int) (a4 : Int) (σ : xa_H) : J 6 0 [(0, xr 0 0), (1, xi a1), (2, xi a2), (3, xi a3), (4, xi a4)] [] σ jqW (fm_Answer_isNew a1 a2 a3 a4 σ) := by
  unfold fm_Answer_isNew
  refine jr_iload_n (e_6 rfl) rfl rfl ?_
  refine jr_iconst (e_6 rfl) rfl ?_
  refine jr_imul (e_6 rfl) rfl ?_
  refine jr_iload_n (e_6 rfl) rfl rfl ?_
  refine jr_iadd (e_6 rfl) rfl ?_
  refine jr_bipush (e_6 rfl) rfl ?_
  refine jr_imul (e_6 rfl) rfl ?_
  refine jr_iload_n (e_6 rfl) rfl rfl ?_
  refine jr_iadd (e_6 rfl) rfl ?_
  refine jr_bipush (e_6 rfl) rfl ?_
  refine jr_imul (e_6 rfl) rfl ?_
  refine jr_iload (e_6 rfl) rfl rfl ?_
  refine jr_iadd (e_6 rfl) rfl ?_
  refine jr_nm (fun v1 => ?_)
  refine jr_istore (L' := [(5, xi v1), (0, xr 0 0), (1, xi a1), (2, xi a2), (3, xi a3), (4, xi a4)]) (e_6 rfl) rfl rfl rfl ?_
  refine jr_iload (e_6 rfl) rfl rfl ?_
  refine jr_aload_n (e_6 rfl) rfl rfl ?_
  refine jr_geti (e_6 rfl) rfl (by decide +kernel) ?_
  refine jr_pm1 (fun T => ∀ v3 : Int, J 6 32 [(0, xr 0 0), (5, xi v1)] [xi v3] σ jqW (T v3)) (fun v3 => ?_) (fun T hT => ?_)
  · refine jr_istore (L' := [(6, xi v3), (0, xr 0 0), (5, xi v1)]) (e_6 rfl) rfl rfl rfl ?_
    refine jr_aload_n (e_6 rfl) rfl rfl ?_
    refine jr_iload (e_6 rfl) rfl rfl ?_
    refine jr_put (e_6 rfl) rfl rfl rfl ?_
    refine jr_nms (fun s5 => ?_)
    refine jr_iload (e_6 rfl) rfl rfl ?_
    exact jr_retWz (e_6 rfl) rfl rfl
  · refine jr_br (c := v1 = (σ 0 0 1)) (pt := 31) (pn := 27) (e_6 rfl) rfl rfl (fun h4 => ?_) (fun h4 => ?_)
    · refine jr_iconst (e_6 rfl) rfl ?_
      exact (jr_nme (if_pos h4) (jr_sub (show ([5, 0, 1, 2, 3, 4] : List Nat).Nodup from by decide) (xsb_c (List.Mem.tail _ (List.Mem.head _)) (xsb_c (List.Mem.head _) xsb_n)) (hT 0)))
    · refine jr_iconst (e_6 rfl) rfl ?_
      refine jr_goto (pc' := 32) (e_6 rfl) rfl ?_
      exact (jr_nme (if_neg h4) (jr_sub (show ([5, 0, 1, 2, 3, 4] : List Nat).Nodup from by decide) (xsb_c (List.Mem.tail _ (List.Mem.head _)) (xsb_c (List.Mem.head _) xsb_n)) (hT 1)))

theorem e_7 {pc : Nat} {en : xa_I} (h : xlk pc xc_7 = some en) : xcd 7 pc = some en := h
noncomputable def fm_Answer_none (σ : xa_H) : Option (xa_H) :=
  xnm (xup σ 0 0 2 0) fun s1 =>
  xnm (xup s1 0 0 3 (-6)) fun s2 =>
  some s2
theorem jm_Answer_none (σ : xa_H) : J 7 0 [(0, xr 0 0)] [] σ jqV (fm_Answer_none σ) := by
  unfold fm_Answer_none
  refine jr_aload_n (e_7 rfl) rfl rfl ?_
  refine jr_iconst (e_7 rfl) rfl ?_
  refine jr_put (e_7 rfl) rfl rfl rfl ?_
  refine jr_nms (fun s1 => ?_)
  refine jr_aload_n (e_7 rfl) rfl rfl ?_
  refine jr_bipush (e_7 rfl) rfl ?_
  refine jr_put (e_7 rfl) rfl rfl rfl ?_
  refine jr_nms (fun s2 => ?_)
  exact jr_retV (e_7 rfl)

theorem e_131 {pc : Nat} {en : xa_I} (h : xlk pc xc_131 = some en) : xcd 131 pc = some en := h
noncomputable def fm_S_write (K0 i0 : Nat) (a1 : Int) (a2 : Int) (σ : xa_H) : Option (xa_H) :=
  if a1 < 0 then
    some σ
  else
    if (xalen K0 : Int) ≤ a1 then
      some σ
    else
      if 0 ≤ a1 ∧ a1 < (xalen K0 : Int) then
        xnm (xup σ K0 i0 a1.toNat a2) fun s3 =>
        some s3
      else none
theorem jm_S_write (K0 i0 : Nat) (a1 : Int) (a2 : Int) (σ : xa_H) (hk0 : xaty K0 = 0) (hg0 : xkg K0 = xmg 131) : J 131 0 [(0, xr K0 i0), (1, xi a1), (2, xi a2)] [] σ jqV (fm_S_write K0 i0 a1 a2 σ) := by
  unfold fm_S_write
  refine jr_iload_n (e_131 rfl) rfl rfl ?_
  refine jr_bri (c := a1 < 0) (pt := 14) (pn := 4) (e_131 rfl) rfl rfl (fun h1 => ?_) (fun h1 => ?_)
  · exact jr_retV (e_131 rfl)
  · refine jr_iload_n (e_131 rfl) rfl rfl ?_
    refine jr_aload_n (e_131 rfl) rfl rfl ?_
    refine jr_alen (a := (xalen K0 : Int)) (e_131 rfl) rfl (xno9 hk0) rfl ?_
    refine jr_bri (c := (xalen K0 : Int) ≤ a1) (pt := 14) (pn := 10) (e_131 rfl) rfl rfl (fun h2 => ?_) (fun h2 => ?_)
    · exact jr_retV (e_131 rfl)
    · refine jr_aload_n (e_131 rfl) rfl rfl ?_
      refine jr_iload_n (e_131 rfl) rfl rfl ?_
      refine jr_iload_n (e_131 rfl) rfl rfl ?_
      refine jr_ast (n := (xalen K0 : Int)) (e_131 rfl) rfl hk0 hg0 rfl ?_
      refine jr_nms (fun s3 => ?_)
      exact jr_retV (e_131 rfl)

theorem e_8 {pc : Nat} {en : xa_I} (h : xlk pc xc_8 = some en) : xcd 8 pc = some en := h
noncomputable def fm_Answer_add (a1 : Int) (σ : xa_H) : Option (xa_H) :=
  (fm_S_write 12 0 (σ 0 0 2) a1 σ).bind fun s1 =>
  xnm (xup s1 0 0 2 (w32 ((s1 0 0 2) + 1))) fun s2 =>
  some s2
theorem jm_Answer_add (a1 : Int) (σ : xa_H) : J 8 0 [(0, xr 0 0), (1, xi a1)] [] σ jqV (fm_Answer_add a1 σ) := by
  unfold fm_Answer_add
  refine jr_aload_n (e_8 rfl) rfl rfl ?_
  refine jr_getr (K2 := 12) (i2 := 0) (e_8 rfl) rfl rfl rfl ?_
  refine jr_aload_n (e_8 rfl) rfl rfl ?_
  refine jr_geti (e_8 rfl) rfl (by decide +kernel) ?_
  refine jr_iload_n (e_8 rfl) rfl rfl ?_
  refine jr_callV (as := [xr 12 0, xi (σ 0 0 2), xi a1]) (S1 := []) (e_8 rfl) rfl rfl rfl rfl rfl rfl (jm_S_write 12 0 (σ 0 0 2) a1 σ rfl rfl) rfl (fun s1 => ?_)
  refine jr_aload_n (e_8 rfl) rfl rfl ?_
  refine jr_dup (e_8 rfl) rfl rfl ?_
  refine jr_geti (e_8 rfl) rfl (by decide +kernel) ?_
  refine jr_iconst (e_8 rfl) rfl ?_
  refine jr_iadd (e_8 rfl) rfl ?_
  refine jr_put (e_8 rfl) rfl rfl rfl ?_
  refine jr_nms (fun s2 => ?_)
  exact jr_retV (e_8 rfl)

theorem e_130 {pc : Nat} {en : xa_I} (h : xlk pc xc_130 = some en) : xcd 130 pc = some en := h
noncomputable def fm_S_read (K0 i0 : Nat) (a1 : Int) (σ : xa_H) : Option (Int) :=
  if a1 < 0 then
    some 0
  else
    if (xalen K0 : Int) ≤ a1 then
      some 0
    else
      if 0 ≤ a1 ∧ a1 < (xalen K0 : Int) then
        some (σ K0 i0 a1.toNat)
      else none
theorem jm_S_read (K0 i0 : Nat) (a1 : Int) (σ : xa_H) (hk0 : xaty K0 = 0) : J 130 0 [(0, xr K0 i0), (1, xi a1)] [] σ (jqP σ) (fm_S_read K0 i0 a1 σ) := by
  unfold fm_S_read
  refine jr_iload_n (e_130 rfl) rfl rfl ?_
  refine jr_bri (c := a1 < 0) (pt := 16) (pn := 4) (e_130 rfl) rfl rfl (fun h1 => ?_) (fun h1 => ?_)
  · refine jr_iconst (e_130 rfl) rfl ?_
    exact jr_retP (e_130 rfl) rfl
  · refine jr_iload_n (e_130 rfl) rfl rfl ?_
    refine jr_aload_n (e_130 rfl) rfl rfl ?_
    refine jr_alen (a := (xalen K0 : Int)) (e_130 rfl) rfl (xno9 hk0) rfl ?_
    refine jr_bri (c := (xalen K0 : Int) ≤ a1) (pt := 16) (pn := 10) (e_130 rfl) rfl rfl (fun h2 => ?_) (fun h2 => ?_)
    · refine jr_iconst (e_130 rfl) rfl ?_
      exact jr_retP (e_130 rfl) rfl
    · refine jr_aload_n (e_130 rfl) rfl rfl ?_
      refine jr_iload_n (e_130 rfl) rfl rfl ?_
      refine jr_ald (n := (xalen K0 : Int)) (e_130 rfl) rfl hk0 rfl ?_
      refine jr_goto (pc' := 17) (e_130 rfl) rfl ?_
      exact jr_retP (e_130 rfl) rfl

theorem e_9 {pc : Nat} {en : xa_I} (h : xlk pc xc_9 = some en) : xcd 9 pc = some en := h
noncomputable def fm_Answer_at (a1 : Int) (σ : xa_H) : Option (Int) :=
  if a1 < 0 then
    some (-6)
  else
    if (σ 0 0 2) ≤ a1 then
      some (-6)
    else
      (fm_S_read 12 0 a1 σ).bind fun v3 =>
      some v3
theorem jm_Answer_at (a1 : Int) (σ : xa_H) : J 9 0 [(0, xr 0 0), (1, xi a1)] [] σ (jqP σ) (fm_Answer_at a1 σ) := by
  unfold fm_Answer_at
  refine jr_iload_n (e_9 rfl) rfl rfl ?_
  refine jr_bri (c := a1 < 0) (pt := 23) (pn := 4) (e_9 rfl) rfl rfl (fun h1 => ?_) (fun h1 => ?_)
  · refine jr_bipush (e_9 rfl) rfl ?_
    exact jr_retP (e_9 rfl) rfl
  · refine jr_iload_n (e_9 rfl) rfl rfl ?_
    refine jr_aload_n (e_9 rfl) rfl rfl ?_
    refine jr_geti (e_9 rfl) rfl (by decide +kernel) ?_
    refine jr_bri (c := (σ 0 0 2) ≤ a1) (pt := 23) (pn := 12) (e_9 rfl) rfl rfl (fun h2 => ?_) (fun h2 => ?_)
    · refine jr_bipush (e_9 rfl) rfl ?_
      exact jr_retP (e_9 rfl) rfl
    · refine jr_aload_n (e_9 rfl) rfl rfl ?_
      refine jr_getr (K2 := 12) (i2 := 0) (e_9 rfl) rfl rfl rfl ?_
      refine jr_iload_n (e_9 rfl) rfl rfl ?_
      refine jr_callP (as := [xr 12 0, xi a1]) (S1 := []) (e_9 rfl) rfl rfl rfl rfl rfl rfl (jm_S_read 12 0 a1 σ rfl) rfl (fun v3 => ?_)
      refine jr_goto (pc' := 25) (e_9 rfl) rfl ?_
      exact jr_retP (e_9 rfl) rfl

theorem e_11 {pc : Nat} {en : xa_I} (h : xlk pc xc_11 = some en) : xcd 11 pc = some en := h
noncomputable def fm_Cheapest_weigh_2 (K1 : Nat) (i1 : Nat) (f2 : Int) (K : xa_H → Option (xa_H)) : Nat → Int → xa_H → Option (xa_H)
  | 0, _, _ => none
  | n + 1, x3, sh =>
    if 12 ≤ x3 then
      K sh
    else
      (fm_S_read K1 i1 0 sh).bind fun v2 =>
      xj (fun (v4 : Int) =>
        if 0 ≤ x3 ∧ x3 < 12 then
          xnm (xup sh 13 0 x3.toNat (w32 ((w32 (v4 * 4096)) + 1))) fun s13 =>
          xnm (w32 (x3 + 1) : Int) fun v14 =>
          fm_Cheapest_weigh_2 K1 i1 f2 K n v14 s13
        else none) fun K5 =>
      if x3 = 4 then
        (fm_S_read K1 i1 1 sh).bind fun v7 =>
        xnm ((w32 (v7 * f2)) : Int) fun v8 =>
        K5 v8
      else
        if x3 = 5 then
          (fm_S_read K1 i1 2 sh).bind fun v10 =>
          K5 v10
        else
          if x3 < 6 then
            K5 v2
          else
            (fm_S_read K1 i1 3 sh).bind fun v12 =>
            K5 v12
theorem jl_Cheapest_weigh_2 (K1 : Nat) (i1 : Nat) (f2 : Int) (σ : xa_H) (hk1 : xaty K1 = 0) (hg1 : xkg K1 = xmg 11) (K : xa_H → Option (xa_H)) (hK2 : ∀ (sz : xa_H), J 11 80 [] [] sz jqV (K sz)) : ∀ (n : Nat) (x3 : Int) (sh : xa_H), J 11 2 [(0, xr 1 0), (1, xr K1 i1), (2, xi f2), (3, xi x3)] [] sh jqV (fm_Cheapest_weigh_2 K1 i1 f2 K n x3 sh) := by
  intro n
  induction n with
  | zero => intro x3 sh; exact jr_none
  | succ n ih2 =>
    intro x3 sh
    rw [fm_Cheapest_weigh_2]
    refine jr_iload_n (e_11 rfl) rfl rfl ?_
    refine jr_bipush (e_11 rfl) rfl ?_
    refine jr_bri (c := 12 ≤ x3) (pt := 80) (pn := 8) (e_11 rfl) rfl rfl (fun h1 => ?_) (fun h1 => ?_)
    · exact jr_sub (show ([0, 1, 2, 3] : List Nat).Nodup from by decide) xsb_n (hK2 sh)
    · refine jr_aload_n (e_11 rfl) rfl rfl ?_
      refine jr_iconst (e_11 rfl) rfl ?_
      refine jr_callP (as := [xr K1 i1, xi 0]) (S1 := []) (e_11 rfl) rfl rfl rfl rfl rfl rfl (jm_S_read K1 i1 0 sh hk1) rfl (fun v2 => ?_)
      refine jr_istore (L' := [(4, xi v2), (0, xr 1 0), (1, xr K1 i1), (2, xi f2), (3, xi x3)]) (e_11 rfl) rfl rfl rfl ?_
      refine jr_iload_n (e_11 rfl) rfl rfl ?_
      refine jr_iconst (e_11 rfl) rfl ?_
      refine jr_j (fun K5 => ∀ (v4 : Int), J 11 60 [(0, xr 1 0), (1, xr K1 i1), (2, xi f2), (3, xi x3), (4, xi v4)] [] sh jqV (K5 v4)) (fun v4 => ?_) (fun K5 hK5 => ?_)
      · refine jr_aload_n (e_11 rfl) rfl rfl ?_
        refine jr_getr (K2 := 13) (i2 := 0) (e_11 rfl) rfl rfl rfl ?_
        refine jr_iload_n (e_11 rfl) rfl rfl ?_
        refine jr_iload (e_11 rfl) rfl rfl ?_
        refine jr_sipush (e_11 rfl) rfl ?_
        refine jr_imul (e_11 rfl) rfl ?_
        refine jr_iconst (e_11 rfl) rfl ?_
        refine jr_iadd (e_11 rfl) rfl ?_
        refine jr_ast (n := 12) (e_11 rfl) rfl rfl rfl rfl ?_
        refine jr_nms (fun s13 => ?_)
        refine jr_iinc (L2 := fun c => [(3, xi c), (0, xr 1 0), (1, xr K1 i1), (2, xi f2), (4, xi v4)]) (e_11 rfl) rfl rfl rfl (fun _ => rfl) (fun v14 => ?_)
        refine jr_goto (pc' := 2) (e_11 rfl) rfl ?_
        exact jr_sub (show ([3, 0, 1, 2, 4] : List Nat).Nodup from by decide) (xsb_c (List.Mem.tail _ (List.Mem.head _)) (xsb_c (List.Mem.tail _ (List.Mem.tail _ (List.Mem.head _))) (xsb_c (List.Mem.tail _ (List.Mem.tail _ (List.Mem.tail _ (List.Mem.head _)))) (xsb_c (List.Mem.head _) xsb_n)))) (ih2 v14 s13)
      · refine jr_brx (c := x3 = 4) (pt := 32) (pn := 20) (e_11 rfl) rfl rfl (fun h6 => ?_) (fun h6 => ?_)
        · refine jr_aload_n (e_11 rfl) rfl rfl ?_
          refine jr_iconst (e_11 rfl) rfl ?_
          refine jr_callP (as := [xr K1 i1, xi 1]) (S1 := []) (e_11 rfl) rfl rfl rfl rfl rfl rfl (jm_S_read K1 i1 1 sh hk1) rfl (fun v7 => ?_)
          refine jr_iload_n (e_11 rfl) rfl rfl ?_
          refine jr_imul (e_11 rfl) rfl ?_
          refine jr_nm (fun v8 => ?_)
          refine jr_istore (L' := [(4, xi v8), (0, xr 1 0), (1, xr K1 i1), (2, xi f2), (3, xi x3)]) (e_11 rfl) rfl rfl rfl ?_
          refine jr_goto (pc' := 60) (e_11 rfl) rfl ?_
          exact jr_sub (show ([4, 0, 1, 2, 3] : List Nat).Nodup from by decide) (xsb_c (List.Mem.tail _ (List.Mem.head _)) (xsb_c (List.Mem.tail _ (List.Mem.tail _ (List.Mem.head _))) (xsb_c (List.Mem.tail _ (List.Mem.tail _ (List.Mem.tail _ (List.Mem.head _)))) (xsb_c (List.Mem.tail _ (List.Mem.tail _ (List.Mem.tail _ (List.Mem.tail _ (List.Mem.head _))))) (xsb_c (List.Mem.head _) xsb_n))))) (hK5 v8)
        · refine jr_iload_n (e_11 rfl) rfl rfl ?_
          refine jr_iconst (e_11 rfl) rfl ?_
          refine jr_brx (c := x3 = 5) (pt := 47) (pn := 37) (e_11 rfl) rfl rfl (fun h9 => ?_) (fun h9 => ?_)
          · refine jr_aload_n (e_11 rfl) rfl rfl ?_
            refine jr_iconst (e_11 rfl) rfl ?_
            refine jr_callP (as := [xr K1 i1, xi 2]) (S1 := []) (e_11 rfl) rfl rfl rfl rfl rfl rfl (jm_S_read K1 i1 2 sh hk1) rfl (fun v10 => ?_)
            refine jr_istore (L' := [(4, xi v10), (0, xr 1 0), (1, xr K1 i1), (2, xi f2), (3, xi x3)]) (e_11 rfl) rfl rfl rfl ?_
            refine jr_goto (pc' := 60) (e_11 rfl) rfl ?_
            exact jr_sub (show ([4, 0, 1, 2, 3] : List Nat).Nodup from by decide) (xsb_c (List.Mem.tail _ (List.Mem.head _)) (xsb_c (List.Mem.tail _ (List.Mem.tail _ (List.Mem.head _))) (xsb_c (List.Mem.tail _ (List.Mem.tail _ (List.Mem.tail _ (List.Mem.head _)))) (xsb_c (List.Mem.tail _ (List.Mem.tail _ (List.Mem.tail _ (List.Mem.tail _ (List.Mem.head _))))) (xsb_c (List.Mem.head _) xsb_n))))) (hK5 v10)
          · refine jr_iload_n (e_11 rfl) rfl rfl ?_
            refine jr_bipush (e_11 rfl) rfl ?_
            refine jr_bri (c := x3 < 6) (pt := 60) (pn := 53) (e_11 rfl) rfl rfl (fun h11 => ?_) (fun h11 => ?_)
            · exact jr_sub (show ([4, 0, 1, 2, 3] : List Nat).Nodup from by decide) (xsb_c (List.Mem.tail _ (List.Mem.head _)) (xsb_c (List.Mem.tail _ (List.Mem.tail _ (List.Mem.head _))) (xsb_c (List.Mem.tail _ (List.Mem.tail _ (List.Mem.tail _ (List.Mem.head _)))) (xsb_c (List.Mem.tail _ (List.Mem.tail _ (List.Mem.tail _ (List.Mem.tail _ (List.Mem.head _))))) (xsb_c (List.Mem.head _) xsb_n))))) (hK5 v2)
            · refine jr_aload_n (e_11 rfl) rfl rfl ?_
              refine jr_iconst (e_11 rfl) rfl ?_
              refine jr_callP (as := [xr K1 i1, xi 3]) (S1 := []) (e_11 rfl) rfl rfl rfl rfl rfl rfl (jm_S_read K1 i1 3 sh hk1) rfl (fun v12 => ?_)
              refine jr_istore (L' := [(4, xi v12), (0, xr 1 0), (1, xr K1 i1), (2, xi f2), (3, xi x3)]) (e_11 rfl) rfl rfl rfl ?_
              exact jr_sub (show ([4, 0, 1, 2, 3] : List Nat).Nodup from by decide) (xsb_c (List.Mem.tail _ (List.Mem.head _)) (xsb_c (List.Mem.tail _ (List.Mem.tail _ (List.Mem.head _))) (xsb_c (List.Mem.tail _ (List.Mem.tail _ (List.Mem.tail _ (List.Mem.head _)))) (xsb_c (List.Mem.tail _ (List.Mem.tail _ (List.Mem.tail _ (List.Mem.tail _ (List.Mem.head _))))) (xsb_c (List.Mem.head _) xsb_n))))) (hK5 v12)
noncomputable def fm_Cheapest_weigh (K1 i1 : Nat) (a2 : Int) (σ : xa_H) : Option (xa_H) :=
  fm_Cheapest_weigh_2 K1 i1 a2 (fun (s15 : xa_H) =>
    some s15) xFU 0 σ
theorem jm_Cheapest_weigh (K1 i1 : Nat) (a2 : Int) (σ : xa_H) (hk1 : xaty K1 = 0) (hg1 : xkg K1 = xmg 11) : J 11 0 [(0, xr 1 0), (1, xr K1 i1), (2, xi a2)] [] σ jqV (fm_Cheapest_weigh K1 i1 a2 σ) := by
  unfold fm_Cheapest_weigh
  refine jr_iconst (e_11 rfl) rfl ?_
  refine jr_istore_n (L' := [(3, xi 0), (0, xr 1 0), (1, xr K1 i1), (2, xi a2)]) (e_11 rfl) rfl rfl rfl ?_
  refine jr_sub (show ([3, 0, 1, 2] : List Nat).Nodup from by decide) (xsb_c (List.Mem.tail _ (List.Mem.head _)) (xsb_c (List.Mem.tail _ (List.Mem.tail _ (List.Mem.head _))) (xsb_c (List.Mem.tail _ (List.Mem.tail _ (List.Mem.tail _ (List.Mem.head _)))) (xsb_c (List.Mem.head _) xsb_n)))) (jl_Cheapest_weigh_2 K1 i1 a2 σ hk1 hg1 _ (fun s15 => ?_) xFU 0 σ)
  exact jr_retV (e_11 rfl)

theorem e_17 {pc : Nat} {en : xa_I} (h : xlk pc xc_17 = some en) : xcd 17 pc = some en := h
noncomputable def fm_Cheapest_put (a1 : Int) (a2 : Int) (σ : xa_H) : Option (xa_H) :=
  (fm_S_write 15 0 a1 a2 σ).bind fun s1 =>
  (fm_S_write 16 0 a2 a1 s1).bind fun s2 =>
  some s2
theorem jm_Cheapest_put (a1 : Int) (a2 : Int) (σ : xa_H) : J 17 0 [(0, xr 1 0), (1, xi a1), (2, xi a2)] [] σ jqV (fm_Cheapest_put a1 a2 σ) := by
  unfold fm_Cheapest_put
  refine jr_aload_n (e_17 rfl) rfl rfl ?_
  refine jr_getr (K2 := 15) (i2 := 0) (e_17 rfl) rfl rfl rfl ?_
  refine jr_iload_n (e_17 rfl) rfl rfl ?_
  refine jr_iload_n (e_17 rfl) rfl rfl ?_
  refine jr_callV (as := [xr 15 0, xi a1, xi a2]) (S1 := []) (e_17 rfl) rfl rfl rfl rfl rfl rfl (jm_S_write 15 0 a1 a2 σ rfl rfl) rfl (fun s1 => ?_)
  refine jr_aload_n (e_17 rfl) rfl rfl ?_
  refine jr_getr (K2 := 16) (i2 := 0) (e_17 rfl) rfl rfl rfl ?_
  refine jr_iload_n (e_17 rfl) rfl rfl ?_
  refine jr_iload_n (e_17 rfl) rfl rfl ?_
  refine jr_callV (as := [xr 16 0, xi a2, xi a1]) (S1 := []) (e_17 rfl) rfl rfl rfl rfl rfl rfl (jm_S_write 16 0 a2 a1 s1 rfl rfl) rfl (fun s2 => ?_)
  exact jr_retV (e_17 rfl)

theorem e_18 {pc : Nat} {en : xa_I} (h : xlk pc xc_18 = some en) : xcd 18 pc = some en := h
noncomputable def fm_Cheapest_rise_9 (f1 : Int) (K : Int → xa_H → Option (xa_H)) : Nat → Int → xa_H → Option (xa_H)
  | 0, _, _ => none
  | n + 1, x2, sh =>
    if x2 ≤ 0 then
      K x2 sh
    else
      (fm_S_read 15 0 (xdiv (w32 (x2 - 1)) 2) sh).bind fun v2 =>
      (fm_S_read 14 0 v2 sh).bind fun v3 =>
      (fm_S_read 14 0 f1 sh).bind fun v4 =>
      if v4 < v3 then
        (fm_Cheapest_put x2 v2 sh).bind fun s6 =>
        xnm ((xdiv (w32 (x2 - 1)) 2) : Int) fun v7 =>
        fm_Cheapest_rise_9 f1 K n v7 s6
      else
        K x2 sh
theorem jl_Cheapest_rise_9 (f1 : Int) (σ : xa_H)  (K : Int → xa_H → Option (xa_H)) (hK9 : ∀ (z0 : Int) (sz : xa_H), J 18 63 [(0, xr 1 0), (1, xi f1), (2, xi z0)] [] sz jqV (K z0 sz)) : ∀ (n : Nat) (x2 : Int) (sh : xa_H), J 18 9 [(0, xr 1 0), (1, xi f1), (2, xi x2)] [] sh jqV (fm_Cheapest_rise_9 f1 K n x2 sh) := by
  intro n
  induction n with
  | zero => intro x2 sh; exact jr_none
  | succ n ih9 =>
    intro x2 sh
    rw [fm_Cheapest_rise_9]
    refine jr_iload_n (e_18 rfl) rfl rfl ?_
    refine jr_bri (c := x2 ≤ 0) (pt := 63) (pn := 13) (e_18 rfl) rfl rfl (fun h1 => ?_) (fun h1 => ?_)
    · exact jr_sub (show ([0, 1, 2] : List Nat).Nodup from by decide) (xsb_c (List.Mem.head _) (xsb_c (List.Mem.tail _ (List.Mem.head _)) (xsb_c (List.Mem.tail _ (List.Mem.tail _ (List.Mem.head _))) xsb_n))) (hK9 x2 sh)
    · refine jr_aload_n (e_18 rfl) rfl rfl ?_
      refine jr_getr (K2 := 15) (i2 := 0) (e_18 rfl) rfl rfl rfl ?_
      refine jr_iload_n (e_18 rfl) rfl rfl ?_
      refine jr_iconst (e_18 rfl) rfl ?_
      refine jr_isub (e_18 rfl) rfl ?_
      refine jr_iconst (e_18 rfl) rfl ?_
      refine jr_idiv (e_18 rfl) rfl (by decide) ?_
      refine jr_callP (as := [xr 15 0, xi (xdiv (w32 (x2 - 1)) 2)]) (S1 := []) (e_18 rfl) rfl rfl rfl rfl rfl rfl (jm_S_read 15 0 (xdiv (w32 (x2 - 1)) 2) sh rfl) rfl (fun v2 => ?_)
      refine jr_istore_n (L' := [(3, xi v2), (0, xr 1 0), (1, xi f1), (2, xi x2)]) (e_18 rfl) rfl rfl rfl ?_
      refine jr_aload_n (e_18 rfl) rfl rfl ?_
      refine jr_getr (K2 := 14) (i2 := 0) (e_18 rfl) rfl rfl rfl ?_
      refine jr_iload_n (e_18 rfl) rfl rfl ?_
      refine jr_callP (as := [xr 14 0, xi v2]) (S1 := []) (e_18 rfl) rfl rfl rfl rfl rfl rfl (jm_S_read 14 0 v2 sh rfl) rfl (fun v3 => ?_)
      refine jr_aload_n (e_18 rfl) rfl rfl ?_
      refine jr_getr (K2 := 14) (i2 := 0) (e_18 rfl) rfl rfl rfl ?_
      refine jr_iload_n (e_18 rfl) rfl rfl ?_
      refine jr_callP (as := [xr 14 0, xi f1]) (S1 := [xi v3]) (e_18 rfl) rfl rfl rfl rfl rfl rfl (jm_S_read 14 0 f1 sh rfl) rfl (fun v4 => ?_)
      refine jr_bri (c := v4 < v3) (pt := 48) (pn := 45) (e_18 rfl) rfl rfl (fun h5 => ?_) (fun h5 => ?_)
      · refine jr_aload_n (e_18 rfl) rfl rfl ?_
        refine jr_iload_n (e_18 rfl) rfl rfl ?_
        refine jr_iload_n (e_18 rfl) rfl rfl ?_
        refine jr_callV (as := [xr 1 0, xi x2, xi v2]) (S1 := []) (e_18 rfl) rfl rfl rfl rfl rfl rfl (jm_Cheapest_put x2 v2 sh) rfl (fun s6 => ?_)
        refine jr_iload_n (e_18 rfl) rfl rfl ?_
        refine jr_iconst (e_18 rfl) rfl ?_
        refine jr_isub (e_18 rfl) rfl ?_
        refine jr_iconst (e_18 rfl) rfl ?_
        refine jr_idiv (e_18 rfl) rfl (by decide) ?_
        refine jr_nm (fun v7 => ?_)
        refine jr_istore_n (L' := [(2, xi v7), (3, xi v2), (0, xr 1 0), (1, xi f1)]) (e_18 rfl) rfl rfl rfl ?_
        refine jr_goto (pc' := 9) (e_18 rfl) rfl ?_
        exact jr_sub (show ([2, 3, 0, 1] : List Nat).Nodup from by decide) (xsb_c (List.Mem.tail _ (List.Mem.tail _ (List.Mem.head _))) (xsb_c (List.Mem.tail _ (List.Mem.tail _ (List.Mem.tail _ (List.Mem.head _)))) (xsb_c (List.Mem.head _) xsb_n))) (ih9 v7 s6)
      · refine jr_goto (pc' := 63) (e_18 rfl) rfl ?_
        exact jr_sub (show ([3, 0, 1, 2] : List Nat).Nodup from by decide) (xsb_c (List.Mem.tail _ (List.Mem.head _)) (xsb_c (List.Mem.tail _ (List.Mem.tail _ (List.Mem.head _))) (xsb_c (List.Mem.tail _ (List.Mem.tail _ (List.Mem.tail _ (List.Mem.head _)))) xsb_n))) (hK9 x2 sh)
noncomputable def fm_Cheapest_rise (a1 : Int) (σ : xa_H) : Option (xa_H) :=
  (fm_S_read 16 0 a1 σ).bind fun v1 =>
  fm_Cheapest_rise_9 a1 (fun (v8 : Int) (s9 : xa_H) =>
    (fm_Cheapest_put v8 a1 s9).bind fun s10 =>
    some s10) xFU v1 σ
theorem jm_Cheapest_rise (a1 : Int) (σ : xa_H) : J 18 0 [(0, xr 1 0), (1, xi a1)] [] σ jqV (fm_Cheapest_rise a1 σ) := by
  unfold fm_Cheapest_rise
  refine jr_aload_n (e_18 rfl) rfl rfl ?_
  refine jr_getr (K2 := 16) (i2 := 0) (e_18 rfl) rfl rfl rfl ?_
  refine jr_iload_n (e_18 rfl) rfl rfl ?_
  refine jr_callP (as := [xr 16 0, xi a1]) (S1 := []) (e_18 rfl) rfl rfl rfl rfl rfl rfl (jm_S_read 16 0 a1 σ rfl) rfl (fun v1 => ?_)
  refine jr_istore_n (L' := [(2, xi v1), (0, xr 1 0), (1, xi a1)]) (e_18 rfl) rfl rfl rfl ?_
  refine jr_sub (show ([2, 0, 1] : List Nat).Nodup from by decide) (xsb_c (List.Mem.tail _ (List.Mem.head _)) (xsb_c (List.Mem.tail _ (List.Mem.tail _ (List.Mem.head _))) (xsb_c (List.Mem.head _) xsb_n))) (jl_Cheapest_rise_9 a1 σ _ (fun v8 s9 => ?_) xFU v1 σ)
  refine jr_aload_n (e_18 rfl) rfl rfl ?_
  refine jr_iload_n (e_18 rfl) rfl rfl ?_
  refine jr_iload_n (e_18 rfl) rfl rfl ?_
  refine jr_callV (as := [xr 1 0, xi v8, xi a1]) (S1 := []) (e_18 rfl) rfl rfl rfl rfl rfl rfl (jm_Cheapest_put v8 a1 s9) rfl (fun s10 => ?_)
  exact jr_retV (e_18 rfl)

theorem e_46 {pc : Nat} {en : xa_I} (h : xlk pc xc_46 = some en) : xcd 46 pc = some en := h
noncomputable def fm_Search_lookAt_33 (f3 : Int) (f4 : Int) (σ : xa_H) (K : Int → Option (Int)) : Nat → Int → Int → Option (Int)
  | 0, _, _ => none
  | n + 1, x2, x5 =>
    if σ 3 0 8 < 0 then
      none
    else
      if (σ 5 ((σ 3 0 8).toNat) 0) ≤ x5 then
        K x2
      else
        (fm_S_read 20 0 (w32 (f4 + x5)) σ).bind fun v2 =>
        (fm_S_read 18 0 (w32 (f3 + v2)) σ).bind fun v3 =>
        if σ 3 0 8 < 0 then
          none
        else
          (fm_S_read 28 ((σ 3 0 8).toNat) x5 σ).bind fun v4 =>
          xnm ((xor2 x2 (xshl v3 (w32 (v4 * 6)))) : Int) fun v5 =>
          xnm (w32 (x5 + 1) : Int) fun v6 =>
          fm_Search_lookAt_33 f3 f4 σ K n v5 v6
theorem jl_Search_lookAt_33 (f3 : Int) (f4 : Int) (σ : xa_H)  (K : Int → Option (Int)) (hK33 : ∀ (z0 : Int), J 46 95 [(2, xi z0)] [] σ (jqP σ) (K z0)) : ∀ (n : Nat) (x2 : Int) (x5 : Int), J 46 33 [(0, xr 3 0), (2, xi x2), (3, xi f3), (4, xi f4), (5, xi x5)] [] σ (jqP σ) (fm_Search_lookAt_33 f3 f4 σ K n x2 x5) := by
  intro n
  induction n with
  | zero => intro x2 x5; exact jr_none
  | succ n ih33 =>
    intro x2 x5
    rw [fm_Search_lookAt_33]
    refine jr_iload (e_46 rfl) rfl rfl ?_
    refine jr_aload_n (e_46 rfl) rfl rfl ?_
    refine jr_getd (e_46 rfl) rfl rfl (fun h8 => ?_) (fun h8 => ?_)
    · exact jr_none
    · refine jr_geti (e_46 rfl) rfl (by decide +kernel) ?_
      refine jr_bri (c := (σ 5 ((σ 3 0 8).toNat) 0) ≤ x5) (pt := 95) (pn := 45) (e_46 rfl) rfl rfl (fun h1 => ?_) (fun h1 => ?_)
      · exact jr_sub (show ([0, 2, 3, 4, 5] : List Nat).Nodup from by decide) (xsb_c (List.Mem.tail _ (List.Mem.head _)) xsb_n) (hK33 x2)
      · refine jr_aload_n (e_46 rfl) rfl rfl ?_
        refine jr_getr (K2 := 18) (i2 := 0) (e_46 rfl) rfl rfl rfl ?_
        refine jr_iload_n (e_46 rfl) rfl rfl ?_
        refine jr_aload_n (e_46 rfl) rfl rfl ?_
        refine jr_getr (K2 := 20) (i2 := 0) (e_46 rfl) rfl rfl rfl ?_
        refine jr_iload (e_46 rfl) rfl rfl ?_
        refine jr_iload (e_46 rfl) rfl rfl ?_
        refine jr_iadd (e_46 rfl) rfl ?_
        refine jr_callP (as := [xr 20 0, xi (w32 (f4 + x5))]) (S1 := [xi f3, xr 18 0]) (e_46 rfl) rfl rfl rfl rfl rfl rfl (jm_S_read 20 0 (w32 (f4 + x5)) σ rfl) rfl (fun v2 => ?_)
        refine jr_iadd (e_46 rfl) rfl ?_
        refine jr_callP (as := [xr 18 0, xi (w32 (f3 + v2))]) (S1 := []) (e_46 rfl) rfl rfl rfl rfl rfl rfl (jm_S_read 18 0 (w32 (f3 + v2)) σ rfl) rfl (fun v3 => ?_)
        refine jr_istore (L' := [(6, xi v3), (0, xr 3 0), (2, xi x2), (3, xi f3), (4, xi f4), (5, xi x5)]) (e_46 rfl) rfl rfl rfl ?_
        refine jr_iload_n (e_46 rfl) rfl rfl ?_
        refine jr_iload (e_46 rfl) rfl rfl ?_
        refine jr_aload_n (e_46 rfl) rfl rfl ?_
        refine jr_getd (e_46 rfl) rfl rfl (fun h7 => ?_) (fun h7 => ?_)
        · exact jr_none
        · refine jr_getr (K2 := 28) (i2 := (σ 3 0 8).toNat) (e_46 rfl) rfl rfl rfl ?_
          refine jr_iload (e_46 rfl) rfl rfl ?_
          refine jr_callP (as := [xr 28 ((σ 3 0 8).toNat), xi x5]) (S1 := [xi v3, xi x2]) (e_46 rfl) rfl rfl rfl rfl rfl rfl (jm_S_read 28 ((σ 3 0 8).toNat) x5 σ rfl) rfl (fun v4 => ?_)
          refine jr_bipush (e_46 rfl) rfl ?_
          refine jr_imul (e_46 rfl) rfl ?_
          refine jr_ishl (e_46 rfl) rfl ?_
          refine jr_ior (e_46 rfl) rfl ?_
          refine jr_nm (fun v5 => ?_)
          refine jr_istore_n (L' := [(2, xi v5), (6, xi v3), (0, xr 3 0), (3, xi f3), (4, xi f4), (5, xi x5)]) (e_46 rfl) rfl rfl rfl ?_
          refine jr_iinc (L2 := fun c => [(5, xi c), (2, xi v5), (6, xi v3), (0, xr 3 0), (3, xi f3), (4, xi f4)]) (e_46 rfl) rfl rfl rfl (fun _ => rfl) (fun v6 => ?_)
          refine jr_goto (pc' := 33) (e_46 rfl) rfl ?_
          exact jr_sub (show ([5, 2, 6, 0, 3, 4] : List Nat).Nodup from by decide) (xsb_c (List.Mem.tail _ (List.Mem.tail _ (List.Mem.tail _ (List.Mem.head _)))) (xsb_c (List.Mem.tail _ (List.Mem.head _)) (xsb_c (List.Mem.tail _ (List.Mem.tail _ (List.Mem.tail _ (List.Mem.tail _ (List.Mem.head _))))) (xsb_c (List.Mem.tail _ (List.Mem.tail _ (List.Mem.tail _ (List.Mem.tail _ (List.Mem.tail _ (List.Mem.head _)))))) (xsb_c (List.Mem.head _) xsb_n))))) (ih33 v5 v6)
noncomputable def fm_Search_lookAt (a1 : Int) (σ : xa_H) : Option (Int) :=
  if σ 3 0 8 < 0 then
    some 0
  else
    (fm_S_read 19 0 (xdiv a1 24) σ).bind fun v1 =>
    xnm ((w32 ((xrem a1 24) * 10)) : Int) fun v2 =>
    fm_Search_lookAt_33 v1 v2 σ (fun (v9 : Int) =>
      some v9) xFU 0 0
theorem jm_Search_lookAt (a1 : Int) (σ : xa_H) : J 46 0 [(0, xr 3 0), (1, xi a1)] [] σ (jqP σ) (fm_Search_lookAt a1 σ) := by
  unfold fm_Search_lookAt
  refine jr_iconst (e_46 rfl) rfl ?_
  refine jr_istore_n (L' := [(2, xi 0), (0, xr 3 0), (1, xi a1)]) (e_46 rfl) rfl rfl rfl ?_
  refine jr_aload_n (e_46 rfl) rfl rfl ?_
  refine jr_getd (e_46 rfl) rfl rfl (fun h10 => ?_) (fun h10 => ?_)
  · refine jr_s (q := (95, [(2, xi 0), (0, xr 3 0), (1, xi a1)], [], σ)) (e_46 rfl) rfl rfl ?_
    refine jr_iload_n (e_46 rfl) rfl rfl ?_
    exact jr_retP (e_46 rfl) rfl
  · refine jr_s (q := (9, [(2, xi 0), (0, xr 3 0), (1, xi a1)], [], σ)) (e_46 rfl) rfl rfl ?_
    refine jr_aload_n (e_46 rfl) rfl rfl ?_
    refine jr_getr (K2 := 19) (i2 := 0) (e_46 rfl) rfl rfl rfl ?_
    refine jr_iload_n (e_46 rfl) rfl rfl ?_
    refine jr_bipush (e_46 rfl) rfl ?_
    refine jr_idiv (e_46 rfl) rfl (by decide) ?_
    refine jr_callP (as := [xr 19 0, xi (xdiv a1 24)]) (S1 := []) (e_46 rfl) rfl rfl rfl rfl rfl rfl (jm_S_read 19 0 (xdiv a1 24) σ rfl) rfl (fun v1 => ?_)
    refine jr_istore_n (L' := [(3, xi v1), (2, xi 0), (0, xr 3 0), (1, xi a1)]) (e_46 rfl) rfl rfl rfl ?_
    refine jr_iload_n (e_46 rfl) rfl rfl ?_
    refine jr_bipush (e_46 rfl) rfl ?_
    refine jr_irem (e_46 rfl) rfl (by decide) ?_
    refine jr_bipush (e_46 rfl) rfl ?_
    refine jr_imul (e_46 rfl) rfl ?_
    refine jr_nm (fun v2 => ?_)
    refine jr_istore (L' := [(4, xi v2), (3, xi v1), (2, xi 0), (0, xr 3 0), (1, xi a1)]) (e_46 rfl) rfl rfl rfl ?_
    refine jr_iconst (e_46 rfl) rfl ?_
    refine jr_istore (L' := [(5, xi 0), (4, xi v2), (3, xi v1), (2, xi 0), (0, xr 3 0), (1, xi a1)]) (e_46 rfl) rfl rfl rfl ?_
    refine jr_sub (show ([5, 4, 3, 2, 0, 1] : List Nat).Nodup from by decide) (xsb_c (List.Mem.tail _ (List.Mem.tail _ (List.Mem.tail _ (List.Mem.tail _ (List.Mem.head _))))) (xsb_c (List.Mem.tail _ (List.Mem.tail _ (List.Mem.tail _ (List.Mem.head _)))) (xsb_c (List.Mem.tail _ (List.Mem.tail _ (List.Mem.head _))) (xsb_c (List.Mem.tail _ (List.Mem.head _)) (xsb_c (List.Mem.head _) xsb_n))))) (jl_Search_lookAt_33 v1 v2 σ _ (fun v9 => ?_) xFU 0 0)
    refine jr_iload_n (e_46 rfl) rfl rfl ?_
    exact jr_retP (e_46 rfl) rfl

theorem e_38 {pc : Nat} {en : xa_I} (h : xlk pc xc_38 = some en) : xcd 38 pc = some en := h
noncomputable def fm_Search_fits (a1 : Int) (σ : xa_H) : Option (Int × xa_H) :=
  (fm_S_read 21 0 a1 σ).bind fun v1 =>
  xj (fun (v3 : Int) (s4 : xa_H) =>
    if (xand v3 (s4 3 0 9)) = 0 then
      some (1, s4)
    else
      some (0, s4)) fun K5 =>
  if v1 = (-1) then
    (fm_Search_lookAt a1 σ).bind fun v7 =>
    (fm_S_write 21 0 a1 v7 σ).bind fun s8 =>
    K5 v7 s8
  else
    K5 v1 σ
theorem jm_Search_fits (a1 : Int) (σ : xa_H) : J 38 0 [(0, xr 3 0), (1, xi a1)] [] σ jqW (fm_Search_fits a1 σ) := by
  unfold fm_Search_fits
  refine jr_aload_n (e_38 rfl) rfl rfl ?_
  refine jr_getr (K2 := 21) (i2 := 0) (e_38 rfl) rfl rfl rfl ?_
  refine jr_iload_n (e_38 rfl) rfl rfl ?_
  refine jr_callP (as := [xr 21 0, xi a1]) (S1 := []) (e_38 rfl) rfl rfl rfl rfl rfl rfl (jm_S_read 21 0 a1 σ rfl) rfl (fun v1 => ?_)
  refine jr_istore_n (L' := [(2, xi v1), (0, xr 3 0), (1, xi a1)]) (e_38 rfl) rfl rfl rfl ?_
  refine jr_iload_n (e_38 rfl) rfl rfl ?_
  refine jr_iconst (e_38 rfl) rfl ?_
  refine jr_j (fun K5 => ∀ (v3 : Int) (s4 : xa_H), J 38 29 [(0, xr 3 0), (2, xi v3)] [] s4 jqW (K5 v3 s4)) (fun v3 s4 => ?_) (fun K5 hK5 => ?_)
  · refine jr_iload_n (e_38 rfl) rfl rfl ?_
    refine jr_aload_n (e_38 rfl) rfl rfl ?_
    refine jr_geti (e_38 rfl) rfl (by decide +kernel) ?_
    refine jr_iand (e_38 rfl) rfl ?_
    refine jr_brx (c := (xand v3 (s4 3 0 9)) = 0) (pt := 42) (pn := 38) (e_38 rfl) rfl rfl (fun h9 => ?_) (fun h9 => ?_)
    · refine jr_iconst (e_38 rfl) rfl ?_
      refine jr_goto (pc' := 43) (e_38 rfl) rfl ?_
      exact jr_retWz (e_38 rfl) rfl rfl
    · refine jr_iconst (e_38 rfl) rfl ?_
      exact jr_retWz (e_38 rfl) rfl rfl
  · refine jr_brx (c := v1 = (-1)) (pt := 29) (pn := 14) (e_38 rfl) rfl rfl (fun h6 => ?_) (fun h6 => ?_)
    · refine jr_aload_n (e_38 rfl) rfl rfl ?_
      refine jr_iload_n (e_38 rfl) rfl rfl ?_
      refine jr_callP (as := [xr 3 0, xi a1]) (S1 := []) (e_38 rfl) rfl rfl rfl rfl rfl rfl (jm_Search_lookAt a1 σ) rfl (fun v7 => ?_)
      refine jr_istore_n (L' := [(2, xi v7), (0, xr 3 0), (1, xi a1)]) (e_38 rfl) rfl rfl rfl ?_
      refine jr_aload_n (e_38 rfl) rfl rfl ?_
      refine jr_getr (K2 := 21) (i2 := 0) (e_38 rfl) rfl rfl rfl ?_
      refine jr_iload_n (e_38 rfl) rfl rfl ?_
      refine jr_iload_n (e_38 rfl) rfl rfl ?_
      refine jr_callV (as := [xr 21 0, xi a1, xi v7]) (S1 := []) (e_38 rfl) rfl rfl rfl rfl rfl rfl (jm_S_write 21 0 a1 v7 σ rfl rfl) rfl (fun s8 => ?_)
      exact jr_sub (show ([2, 0, 1] : List Nat).Nodup from by decide) (xsb_c (List.Mem.tail _ (List.Mem.head _)) (xsb_c (List.Mem.head _) xsb_n)) (hK5 v7 s8)
    · exact jr_sub (show ([2, 0, 1] : List Nat).Nodup from by decide) (xsb_c (List.Mem.tail _ (List.Mem.head _)) (xsb_c (List.Mem.head _) xsb_n)) (hK5 v1 σ)

theorem e_14 {pc : Nat} {en : xa_I} (h : xlk pc xc_14 = some en) : xcd 14 pc = some en := h
noncomputable def fm_Cheapest_come (a1 : Int) (a2 : Int) (σ : xa_H) : Option (xa_H) :=
  (fm_S_read 14 0 a1 σ).bind fun v1 =>
  if v1 ≤ a2 then
    some σ
  else
    xb2 (fm_Search_fits a1 σ) fun v3 s4 =>
    if v3 = 0 then
      some s4
    else
      (fm_S_read 14 0 a1 s4).bind fun v6 =>
      xj (fun (s8 : xa_H) =>
        (fm_S_write 14 0 a1 a2 s8).bind fun s13 =>
        (fm_Cheapest_rise a1 s13).bind fun s14 =>
        some s14) fun K9 =>
      if v6 = 2147483647 then
        (fm_S_write 16 0 a1 (s4 1 0 5) s4).bind fun s11 =>
        xnm (xup s11 1 0 5 (w32 ((s11 1 0 5) + 1))) fun s12 =>
        K9 s12
      else
        K9 s4
theorem jm_Cheapest_come (a1 : Int) (a2 : Int) (σ : xa_H) : J 14 0 [(0, xr 1 0), (1, xi a1), (2, xi a2)] [] σ jqV (fm_Cheapest_come a1 a2 σ) := by
  unfold fm_Cheapest_come
  refine jr_iload_n (e_14 rfl) rfl rfl ?_
  refine jr_aload_n (e_14 rfl) rfl rfl ?_
  refine jr_getr (K2 := 14) (i2 := 0) (e_14 rfl) rfl rfl rfl ?_
  refine jr_iload_n (e_14 rfl) rfl rfl ?_
  refine jr_callP (as := [xr 14 0, xi a1]) (S1 := [xi a2]) (e_14 rfl) rfl rfl rfl rfl rfl rfl (jm_S_read 14 0 a1 σ rfl) rfl (fun v1 => ?_)
  refine jr_bri (c := v1 ≤ a2) (pt := 23) (pn := 12) (e_14 rfl) rfl rfl (fun h2 => ?_) (fun h2 => ?_)
  · exact jr_retV (e_14 rfl)
  · refine jr_aload_n (e_14 rfl) rfl rfl ?_
    refine jr_getr (K2 := 3) (i2 := 0) (e_14 rfl) rfl rfl rfl ?_
    refine jr_iload_n (e_14 rfl) rfl rfl ?_
    refine jr_callX (as := [xr 3 0, xi a1]) (S1 := []) (e_14 rfl) rfl rfl rfl rfl rfl rfl (jm_Search_fits a1 σ) rfl (fun v3 s4 => ?_)
    refine jr_brx (c := v3 = 0) (pt := 24) (pn := 23) (e_14 rfl) rfl rfl (fun h5 => ?_) (fun h5 => ?_)
    · exact jr_retV (e_14 rfl)
    · refine jr_aload_n (e_14 rfl) rfl rfl ?_
      refine jr_getr (K2 := 14) (i2 := 0) (e_14 rfl) rfl rfl rfl ?_
      refine jr_iload_n (e_14 rfl) rfl rfl ?_
      refine jr_callP (as := [xr 14 0, xi a1]) (S1 := []) (e_14 rfl) rfl rfl rfl rfl rfl rfl (jm_S_read 14 0 a1 s4 rfl) rfl (fun v6 => ?_)
      refine jr_ldc (a := 2147483647) (e_14 rfl) rfl rfl ?_
      refine jr_j (fun K9 => ∀ (s8 : xa_H), J 14 59 [(0, xr 1 0), (1, xi a1), (2, xi a2)] [] s8 jqV (K9 s8)) (fun s8 => ?_) (fun K9 hK9 => ?_)
      · refine jr_aload_n (e_14 rfl) rfl rfl ?_
        refine jr_getr (K2 := 14) (i2 := 0) (e_14 rfl) rfl rfl rfl ?_
        refine jr_iload_n (e_14 rfl) rfl rfl ?_
        refine jr_iload_n (e_14 rfl) rfl rfl ?_
        refine jr_callV (as := [xr 14 0, xi a1, xi a2]) (S1 := []) (e_14 rfl) rfl rfl rfl rfl rfl rfl (jm_S_write 14 0 a1 a2 s8 rfl rfl) rfl (fun s13 => ?_)
        refine jr_aload_n (e_14 rfl) rfl rfl ?_
        refine jr_iload_n (e_14 rfl) rfl rfl ?_
        refine jr_callV (as := [xr 1 0, xi a1]) (S1 := []) (e_14 rfl) rfl rfl rfl rfl rfl rfl (jm_Cheapest_rise a1 s13) rfl (fun s14 => ?_)
        exact jr_retV (e_14 rfl)
      · refine jr_brx (c := v6 = 2147483647) (pt := 59) (pn := 37) (e_14 rfl) rfl rfl (fun h10 => ?_) (fun h10 => ?_)
        · refine jr_aload_n (e_14 rfl) rfl rfl ?_
          refine jr_getr (K2 := 16) (i2 := 0) (e_14 rfl) rfl rfl rfl ?_
          refine jr_iload_n (e_14 rfl) rfl rfl ?_
          refine jr_aload_n (e_14 rfl) rfl rfl ?_
          refine jr_geti (e_14 rfl) rfl (by decide +kernel) ?_
          refine jr_callV (as := [xr 16 0, xi a1, xi (s4 1 0 5)]) (S1 := []) (e_14 rfl) rfl rfl rfl rfl rfl rfl (jm_S_write 16 0 a1 (s4 1 0 5) s4 rfl rfl) rfl (fun s11 => ?_)
          refine jr_aload_n (e_14 rfl) rfl rfl ?_
          refine jr_dup (e_14 rfl) rfl rfl ?_
          refine jr_geti (e_14 rfl) rfl (by decide +kernel) ?_
          refine jr_iconst (e_14 rfl) rfl ?_
          refine jr_iadd (e_14 rfl) rfl ?_
          refine jr_put (e_14 rfl) rfl rfl rfl ?_
          refine jr_nms (fun s12 => ?_)
          exact jr_sub (show ([0, 1, 2] : List Nat).Nodup from by decide) (xsb_c (List.Mem.head _) (xsb_c (List.Mem.tail _ (List.Mem.head _)) (xsb_c (List.Mem.tail _ (List.Mem.tail _ (List.Mem.head _))) xsb_n))) (hK9 s12)
        · exact jr_sub (show ([0, 1, 2] : List Nat).Nodup from by decide) (xsb_c (List.Mem.head _) (xsb_c (List.Mem.tail _ (List.Mem.head _)) (xsb_c (List.Mem.tail _ (List.Mem.tail _ (List.Mem.head _))) xsb_n))) (hK9 s4)

theorem e_65 {pc : Nat} {en : xa_I} (h : xlk pc xc_65 = some en) : xcd 65 pc = some en := h
noncomputable def fm_Turns_after (a1 : Int) (a2 : Int) (σ : xa_H) : Option (Int) :=
  (fm_S_read 32 0 (w32 ((w32 (a1 * 6)) + a2)) σ).bind fun v1 =>
  some v1
theorem jm_Turns_after (a1 : Int) (a2 : Int) (σ : xa_H) : J 65 0 [(0, xr 6 0), (1, xi a1), (2, xi a2)] [] σ (jqP σ) (fm_Turns_after a1 a2 σ) := by
  unfold fm_Turns_after
  refine jr_aload_n (e_65 rfl) rfl rfl ?_
  refine jr_getr (K2 := 32) (i2 := 0) (e_65 rfl) rfl rfl rfl ?_
  refine jr_iload_n (e_65 rfl) rfl rfl ?_
  refine jr_bipush (e_65 rfl) rfl ?_
  refine jr_imul (e_65 rfl) rfl ?_
  refine jr_iload_n (e_65 rfl) rfl rfl ?_
  refine jr_iadd (e_65 rfl) rfl ?_
  refine jr_callP (as := [xr 32 0, xi (w32 ((w32 (a1 * 6)) + a2))]) (S1 := []) (e_65 rfl) rfl rfl rfl rfl rfl rfl (jm_S_read 32 0 (w32 ((w32 (a1 * 6)) + a2)) σ rfl) rfl (fun v1 => ?_)
  exact jr_retP (e_65 rfl) rfl

theorem e_76 {pc : Nat} {en : xa_I} (h : xlk pc xc_76 = some en) : xcd 76 pc = some en := h
noncomputable def fm_Way_placeBeside (i0 : Nat) (a1 : Int) (a2 : Int) (σ : xa_H) : Option (Int) :=
  (fm_S_read 34 i0 (w32 ((w32 (a1 * 6)) + a2)) σ).bind fun v1 =>
  some v1
theorem jm_Way_placeBeside (i0 : Nat) (a1 : Int) (a2 : Int) (σ : xa_H) : J 76 0 [(0, xr 7 i0), (1, xi a1), (2, xi a2)] [] σ (jqP σ) (fm_Way_placeBeside i0 a1 a2 σ) := by
  unfold fm_Way_placeBeside
  refine jr_aload_n (e_76 rfl) rfl rfl ?_
  refine jr_getr (K2 := 34) (i2 := i0) (e_76 rfl) rfl rfl rfl ?_
  refine jr_iload_n (e_76 rfl) rfl rfl ?_
  refine jr_bipush (e_76 rfl) rfl ?_
  refine jr_imul (e_76 rfl) rfl ?_
  refine jr_iload_n (e_76 rfl) rfl rfl ?_
  refine jr_iadd (e_76 rfl) rfl ?_
  refine jr_callP (as := [xr 34 i0, xi (w32 ((w32 (a1 * 6)) + a2))]) (S1 := []) (e_76 rfl) rfl rfl rfl rfl rfl rfl (jm_S_read 34 i0 (w32 ((w32 (a1 * 6)) + a2)) σ rfl) rfl (fun v1 => ?_)
  exact jr_retP (e_76 rfl) rfl

theorem e_40 {pc : Nat} {en : xa_I} (h : xlk pc xc_40 = some en) : xcd 40 pc = some en := h
noncomputable def fm_Search_step (a1 : Int) (a2 : Int) (σ : xa_H) : Option (Int) :=
  xnm ((xdiv a1 24) : Int) fun v1 =>
  xnm ((xrem a1 24) : Int) fun v2 =>
  if a2 < 6 then
    (fm_Way_placeBeside 0 v1 a2 σ).bind fun v4 =>
    if 0 ≤ v4 then
      some (w32 ((w32 (v4 * 24)) + v2))
    else
      some (-6)
  else
    (fm_Turns_after v2 (w32 (a2 - 6)) σ).bind fun v6 =>
    some (w32 ((w32 (v1 * 24)) + v6))
theorem jm_Search_step (a1 : Int) (a2 : Int) (σ : xa_H) : J 40 0 [(0, xr 3 0), (1, xi a1), (2, xi a2)] [] σ (jqP σ) (fm_Search_step a1 a2 σ) := by
  unfold fm_Search_step
  refine jr_iload_n (e_40 rfl) rfl rfl ?_
  refine jr_bipush (e_40 rfl) rfl ?_
  refine jr_idiv (e_40 rfl) rfl (by decide) ?_
  refine jr_nm (fun v1 => ?_)
  refine jr_istore_n (L' := [(3, xi v1), (0, xr 3 0), (1, xi a1), (2, xi a2)]) (e_40 rfl) rfl rfl rfl ?_
  refine jr_iload_n (e_40 rfl) rfl rfl ?_
  refine jr_bipush (e_40 rfl) rfl ?_
  refine jr_irem (e_40 rfl) rfl (by decide) ?_
  refine jr_nm (fun v2 => ?_)
  refine jr_istore (L' := [(4, xi v2), (3, xi v1), (0, xr 3 0), (1, xi a1), (2, xi a2)]) (e_40 rfl) rfl rfl rfl ?_
  refine jr_iload_n (e_40 rfl) rfl rfl ?_
  refine jr_bipush (e_40 rfl) rfl ?_
  refine jr_bri (c := a2 < 6) (pt := 36) (pn := 17) (e_40 rfl) rfl rfl (fun h3 => ?_) (fun h3 => ?_)
  · refine jr_aload_n (e_40 rfl) rfl rfl ?_
    refine jr_getr (K2 := 7) (i2 := 0) (e_40 rfl) rfl rfl rfl ?_
    refine jr_iload_n (e_40 rfl) rfl rfl ?_
    refine jr_iload_n (e_40 rfl) rfl rfl ?_
    refine jr_callP (as := [xr 7 0, xi v1, xi a2]) (S1 := []) (e_40 rfl) rfl rfl rfl rfl rfl rfl (jm_Way_placeBeside 0 v1 a2 σ) rfl (fun v4 => ?_)
    refine jr_istore (L' := [(5, xi v4), (4, xi v2), (3, xi v1), (0, xr 3 0), (1, xi a1), (2, xi a2)]) (e_40 rfl) rfl rfl rfl ?_
    refine jr_iload (e_40 rfl) rfl rfl ?_
    refine jr_bri (c := 0 ≤ v4) (pt := 57) (pn := 52) (e_40 rfl) rfl rfl (fun h5 => ?_) (fun h5 => ?_)
    · refine jr_iload (e_40 rfl) rfl rfl ?_
      refine jr_bipush (e_40 rfl) rfl ?_
      refine jr_imul (e_40 rfl) rfl ?_
      refine jr_iload (e_40 rfl) rfl rfl ?_
      refine jr_iadd (e_40 rfl) rfl ?_
      exact jr_retP (e_40 rfl) rfl
    · refine jr_bipush (e_40 rfl) rfl ?_
      refine jr_goto (pc' := 65) (e_40 rfl) rfl ?_
      exact jr_retP (e_40 rfl) rfl
  · refine jr_iload_n (e_40 rfl) rfl rfl ?_
    refine jr_bipush (e_40 rfl) rfl ?_
    refine jr_imul (e_40 rfl) rfl ?_
    refine jr_aload_n (e_40 rfl) rfl rfl ?_
    refine jr_getr (K2 := 6) (i2 := 0) (e_40 rfl) rfl rfl rfl ?_
    refine jr_iload (e_40 rfl) rfl rfl ?_
    refine jr_iload_n (e_40 rfl) rfl rfl ?_
    refine jr_bipush (e_40 rfl) rfl ?_
    refine jr_isub (e_40 rfl) rfl ?_
    refine jr_callP (as := [xr 6 0, xi v2, xi (w32 (a2 - 6))]) (S1 := [xi (w32 (v1 * 24))]) (e_40 rfl) rfl rfl rfl rfl rfl rfl (jm_Turns_after v2 (w32 (a2 - 6)) σ) rfl (fun v6 => ?_)
    refine jr_iadd (e_40 rfl) rfl ?_
    exact jr_retP (e_40 rfl) rfl

theorem e_43 {pc : Nat} {en : xa_I} (h : xlk pc xc_43 = some en) : xcd 43 pc = some en := h
noncomputable def fm_Search_opposite (a0 : Int) : Option (Int) :=
  if 6 ≤ a0 then
    if 9 ≤ a0 then
      some (w32 (a0 - 3))
    else
      some (w32 (a0 + 3))
  else
    some (xxor a0 1)
theorem jm_Search_opposite (a0 : Int) (σ : xa_H) : J 43 0 [(0, xi a0)] [] σ (jqP σ) (fm_Search_opposite a0) := by
  unfold fm_Search_opposite
  refine jr_iload_n (e_43 rfl) rfl rfl ?_
  refine jr_bipush (e_43 rfl) rfl ?_
  refine jr_bri (c := 6 ≤ a0) (pt := 10) (pn := 6) (e_43 rfl) rfl rfl (fun h1 => ?_) (fun h1 => ?_)
  · refine jr_iload_n (e_43 rfl) rfl rfl ?_
    refine jr_bipush (e_43 rfl) rfl ?_
    refine jr_bri (c := 9 ≤ a0) (pt := 22) (pn := 16) (e_43 rfl) rfl rfl (fun h2 => ?_) (fun h2 => ?_)
    · refine jr_iload_n (e_43 rfl) rfl rfl ?_
      refine jr_iconst (e_43 rfl) rfl ?_
      refine jr_isub (e_43 rfl) rfl ?_
      exact jr_retP (e_43 rfl) rfl
    · refine jr_iload_n (e_43 rfl) rfl rfl ?_
      refine jr_iconst (e_43 rfl) rfl ?_
      refine jr_iadd (e_43 rfl) rfl ?_
      refine jr_goto (pc' := 25) (e_43 rfl) rfl ?_
      exact jr_retP (e_43 rfl) rfl
  · refine jr_iload_n (e_43 rfl) rfl rfl ?_
    refine jr_iconst (e_43 rfl) rfl ?_
    refine jr_ixor (e_43 rfl) rfl ?_
    exact jr_retP (e_43 rfl) rfl

theorem e_13 {pc : Nat} {en : xa_I} (h : xlk pc xc_13 = some en) : xcd 13 pc = some en := h
noncomputable def fm_Cheapest_comeBackFrom_2 (f1 : Int) (K : xa_H → Option (xa_H)) : Nat → Int → xa_H → Option (xa_H)
  | 0, _, _ => none
  | n + 1, x2, sh =>
    if 12 ≤ x2 then
      K sh
    else
      (fm_Search_opposite x2).bind fun v2 =>
      (fm_Search_step f1 v2 sh).bind fun v3 =>
      if v3 < 0 then
        xnm (w32 (x2 + 1) : Int) fun v5 =>
        fm_Cheapest_comeBackFrom_2 f1 K n v5 sh
      else
        (fm_S_read 14 0 f1 sh).bind fun v6 =>
        if 0 ≤ x2 ∧ x2 < 12 then
          (fm_Cheapest_come v3 (w32 (v6 + (sh 13 0 x2.toNat))) sh).bind fun s7 =>
          xnm (w32 (x2 + 1) : Int) fun v8 =>
          fm_Cheapest_comeBackFrom_2 f1 K n v8 s7
        else none
theorem jl_Cheapest_comeBackFrom_2 (f1 : Int) (σ : xa_H)  (K : xa_H → Option (xa_H)) (hK2 : ∀ (sz : xa_H), J 13 51 [] [] sz jqV (K sz)) : ∀ (n : Nat) (x2 : Int) (sh : xa_H), J 13 2 [(0, xr 1 0), (1, xi f1), (2, xi x2)] [] sh jqV (fm_Cheapest_comeBackFrom_2 f1 K n x2 sh) := by
  intro n
  induction n with
  | zero => intro x2 sh; exact jr_none
  | succ n ih2 =>
    intro x2 sh
    rw [fm_Cheapest_comeBackFrom_2]
    refine jr_iload_n (e_13 rfl) rfl rfl ?_
    refine jr_bipush (e_13 rfl) rfl ?_
    refine jr_bri (c := 12 ≤ x2) (pt := 51) (pn := 8) (e_13 rfl) rfl rfl (fun h1 => ?_) (fun h1 => ?_)
    · exact jr_sub (show ([0, 1, 2] : List Nat).Nodup from by decide) xsb_n (hK2 sh)
    · refine jr_aload_n (e_13 rfl) rfl rfl ?_
      refine jr_getr (K2 := 3) (i2 := 0) (e_13 rfl) rfl rfl rfl ?_
      refine jr_iload_n (e_13 rfl) rfl rfl ?_
      refine jr_iload_n (e_13 rfl) rfl rfl ?_
      refine jr_callP (as := [xi x2]) (S1 := [xi f1, xr 3 0]) (e_13 rfl) rfl rfl rfl rfl rfl rfl (jm_Search_opposite x2 sh) rfl (fun v2 => ?_)
      refine jr_callP (as := [xr 3 0, xi f1, xi v2]) (S1 := []) (e_13 rfl) rfl rfl rfl rfl rfl rfl (jm_Search_step f1 v2 sh) rfl (fun v3 => ?_)
      refine jr_istore_n (L' := [(3, xi v3), (0, xr 1 0), (1, xi f1), (2, xi x2)]) (e_13 rfl) rfl rfl rfl ?_
      refine jr_iload_n (e_13 rfl) rfl rfl ?_
      refine jr_bri (c := v3 < 0) (pt := 45) (pn := 25) (e_13 rfl) rfl rfl (fun h4 => ?_) (fun h4 => ?_)
      · refine jr_iinc (L2 := fun c => [(2, xi c), (3, xi v3), (0, xr 1 0), (1, xi f1)]) (e_13 rfl) rfl rfl rfl (fun _ => rfl) (fun v5 => ?_)
        refine jr_goto (pc' := 2) (e_13 rfl) rfl ?_
        exact jr_sub (show ([2, 3, 0, 1] : List Nat).Nodup from by decide) (xsb_c (List.Mem.tail _ (List.Mem.tail _ (List.Mem.head _))) (xsb_c (List.Mem.tail _ (List.Mem.tail _ (List.Mem.tail _ (List.Mem.head _)))) (xsb_c (List.Mem.head _) xsb_n))) (ih2 v5 sh)
      · refine jr_aload_n (e_13 rfl) rfl rfl ?_
        refine jr_iload_n (e_13 rfl) rfl rfl ?_
        refine jr_aload_n (e_13 rfl) rfl rfl ?_
        refine jr_getr (K2 := 14) (i2 := 0) (e_13 rfl) rfl rfl rfl ?_
        refine jr_iload_n (e_13 rfl) rfl rfl ?_
        refine jr_callP (as := [xr 14 0, xi f1]) (S1 := [xi v3, xr 1 0]) (e_13 rfl) rfl rfl rfl rfl rfl rfl (jm_S_read 14 0 f1 sh rfl) rfl (fun v6 => ?_)
        refine jr_aload_n (e_13 rfl) rfl rfl ?_
        refine jr_getr (K2 := 13) (i2 := 0) (e_13 rfl) rfl rfl rfl ?_
        refine jr_iload_n (e_13 rfl) rfl rfl ?_
        refine jr_ald (n := 12) (e_13 rfl) rfl rfl rfl ?_
        refine jr_iadd (e_13 rfl) rfl ?_
        refine jr_callV (as := [xr 1 0, xi v3, xi (w32 (v6 + (sh 13 0 x2.toNat)))]) (S1 := []) (e_13 rfl) rfl rfl rfl rfl rfl rfl (jm_Cheapest_come v3 (w32 (v6 + (sh 13 0 x2.toNat))) sh) rfl (fun s7 => ?_)
        refine jr_iinc (L2 := fun c => [(2, xi c), (3, xi v3), (0, xr 1 0), (1, xi f1)]) (e_13 rfl) rfl rfl rfl (fun _ => rfl) (fun v8 => ?_)
        refine jr_goto (pc' := 2) (e_13 rfl) rfl ?_
        exact jr_sub (show ([2, 3, 0, 1] : List Nat).Nodup from by decide) (xsb_c (List.Mem.tail _ (List.Mem.tail _ (List.Mem.head _))) (xsb_c (List.Mem.tail _ (List.Mem.tail _ (List.Mem.tail _ (List.Mem.head _)))) (xsb_c (List.Mem.head _) xsb_n))) (ih2 v8 s7)
noncomputable def fm_Cheapest_comeBackFrom (a1 : Int) (σ : xa_H) : Option (xa_H) :=
  fm_Cheapest_comeBackFrom_2 a1 (fun (s9 : xa_H) =>
    some s9) xFU 0 σ
theorem jm_Cheapest_comeBackFrom (a1 : Int) (σ : xa_H) : J 13 0 [(0, xr 1 0), (1, xi a1)] [] σ jqV (fm_Cheapest_comeBackFrom a1 σ) := by
  unfold fm_Cheapest_comeBackFrom
  refine jr_iconst (e_13 rfl) rfl ?_
  refine jr_istore_n (L' := [(2, xi 0), (0, xr 1 0), (1, xi a1)]) (e_13 rfl) rfl rfl rfl ?_
  refine jr_sub (show ([2, 0, 1] : List Nat).Nodup from by decide) (xsb_c (List.Mem.tail _ (List.Mem.head _)) (xsb_c (List.Mem.tail _ (List.Mem.tail _ (List.Mem.head _))) (xsb_c (List.Mem.head _) xsb_n))) (jl_Cheapest_comeBackFrom_2 a1 σ _ (fun s9 => ?_) xFU 0 σ)
  exact jr_retV (e_13 rfl)

theorem e_16 {pc : Nat} {en : xa_I} (h : xlk pc xc_16 = some en) : xcd 16 pc = some en := h
noncomputable def fm_Cheapest_firstMove_2 (f1 : Int) (σ : xa_H) (K : Option (Int)) : Nat → Int → Option (Int)
  | 0, _ => none
  | n + 1, x2 =>
    if 12 ≤ x2 then
      K
    else
      (fm_Search_step f1 x2 σ).bind fun v2 =>
      if v2 < 0 then
        xnm (w32 (x2 + 1) : Int) fun v4 =>
        fm_Cheapest_firstMove_2 f1 σ K n v4
      else
        (fm_S_read 14 0 v2 σ).bind fun v5 =>
        (fm_S_read 14 0 f1 σ).bind fun v6 =>
        if 0 ≤ x2 ∧ x2 < 12 then
          if v5 = (w32 (v6 - (σ 13 0 x2.toNat))) then
            some x2
          else
            xnm (w32 (x2 + 1) : Int) fun v8 =>
            fm_Cheapest_firstMove_2 f1 σ K n v8
        else none
theorem jl_Cheapest_firstMove_2 (f1 : Int) (σ : xa_H)  (K : Option (Int)) (hK2 : J 16 56 [] [] σ (jqP σ) (K)) : ∀ (n : Nat) (x2 : Int), J 16 2 [(0, xr 1 0), (1, xi f1), (2, xi x2)] [] σ (jqP σ) (fm_Cheapest_firstMove_2 f1 σ K n x2) := by
  intro n
  induction n with
  | zero => intro x2; exact jr_none
  | succ n ih2 =>
    intro x2
    rw [fm_Cheapest_firstMove_2]
    refine jr_iload_n (e_16 rfl) rfl rfl ?_
    refine jr_bipush (e_16 rfl) rfl ?_
    refine jr_bri (c := 12 ≤ x2) (pt := 56) (pn := 8) (e_16 rfl) rfl rfl (fun h1 => ?_) (fun h1 => ?_)
    · exact jr_sub (show ([0, 1, 2] : List Nat).Nodup from by decide) xsb_n (hK2)
    · refine jr_aload_n (e_16 rfl) rfl rfl ?_
      refine jr_getr (K2 := 3) (i2 := 0) (e_16 rfl) rfl rfl rfl ?_
      refine jr_iload_n (e_16 rfl) rfl rfl ?_
      refine jr_iload_n (e_16 rfl) rfl rfl ?_
      refine jr_callP (as := [xr 3 0, xi f1, xi x2]) (S1 := []) (e_16 rfl) rfl rfl rfl rfl rfl rfl (jm_Search_step f1 x2 σ) rfl (fun v2 => ?_)
      refine jr_istore_n (L' := [(3, xi v2), (0, xr 1 0), (1, xi f1), (2, xi x2)]) (e_16 rfl) rfl rfl rfl ?_
      refine jr_iload_n (e_16 rfl) rfl rfl ?_
      refine jr_bri (c := v2 < 0) (pt := 50) (pn := 22) (e_16 rfl) rfl rfl (fun h3 => ?_) (fun h3 => ?_)
      · refine jr_iinc (L2 := fun c => [(2, xi c), (3, xi v2), (0, xr 1 0), (1, xi f1)]) (e_16 rfl) rfl rfl rfl (fun _ => rfl) (fun v4 => ?_)
        refine jr_goto (pc' := 2) (e_16 rfl) rfl ?_
        exact jr_sub (show ([2, 3, 0, 1] : List Nat).Nodup from by decide) (xsb_c (List.Mem.tail _ (List.Mem.tail _ (List.Mem.head _))) (xsb_c (List.Mem.tail _ (List.Mem.tail _ (List.Mem.tail _ (List.Mem.head _)))) (xsb_c (List.Mem.head _) xsb_n))) (ih2 v4)
      · refine jr_aload_n (e_16 rfl) rfl rfl ?_
        refine jr_getr (K2 := 14) (i2 := 0) (e_16 rfl) rfl rfl rfl ?_
        refine jr_iload_n (e_16 rfl) rfl rfl ?_
        refine jr_callP (as := [xr 14 0, xi v2]) (S1 := []) (e_16 rfl) rfl rfl rfl rfl rfl rfl (jm_S_read 14 0 v2 σ rfl) rfl (fun v5 => ?_)
        refine jr_aload_n (e_16 rfl) rfl rfl ?_
        refine jr_getr (K2 := 14) (i2 := 0) (e_16 rfl) rfl rfl rfl ?_
        refine jr_iload_n (e_16 rfl) rfl rfl ?_
        refine jr_callP (as := [xr 14 0, xi f1]) (S1 := [xi v5]) (e_16 rfl) rfl rfl rfl rfl rfl rfl (jm_S_read 14 0 f1 σ rfl) rfl (fun v6 => ?_)
        refine jr_aload_n (e_16 rfl) rfl rfl ?_
        refine jr_getr (K2 := 13) (i2 := 0) (e_16 rfl) rfl rfl rfl ?_
        refine jr_iload_n (e_16 rfl) rfl rfl ?_
        refine jr_ald (n := 12) (e_16 rfl) rfl rfl rfl ?_
        refine jr_isub (e_16 rfl) rfl ?_
        refine jr_brx (c := v5 = (w32 (v6 - (σ 13 0 x2.toNat)))) (pt := 50) (pn := 48) (e_16 rfl) rfl rfl (fun h7 => ?_) (fun h7 => ?_)
        · refine jr_iload_n (e_16 rfl) rfl rfl ?_
          exact jr_retP (e_16 rfl) rfl
        · refine jr_iinc (L2 := fun c => [(2, xi c), (3, xi v2), (0, xr 1 0), (1, xi f1)]) (e_16 rfl) rfl rfl rfl (fun _ => rfl) (fun v8 => ?_)
          refine jr_goto (pc' := 2) (e_16 rfl) rfl ?_
          exact jr_sub (show ([2, 3, 0, 1] : List Nat).Nodup from by decide) (xsb_c (List.Mem.tail _ (List.Mem.tail _ (List.Mem.head _))) (xsb_c (List.Mem.tail _ (List.Mem.tail _ (List.Mem.tail _ (List.Mem.head _)))) (xsb_c (List.Mem.head _) xsb_n))) (ih2 v8)
noncomputable def fm_Cheapest_firstMove (a1 : Int) (σ : xa_H) : Option (Int) :=
  fm_Cheapest_firstMove_2 a1 σ (
    some 0) xFU 0
theorem jm_Cheapest_firstMove (a1 : Int) (σ : xa_H) : J 16 0 [(0, xr 1 0), (1, xi a1)] [] σ (jqP σ) (fm_Cheapest_firstMove a1 σ) := by
  unfold fm_Cheapest_firstMove
  refine jr_iconst (e_16 rfl) rfl ?_
  refine jr_istore_n (L' := [(2, xi 0), (0, xr 1 0), (1, xi a1)]) (e_16 rfl) rfl rfl rfl ?_
  refine jr_sub (show ([2, 0, 1] : List Nat).Nodup from by decide) (xsb_c (List.Mem.tail _ (List.Mem.head _)) (xsb_c (List.Mem.tail _ (List.Mem.tail _ (List.Mem.head _))) (xsb_c (List.Mem.head _) xsb_n))) (jl_Cheapest_firstMove_2 a1 σ _ ?_ xFU 0)
  refine jr_iconst (e_16 rfl) rfl ?_
  exact jr_retP (e_16 rfl) rfl

theorem e_44 {pc : Nat} {en : xa_I} (h : xlk pc xc_44 = some en) : xcd 44 pc = some en := h
noncomputable def fm_Search_signOf (a0 : Int) : Option (Int) :=
  if a0 < 0 then
    some (-6)
  else
    if 12 ≤ a0 then
      some (-6)
    else
      some (xmoves.getD a0.toNat 0)
theorem jm_Search_signOf (a0 : Int) (σ : xa_H) : J 44 0 [(0, xi a0)] [] σ (jqP σ) (fm_Search_signOf a0) := by
  unfold fm_Search_signOf
  refine jr_iload_n (e_44 rfl) rfl rfl ?_
  refine jr_bri (c := a0 < 0) (pt := 22) (pn := 4) (e_44 rfl) rfl rfl (fun h1 => ?_) (fun h1 => ?_)
  · refine jr_bipush (e_44 rfl) rfl ?_
    exact jr_retP (e_44 rfl) rfl
  · refine jr_iload_n (e_44 rfl) rfl rfl ?_
    refine jr_ldcS (e_44 rfl) rfl ?_
    refine jr_prim (as := [xr 99 1]) (S1 := [xi a0]) (v := xi 12) (e_44 rfl) rfl rfl rfl rfl rfl xprim_le rfl ?_
    refine jr_bri (c := 12 ≤ a0) (pt := 22) (pn := 13) (e_44 rfl) rfl rfl (fun h2 => ?_) (fun h2 => ?_)
    · refine jr_bipush (e_44 rfl) rfl ?_
      exact jr_retP (e_44 rfl) rfl
    · refine jr_ldcS (e_44 rfl) rfl ?_
      refine jr_iload_n (e_44 rfl) rfl rfl ?_
      refine jr_prim (as := [xr 99 1, xi a0]) (S1 := []) (v := xi (xmoves.getD a0.toNat 0)) (e_44 rfl) rfl rfl rfl rfl rfl (xprim_ch (by omega) (by omega)) rfl ?_
      refine jr_goto (pc' := 24) (e_44 rfl) rfl ?_
      exact jr_retP (e_44 rfl) rfl

theorem e_15 {pc : Nat} {en : xa_I} (h : xlk pc xc_15 = some en) : xcd 15 pc = some en := h
noncomputable def fm_Cheapest_walk_5  (K : xa_H → Option (xa_H)) : Nat → Int → Int → xa_H → Option (xa_H)
  | 0, _, _, _ => none
  | n + 1, x3, x4, sh =>
    if 3456 ≤ x4 then
      K sh
    else
      (fm_S_read 14 0 x3 sh).bind fun v2 =>
      if v2 ≤ 0 then
        K sh
      else
        (fm_Cheapest_firstMove x3 sh).bind fun v4 =>
        (fm_Search_signOf v4).bind fun v5 =>
        (fm_Answer_add v5 sh).bind fun s6 =>
        (fm_Search_step x3 v4 s6).bind fun v7 =>
        xnm (w32 (x4 + 1) : Int) fun v8 =>
        fm_Cheapest_walk_5 K n v7 v8 s6
theorem jl_Cheapest_walk_5  (σ : xa_H)  (K : xa_H → Option (xa_H)) (hK5 : ∀ (sz : xa_H), J 15 57 [] [] sz jqV (K sz)) : ∀ (n : Nat) (x3 : Int) (x4 : Int) (sh : xa_H), J 15 5 [(0, xr 1 0), (2, xr 0 0), (3, xi x3), (4, xi x4)] [] sh jqV (fm_Cheapest_walk_5 K n x3 x4 sh) := by
  intro n
  induction n with
  | zero => intro x3 x4 sh; exact jr_none
  | succ n ih5 =>
    intro x3 x4 sh
    rw [fm_Cheapest_walk_5]
    refine jr_iload (e_15 rfl) rfl rfl ?_
    refine jr_sipush (e_15 rfl) rfl ?_
    refine jr_bri (c := 3456 ≤ x4) (pt := 57) (pn := 13) (e_15 rfl) rfl rfl (fun h1 => ?_) (fun h1 => ?_)
    · exact jr_sub (show ([0, 2, 3, 4] : List Nat).Nodup from by decide) xsb_n (hK5 sh)
    · refine jr_aload_n (e_15 rfl) rfl rfl ?_
      refine jr_getr (K2 := 14) (i2 := 0) (e_15 rfl) rfl rfl rfl ?_
      refine jr_iload_n (e_15 rfl) rfl rfl ?_
      refine jr_callP (as := [xr 14 0, xi x3]) (S1 := []) (e_15 rfl) rfl rfl rfl rfl rfl rfl (jm_S_read 14 0 x3 sh rfl) rfl (fun v2 => ?_)
      refine jr_bri (c := v2 ≤ 0) (pt := 57) (pn := 24) (e_15 rfl) rfl rfl (fun h3 => ?_) (fun h3 => ?_)
      · exact jr_sub (show ([0, 2, 3, 4] : List Nat).Nodup from by decide) xsb_n (hK5 sh)
      · refine jr_aload_n (e_15 rfl) rfl rfl ?_
        refine jr_iload_n (e_15 rfl) rfl rfl ?_
        refine jr_callP (as := [xr 1 0, xi x3]) (S1 := []) (e_15 rfl) rfl rfl rfl rfl rfl rfl (jm_Cheapest_firstMove x3 sh) rfl (fun v4 => ?_)
        refine jr_istore (L' := [(5, xi v4), (0, xr 1 0), (2, xr 0 0), (3, xi x3), (4, xi x4)]) (e_15 rfl) rfl rfl rfl ?_
        refine jr_aload_n (e_15 rfl) rfl rfl ?_
        refine jr_iload (e_15 rfl) rfl rfl ?_
        refine jr_callP (as := [xi v4]) (S1 := [xr 0 0]) (e_15 rfl) rfl rfl rfl rfl rfl rfl (jm_Search_signOf v4 sh) rfl (fun v5 => ?_)
        refine jr_callV (as := [xr 0 0, xi v5]) (S1 := []) (e_15 rfl) rfl rfl rfl rfl rfl rfl (jm_Answer_add v5 sh) rfl (fun s6 => ?_)
        refine jr_aload_n (e_15 rfl) rfl rfl ?_
        refine jr_getr (K2 := 3) (i2 := 0) (e_15 rfl) rfl rfl rfl ?_
        refine jr_iload_n (e_15 rfl) rfl rfl ?_
        refine jr_iload (e_15 rfl) rfl rfl ?_
        refine jr_callP (as := [xr 3 0, xi x3, xi v4]) (S1 := []) (e_15 rfl) rfl rfl rfl rfl rfl rfl (jm_Search_step x3 v4 s6) rfl (fun v7 => ?_)
        refine jr_istore_n (L' := [(3, xi v7), (5, xi v4), (0, xr 1 0), (2, xr 0 0), (4, xi x4)]) (e_15 rfl) rfl rfl rfl ?_
        refine jr_iinc (L2 := fun c => [(4, xi c), (3, xi v7), (5, xi v4), (0, xr 1 0), (2, xr 0 0)]) (e_15 rfl) rfl rfl rfl (fun _ => rfl) (fun v8 => ?_)
        refine jr_goto (pc' := 5) (e_15 rfl) rfl ?_
        exact jr_sub (show ([4, 3, 5, 0, 2] : List Nat).Nodup from by decide) (xsb_c (List.Mem.tail _ (List.Mem.tail _ (List.Mem.tail _ (List.Mem.head _)))) (xsb_c (List.Mem.tail _ (List.Mem.tail _ (List.Mem.tail _ (List.Mem.tail _ (List.Mem.head _))))) (xsb_c (List.Mem.tail _ (List.Mem.head _)) (xsb_c (List.Mem.head _) xsb_n)))) (ih5 v7 v8 s6)
noncomputable def fm_Cheapest_walk (a1 : Int) (σ : xa_H) : Option (xa_H) :=
  fm_Cheapest_walk_5 (fun (s9 : xa_H) =>
    some s9) xFU a1 0 σ
theorem jm_Cheapest_walk (a1 : Int) (σ : xa_H) : J 15 0 [(0, xr 1 0), (1, xi a1), (2, xr 0 0)] [] σ jqV (fm_Cheapest_walk a1 σ) := by
  unfold fm_Cheapest_walk
  refine jr_iload_n (e_15 rfl) rfl rfl ?_
  refine jr_istore_n (L' := [(3, xi a1), (0, xr 1 0), (1, xi a1), (2, xr 0 0)]) (e_15 rfl) rfl rfl rfl ?_
  refine jr_iconst (e_15 rfl) rfl ?_
  refine jr_istore (L' := [(4, xi 0), (3, xi a1), (0, xr 1 0), (1, xi a1), (2, xr 0 0)]) (e_15 rfl) rfl rfl rfl ?_
  refine jr_sub (show ([4, 3, 0, 1, 2] : List Nat).Nodup from by decide) (xsb_c (List.Mem.tail _ (List.Mem.tail _ (List.Mem.head _))) (xsb_c (List.Mem.tail _ (List.Mem.tail _ (List.Mem.tail _ (List.Mem.tail _ (List.Mem.head _))))) (xsb_c (List.Mem.tail _ (List.Mem.head _)) (xsb_c (List.Mem.head _) xsb_n)))) (jl_Cheapest_walk_5 σ _ (fun s9 => ?_) xFU a1 0 σ)
  exact jr_retV (e_15 rfl)

theorem e_20 {pc : Nat} {en : xa_I} (h : xlk pc xc_20 = some en) : xcd 20 pc = some en := h
noncomputable def fm_Cheapest_sink_4 (f1 : Int) (K : Int → xa_H → Option (xa_H)) : Nat → Int → Int → xa_H → Option (xa_H)
  | 0, _, _, _ => none
  | n + 1, x2, x3, sh =>
    if (sh 1 0 5) ≤ x3 then
      K x2 sh
    else
      xnm ((w32 (x3 + 1)) : Int) fun v2 =>
      xj (fun (v4 : Int) =>
        (fm_S_read 15 0 v4 sh).bind fun v12 =>
        (fm_S_read 14 0 f1 sh).bind fun v13 =>
        (fm_S_read 14 0 v12 sh).bind fun v14 =>
        if v14 < v13 then
          (fm_Cheapest_put x2 v12 sh).bind fun s16 =>
          xnm ((w32 ((w32 (2 * v4)) + 1)) : Int) fun v17 =>
          fm_Cheapest_sink_4 f1 K n v4 v17 s16
        else
          K x2 sh) fun K5 =>
      if (sh 1 0 5) ≤ v2 then
        K5 x3
      else
        (fm_S_read 15 0 v2 sh).bind fun v7 =>
        (fm_S_read 14 0 v7 sh).bind fun v8 =>
        (fm_S_read 15 0 x3 sh).bind fun v9 =>
        (fm_S_read 14 0 v9 sh).bind fun v10 =>
        if v10 ≤ v8 then
          K5 x3
        else
          K5 v2
theorem jl_Cheapest_sink_4 (f1 : Int) (σ : xa_H)  (K : Int → xa_H → Option (xa_H)) (hK4 : ∀ (z0 : Int) (sz : xa_H), J 20 114 [(0, xr 1 0), (1, xi f1), (2, xi z0)] [] sz jqV (K z0 sz)) : ∀ (n : Nat) (x2 : Int) (x3 : Int) (sh : xa_H), J 20 4 [(0, xr 1 0), (1, xi f1), (2, xi x2), (3, xi x3)] [] sh jqV (fm_Cheapest_sink_4 f1 K n x2 x3 sh) := by
  intro n
  induction n with
  | zero => intro x2 x3 sh; exact jr_none
  | succ n ih4 =>
    intro x2 x3 sh
    rw [fm_Cheapest_sink_4]
    refine jr_iload_n (e_20 rfl) rfl rfl ?_
    refine jr_aload_n (e_20 rfl) rfl rfl ?_
    refine jr_geti (e_20 rfl) rfl (by decide +kernel) ?_
    refine jr_bri (c := (sh 1 0 5) ≤ x3) (pt := 114) (pn := 12) (e_20 rfl) rfl rfl (fun h1 => ?_) (fun h1 => ?_)
    · exact jr_sub (show ([0, 1, 2, 3] : List Nat).Nodup from by decide) (xsb_c (List.Mem.head _) (xsb_c (List.Mem.tail _ (List.Mem.head _)) (xsb_c (List.Mem.tail _ (List.Mem.tail _ (List.Mem.head _))) xsb_n))) (hK4 x2 sh)
    · refine jr_iload_n (e_20 rfl) rfl rfl ?_
      refine jr_iconst (e_20 rfl) rfl ?_
      refine jr_iadd (e_20 rfl) rfl ?_
      refine jr_nm (fun v2 => ?_)
      refine jr_istore (L' := [(4, xi v2), (0, xr 1 0), (1, xi f1), (2, xi x2), (3, xi x3)]) (e_20 rfl) rfl rfl rfl ?_
      refine jr_iload (e_20 rfl) rfl rfl ?_
      refine jr_aload_n (e_20 rfl) rfl rfl ?_
      refine jr_geti (e_20 rfl) rfl (by decide +kernel) ?_
      refine jr_j (fun K5 => ∀ (v4 : Int), J 20 63 [(0, xr 1 0), (1, xi f1), (2, xi x2), (3, xi v4)] [] sh jqV (K5 v4)) (fun v4 => ?_) (fun K5 hK5 => ?_)
      · refine jr_aload_n (e_20 rfl) rfl rfl ?_
        refine jr_getr (K2 := 15) (i2 := 0) (e_20 rfl) rfl rfl rfl ?_
        refine jr_iload_n (e_20 rfl) rfl rfl ?_
        refine jr_callP (as := [xr 15 0, xi v4]) (S1 := []) (e_20 rfl) rfl rfl rfl rfl rfl rfl (jm_S_read 15 0 v4 sh rfl) rfl (fun v12 => ?_)
        refine jr_istore (L' := [(5, xi v12), (0, xr 1 0), (1, xi f1), (2, xi x2), (3, xi v4)]) (e_20 rfl) rfl rfl rfl ?_
        refine jr_aload_n (e_20 rfl) rfl rfl ?_
        refine jr_getr (K2 := 14) (i2 := 0) (e_20 rfl) rfl rfl rfl ?_
        refine jr_iload_n (e_20 rfl) rfl rfl ?_
        refine jr_callP (as := [xr 14 0, xi f1]) (S1 := []) (e_20 rfl) rfl rfl rfl rfl rfl rfl (jm_S_read 14 0 f1 sh rfl) rfl (fun v13 => ?_)
        refine jr_aload_n (e_20 rfl) rfl rfl ?_
        refine jr_getr (K2 := 14) (i2 := 0) (e_20 rfl) rfl rfl rfl ?_
        refine jr_iload (e_20 rfl) rfl rfl ?_
        refine jr_callP (as := [xr 14 0, xi v12]) (S1 := [xi v13]) (e_20 rfl) rfl rfl rfl rfl rfl rfl (jm_S_read 14 0 v12 sh rfl) rfl (fun v14 => ?_)
        refine jr_bri (c := v14 < v13) (pt := 96) (pn := 93) (e_20 rfl) rfl rfl (fun h15 => ?_) (fun h15 => ?_)
        · refine jr_aload_n (e_20 rfl) rfl rfl ?_
          refine jr_iload_n (e_20 rfl) rfl rfl ?_
          refine jr_iload (e_20 rfl) rfl rfl ?_
          refine jr_callV (as := [xr 1 0, xi x2, xi v12]) (S1 := []) (e_20 rfl) rfl rfl rfl rfl rfl rfl (jm_Cheapest_put x2 v12 sh) rfl (fun s16 => ?_)
          refine jr_iload_n (e_20 rfl) rfl rfl ?_
          refine jr_istore_n (L' := [(2, xi v4), (5, xi v12), (0, xr 1 0), (1, xi f1), (3, xi v4)]) (e_20 rfl) rfl rfl rfl ?_
          refine jr_iconst (e_20 rfl) rfl ?_
          refine jr_iload_n (e_20 rfl) rfl rfl ?_
          refine jr_imul (e_20 rfl) rfl ?_
          refine jr_iconst (e_20 rfl) rfl ?_
          refine jr_iadd (e_20 rfl) rfl ?_
          refine jr_nm (fun v17 => ?_)
          refine jr_istore_n (L' := [(3, xi v17), (2, xi v4), (5, xi v12), (0, xr 1 0), (1, xi f1)]) (e_20 rfl) rfl rfl rfl ?_
          refine jr_goto (pc' := 4) (e_20 rfl) rfl ?_
          exact jr_sub (show ([3, 2, 5, 0, 1] : List Nat).Nodup from by decide) (xsb_c (List.Mem.tail _ (List.Mem.tail _ (List.Mem.tail _ (List.Mem.head _)))) (xsb_c (List.Mem.tail _ (List.Mem.tail _ (List.Mem.tail _ (List.Mem.tail _ (List.Mem.head _))))) (xsb_c (List.Mem.tail _ (List.Mem.head _)) (xsb_c (List.Mem.head _) xsb_n)))) (ih4 v4 v17 s16)
        · refine jr_goto (pc' := 114) (e_20 rfl) rfl ?_
          exact jr_sub (show ([5, 0, 1, 2, 3] : List Nat).Nodup from by decide) (xsb_c (List.Mem.tail _ (List.Mem.head _)) (xsb_c (List.Mem.tail _ (List.Mem.tail _ (List.Mem.head _))) (xsb_c (List.Mem.tail _ (List.Mem.tail _ (List.Mem.tail _ (List.Mem.head _)))) xsb_n))) (hK4 x2 sh)
      · refine jr_bri (c := (sh 1 0 5) ≤ v2) (pt := 63) (pn := 26) (e_20 rfl) rfl rfl (fun h6 => ?_) (fun h6 => ?_)
        · exact jr_sub (show ([4, 0, 1, 2, 3] : List Nat).Nodup from by decide) (xsb_c (List.Mem.tail _ (List.Mem.head _)) (xsb_c (List.Mem.tail _ (List.Mem.tail _ (List.Mem.head _))) (xsb_c (List.Mem.tail _ (List.Mem.tail _ (List.Mem.tail _ (List.Mem.head _)))) (xsb_c (List.Mem.tail _ (List.Mem.tail _ (List.Mem.tail _ (List.Mem.tail _ (List.Mem.head _))))) xsb_n)))) (hK5 x3)
        · refine jr_aload_n (e_20 rfl) rfl rfl ?_
          refine jr_getr (K2 := 14) (i2 := 0) (e_20 rfl) rfl rfl rfl ?_
          refine jr_aload_n (e_20 rfl) rfl rfl ?_
          refine jr_getr (K2 := 15) (i2 := 0) (e_20 rfl) rfl rfl rfl ?_
          refine jr_iload (e_20 rfl) rfl rfl ?_
          refine jr_callP (as := [xr 15 0, xi v2]) (S1 := [xr 14 0]) (e_20 rfl) rfl rfl rfl rfl rfl rfl (jm_S_read 15 0 v2 sh rfl) rfl (fun v7 => ?_)
          refine jr_callP (as := [xr 14 0, xi v7]) (S1 := []) (e_20 rfl) rfl rfl rfl rfl rfl rfl (jm_S_read 14 0 v7 sh rfl) rfl (fun v8 => ?_)
          refine jr_aload_n (e_20 rfl) rfl rfl ?_
          refine jr_getr (K2 := 14) (i2 := 0) (e_20 rfl) rfl rfl rfl ?_
          refine jr_aload_n (e_20 rfl) rfl rfl ?_
          refine jr_getr (K2 := 15) (i2 := 0) (e_20 rfl) rfl rfl rfl ?_
          refine jr_iload_n (e_20 rfl) rfl rfl ?_
          refine jr_callP (as := [xr 15 0, xi x3]) (S1 := [xr 14 0, xi v8]) (e_20 rfl) rfl rfl rfl rfl rfl rfl (jm_S_read 15 0 x3 sh rfl) rfl (fun v9 => ?_)
          refine jr_callP (as := [xr 14 0, xi v9]) (S1 := [xi v8]) (e_20 rfl) rfl rfl rfl rfl rfl rfl (jm_S_read 14 0 v9 sh rfl) rfl (fun v10 => ?_)
          refine jr_bri (c := v10 ≤ v8) (pt := 63) (pn := 60) (e_20 rfl) rfl rfl (fun h11 => ?_) (fun h11 => ?_)
          · exact jr_sub (show ([4, 0, 1, 2, 3] : List Nat).Nodup from by decide) (xsb_c (List.Mem.tail _ (List.Mem.head _)) (xsb_c (List.Mem.tail _ (List.Mem.tail _ (List.Mem.head _))) (xsb_c (List.Mem.tail _ (List.Mem.tail _ (List.Mem.tail _ (List.Mem.head _)))) (xsb_c (List.Mem.tail _ (List.Mem.tail _ (List.Mem.tail _ (List.Mem.tail _ (List.Mem.head _))))) xsb_n)))) (hK5 x3)
          · refine jr_iload (e_20 rfl) rfl rfl ?_
            refine jr_istore_n (L' := [(3, xi v2), (4, xi v2), (0, xr 1 0), (1, xi f1), (2, xi x2)]) (e_20 rfl) rfl rfl rfl ?_
            exact jr_sub (show ([3, 4, 0, 1, 2] : List Nat).Nodup from by decide) (xsb_c (List.Mem.tail _ (List.Mem.tail _ (List.Mem.head _))) (xsb_c (List.Mem.tail _ (List.Mem.tail _ (List.Mem.tail _ (List.Mem.head _)))) (xsb_c (List.Mem.tail _ (List.Mem.tail _ (List.Mem.tail _ (List.Mem.tail _ (List.Mem.head _))))) (xsb_c (List.Mem.head _) xsb_n)))) (hK5 v2)
noncomputable def fm_Cheapest_sink (a1 : Int) (σ : xa_H) : Option (xa_H) :=
  fm_Cheapest_sink_4 a1 (fun (v18 : Int) (s19 : xa_H) =>
    (fm_Cheapest_put v18 a1 s19).bind fun s20 =>
    some s20) xFU 0 1 σ
theorem jm_Cheapest_sink (a1 : Int) (σ : xa_H) : J 20 0 [(0, xr 1 0), (1, xi a1)] [] σ jqV (fm_Cheapest_sink a1 σ) := by
  unfold fm_Cheapest_sink
  refine jr_iconst (e_20 rfl) rfl ?_
  refine jr_istore_n (L' := [(2, xi 0), (0, xr 1 0), (1, xi a1)]) (e_20 rfl) rfl rfl rfl ?_
  refine jr_iconst (e_20 rfl) rfl ?_
  refine jr_istore_n (L' := [(3, xi 1), (2, xi 0), (0, xr 1 0), (1, xi a1)]) (e_20 rfl) rfl rfl rfl ?_
  refine jr_sub (show ([3, 2, 0, 1] : List Nat).Nodup from by decide) (xsb_c (List.Mem.tail _ (List.Mem.tail _ (List.Mem.head _))) (xsb_c (List.Mem.tail _ (List.Mem.tail _ (List.Mem.tail _ (List.Mem.head _)))) (xsb_c (List.Mem.tail _ (List.Mem.head _)) (xsb_c (List.Mem.head _) xsb_n)))) (jl_Cheapest_sink_4 a1 σ _ (fun v18 s19 => ?_) xFU 0 1 σ)
  refine jr_aload_n (e_20 rfl) rfl rfl ?_
  refine jr_iload_n (e_20 rfl) rfl rfl ?_
  refine jr_iload_n (e_20 rfl) rfl rfl ?_
  refine jr_callV (as := [xr 1 0, xi v18, xi a1]) (S1 := []) (e_20 rfl) rfl rfl rfl rfl rfl rfl (jm_Cheapest_put v18 a1 s19) rfl (fun s20 => ?_)
  exact jr_retV (e_20 rfl)

theorem e_19 {pc : Nat} {en : xa_I} (h : xlk pc xc_19 = some en) : xcd 19 pc = some en := h
noncomputable def fm_Cheapest_takeNearest (σ : xa_H) : Option (Int × xa_H) :=
  (fm_S_read 15 0 0 σ).bind fun v1 =>
  xnm (xup σ 1 0 5 (w32 ((σ 1 0 5) - 1))) fun s2 =>
  if (s2 1 0 5) ≤ 0 then
    some (v1, s2)
  else
    (fm_S_read 15 0 (s2 1 0 5) s2).bind fun v4 =>
    (fm_Cheapest_sink v4 s2).bind fun s5 =>
    some (v1, s5)
theorem jm_Cheapest_takeNearest (σ : xa_H) : J 19 0 [(0, xr 1 0)] [] σ jqW (fm_Cheapest_takeNearest σ) := by
  unfold fm_Cheapest_takeNearest
  refine jr_aload_n (e_19 rfl) rfl rfl ?_
  refine jr_getr (K2 := 15) (i2 := 0) (e_19 rfl) rfl rfl rfl ?_
  refine jr_iconst (e_19 rfl) rfl ?_
  refine jr_callP (as := [xr 15 0, xi 0]) (S1 := []) (e_19 rfl) rfl rfl rfl rfl rfl rfl (jm_S_read 15 0 0 σ rfl) rfl (fun v1 => ?_)
  refine jr_istore_n (L' := [(1, xi v1), (0, xr 1 0)]) (e_19 rfl) rfl rfl rfl ?_
  refine jr_aload_n (e_19 rfl) rfl rfl ?_
  refine jr_dup (e_19 rfl) rfl rfl ?_
  refine jr_geti (e_19 rfl) rfl (by decide +kernel) ?_
  refine jr_iconst (e_19 rfl) rfl ?_
  refine jr_isub (e_19 rfl) rfl ?_
  refine jr_put (e_19 rfl) rfl rfl rfl ?_
  refine jr_nms (fun s2 => ?_)
  refine jr_aload_n (e_19 rfl) rfl rfl ?_
  refine jr_geti (e_19 rfl) rfl (by decide +kernel) ?_
  refine jr_bri (c := (s2 1 0 5) ≤ 0) (pt := 41) (pn := 26) (e_19 rfl) rfl rfl (fun h3 => ?_) (fun h3 => ?_)
  · refine jr_iload_n (e_19 rfl) rfl rfl ?_
    exact jr_retW (e_19 rfl) rfl
  · refine jr_aload_n (e_19 rfl) rfl rfl ?_
    refine jr_aload_n (e_19 rfl) rfl rfl ?_
    refine jr_getr (K2 := 15) (i2 := 0) (e_19 rfl) rfl rfl rfl ?_
    refine jr_aload_n (e_19 rfl) rfl rfl ?_
    refine jr_geti (e_19 rfl) rfl (by decide +kernel) ?_
    refine jr_callP (as := [xr 15 0, xi (s2 1 0 5)]) (S1 := [xr 1 0]) (e_19 rfl) rfl rfl rfl rfl rfl rfl (jm_S_read 15 0 (s2 1 0 5) s2 rfl) rfl (fun v4 => ?_)
    refine jr_callV (as := [xr 1 0, xi v4]) (S1 := []) (e_19 rfl) rfl rfl rfl rfl rfl rfl (jm_Cheapest_sink v4 s2) rfl (fun s5 => ?_)
    refine jr_iload_n (e_19 rfl) rfl rfl ?_
    exact jr_retW (e_19 rfl) rfl

theorem e_12 {pc : Nat} {en : xa_I} (h : xlk pc xc_12 = some en) : xcd 12 pc = some en := h
noncomputable def fm_Cheapest_find_33 (f1 : Int) (f2 : Int) (K : xa_H → Option (xa_H)) : Nat → Int → xa_H → Option (xa_H)
  | 0, _, _ => none
  | n + 1, x4, sh =>
    if 24 ≤ x4 then
      K sh
    else
      (fm_Cheapest_come (w32 ((w32 (f2 * 24)) + x4)) 0 sh).bind fun s2 =>
      xnm (w32 (x4 + 1) : Int) fun v3 =>
      fm_Cheapest_find_33 f1 f2 K n v3 s2
theorem jl_Cheapest_find_33 (f1 : Int) (f2 : Int) (σ : xa_H)  (K : xa_H → Option (xa_H)) (hK33 : ∀ (sz : xa_H), J 12 58 [(0, xr 1 0), (1, xi f1), (3, xr 0 0)] [] sz jqV (K sz)) : ∀ (n : Nat) (x4 : Int) (sh : xa_H), J 12 33 [(0, xr 1 0), (1, xi f1), (2, xi f2), (3, xr 0 0), (4, xi x4)] [] sh jqV (fm_Cheapest_find_33 f1 f2 K n x4 sh) := by
  intro n
  induction n with
  | zero => intro x4 sh; exact jr_none
  | succ n ih33 =>
    intro x4 sh
    rw [fm_Cheapest_find_33]
    refine jr_iload (e_12 rfl) rfl rfl ?_
    refine jr_bipush (e_12 rfl) rfl ?_
    refine jr_bri (c := 24 ≤ x4) (pt := 58) (pn := 40) (e_12 rfl) rfl rfl (fun h1 => ?_) (fun h1 => ?_)
    · exact jr_sub (show ([0, 1, 2, 3, 4] : List Nat).Nodup from by decide) (xsb_c (List.Mem.head _) (xsb_c (List.Mem.tail _ (List.Mem.head _)) (xsb_c (List.Mem.tail _ (List.Mem.tail _ (List.Mem.tail _ (List.Mem.head _)))) xsb_n))) (hK33 sh)
    · refine jr_aload_n (e_12 rfl) rfl rfl ?_
      refine jr_iload_n (e_12 rfl) rfl rfl ?_
      refine jr_bipush (e_12 rfl) rfl ?_
      refine jr_imul (e_12 rfl) rfl ?_
      refine jr_iload (e_12 rfl) rfl rfl ?_
      refine jr_iadd (e_12 rfl) rfl ?_
      refine jr_iconst (e_12 rfl) rfl ?_
      refine jr_callV (as := [xr 1 0, xi (w32 ((w32 (f2 * 24)) + x4)), xi 0]) (S1 := []) (e_12 rfl) rfl rfl rfl rfl rfl rfl (jm_Cheapest_come (w32 ((w32 (f2 * 24)) + x4)) 0 sh) rfl (fun s2 => ?_)
      refine jr_iinc (L2 := fun c => [(4, xi c), (0, xr 1 0), (1, xi f1), (2, xi f2), (3, xr 0 0)]) (e_12 rfl) rfl rfl rfl (fun _ => rfl) (fun v3 => ?_)
      refine jr_goto (pc' := 33) (e_12 rfl) rfl ?_
      exact jr_sub (show ([4, 0, 1, 2, 3] : List Nat).Nodup from by decide) (xsb_c (List.Mem.tail _ (List.Mem.head _)) (xsb_c (List.Mem.tail _ (List.Mem.tail _ (List.Mem.head _))) (xsb_c (List.Mem.tail _ (List.Mem.tail _ (List.Mem.tail _ (List.Mem.head _)))) (xsb_c (List.Mem.tail _ (List.Mem.tail _ (List.Mem.tail _ (List.Mem.tail _ (List.Mem.head _))))) (xsb_c (List.Mem.head _) xsb_n))))) (ih33 v3 s2)
noncomputable def fm_Cheapest_find_61 (f1 : Int) (K : xa_H → Option (xa_H)) : Nat → Int → xa_H → Option (xa_H)
  | 0, _, _ => none
  | n + 1, x4, sh =>
    if 3456 ≤ x4 then
      K sh
    else
      if (sh 1 0 5) ≤ 0 then
        K sh
      else
        xb2 (fm_Cheapest_takeNearest sh) fun v3 s4 =>
        if v3 = f1 then
          (fm_S_read 14 0 f1 s4).bind fun v6 =>
          xnm (xup s4 0 0 3 (xdiv v6 4096)) fun s7 =>
          (fm_Cheapest_walk f1 s7).bind fun s8 =>
          some s8
        else
          (fm_Cheapest_comeBackFrom v3 s4).bind fun s9 =>
          xnm (w32 (x4 + 1) : Int) fun v10 =>
          fm_Cheapest_find_61 f1 K n v10 s9
theorem jl_Cheapest_find_61 (f1 : Int) (σ : xa_H)  (K : xa_H → Option (xa_H)) (hK61 : ∀ (sz : xa_H), J 12 123 [] [] sz jqV (K sz)) : ∀ (n : Nat) (x4 : Int) (sh : xa_H), J 12 61 [(0, xr 1 0), (1, xi f1), (3, xr 0 0), (4, xi x4)] [] sh jqV (fm_Cheapest_find_61 f1 K n x4 sh) := by
  intro n
  induction n with
  | zero => intro x4 sh; exact jr_none
  | succ n ih61 =>
    intro x4 sh
    rw [fm_Cheapest_find_61]
    refine jr_iload (e_12 rfl) rfl rfl ?_
    refine jr_sipush (e_12 rfl) rfl ?_
    refine jr_bri (c := 3456 ≤ x4) (pt := 123) (pn := 69) (e_12 rfl) rfl rfl (fun h1 => ?_) (fun h1 => ?_)
    · exact jr_sub (show ([0, 1, 3, 4] : List Nat).Nodup from by decide) xsb_n (hK61 sh)
    · refine jr_aload_n (e_12 rfl) rfl rfl ?_
      refine jr_geti (e_12 rfl) rfl (by decide +kernel) ?_
      refine jr_bri (c := (sh 1 0 5) ≤ 0) (pt := 123) (pn := 76) (e_12 rfl) rfl rfl (fun h2 => ?_) (fun h2 => ?_)
      · exact jr_sub (show ([0, 1, 3, 4] : List Nat).Nodup from by decide) xsb_n (hK61 sh)
      · refine jr_aload_n (e_12 rfl) rfl rfl ?_
        refine jr_callX (as := [xr 1 0]) (S1 := []) (e_12 rfl) rfl rfl rfl rfl rfl rfl (jm_Cheapest_takeNearest sh) rfl (fun v3 s4 => ?_)
        refine jr_istore (L' := [(5, xi v3), (0, xr 1 0), (1, xi f1), (3, xr 0 0), (4, xi x4)]) (e_12 rfl) rfl rfl rfl ?_
        refine jr_iload (e_12 rfl) rfl rfl ?_
        refine jr_iload_n (e_12 rfl) rfl rfl ?_
        refine jr_brx (c := v3 = f1) (pt := 111) (pn := 88) (e_12 rfl) rfl rfl (fun h5 => ?_) (fun h5 => ?_)
        · refine jr_aload_n (e_12 rfl) rfl rfl ?_
          refine jr_aload_n (e_12 rfl) rfl rfl ?_
          refine jr_getr (K2 := 14) (i2 := 0) (e_12 rfl) rfl rfl rfl ?_
          refine jr_iload_n (e_12 rfl) rfl rfl ?_
          refine jr_callP (as := [xr 14 0, xi f1]) (S1 := [xr 0 0]) (e_12 rfl) rfl rfl rfl rfl rfl rfl (jm_S_read 14 0 f1 s4 rfl) rfl (fun v6 => ?_)
          refine jr_sipush (e_12 rfl) rfl ?_
          refine jr_idiv (e_12 rfl) rfl (by decide) ?_
          refine jr_put (e_12 rfl) rfl rfl rfl ?_
          refine jr_nms (fun s7 => ?_)
          refine jr_aload_n (e_12 rfl) rfl rfl ?_
          refine jr_iload_n (e_12 rfl) rfl rfl ?_
          refine jr_aload_n (e_12 rfl) rfl rfl ?_
          refine jr_callV (as := [xr 1 0, xi f1, xr 0 0]) (S1 := []) (e_12 rfl) rfl rfl rfl rfl rfl rfl (jm_Cheapest_walk f1 s7) rfl (fun s8 => ?_)
          exact jr_retV (e_12 rfl)
        · refine jr_aload_n (e_12 rfl) rfl rfl ?_
          refine jr_iload (e_12 rfl) rfl rfl ?_
          refine jr_callV (as := [xr 1 0, xi v3]) (S1 := []) (e_12 rfl) rfl rfl rfl rfl rfl rfl (jm_Cheapest_comeBackFrom v3 s4) rfl (fun s9 => ?_)
          refine jr_iinc (L2 := fun c => [(4, xi c), (5, xi v3), (0, xr 1 0), (1, xi f1), (3, xr 0 0)]) (e_12 rfl) rfl rfl rfl (fun _ => rfl) (fun v10 => ?_)
          refine jr_goto (pc' := 61) (e_12 rfl) rfl ?_
          exact jr_sub (show ([4, 5, 0, 1, 3] : List Nat).Nodup from by decide) (xsb_c (List.Mem.tail _ (List.Mem.tail _ (List.Mem.head _))) (xsb_c (List.Mem.tail _ (List.Mem.tail _ (List.Mem.tail _ (List.Mem.head _)))) (xsb_c (List.Mem.tail _ (List.Mem.tail _ (List.Mem.tail _ (List.Mem.tail _ (List.Mem.head _))))) (xsb_c (List.Mem.head _) xsb_n)))) (ih61 v10 s9)
noncomputable def fm_Cheapest_find (a1 : Int) (a2 : Int) (σ : xa_H) : Option (xa_H) :=
  (fm_Answer_none σ).bind fun s1 =>
  xb2 (fm_Search_fits a1 s1) fun v2 s3 =>
  if v2 = 0 then
    some s3
  else
    (fm_Arrays_fill 14 0 2147483647 s3).bind fun s5 =>
    xnm (xup s5 1 0 5 0) fun s6 =>
    fm_Cheapest_find_33 a1 a2 (fun (s7 : xa_H) =>
      fm_Cheapest_find_61 a1 (fun (s11 : xa_H) =>
        some s11) xFU 0 s7) xFU 0 s6
theorem jm_Cheapest_find (a1 : Int) (a2 : Int) (σ : xa_H) : J 12 0 [(0, xr 1 0), (1, xi a1), (2, xi a2), (3, xr 0 0)] [] σ jqV (fm_Cheapest_find a1 a2 σ) := by
  unfold fm_Cheapest_find
  refine jr_aload_n (e_12 rfl) rfl rfl ?_
  refine jr_callV (as := [xr 0 0]) (S1 := []) (e_12 rfl) rfl rfl rfl rfl rfl rfl (jm_Answer_none σ) rfl (fun s1 => ?_)
  refine jr_aload_n (e_12 rfl) rfl rfl ?_
  refine jr_getr (K2 := 3) (i2 := 0) (e_12 rfl) rfl rfl rfl ?_
  refine jr_iload_n (e_12 rfl) rfl rfl ?_
  refine jr_callX (as := [xr 3 0, xi a1]) (S1 := []) (e_12 rfl) rfl rfl rfl rfl rfl rfl (jm_Search_fits a1 s1) rfl (fun v2 s3 => ?_)
  refine jr_brx (c := v2 = 0) (pt := 16) (pn := 15) (e_12 rfl) rfl rfl (fun h4 => ?_) (fun h4 => ?_)
  · exact jr_retV (e_12 rfl)
  · refine jr_aload_n (e_12 rfl) rfl rfl ?_
    refine jr_getr (K2 := 14) (i2 := 0) (e_12 rfl) rfl rfl rfl ?_
    refine jr_ldc (a := 2147483647) (e_12 rfl) rfl rfl ?_
    refine jr_callV (as := [xr 14 0, xi 2147483647]) (S1 := []) (e_12 rfl) rfl rfl rfl rfl rfl rfl (jm_Arrays_fill 14 0 2147483647 s3 rfl rfl) rfl (fun s5 => ?_)
    refine jr_aload_n (e_12 rfl) rfl rfl ?_
    refine jr_iconst (e_12 rfl) rfl ?_
    refine jr_put (e_12 rfl) rfl rfl rfl ?_
    refine jr_nms (fun s6 => ?_)
    refine jr_iconst (e_12 rfl) rfl ?_
    refine jr_istore (L' := [(4, xi 0), (0, xr 1 0), (1, xi a1), (2, xi a2), (3, xr 0 0)]) (e_12 rfl) rfl rfl rfl ?_
    refine jr_sub (show ([4, 0, 1, 2, 3] : List Nat).Nodup from by decide) (xsb_c (List.Mem.tail _ (List.Mem.head _)) (xsb_c (List.Mem.tail _ (List.Mem.tail _ (List.Mem.head _))) (xsb_c (List.Mem.tail _ (List.Mem.tail _ (List.Mem.tail _ (List.Mem.head _)))) (xsb_c (List.Mem.tail _ (List.Mem.tail _ (List.Mem.tail _ (List.Mem.tail _ (List.Mem.head _))))) (xsb_c (List.Mem.head _) xsb_n))))) (jl_Cheapest_find_33 a1 a2 σ _ (fun s7 => ?_) xFU 0 s6)
    refine jr_iconst (e_12 rfl) rfl ?_
    refine jr_istore (L' := [(4, xi 0), (0, xr 1 0), (1, xi a1), (3, xr 0 0)]) (e_12 rfl) rfl rfl rfl ?_
    refine jr_sub (show ([4, 0, 1, 3] : List Nat).Nodup from by decide) (xsb_c (List.Mem.tail _ (List.Mem.head _)) (xsb_c (List.Mem.tail _ (List.Mem.tail _ (List.Mem.head _))) (xsb_c (List.Mem.tail _ (List.Mem.tail _ (List.Mem.tail _ (List.Mem.head _)))) (xsb_c (List.Mem.head _) xsb_n)))) (jl_Cheapest_find_61 a1 σ _ (fun s11 => ?_) xFU 0 s7)
    exact jr_retV (e_12 rfl)
