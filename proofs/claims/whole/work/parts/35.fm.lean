/-! methods as functions, printed by wip/whole/gen/gen5.py -/
theorem e_205 {pc : Nat} {en : xa_I} (h : xlk pc xc_205 = some en) : xcd 205 pc = some en := h
noncomputable def fm_M_findTables_60 (f1 : Int) (f2 : Int) (f3 : Int) (K : xa_H → Option (xa_H)) : Nat → Int → xa_H → Option (xa_H)
  | 0, _, _ => none
  | n + 1, x5, sh =>
    if 9 ≤ x5 then
      K sh
    else
      if 0 ≤ x5 ∧ x5 < 9 then
        if 0 ≤ (w32 ((w32 (9 * f1)) + x5)) ∧ (w32 ((w32 (9 * f1)) + x5)) < 216 then
          xnm (xup sh 50 0 ((w32 ((w32 (9 * f1)) + x5)).toNat) (sh 52 0 x5.toNat)) fun s2 =>
          xnm (w32 (x5 + 1) : Int) fun v3 =>
          fm_M_findTables_60 f1 f2 f3 K n v3 s2
        else none
      else none
theorem jl_M_findTables_60 (f1 : Int) (f2 : Int) (f3 : Int) (σ : xa_H)  (K : xa_H → Option (xa_H)) (hK60 : ∀ (sz : xa_H), J 205 92 [(0, xr 9 0), (1, xi f1), (2, xi f2), (3, xi f3)] [] sz jqV (K sz)) : ∀ (n : Nat) (x5 : Int) (sh : xa_H), J 205 60 [(0, xr 9 0), (1, xi f1), (2, xi f2), (3, xi f3), (5, xi x5)] [] sh jqV (fm_M_findTables_60 f1 f2 f3 K n x5 sh) := by
  intro n
  induction n with
  | zero => intro x5 sh; exact jr_none
  | succ n ih60 =>
    intro x5 sh
    rw [fm_M_findTables_60]
    refine jr_iload (e_205 rfl) rfl rfl ?_
    refine jr_bipush (e_205 rfl) rfl ?_
    refine jr_bri (c := 9 ≤ x5) (pt := 92) (pn := 67) (e_205 rfl) rfl rfl (fun h1 => ?_) (fun h1 => ?_)
    · exact jr_sub (show ([0, 1, 2, 3, 5] : List Nat).Nodup from by decide) (xsb_c (List.Mem.head _) (xsb_c (List.Mem.tail _ (List.Mem.head _)) (xsb_c (List.Mem.tail _ (List.Mem.tail _ (List.Mem.head _))) (xsb_c (List.Mem.tail _ (List.Mem.tail _ (List.Mem.tail _ (List.Mem.head _)))) xsb_n)))) (hK60 sh)
    · refine jr_aload_n (e_205 rfl) rfl rfl ?_
      refine jr_getr (K2 := 50) (i2 := 0) (e_205 rfl) rfl rfl rfl ?_
      refine jr_bipush (e_205 rfl) rfl ?_
      refine jr_iload_n (e_205 rfl) rfl rfl ?_
      refine jr_imul (e_205 rfl) rfl ?_
      refine jr_iload (e_205 rfl) rfl rfl ?_
      refine jr_iadd (e_205 rfl) rfl ?_
      refine jr_aload_n (e_205 rfl) rfl rfl ?_
      refine jr_getr (K2 := 52) (i2 := 0) (e_205 rfl) rfl rfl rfl ?_
      refine jr_iload (e_205 rfl) rfl rfl ?_
      refine jr_ald (n := 9) (e_205 rfl) rfl rfl rfl ?_
      refine jr_ast (n := 216) (e_205 rfl) rfl rfl rfl rfl ?_
      refine jr_nms (fun s2 => ?_)
      refine jr_iinc (L2 := fun c => [(5, xi c), (0, xr 9 0), (1, xi f1), (2, xi f2), (3, xi f3)]) (e_205 rfl) rfl rfl rfl (fun _ => rfl) (fun v3 => ?_)
      refine jr_goto (pc' := 60) (e_205 rfl) rfl ?_
      exact jr_sub (show ([5, 0, 1, 2, 3] : List Nat).Nodup from by decide) (xsb_c (List.Mem.tail _ (List.Mem.head _)) (xsb_c (List.Mem.tail _ (List.Mem.tail _ (List.Mem.head _))) (xsb_c (List.Mem.tail _ (List.Mem.tail _ (List.Mem.tail _ (List.Mem.head _)))) (xsb_c (List.Mem.tail _ (List.Mem.tail _ (List.Mem.tail _ (List.Mem.tail _ (List.Mem.head _))))) (xsb_c (List.Mem.head _) xsb_n))))) (ih60 v3 s2)
noncomputable def fm_M_findTables_33 (f2 : Int) (K : Int → xa_H → Option (xa_H)) : Nat → Int → Int → xa_H → Option (xa_H)
  | 0, _, _, _ => none
  | n + 1, x1, x3, sh =>
    if 6 ≤ x3 then
      K x1 sh
    else
      (fm_M_turn f2 x3 sh).bind fun s2 =>
      (fm_M_tableOf x1 s2).bind fun v3 =>
      xj (fun (v5 : Int) (v6 : Int) (s7 : xa_H) =>
        if 0 ≤ (w32 ((w32 (6 * f2)) + x3)) ∧ (w32 ((w32 (6 * f2)) + x3)) < 144 then
          xnm (xup s7 51 0 ((w32 ((w32 (6 * f2)) + x3)).toNat) v6) fun s12 =>
          xnm (w32 (x3 + 1) : Int) fun v13 =>
          fm_M_findTables_33 f2 K n v5 v13 s12
        else none) fun K8 =>
      if 0 ≤ v3 then
        K8 x1 v3 s2
      else
        fm_M_findTables_60 x1 f2 x3 (fun (s10 : xa_H) =>
          xnm (w32 (x1 + 1) : Int) fun v11 =>
          K8 v11 x1 s10) xFU 0 s2
theorem jl_M_findTables_33 (f2 : Int) (σ : xa_H)  (K : Int → xa_H → Option (xa_H)) (hK33 : ∀ (z0 : Int) (sz : xa_H), J 205 117 [(0, xr 9 0), (1, xi z0), (2, xi f2)] [] sz jqV (K z0 sz)) : ∀ (n : Nat) (x1 : Int) (x3 : Int) (sh : xa_H), J 205 33 [(0, xr 9 0), (1, xi x1), (2, xi f2), (3, xi x3)] [] sh jqV (fm_M_findTables_33 f2 K n x1 x3 sh) := by
  intro n
  induction n with
  | zero => intro x1 x3 sh; exact jr_none
  | succ n ih33 =>
    intro x1 x3 sh
    rw [fm_M_findTables_33]
    refine jr_iload_n (e_205 rfl) rfl rfl ?_
    refine jr_bipush (e_205 rfl) rfl ?_
    refine jr_bri (c := 6 ≤ x3) (pt := 117) (pn := 39) (e_205 rfl) rfl rfl (fun h1 => ?_) (fun h1 => ?_)
    · exact jr_sub (show ([0, 1, 2, 3] : List Nat).Nodup from by decide) (xsb_c (List.Mem.head _) (xsb_c (List.Mem.tail _ (List.Mem.head _)) (xsb_c (List.Mem.tail _ (List.Mem.tail _ (List.Mem.head _))) xsb_n))) (hK33 x1 sh)
    · refine jr_aload_n (e_205 rfl) rfl rfl ?_
      refine jr_iload_n (e_205 rfl) rfl rfl ?_
      refine jr_iload_n (e_205 rfl) rfl rfl ?_
      refine jr_callV (as := [xr 9 0, xi f2, xi x3]) (S1 := []) (e_205 rfl) rfl rfl rfl rfl rfl rfl (jm_M_turn f2 x3 sh) rfl (fun s2 => ?_)
      refine jr_aload_n (e_205 rfl) rfl rfl ?_
      refine jr_iload_n (e_205 rfl) rfl rfl ?_
      refine jr_callP (as := [xr 9 0, xi x1]) (S1 := []) (e_205 rfl) rfl rfl rfl rfl rfl rfl (jm_M_tableOf x1 s2) rfl (fun v3 => ?_)
      refine jr_istore (L' := [(4, xi v3), (0, xr 9 0), (1, xi x1), (2, xi f2), (3, xi x3)]) (e_205 rfl) rfl rfl rfl ?_
      refine jr_iload (e_205 rfl) rfl rfl ?_
      refine jr_j (fun K8 => ∀ (v5 : Int) (v6 : Int) (s7 : xa_H), J 205 98 [(0, xr 9 0), (1, xi v5), (2, xi f2), (3, xi x3), (4, xi v6)] [] s7 jqV (K8 v5 v6 s7)) (fun v5 v6 s7 => ?_) (fun K8 hK8 => ?_)
      · refine jr_aload_n (e_205 rfl) rfl rfl ?_
        refine jr_getr (K2 := 51) (i2 := 0) (e_205 rfl) rfl rfl rfl ?_
        refine jr_bipush (e_205 rfl) rfl ?_
        refine jr_iload_n (e_205 rfl) rfl rfl ?_
        refine jr_imul (e_205 rfl) rfl ?_
        refine jr_iload_n (e_205 rfl) rfl rfl ?_
        refine jr_iadd (e_205 rfl) rfl ?_
        refine jr_iload (e_205 rfl) rfl rfl ?_
        refine jr_ast (n := 144) (e_205 rfl) rfl rfl rfl rfl ?_
        refine jr_nms (fun s12 => ?_)
        refine jr_iinc (L2 := fun c => [(3, xi c), (0, xr 9 0), (1, xi v5), (2, xi f2), (4, xi v6)]) (e_205 rfl) rfl rfl rfl (fun _ => rfl) (fun v13 => ?_)
        refine jr_goto (pc' := 33) (e_205 rfl) rfl ?_
        exact jr_sub (show ([3, 0, 1, 2, 4] : List Nat).Nodup from by decide) (xsb_c (List.Mem.tail _ (List.Mem.head _)) (xsb_c (List.Mem.tail _ (List.Mem.tail _ (List.Mem.head _))) (xsb_c (List.Mem.tail _ (List.Mem.tail _ (List.Mem.tail _ (List.Mem.head _)))) (xsb_c (List.Mem.head _) xsb_n)))) (ih33 v5 v13 s12)
      · refine jr_bri (c := 0 ≤ v3) (pt := 98) (pn := 57) (e_205 rfl) rfl rfl (fun h9 => ?_) (fun h9 => ?_)
        · exact jr_sub (show ([4, 0, 1, 2, 3] : List Nat).Nodup from by decide) (xsb_c (List.Mem.tail _ (List.Mem.head _)) (xsb_c (List.Mem.tail _ (List.Mem.tail _ (List.Mem.head _))) (xsb_c (List.Mem.tail _ (List.Mem.tail _ (List.Mem.tail _ (List.Mem.head _)))) (xsb_c (List.Mem.tail _ (List.Mem.tail _ (List.Mem.tail _ (List.Mem.tail _ (List.Mem.head _))))) (xsb_c (List.Mem.head _) xsb_n))))) (hK8 x1 v3 s2)
        · refine jr_iconst (e_205 rfl) rfl ?_
          refine jr_istore (L' := [(5, xi 0), (4, xi v3), (0, xr 9 0), (1, xi x1), (2, xi f2), (3, xi x3)]) (e_205 rfl) rfl rfl rfl ?_
          refine jr_sub (show ([5, 4, 0, 1, 2, 3] : List Nat).Nodup from by decide) (xsb_c (List.Mem.tail _ (List.Mem.tail _ (List.Mem.head _))) (xsb_c (List.Mem.tail _ (List.Mem.tail _ (List.Mem.tail _ (List.Mem.head _)))) (xsb_c (List.Mem.tail _ (List.Mem.tail _ (List.Mem.tail _ (List.Mem.tail _ (List.Mem.head _))))) (xsb_c (List.Mem.tail _ (List.Mem.tail _ (List.Mem.tail _ (List.Mem.tail _ (List.Mem.tail _ (List.Mem.head _)))))) (xsb_c (List.Mem.head _) xsb_n))))) (jl_M_findTables_60 x1 f2 x3 σ _ (fun s10 => ?_) xFU 0 s2)
          refine jr_iload_n (e_205 rfl) rfl rfl ?_
          refine jr_istore (L' := [(4, xi x1), (0, xr 9 0), (1, xi x1), (2, xi f2), (3, xi x3)]) (e_205 rfl) rfl rfl rfl ?_
          refine jr_iinc (L2 := fun c => [(1, xi c), (4, xi x1), (0, xr 9 0), (2, xi f2), (3, xi x3)]) (e_205 rfl) rfl rfl rfl (fun _ => rfl) (fun v11 => ?_)
          exact jr_sub (show ([1, 4, 0, 2, 3] : List Nat).Nodup from by decide) (xsb_c (List.Mem.tail _ (List.Mem.tail _ (List.Mem.head _))) (xsb_c (List.Mem.head _) (xsb_c (List.Mem.tail _ (List.Mem.tail _ (List.Mem.tail _ (List.Mem.head _)))) (xsb_c (List.Mem.tail _ (List.Mem.tail _ (List.Mem.tail _ (List.Mem.tail _ (List.Mem.head _))))) (xsb_c (List.Mem.tail _ (List.Mem.head _)) xsb_n))))) (hK8 v11 x1 s10)
noncomputable def fm_M_findTables_26  (K : xa_H → Option (xa_H)) : Nat → Int → Int → xa_H → Option (xa_H)
  | 0, _, _, _ => none
  | n + 1, x1, x2, sh =>
    if x1 ≤ x2 then
      K sh
    else
      fm_M_findTables_33 x2 (fun (v14 : Int) (s15 : xa_H) =>
        xnm (w32 (x2 + 1) : Int) fun v16 =>
        fm_M_findTables_26 K n v14 v16 s15) xFU x1 0 sh
theorem jl_M_findTables_26  (σ : xa_H)  (K : xa_H → Option (xa_H)) (hK26 : ∀ (sz : xa_H), J 205 123 [] [] sz jqV (K sz)) : ∀ (n : Nat) (x1 : Int) (x2 : Int) (sh : xa_H), J 205 26 [(0, xr 9 0), (1, xi x1), (2, xi x2)] [] sh jqV (fm_M_findTables_26 K n x1 x2 sh) := by
  intro n
  induction n with
  | zero => intro x1 x2 sh; exact jr_none
  | succ n ih26 =>
    intro x1 x2 sh
    rw [fm_M_findTables_26]
    refine jr_iload_n (e_205 rfl) rfl rfl ?_
    refine jr_iload_n (e_205 rfl) rfl rfl ?_
    refine jr_bri (c := x1 ≤ x2) (pt := 123) (pn := 31) (e_205 rfl) rfl rfl (fun h1 => ?_) (fun h1 => ?_)
    · exact jr_sub (show ([0, 1, 2] : List Nat).Nodup from by decide) xsb_n (hK26 sh)
    · refine jr_iconst (e_205 rfl) rfl ?_
      refine jr_istore_n (L' := [(3, xi 0), (0, xr 9 0), (1, xi x1), (2, xi x2)]) (e_205 rfl) rfl rfl rfl ?_
      refine jr_sub (show ([3, 0, 1, 2] : List Nat).Nodup from by decide) (xsb_c (List.Mem.tail _ (List.Mem.head _)) (xsb_c (List.Mem.tail _ (List.Mem.tail _ (List.Mem.head _))) (xsb_c (List.Mem.tail _ (List.Mem.tail _ (List.Mem.tail _ (List.Mem.head _)))) (xsb_c (List.Mem.head _) xsb_n)))) (jl_M_findTables_33 x2 σ _ (fun v14 s15 => ?_) xFU x1 0 sh)
      refine jr_iinc (L2 := fun c => [(2, xi c), (0, xr 9 0), (1, xi v14)]) (e_205 rfl) rfl rfl rfl (fun _ => rfl) (fun v16 => ?_)
      refine jr_goto (pc' := 26) (e_205 rfl) rfl ?_
      exact jr_sub (show ([2, 0, 1] : List Nat).Nodup from by decide) (xsb_c (List.Mem.tail _ (List.Mem.head _)) (xsb_c (List.Mem.tail _ (List.Mem.tail _ (List.Mem.head _))) (xsb_c (List.Mem.head _) xsb_n))) (ih26 v14 v16 s15)
noncomputable def fm_M_findTables (σ : xa_H) : Option (xa_H) :=
  xnm (xup σ 50 0 ((0 : Int).toNat) 1) fun s1 =>
  xnm (xup s1 50 0 ((4 : Int).toNat) 1) fun s2 =>
  xnm (xup s2 50 0 ((8 : Int).toNat) 1) fun s3 =>
  fm_M_findTables_26 (fun (s17 : xa_H) =>
    some s17) xFU 1 0 s3
theorem jm_M_findTables (σ : xa_H) : J 205 0 [(0, xr 9 0)] [] σ jqV (fm_M_findTables σ) := by
  unfold fm_M_findTables
  refine jr_iconst (e_205 rfl) rfl ?_
  refine jr_istore_n (L' := [(1, xi 1), (0, xr 9 0)]) (e_205 rfl) rfl rfl rfl ?_
  refine jr_aload_n (e_205 rfl) rfl rfl ?_
  refine jr_getr (K2 := 50) (i2 := 0) (e_205 rfl) rfl rfl rfl ?_
  refine jr_iconst (e_205 rfl) rfl ?_
  refine jr_iconst (e_205 rfl) rfl ?_
  refine jr_ast' (n := 216) (e_205 rfl) rfl rfl rfl rfl (by decide) ?_
  refine jr_nms (fun s1 => ?_)
  refine jr_aload_n (e_205 rfl) rfl rfl ?_
  refine jr_getr (K2 := 50) (i2 := 0) (e_205 rfl) rfl rfl rfl ?_
  refine jr_iconst (e_205 rfl) rfl ?_
  refine jr_iconst (e_205 rfl) rfl ?_
  refine jr_ast' (n := 216) (e_205 rfl) rfl rfl rfl rfl (by decide) ?_
  refine jr_nms (fun s2 => ?_)
  refine jr_aload_n (e_205 rfl) rfl rfl ?_
  refine jr_getr (K2 := 50) (i2 := 0) (e_205 rfl) rfl rfl rfl ?_
  refine jr_bipush (e_205 rfl) rfl ?_
  refine jr_iconst (e_205 rfl) rfl ?_
  refine jr_ast' (n := 216) (e_205 rfl) rfl rfl rfl rfl (by decide) ?_
  refine jr_nms (fun s3 => ?_)
  refine jr_iconst (e_205 rfl) rfl ?_
  refine jr_istore_n (L' := [(2, xi 0), (1, xi 1), (0, xr 9 0)]) (e_205 rfl) rfl rfl rfl ?_
  refine jr_sub (show ([2, 1, 0] : List Nat).Nodup from by decide) (xsb_c (List.Mem.tail _ (List.Mem.tail _ (List.Mem.head _))) (xsb_c (List.Mem.tail _ (List.Mem.head _)) (xsb_c (List.Mem.head _) xsb_n))) (jl_M_findTables_26 σ _ (fun s17 => ?_) xFU 1 0 s3)
  exact jr_retV (e_205 rfl)

theorem e_206 {pc : Nat} {en : xa_I} (h : xlk pc xc_206 = some en) : xcd 206 pc = some en := h
noncomputable def fm_M_isCell (a1 : Int) (a2 : Int) (a3 : Int) (σ : xa_H) : Option (Int) :=
  (fm_M_in a1 0 (w32 ((σ 9 0 3) - 1))).bind fun v1 =>
  if v1 = 0 then
    some 0
  else
    (fm_M_in a2 0 (w32 ((σ 9 0 4) - 1))).bind fun v3 =>
    if v3 = 0 then
      some 0
    else
      (fm_M_in a3 0 (w32 ((σ 9 0 5) - 1))).bind fun v5 =>
      if v5 = 0 then
        some 0
      else
        some 1
theorem jm_M_isCell (a1 : Int) (a2 : Int) (a3 : Int) (σ : xa_H) : J 206 0 [(0, xr 9 0), (1, xi a1), (2, xi a2), (3, xi a3)] [] σ (jqP σ) (fm_M_isCell a1 a2 a3 σ) := by
  unfold fm_M_isCell
  refine jr_iload_n (e_206 rfl) rfl rfl ?_
  refine jr_i2l (e_206 rfl) rfl ?_
  refine jr_lconst (a := 0) (e_206 rfl) rfl rfl ?_
  refine jr_aload_n (e_206 rfl) rfl rfl ?_
  refine jr_geti (e_206 rfl) rfl (by decide +kernel) ?_
  refine jr_iconst (e_206 rfl) rfl ?_
  refine jr_isub (e_206 rfl) rfl ?_
  refine jr_i2l (e_206 rfl) rfl ?_
  refine jr_callP (as := [xl a1, xl 0, xl (w32 ((σ 9 0 3) - 1))]) (S1 := []) (e_206 rfl) rfl rfl rfl rfl rfl rfl (jm_M_in a1 0 (w32 ((σ 9 0 3) - 1)) σ) rfl (fun v1 => ?_)
  refine jr_bri (c := v1 = 0) (pt := 52) (pn := 16) (e_206 rfl) rfl rfl (fun h2 => ?_) (fun h2 => ?_)
  · refine jr_iconst (e_206 rfl) rfl ?_
    exact jr_retPz (e_206 rfl) rfl rfl
  · refine jr_iload_n (e_206 rfl) rfl rfl ?_
    refine jr_i2l (e_206 rfl) rfl ?_
    refine jr_lconst (a := 0) (e_206 rfl) rfl rfl ?_
    refine jr_aload_n (e_206 rfl) rfl rfl ?_
    refine jr_geti (e_206 rfl) rfl (by decide +kernel) ?_
    refine jr_iconst (e_206 rfl) rfl ?_
    refine jr_isub (e_206 rfl) rfl ?_
    refine jr_i2l (e_206 rfl) rfl ?_
    refine jr_callP (as := [xl a2, xl 0, xl (w32 ((σ 9 0 4) - 1))]) (S1 := []) (e_206 rfl) rfl rfl rfl rfl rfl rfl (jm_M_in a2 0 (w32 ((σ 9 0 4) - 1)) σ) rfl (fun v3 => ?_)
    refine jr_bri (c := v3 = 0) (pt := 52) (pn := 32) (e_206 rfl) rfl rfl (fun h4 => ?_) (fun h4 => ?_)
    · refine jr_iconst (e_206 rfl) rfl ?_
      exact jr_retPz (e_206 rfl) rfl rfl
    · refine jr_iload_n (e_206 rfl) rfl rfl ?_
      refine jr_i2l (e_206 rfl) rfl ?_
      refine jr_lconst (a := 0) (e_206 rfl) rfl rfl ?_
      refine jr_aload_n (e_206 rfl) rfl rfl ?_
      refine jr_geti (e_206 rfl) rfl (by decide +kernel) ?_
      refine jr_iconst (e_206 rfl) rfl ?_
      refine jr_isub (e_206 rfl) rfl ?_
      refine jr_i2l (e_206 rfl) rfl ?_
      refine jr_callP (as := [xl a3, xl 0, xl (w32 ((σ 9 0 5) - 1))]) (S1 := []) (e_206 rfl) rfl rfl rfl rfl rfl rfl (jm_M_in a3 0 (w32 ((σ 9 0 5) - 1)) σ) rfl (fun v5 => ?_)
      refine jr_bri (c := v5 = 0) (pt := 52) (pn := 48) (e_206 rfl) rfl rfl (fun h6 => ?_) (fun h6 => ?_)
      · refine jr_iconst (e_206 rfl) rfl ?_
        exact jr_retPz (e_206 rfl) rfl rfl
      · refine jr_iconst (e_206 rfl) rfl ?_
        refine jr_goto (pc' := 53) (e_206 rfl) rfl ?_
        exact jr_retPz (e_206 rfl) rfl rfl

theorem e_207 {pc : Nat} {en : xa_I} (h : xlk pc xc_207 = some en) : xcd 207 pc = some en := h
noncomputable def fm_M_isCellNumber (a1 : Int) (σ : xa_H) : Option (Int) :=
  if a1 < 0 then
    some 0
  else
    (fm_M_isCell (xdiv a1 100) (xrem (xdiv a1 10) 10) (xrem a1 10) σ).bind fun v2 =>
    if v2 = 0 then
      some 0
    else
      some 1
theorem jm_M_isCellNumber (a1 : Int) (σ : xa_H) : J 207 0 [(0, xr 9 0), (1, xi a1)] [] σ (jqP σ) (fm_M_isCellNumber a1 σ) := by
  unfold fm_M_isCellNumber
  refine jr_iload_n (e_207 rfl) rfl rfl ?_
  refine jr_bri (c := a1 < 0) (pt := 30) (pn := 4) (e_207 rfl) rfl rfl (fun h1 => ?_) (fun h1 => ?_)
  · refine jr_iconst (e_207 rfl) rfl ?_
    exact jr_retPz (e_207 rfl) rfl rfl
  · refine jr_aload_n (e_207 rfl) rfl rfl ?_
    refine jr_iload_n (e_207 rfl) rfl rfl ?_
    refine jr_bipush (e_207 rfl) rfl ?_
    refine jr_idiv (e_207 rfl) rfl (by decide) ?_
    refine jr_iload_n (e_207 rfl) rfl rfl ?_
    refine jr_bipush (e_207 rfl) rfl ?_
    refine jr_idiv (e_207 rfl) rfl (by decide) ?_
    refine jr_bipush (e_207 rfl) rfl ?_
    refine jr_irem (e_207 rfl) rfl (by decide) ?_
    refine jr_iload_n (e_207 rfl) rfl rfl ?_
    refine jr_bipush (e_207 rfl) rfl ?_
    refine jr_irem (e_207 rfl) rfl (by decide) ?_
    refine jr_callP (as := [xr 9 0, xi (xdiv a1 100), xi (xrem (xdiv a1 10) 10), xi (xrem a1 10)]) (S1 := []) (e_207 rfl) rfl rfl rfl rfl rfl rfl (jm_M_isCell (xdiv a1 100) (xrem (xdiv a1 10) 10) (xrem a1 10) σ) rfl (fun v2 => ?_)
    refine jr_bri (c := v2 = 0) (pt := 30) (pn := 26) (e_207 rfl) rfl rfl (fun h3 => ?_) (fun h3 => ?_)
    · refine jr_iconst (e_207 rfl) rfl ?_
      exact jr_retPz (e_207 rfl) rfl rfl
    · refine jr_iconst (e_207 rfl) rfl ?_
      refine jr_goto (pc' := 31) (e_207 rfl) rfl ?_
      exact jr_retPz (e_207 rfl) rfl rfl

theorem e_208 {pc : Nat} {en : xa_I} (h : xlk pc xc_208 = some en) : xcd 208 pc = some en := h
noncomputable def fm_M_at (a0 : Int) (a1 : Int) (a2 : Int) : Option (Int) :=
  some (w32 ((w32 ((w32 (24 * a0)) + (w32 (4 * a1)))) + a2))
theorem jm_M_at (a0 : Int) (a1 : Int) (a2 : Int) (σ : xa_H) : J 208 0 [(0, xi a0), (1, xi a1), (2, xi a2)] [] σ (jqP σ) (fm_M_at a0 a1 a2) := by
  unfold fm_M_at
  refine jr_bipush (e_208 rfl) rfl ?_
  refine jr_iload_n (e_208 rfl) rfl rfl ?_
  refine jr_imul (e_208 rfl) rfl ?_
  refine jr_iconst (e_208 rfl) rfl ?_
  refine jr_iload_n (e_208 rfl) rfl rfl ?_
  refine jr_imul (e_208 rfl) rfl ?_
  refine jr_iadd (e_208 rfl) rfl ?_
  refine jr_iload_n (e_208 rfl) rfl rfl ?_
  refine jr_iadd (e_208 rfl) rfl ?_
  exact jr_retP (e_208 rfl) rfl

theorem e_209 {pc : Nat} {en : xa_I} (h : xlk pc xc_209 = some en) : xcd 209 pc = some en := h
noncomputable def fm_M_placeOf (a0 : Int) : Option (Int) :=
  (fm_M_at (xdiv a0 100) (xrem (xdiv a0 10) 10) (xrem a0 10)).bind fun v1 =>
  some v1
theorem jm_M_placeOf (a0 : Int) (σ : xa_H) : J 209 0 [(0, xi a0)] [] σ (jqP σ) (fm_M_placeOf a0) := by
  unfold fm_M_placeOf
  refine jr_iload_n (e_209 rfl) rfl rfl ?_
  refine jr_bipush (e_209 rfl) rfl ?_
  refine jr_idiv (e_209 rfl) rfl (by decide) ?_
  refine jr_iload_n (e_209 rfl) rfl rfl ?_
  refine jr_bipush (e_209 rfl) rfl ?_
  refine jr_idiv (e_209 rfl) rfl (by decide) ?_
  refine jr_bipush (e_209 rfl) rfl ?_
  refine jr_irem (e_209 rfl) rfl (by decide) ?_
  refine jr_iload_n (e_209 rfl) rfl rfl ?_
  refine jr_bipush (e_209 rfl) rfl ?_
  refine jr_irem (e_209 rfl) rfl (by decide) ?_
  refine jr_callP (as := [xi (xdiv a0 100), xi (xrem (xdiv a0 10) 10), xi (xrem a0 10)]) (S1 := []) (e_209 rfl) rfl rfl rfl rfl rfl rfl (jm_M_at (xdiv a0 100) (xrem (xdiv a0 10) 10) (xrem a0 10) σ) rfl (fun v1 => ?_)
  exact jr_retP (e_209 rfl) rfl

theorem e_210 {pc : Nat} {en : xa_I} (h : xlk pc xc_210 = some en) : xcd 210 pc = some en := h
noncomputable def fm_M_numberOf (a0 : Int) : Option (Int) :=
  some (w32 ((w32 ((w32 (100 * (xdiv a0 24))) + (w32 (10 * (xrem (xdiv a0 4) 6))))) + (xrem a0 4)))
theorem jm_M_numberOf (a0 : Int) (σ : xa_H) : J 210 0 [(0, xi a0)] [] σ (jqP σ) (fm_M_numberOf a0) := by
  unfold fm_M_numberOf
  refine jr_bipush (e_210 rfl) rfl ?_
  refine jr_iload_n (e_210 rfl) rfl rfl ?_
  refine jr_bipush (e_210 rfl) rfl ?_
  refine jr_idiv (e_210 rfl) rfl (by decide) ?_
  refine jr_imul (e_210 rfl) rfl ?_
  refine jr_bipush (e_210 rfl) rfl ?_
  refine jr_iload_n (e_210 rfl) rfl rfl ?_
  refine jr_iconst (e_210 rfl) rfl ?_
  refine jr_idiv (e_210 rfl) rfl (by decide) ?_
  refine jr_bipush (e_210 rfl) rfl ?_
  refine jr_irem (e_210 rfl) rfl (by decide) ?_
  refine jr_imul (e_210 rfl) rfl ?_
  refine jr_iadd (e_210 rfl) rfl ?_
  refine jr_iload_n (e_210 rfl) rfl rfl ?_
  refine jr_iconst (e_210 rfl) rfl ?_
  refine jr_irem (e_210 rfl) rfl (by decide) ?_
  refine jr_iadd (e_210 rfl) rfl ?_
  exact jr_retP (e_210 rfl) rfl

theorem e_211 {pc : Nat} {en : xa_I} (h : xlk pc xc_211 = some en) : xcd 211 pc = some en := h
noncomputable def fm_M_size_57 (f1 : Int) (f2 : Int) (f3 : Int) (K : xa_H → Option (Int × xa_H)) : Nat → Int → xa_H → Option (Int × xa_H)
  | 0, _, _ => none
  | n + 1, x4, sh =>
    if 144 ≤ x4 then
      K sh
    else
      if 0 ≤ x4 ∧ x4 < 144 then
        xnm (xup sh 53 0 x4.toNat 0) fun s2 =>
        xnm (w32 (x4 + 1) : Int) fun v3 =>
        fm_M_size_57 f1 f2 f3 K n v3 s2
      else none
theorem jl_M_size_57 (f1 : Int) (f2 : Int) (f3 : Int) (σ : xa_H)  (K : xa_H → Option (Int × xa_H)) (hK57 : ∀ (sz : xa_H), J 211 79 [(0, xr 9 0), (1, xi f1), (2, xi f2), (3, xi f3)] [] sz jqW (K sz)) : ∀ (n : Nat) (x4 : Int) (sh : xa_H), J 211 57 [(0, xr 9 0), (1, xi f1), (2, xi f2), (3, xi f3), (4, xi x4)] [] sh jqW (fm_M_size_57 f1 f2 f3 K n x4 sh) := by
  intro n
  induction n with
  | zero => intro x4 sh; exact jr_none
  | succ n ih57 =>
    intro x4 sh
    rw [fm_M_size_57]
    refine jr_iload (e_211 rfl) rfl rfl ?_
    refine jr_sipush (e_211 rfl) rfl ?_
    refine jr_bri (c := 144 ≤ x4) (pt := 79) (pn := 65) (e_211 rfl) rfl rfl (fun h1 => ?_) (fun h1 => ?_)
    · exact jr_sub (show ([0, 1, 2, 3, 4] : List Nat).Nodup from by decide) (xsb_c (List.Mem.head _) (xsb_c (List.Mem.tail _ (List.Mem.head _)) (xsb_c (List.Mem.tail _ (List.Mem.tail _ (List.Mem.head _))) (xsb_c (List.Mem.tail _ (List.Mem.tail _ (List.Mem.tail _ (List.Mem.head _)))) xsb_n)))) (hK57 sh)
    · refine jr_aload_n (e_211 rfl) rfl rfl ?_
      refine jr_getr (K2 := 53) (i2 := 0) (e_211 rfl) rfl rfl rfl ?_
      refine jr_iload (e_211 rfl) rfl rfl ?_
      refine jr_iconst (e_211 rfl) rfl ?_
      refine jr_ast (n := 144) (e_211 rfl) rfl rfl rfl rfl ?_
      refine jr_nms (fun s2 => ?_)
      refine jr_iinc (L2 := fun c => [(4, xi c), (0, xr 9 0), (1, xi f1), (2, xi f2), (3, xi f3)]) (e_211 rfl) rfl rfl rfl (fun _ => rfl) (fun v3 => ?_)
      refine jr_goto (pc' := 57) (e_211 rfl) rfl ?_
      exact jr_sub (show ([4, 0, 1, 2, 3] : List Nat).Nodup from by decide) (xsb_c (List.Mem.tail _ (List.Mem.head _)) (xsb_c (List.Mem.tail _ (List.Mem.tail _ (List.Mem.head _))) (xsb_c (List.Mem.tail _ (List.Mem.tail _ (List.Mem.tail _ (List.Mem.head _)))) (xsb_c (List.Mem.tail _ (List.Mem.tail _ (List.Mem.tail _ (List.Mem.tail _ (List.Mem.head _))))) (xsb_c (List.Mem.head _) xsb_n))))) (ih57 v3 s2)
noncomputable def fm_M_size_82 (f1 : Int) (f2 : Int) (f3 : Int) (K : xa_H → Option (Int × xa_H)) : Nat → Int → xa_H → Option (Int × xa_H)
  | 0, _, _ => none
  | n + 1, x4, sh =>
    if 4 ≤ x4 then
      K sh
    else
      if 0 ≤ x4 ∧ x4 < 5 then
        xnm (xup sh 62 0 x4.toNat (-6)) fun s2 =>
        if 0 ≤ x4 ∧ x4 < 5 then
          xnm (xup s2 64 0 x4.toNat 0) fun s3 =>
          xnm (w32 (x4 + 1) : Int) fun v4 =>
          fm_M_size_82 f1 f2 f3 K n v4 s3
        else none
      else none
theorem jl_M_size_82 (f1 : Int) (f2 : Int) (f3 : Int) (σ : xa_H)  (K : xa_H → Option (Int × xa_H)) (hK82 : ∀ (sz : xa_H), J 211 111 [(1, xi f1), (2, xi f2), (3, xi f3)] [] sz jqW (K sz)) : ∀ (n : Nat) (x4 : Int) (sh : xa_H), J 211 82 [(0, xr 9 0), (1, xi f1), (2, xi f2), (3, xi f3), (4, xi x4)] [] sh jqW (fm_M_size_82 f1 f2 f3 K n x4 sh) := by
  intro n
  induction n with
  | zero => intro x4 sh; exact jr_none
  | succ n ih82 =>
    intro x4 sh
    rw [fm_M_size_82]
    refine jr_iload (e_211 rfl) rfl rfl ?_
    refine jr_iconst (e_211 rfl) rfl ?_
    refine jr_bri (c := 4 ≤ x4) (pt := 111) (pn := 88) (e_211 rfl) rfl rfl (fun h1 => ?_) (fun h1 => ?_)
    · exact jr_sub (show ([0, 1, 2, 3, 4] : List Nat).Nodup from by decide) (xsb_c (List.Mem.tail _ (List.Mem.head _)) (xsb_c (List.Mem.tail _ (List.Mem.tail _ (List.Mem.head _))) (xsb_c (List.Mem.tail _ (List.Mem.tail _ (List.Mem.tail _ (List.Mem.head _)))) xsb_n))) (hK82 sh)
    · refine jr_aload_n (e_211 rfl) rfl rfl ?_
      refine jr_getr (K2 := 62) (i2 := 0) (e_211 rfl) rfl rfl rfl ?_
      refine jr_iload (e_211 rfl) rfl rfl ?_
      refine jr_bipush (e_211 rfl) rfl ?_
      refine jr_ast (n := 5) (e_211 rfl) rfl rfl rfl rfl ?_
      refine jr_nms (fun s2 => ?_)
      refine jr_aload_n (e_211 rfl) rfl rfl ?_
      refine jr_getr (K2 := 64) (i2 := 0) (e_211 rfl) rfl rfl rfl ?_
      refine jr_iload (e_211 rfl) rfl rfl ?_
      refine jr_iconst (e_211 rfl) rfl ?_
      refine jr_ast (n := 5) (e_211 rfl) rfl rfl rfl rfl ?_
      refine jr_nms (fun s3 => ?_)
      refine jr_iinc (L2 := fun c => [(4, xi c), (0, xr 9 0), (1, xi f1), (2, xi f2), (3, xi f3)]) (e_211 rfl) rfl rfl rfl (fun _ => rfl) (fun v4 => ?_)
      refine jr_goto (pc' := 82) (e_211 rfl) rfl ?_
      exact jr_sub (show ([4, 0, 1, 2, 3] : List Nat).Nodup from by decide) (xsb_c (List.Mem.tail _ (List.Mem.head _)) (xsb_c (List.Mem.tail _ (List.Mem.tail _ (List.Mem.head _))) (xsb_c (List.Mem.tail _ (List.Mem.tail _ (List.Mem.tail _ (List.Mem.head _)))) (xsb_c (List.Mem.tail _ (List.Mem.tail _ (List.Mem.tail _ (List.Mem.tail _ (List.Mem.head _))))) (xsb_c (List.Mem.head _) xsb_n))))) (ih82 v4 s3)
noncomputable def fm_M_size (a1 : Int) (a2 : Int) (a3 : Int) (σ : xa_H) : Option (Int × xa_H) :=
  (fm_M_in a1 1 6).bind fun v1 =>
  if v1 = 0 then
    some ((-2), σ)
  else
    (fm_M_in a2 1 6).bind fun v3 =>
    if v3 = 0 then
      some ((-2), σ)
    else
      (fm_M_in a3 1 4).bind fun v5 =>
      if v5 = 0 then
        some ((-2), σ)
      else
        xnm (xup σ 9 0 3 a1) fun s7 =>
        xnm (xup s7 9 0 4 a2) fun s8 =>
        xnm (xup s8 9 0 5 a3) fun s9 =>
        fm_M_size_57 a1 a2 a3 (fun (s10 : xa_H) =>
          fm_M_size_82 a1 a2 a3 (fun (s11 : xa_H) =>
            some ((w32 ((w32 (a1 * a2)) * a3)), s11)) xFU 0 s10) xFU 0 s9
theorem jm_M_size (a1 : Int) (a2 : Int) (a3 : Int) (σ : xa_H) : J 211 0 [(0, xr 9 0), (1, xi a1), (2, xi a2), (3, xi a3)] [] σ jqW (fm_M_size a1 a2 a3 σ) := by
  unfold fm_M_size
  refine jr_iload_n (e_211 rfl) rfl rfl ?_
  refine jr_i2l (e_211 rfl) rfl ?_
  refine jr_lconst (a := 1) (e_211 rfl) rfl rfl ?_
  refine jr_ldc2 (a := 6) (e_211 rfl) rfl rfl ?_
  refine jr_callP (as := [xl a1, xl 1, xl 6]) (S1 := []) (e_211 rfl) rfl rfl rfl rfl rfl rfl (jm_M_in a1 1 6 σ) rfl (fun v1 => ?_)
  refine jr_bri (c := v1 = 0) (pt := 36) (pn := 12) (e_211 rfl) rfl rfl (fun h2 => ?_) (fun h2 => ?_)
  · refine jr_bipush (e_211 rfl) rfl ?_
    exact jr_retW (e_211 rfl) rfl
  · refine jr_iload_n (e_211 rfl) rfl rfl ?_
    refine jr_i2l (e_211 rfl) rfl ?_
    refine jr_lconst (a := 1) (e_211 rfl) rfl rfl ?_
    refine jr_ldc2 (a := 6) (e_211 rfl) rfl rfl ?_
    refine jr_callP (as := [xl a2, xl 1, xl 6]) (S1 := []) (e_211 rfl) rfl rfl rfl rfl rfl rfl (jm_M_in a2 1 6 σ) rfl (fun v3 => ?_)
    refine jr_bri (c := v3 = 0) (pt := 36) (pn := 24) (e_211 rfl) rfl rfl (fun h4 => ?_) (fun h4 => ?_)
    · refine jr_bipush (e_211 rfl) rfl ?_
      exact jr_retW (e_211 rfl) rfl
    · refine jr_iload_n (e_211 rfl) rfl rfl ?_
      refine jr_i2l (e_211 rfl) rfl ?_
      refine jr_lconst (a := 1) (e_211 rfl) rfl rfl ?_
      refine jr_ldc2 (a := 4) (e_211 rfl) rfl rfl ?_
      refine jr_callP (as := [xl a3, xl 1, xl 4]) (S1 := []) (e_211 rfl) rfl rfl rfl rfl rfl rfl (jm_M_in a3 1 4 σ) rfl (fun v5 => ?_)
      refine jr_brx (c := v5 = 0) (pt := 39) (pn := 36) (e_211 rfl) rfl rfl (fun h6 => ?_) (fun h6 => ?_)
      · refine jr_bipush (e_211 rfl) rfl ?_
        exact jr_retW (e_211 rfl) rfl
      · refine jr_aload_n (e_211 rfl) rfl rfl ?_
        refine jr_iload_n (e_211 rfl) rfl rfl ?_
        refine jr_put (e_211 rfl) rfl rfl rfl ?_
        refine jr_nms (fun s7 => ?_)
        refine jr_aload_n (e_211 rfl) rfl rfl ?_
        refine jr_iload_n (e_211 rfl) rfl rfl ?_
        refine jr_put (e_211 rfl) rfl rfl rfl ?_
        refine jr_nms (fun s8 => ?_)
        refine jr_aload_n (e_211 rfl) rfl rfl ?_
        refine jr_iload_n (e_211 rfl) rfl rfl ?_
        refine jr_put (e_211 rfl) rfl rfl rfl ?_
        refine jr_nms (fun s9 => ?_)
        refine jr_iconst (e_211 rfl) rfl ?_
        refine jr_istore (L' := [(4, xi 0), (0, xr 9 0), (1, xi a1), (2, xi a2), (3, xi a3)]) (e_211 rfl) rfl rfl rfl ?_
        refine jr_sub (show ([4, 0, 1, 2, 3] : List Nat).Nodup from by decide) (xsb_c (List.Mem.tail _ (List.Mem.head _)) (xsb_c (List.Mem.tail _ (List.Mem.tail _ (List.Mem.head _))) (xsb_c (List.Mem.tail _ (List.Mem.tail _ (List.Mem.tail _ (List.Mem.head _)))) (xsb_c (List.Mem.tail _ (List.Mem.tail _ (List.Mem.tail _ (List.Mem.tail _ (List.Mem.head _))))) (xsb_c (List.Mem.head _) xsb_n))))) (jl_M_size_57 a1 a2 a3 σ _ (fun s10 => ?_) xFU 0 s9)
        refine jr_iconst (e_211 rfl) rfl ?_
        refine jr_istore (L' := [(4, xi 0), (0, xr 9 0), (1, xi a1), (2, xi a2), (3, xi a3)]) (e_211 rfl) rfl rfl rfl ?_
        refine jr_sub (show ([4, 0, 1, 2, 3] : List Nat).Nodup from by decide) (xsb_c (List.Mem.tail _ (List.Mem.head _)) (xsb_c (List.Mem.tail _ (List.Mem.tail _ (List.Mem.head _))) (xsb_c (List.Mem.tail _ (List.Mem.tail _ (List.Mem.tail _ (List.Mem.head _)))) (xsb_c (List.Mem.tail _ (List.Mem.tail _ (List.Mem.tail _ (List.Mem.tail _ (List.Mem.head _))))) (xsb_c (List.Mem.head _) xsb_n))))) (jl_M_size_82 a1 a2 a3 σ _ (fun s11 => ?_) xFU 0 s10)
        refine jr_iload_n (e_211 rfl) rfl rfl ?_
        refine jr_iload_n (e_211 rfl) rfl rfl ?_
        refine jr_imul (e_211 rfl) rfl ?_
        refine jr_iload_n (e_211 rfl) rfl rfl ?_
        refine jr_imul (e_211 rfl) rfl ?_
        exact jr_retW (e_211 rfl) rfl

theorem e_212 {pc : Nat} {en : xa_I} (h : xlk pc xc_212 = some en) : xcd 212 pc = some en := h
noncomputable def fm_M_fill_117 (f1 : Int) (f2 : Int) (f3 : Int) (f5 : Int) (f6 : Int) (K : Int → xa_H → Option (Int × xa_H)) : Nat → Int → Int → xa_H → Option (Int × xa_H)
  | 0, _, _, _ => none
  | n + 1, x4, x7, sh =>
    if (xrem f2 10) < x7 then
      K x4 sh
    else
      (fm_M_at f5 f6 x7).bind fun v2 =>
      if 0 ≤ v2 ∧ v2 < 144 then
        xnm (xup sh 53 0 v2.toNat f3) fun s3 =>
        xnm (w32 (x4 + 1) : Int) fun v4 =>
        xnm (w32 (x7 + 1) : Int) fun v5 =>
        fm_M_fill_117 f1 f2 f3 f5 f6 K n v4 v5 s3
      else none
theorem jl_M_fill_117 (f1 : Int) (f2 : Int) (f3 : Int) (f5 : Int) (f6 : Int) (σ : xa_H)  (K : Int → xa_H → Option (Int × xa_H)) (hK117 : ∀ (z0 : Int) (sz : xa_H), J 212 150 [(0, xr 9 0), (1, xi f1), (2, xi f2), (3, xi f3), (4, xi z0), (5, xi f5), (6, xi f6)] [] sz jqW (K z0 sz)) : ∀ (n : Nat) (x4 : Int) (x7 : Int) (sh : xa_H), J 212 117 [(0, xr 9 0), (1, xi f1), (2, xi f2), (3, xi f3), (4, xi x4), (5, xi f5), (6, xi f6), (7, xi x7)] [] sh jqW (fm_M_fill_117 f1 f2 f3 f5 f6 K n x4 x7 sh) := by
  intro n
  induction n with
  | zero => intro x4 x7 sh; exact jr_none
  | succ n ih117 =>
    intro x4 x7 sh
    rw [fm_M_fill_117]
    refine jr_iload (e_212 rfl) rfl rfl ?_
    refine jr_iload_n (e_212 rfl) rfl rfl ?_
    refine jr_bipush (e_212 rfl) rfl ?_
    refine jr_irem (e_212 rfl) rfl (by decide) ?_
    refine jr_bri (c := (xrem f2 10) < x7) (pt := 150) (pn := 126) (e_212 rfl) rfl rfl (fun h1 => ?_) (fun h1 => ?_)
    · exact jr_sub (show ([0, 1, 2, 3, 4, 5, 6, 7] : List Nat).Nodup from by decide) (xsb_c (List.Mem.head _) (xsb_c (List.Mem.tail _ (List.Mem.head _)) (xsb_c (List.Mem.tail _ (List.Mem.tail _ (List.Mem.head _))) (xsb_c (List.Mem.tail _ (List.Mem.tail _ (List.Mem.tail _ (List.Mem.head _)))) (xsb_c (List.Mem.tail _ (List.Mem.tail _ (List.Mem.tail _ (List.Mem.tail _ (List.Mem.head _))))) (xsb_c (List.Mem.tail _ (List.Mem.tail _ (List.Mem.tail _ (List.Mem.tail _ (List.Mem.tail _ (List.Mem.head _)))))) (xsb_c (List.Mem.tail _ (List.Mem.tail _ (List.Mem.tail _ (List.Mem.tail _ (List.Mem.tail _ (List.Mem.tail _ (List.Mem.head _))))))) xsb_n))))))) (hK117 x4 sh)
    · refine jr_aload_n (e_212 rfl) rfl rfl ?_
      refine jr_getr (K2 := 53) (i2 := 0) (e_212 rfl) rfl rfl rfl ?_
      refine jr_iload (e_212 rfl) rfl rfl ?_
      refine jr_iload (e_212 rfl) rfl rfl ?_
      refine jr_iload (e_212 rfl) rfl rfl ?_
      refine jr_callP (as := [xi f5, xi f6, xi x7]) (S1 := [xr 53 0]) (e_212 rfl) rfl rfl rfl rfl rfl rfl (jm_M_at f5 f6 x7 sh) rfl (fun v2 => ?_)
      refine jr_iload_n (e_212 rfl) rfl rfl ?_
      refine jr_ast (n := 144) (e_212 rfl) rfl rfl rfl rfl ?_
      refine jr_nms (fun s3 => ?_)
      refine jr_iinc (L2 := fun c => [(4, xi c), (0, xr 9 0), (1, xi f1), (2, xi f2), (3, xi f3), (5, xi f5), (6, xi f6), (7, xi x7)]) (e_212 rfl) rfl rfl rfl (fun _ => rfl) (fun v4 => ?_)
      refine jr_iinc (L2 := fun c => [(7, xi c), (4, xi v4), (0, xr 9 0), (1, xi f1), (2, xi f2), (3, xi f3), (5, xi f5), (6, xi f6)]) (e_212 rfl) rfl rfl rfl (fun _ => rfl) (fun v5 => ?_)
      refine jr_goto (pc' := 117) (e_212 rfl) rfl ?_
      exact jr_sub (show ([7, 4, 0, 1, 2, 3, 5, 6] : List Nat).Nodup from by decide) (xsb_c (List.Mem.tail _ (List.Mem.tail _ (List.Mem.head _))) (xsb_c (List.Mem.tail _ (List.Mem.tail _ (List.Mem.tail _ (List.Mem.head _)))) (xsb_c (List.Mem.tail _ (List.Mem.tail _ (List.Mem.tail _ (List.Mem.tail _ (List.Mem.head _))))) (xsb_c (List.Mem.tail _ (List.Mem.tail _ (List.Mem.tail _ (List.Mem.tail _ (List.Mem.tail _ (List.Mem.head _)))))) (xsb_c (List.Mem.tail _ (List.Mem.head _)) (xsb_c (List.Mem.tail _ (List.Mem.tail _ (List.Mem.tail _ (List.Mem.tail _ (List.Mem.tail _ (List.Mem.tail _ (List.Mem.head _))))))) (xsb_c (List.Mem.tail _ (List.Mem.tail _ (List.Mem.tail _ (List.Mem.tail _ (List.Mem.tail _ (List.Mem.tail _ (List.Mem.tail _ (List.Mem.head _)))))))) (xsb_c (List.Mem.head _) xsb_n)))))))) (ih117 v4 v5 s3)
noncomputable def fm_M_fill_99 (f1 : Int) (f2 : Int) (f3 : Int) (f5 : Int) (K : Int → xa_H → Option (Int × xa_H)) : Nat → Int → Int → xa_H → Option (Int × xa_H)
  | 0, _, _, _ => none
  | n + 1, x4, x6, sh =>
    if (xrem (xdiv f2 10) 10) < x6 then
      K x4 sh
    else
      xnm ((xrem f1 10) : Int) fun v2 =>
      fm_M_fill_117 f1 f2 f3 f5 x6 (fun (v6 : Int) (s7 : xa_H) =>
        xnm (w32 (x6 + 1) : Int) fun v8 =>
        fm_M_fill_99 f1 f2 f3 f5 K n v6 v8 s7) xFU x4 v2 sh
theorem jl_M_fill_99 (f1 : Int) (f2 : Int) (f3 : Int) (f5 : Int) (σ : xa_H)  (K : Int → xa_H → Option (Int × xa_H)) (hK99 : ∀ (z0 : Int) (sz : xa_H), J 212 156 [(0, xr 9 0), (1, xi f1), (2, xi f2), (3, xi f3), (4, xi z0), (5, xi f5)] [] sz jqW (K z0 sz)) : ∀ (n : Nat) (x4 : Int) (x6 : Int) (sh : xa_H), J 212 99 [(0, xr 9 0), (1, xi f1), (2, xi f2), (3, xi f3), (4, xi x4), (5, xi f5), (6, xi x6)] [] sh jqW (fm_M_fill_99 f1 f2 f3 f5 K n x4 x6 sh) := by
  intro n
  induction n with
  | zero => intro x4 x6 sh; exact jr_none
  | succ n ih99 =>
    intro x4 x6 sh
    rw [fm_M_fill_99]
    refine jr_iload (e_212 rfl) rfl rfl ?_
    refine jr_iload_n (e_212 rfl) rfl rfl ?_
    refine jr_bipush (e_212 rfl) rfl ?_
    refine jr_idiv (e_212 rfl) rfl (by decide) ?_
    refine jr_bipush (e_212 rfl) rfl ?_
    refine jr_irem (e_212 rfl) rfl (by decide) ?_
    refine jr_bri (c := (xrem (xdiv f2 10) 10) < x6) (pt := 156) (pn := 111) (e_212 rfl) rfl rfl (fun h1 => ?_) (fun h1 => ?_)
    · exact jr_sub (show ([0, 1, 2, 3, 4, 5, 6] : List Nat).Nodup from by decide) (xsb_c (List.Mem.head _) (xsb_c (List.Mem.tail _ (List.Mem.head _)) (xsb_c (List.Mem.tail _ (List.Mem.tail _ (List.Mem.head _))) (xsb_c (List.Mem.tail _ (List.Mem.tail _ (List.Mem.tail _ (List.Mem.head _)))) (xsb_c (List.Mem.tail _ (List.Mem.tail _ (List.Mem.tail _ (List.Mem.tail _ (List.Mem.head _))))) (xsb_c (List.Mem.tail _ (List.Mem.tail _ (List.Mem.tail _ (List.Mem.tail _ (List.Mem.tail _ (List.Mem.head _)))))) xsb_n)))))) (hK99 x4 sh)
    · refine jr_iload_n (e_212 rfl) rfl rfl ?_
      refine jr_bipush (e_212 rfl) rfl ?_
      refine jr_irem (e_212 rfl) rfl (by decide) ?_
      refine jr_nm (fun v2 => ?_)
      refine jr_istore (L' := [(7, xi v2), (0, xr 9 0), (1, xi f1), (2, xi f2), (3, xi f3), (4, xi x4), (5, xi f5), (6, xi x6)]) (e_212 rfl) rfl rfl rfl ?_
      refine jr_sub (show ([7, 0, 1, 2, 3, 4, 5, 6] : List Nat).Nodup from by decide) (xsb_c (List.Mem.tail _ (List.Mem.head _)) (xsb_c (List.Mem.tail _ (List.Mem.tail _ (List.Mem.head _))) (xsb_c (List.Mem.tail _ (List.Mem.tail _ (List.Mem.tail _ (List.Mem.head _)))) (xsb_c (List.Mem.tail _ (List.Mem.tail _ (List.Mem.tail _ (List.Mem.tail _ (List.Mem.head _))))) (xsb_c (List.Mem.tail _ (List.Mem.tail _ (List.Mem.tail _ (List.Mem.tail _ (List.Mem.tail _ (List.Mem.head _)))))) (xsb_c (List.Mem.tail _ (List.Mem.tail _ (List.Mem.tail _ (List.Mem.tail _ (List.Mem.tail _ (List.Mem.tail _ (List.Mem.head _))))))) (xsb_c (List.Mem.tail _ (List.Mem.tail _ (List.Mem.tail _ (List.Mem.tail _ (List.Mem.tail _ (List.Mem.tail _ (List.Mem.tail _ (List.Mem.head _)))))))) (xsb_c (List.Mem.head _) xsb_n)))))))) (jl_M_fill_117 f1 f2 f3 f5 x6 σ _ (fun v6 s7 => ?_) xFU x4 v2 sh)
      refine jr_iinc (L2 := fun c => [(6, xi c), (0, xr 9 0), (1, xi f1), (2, xi f2), (3, xi f3), (4, xi v6), (5, xi f5)]) (e_212 rfl) rfl rfl rfl (fun _ => rfl) (fun v8 => ?_)
      refine jr_goto (pc' := 99) (e_212 rfl) rfl ?_
      exact jr_sub (show ([6, 0, 1, 2, 3, 4, 5] : List Nat).Nodup from by decide) (xsb_c (List.Mem.tail _ (List.Mem.head _)) (xsb_c (List.Mem.tail _ (List.Mem.tail _ (List.Mem.head _))) (xsb_c (List.Mem.tail _ (List.Mem.tail _ (List.Mem.tail _ (List.Mem.head _)))) (xsb_c (List.Mem.tail _ (List.Mem.tail _ (List.Mem.tail _ (List.Mem.tail _ (List.Mem.head _))))) (xsb_c (List.Mem.tail _ (List.Mem.tail _ (List.Mem.tail _ (List.Mem.tail _ (List.Mem.tail _ (List.Mem.head _)))))) (xsb_c (List.Mem.tail _ (List.Mem.tail _ (List.Mem.tail _ (List.Mem.tail _ (List.Mem.tail _ (List.Mem.tail _ (List.Mem.head _))))))) (xsb_c (List.Mem.head _) xsb_n))))))) (ih99 v6 v8 s7)
noncomputable def fm_M_fill_81 (f1 : Int) (f2 : Int) (f3 : Int) (K : Int → xa_H → Option (Int × xa_H)) : Nat → Int → Int → xa_H → Option (Int × xa_H)
  | 0, _, _, _ => none
  | n + 1, x4, x5, sh =>
    if (xdiv f2 100) < x5 then
      K x4 sh
    else
      xnm ((xrem (xdiv f1 10) 10) : Int) fun v2 =>
      fm_M_fill_99 f1 f2 f3 x5 (fun (v9 : Int) (s10 : xa_H) =>
        xnm (w32 (x5 + 1) : Int) fun v11 =>
        fm_M_fill_81 f1 f2 f3 K n v9 v11 s10) xFU x4 v2 sh
theorem jl_M_fill_81 (f1 : Int) (f2 : Int) (f3 : Int) (σ : xa_H)  (K : Int → xa_H → Option (Int × xa_H)) (hK81 : ∀ (z0 : Int) (sz : xa_H), J 212 162 [(4, xi z0)] [] sz jqW (K z0 sz)) : ∀ (n : Nat) (x4 : Int) (x5 : Int) (sh : xa_H), J 212 81 [(0, xr 9 0), (1, xi f1), (2, xi f2), (3, xi f3), (4, xi x4), (5, xi x5)] [] sh jqW (fm_M_fill_81 f1 f2 f3 K n x4 x5 sh) := by
  intro n
  induction n with
  | zero => intro x4 x5 sh; exact jr_none
  | succ n ih81 =>
    intro x4 x5 sh
    rw [fm_M_fill_81]
    refine jr_iload (e_212 rfl) rfl rfl ?_
    refine jr_iload_n (e_212 rfl) rfl rfl ?_
    refine jr_bipush (e_212 rfl) rfl ?_
    refine jr_idiv (e_212 rfl) rfl (by decide) ?_
    refine jr_bri (c := (xdiv f2 100) < x5) (pt := 162) (pn := 90) (e_212 rfl) rfl rfl (fun h1 => ?_) (fun h1 => ?_)
    · exact jr_sub (show ([0, 1, 2, 3, 4, 5] : List Nat).Nodup from by decide) (xsb_c (List.Mem.tail _ (List.Mem.tail _ (List.Mem.tail _ (List.Mem.tail _ (List.Mem.head _))))) xsb_n) (hK81 x4 sh)
    · refine jr_iload_n (e_212 rfl) rfl rfl ?_
      refine jr_bipush (e_212 rfl) rfl ?_
      refine jr_idiv (e_212 rfl) rfl (by decide) ?_
      refine jr_bipush (e_212 rfl) rfl ?_
      refine jr_irem (e_212 rfl) rfl (by decide) ?_
      refine jr_nm (fun v2 => ?_)
      refine jr_istore (L' := [(6, xi v2), (0, xr 9 0), (1, xi f1), (2, xi f2), (3, xi f3), (4, xi x4), (5, xi x5)]) (e_212 rfl) rfl rfl rfl ?_
      refine jr_sub (show ([6, 0, 1, 2, 3, 4, 5] : List Nat).Nodup from by decide) (xsb_c (List.Mem.tail _ (List.Mem.head _)) (xsb_c (List.Mem.tail _ (List.Mem.tail _ (List.Mem.head _))) (xsb_c (List.Mem.tail _ (List.Mem.tail _ (List.Mem.tail _ (List.Mem.head _)))) (xsb_c (List.Mem.tail _ (List.Mem.tail _ (List.Mem.tail _ (List.Mem.tail _ (List.Mem.head _))))) (xsb_c (List.Mem.tail _ (List.Mem.tail _ (List.Mem.tail _ (List.Mem.tail _ (List.Mem.tail _ (List.Mem.head _)))))) (xsb_c (List.Mem.tail _ (List.Mem.tail _ (List.Mem.tail _ (List.Mem.tail _ (List.Mem.tail _ (List.Mem.tail _ (List.Mem.head _))))))) (xsb_c (List.Mem.head _) xsb_n))))))) (jl_M_fill_99 f1 f2 f3 x5 σ _ (fun v9 s10 => ?_) xFU x4 v2 sh)
      refine jr_iinc (L2 := fun c => [(5, xi c), (0, xr 9 0), (1, xi f1), (2, xi f2), (3, xi f3), (4, xi v9)]) (e_212 rfl) rfl rfl rfl (fun _ => rfl) (fun v11 => ?_)
      refine jr_goto (pc' := 81) (e_212 rfl) rfl ?_
      exact jr_sub (show ([5, 0, 1, 2, 3, 4] : List Nat).Nodup from by decide) (xsb_c (List.Mem.tail _ (List.Mem.head _)) (xsb_c (List.Mem.tail _ (List.Mem.tail _ (List.Mem.head _))) (xsb_c (List.Mem.tail _ (List.Mem.tail _ (List.Mem.tail _ (List.Mem.head _)))) (xsb_c (List.Mem.tail _ (List.Mem.tail _ (List.Mem.tail _ (List.Mem.tail _ (List.Mem.head _))))) (xsb_c (List.Mem.tail _ (List.Mem.tail _ (List.Mem.tail _ (List.Mem.tail _ (List.Mem.tail _ (List.Mem.head _)))))) (xsb_c (List.Mem.head _) xsb_n)))))) (ih81 v9 v11 s10)
noncomputable def fm_M_fill (a1 : Int) (a2 : Int) (a3 : Int) (σ : xa_H) : Option (Int × xa_H) :=
  (fm_M_isCellNumber a1 σ).bind fun v1 =>
  if v1 = 0 then
    some ((-1), σ)
  else
    (fm_M_isCellNumber a2 σ).bind fun v3 =>
    if v3 = 0 then
      some ((-1), σ)
    else
      (fm_M_in a3 0 5).bind fun v5 =>
      if v5 = 0 then
        some ((-2), σ)
      else
        if (xdiv a2 100) < (xdiv a1 100) then
          some ((-2), σ)
        else
          if (xrem (xdiv a2 10) 10) < (xrem (xdiv a1 10) 10) then
            some ((-2), σ)
          else
            if (xrem a1 10) ≤ (xrem a2 10) then
              xnm ((xdiv a1 100) : Int) fun v10 =>
              fm_M_fill_81 a1 a2 a3 (fun (v12 : Int) (s13 : xa_H) =>
                some (v12, s13)) xFU 0 v10 σ
            else
              some ((-2), σ)
theorem jm_M_fill (a1 : Int) (a2 : Int) (a3 : Int) (σ : xa_H) : J 212 0 [(0, xr 9 0), (1, xi a1), (2, xi a2), (3, xi a3)] [] σ jqW (fm_M_fill a1 a2 a3 σ) := by
  unfold fm_M_fill
  refine jr_aload_n (e_212 rfl) rfl rfl ?_
  refine jr_iload_n (e_212 rfl) rfl rfl ?_
  refine jr_callP (as := [xr 9 0, xi a1]) (S1 := []) (e_212 rfl) rfl rfl rfl rfl rfl rfl (jm_M_isCellNumber a1 σ) rfl (fun v1 => ?_)
  refine jr_bri (c := v1 = 0) (pt := 16) (pn := 8) (e_212 rfl) rfl rfl (fun h2 => ?_) (fun h2 => ?_)
  · refine jr_iconst (e_212 rfl) rfl ?_
    exact jr_retW (e_212 rfl) rfl
  · refine jr_aload_n (e_212 rfl) rfl rfl ?_
    refine jr_iload_n (e_212 rfl) rfl rfl ?_
    refine jr_callP (as := [xr 9 0, xi a2]) (S1 := []) (e_212 rfl) rfl rfl rfl rfl rfl rfl (jm_M_isCellNumber a2 σ) rfl (fun v3 => ?_)
    refine jr_brx (c := v3 = 0) (pt := 18) (pn := 16) (e_212 rfl) rfl rfl (fun h4 => ?_) (fun h4 => ?_)
    · refine jr_iconst (e_212 rfl) rfl ?_
      exact jr_retW (e_212 rfl) rfl
    · refine jr_iload_n (e_212 rfl) rfl rfl ?_
      refine jr_i2l (e_212 rfl) rfl ?_
      refine jr_lconst (a := 0) (e_212 rfl) rfl rfl ?_
      refine jr_ldc2 (a := 5) (e_212 rfl) rfl rfl ?_
      refine jr_callP (as := [xl a3, xl 0, xl 5]) (S1 := []) (e_212 rfl) rfl rfl rfl rfl rfl rfl (jm_M_in a3 0 5 σ) rfl (fun v5 => ?_)
      refine jr_bri (c := v5 = 0) (pt := 69) (pn := 30) (e_212 rfl) rfl rfl (fun h6 => ?_) (fun h6 => ?_)
      · refine jr_bipush (e_212 rfl) rfl ?_
        exact jr_retW (e_212 rfl) rfl
      · refine jr_iload_n (e_212 rfl) rfl rfl ?_
        refine jr_bipush (e_212 rfl) rfl ?_
        refine jr_idiv (e_212 rfl) rfl (by decide) ?_
        refine jr_iload_n (e_212 rfl) rfl rfl ?_
        refine jr_bipush (e_212 rfl) rfl ?_
        refine jr_idiv (e_212 rfl) rfl (by decide) ?_
        refine jr_bri (c := (xdiv a2 100) < (xdiv a1 100)) (pt := 69) (pn := 41) (e_212 rfl) rfl rfl (fun h7 => ?_) (fun h7 => ?_)
        · refine jr_bipush (e_212 rfl) rfl ?_
          exact jr_retW (e_212 rfl) rfl
        · refine jr_iload_n (e_212 rfl) rfl rfl ?_
          refine jr_bipush (e_212 rfl) rfl ?_
          refine jr_idiv (e_212 rfl) rfl (by decide) ?_
          refine jr_bipush (e_212 rfl) rfl ?_
          refine jr_irem (e_212 rfl) rfl (by decide) ?_
          refine jr_iload_n (e_212 rfl) rfl rfl ?_
          refine jr_bipush (e_212 rfl) rfl ?_
          refine jr_idiv (e_212 rfl) rfl (by decide) ?_
          refine jr_bipush (e_212 rfl) rfl ?_
          refine jr_irem (e_212 rfl) rfl (by decide) ?_
          refine jr_bri (c := (xrem (xdiv a2 10) 10) < (xrem (xdiv a1 10) 10)) (pt := 69) (pn := 58) (e_212 rfl) rfl rfl (fun h8 => ?_) (fun h8 => ?_)
          · refine jr_bipush (e_212 rfl) rfl ?_
            exact jr_retW (e_212 rfl) rfl
          · refine jr_iload_n (e_212 rfl) rfl rfl ?_
            refine jr_bipush (e_212 rfl) rfl ?_
            refine jr_irem (e_212 rfl) rfl (by decide) ?_
            refine jr_iload_n (e_212 rfl) rfl rfl ?_
            refine jr_bipush (e_212 rfl) rfl ?_
            refine jr_irem (e_212 rfl) rfl (by decide) ?_
            refine jr_bri (c := (xrem a1 10) ≤ (xrem a2 10)) (pt := 72) (pn := 69) (e_212 rfl) rfl rfl (fun h9 => ?_) (fun h9 => ?_)
            · refine jr_iconst (e_212 rfl) rfl ?_
              refine jr_istore (L' := [(4, xi 0), (0, xr 9 0), (1, xi a1), (2, xi a2), (3, xi a3)]) (e_212 rfl) rfl rfl rfl ?_
              refine jr_iload_n (e_212 rfl) rfl rfl ?_
              refine jr_bipush (e_212 rfl) rfl ?_
              refine jr_idiv (e_212 rfl) rfl (by decide) ?_
              refine jr_nm (fun v10 => ?_)
              refine jr_istore (L' := [(5, xi v10), (4, xi 0), (0, xr 9 0), (1, xi a1), (2, xi a2), (3, xi a3)]) (e_212 rfl) rfl rfl rfl ?_
              refine jr_sub (show ([5, 4, 0, 1, 2, 3] : List Nat).Nodup from by decide) (xsb_c (List.Mem.tail _ (List.Mem.tail _ (List.Mem.head _))) (xsb_c (List.Mem.tail _ (List.Mem.tail _ (List.Mem.tail _ (List.Mem.head _)))) (xsb_c (List.Mem.tail _ (List.Mem.tail _ (List.Mem.tail _ (List.Mem.tail _ (List.Mem.head _))))) (xsb_c (List.Mem.tail _ (List.Mem.tail _ (List.Mem.tail _ (List.Mem.tail _ (List.Mem.tail _ (List.Mem.head _)))))) (xsb_c (List.Mem.tail _ (List.Mem.head _)) (xsb_c (List.Mem.head _) xsb_n)))))) (jl_M_fill_81 a1 a2 a3 σ _ (fun v12 s13 => ?_) xFU 0 v10 σ)
              refine jr_iload (e_212 rfl) rfl rfl ?_
              exact jr_retW (e_212 rfl) rfl
            · refine jr_bipush (e_212 rfl) rfl ?_
              exact jr_retW (e_212 rfl) rfl

theorem e_213 {pc : Nat} {en : xa_I} (h : xlk pc xc_213 = some en) : xcd 213 pc = some en := h
noncomputable def fm_M_cell (a1 : Int) (σ : xa_H) : Option (Int) :=
  (fm_M_isCellNumber a1 σ).bind fun v1 =>
  if v1 = 0 then
    some (-1)
  else
    (fm_M_placeOf a1).bind fun v3 =>
    if 0 ≤ v3 ∧ v3 < 144 then
      some (σ 53 0 v3.toNat)
    else none
theorem jm_M_cell (a1 : Int) (σ : xa_H) : J 213 0 [(0, xr 9 0), (1, xi a1)] [] σ (jqP σ) (fm_M_cell a1 σ) := by
  unfold fm_M_cell
  refine jr_aload_n (e_213 rfl) rfl rfl ?_
  refine jr_iload_n (e_213 rfl) rfl rfl ?_
  refine jr_callP (as := [xr 9 0, xi a1]) (S1 := []) (e_213 rfl) rfl rfl rfl rfl rfl rfl (jm_M_isCellNumber a1 σ) rfl (fun v1 => ?_)
  refine jr_bri (c := v1 = 0) (pt := 20) (pn := 8) (e_213 rfl) rfl rfl (fun h2 => ?_) (fun h2 => ?_)
  · refine jr_iconst (e_213 rfl) rfl ?_
    exact jr_retP (e_213 rfl) rfl
  · refine jr_aload_n (e_213 rfl) rfl rfl ?_
    refine jr_getr (K2 := 53) (i2 := 0) (e_213 rfl) rfl rfl rfl ?_
    refine jr_iload_n (e_213 rfl) rfl rfl ?_
    refine jr_callP (as := [xi a1]) (S1 := [xr 53 0]) (e_213 rfl) rfl rfl rfl rfl rfl rfl (jm_M_placeOf a1 σ) rfl (fun v3 => ?_)
    refine jr_ald (n := 144) (e_213 rfl) rfl rfl rfl ?_
    refine jr_goto (pc' := 21) (e_213 rfl) rfl ?_
    exact jr_retP (e_213 rfl) rfl

theorem e_214 {pc : Nat} {en : xa_I} (h : xlk pc xc_214 = some en) : xcd 214 pc = some en := h
noncomputable def fm_M_say (a1 : Int) (σ : xa_H) : Option (Int × xa_H) :=
  (fm_M_in a1 33 126).bind fun v1 =>
  if v1 = 0 then
    some ((-2), σ)
  else
    if (σ 9 0 19) = 60 then
      some ((-4), σ)
    else
      if 0 ≤ (σ 9 0 19) ∧ (σ 9 0 19) < 60 then
        xnm (xup σ 65 0 ((σ 9 0 19).toNat) a1) fun s4 =>
        xnm (xup s4 9 0 19 (w32 ((s4 9 0 19) + 1))) fun s5 =>
        some ((s5 9 0 19), s5)
      else none
theorem jm_M_say (a1 : Int) (σ : xa_H) : J 214 0 [(0, xr 9 0), (1, xi a1)] [] σ jqW (fm_M_say a1 σ) := by
  unfold fm_M_say
  refine jr_iload_n (e_214 rfl) rfl rfl ?_
  refine jr_i2l (e_214 rfl) rfl ?_
  refine jr_ldc2 (a := 33) (e_214 rfl) rfl rfl ?_
  refine jr_ldc2 (a := 126) (e_214 rfl) rfl rfl ?_
  refine jr_callP (as := [xl a1, xl 33, xl 126]) (S1 := []) (e_214 rfl) rfl rfl rfl rfl rfl rfl (jm_M_in a1 33 126 σ) rfl (fun v1 => ?_)
  refine jr_brx (c := v1 = 0) (pt := 17) (pn := 14) (e_214 rfl) rfl rfl (fun h2 => ?_) (fun h2 => ?_)
  · refine jr_bipush (e_214 rfl) rfl ?_
    exact jr_retW (e_214 rfl) rfl
  · refine jr_aload_n (e_214 rfl) rfl rfl ?_
    refine jr_geti (e_214 rfl) rfl (by decide +kernel) ?_
    refine jr_bipush (e_214 rfl) rfl ?_
    refine jr_brx (c := (σ 9 0 19) = 60) (pt := 29) (pn := 26) (e_214 rfl) rfl rfl (fun h3 => ?_) (fun h3 => ?_)
    · refine jr_bipush (e_214 rfl) rfl ?_
      exact jr_retW (e_214 rfl) rfl
    · refine jr_aload_n (e_214 rfl) rfl rfl ?_
      refine jr_getr (K2 := 65) (i2 := 0) (e_214 rfl) rfl rfl rfl ?_
      refine jr_aload_n (e_214 rfl) rfl rfl ?_
      refine jr_geti (e_214 rfl) rfl (by decide +kernel) ?_
      refine jr_iload_n (e_214 rfl) rfl rfl ?_
      refine jr_ast (n := 60) (e_214 rfl) rfl rfl rfl rfl ?_
      refine jr_nms (fun s4 => ?_)
      refine jr_aload_n (e_214 rfl) rfl rfl ?_
      refine jr_dup (e_214 rfl) rfl rfl ?_
      refine jr_geti (e_214 rfl) rfl (by decide +kernel) ?_
      refine jr_iconst (e_214 rfl) rfl ?_
      refine jr_iadd (e_214 rfl) rfl ?_
      refine jr_put (e_214 rfl) rfl rfl rfl ?_
      refine jr_nms (fun s5 => ?_)
      refine jr_aload_n (e_214 rfl) rfl rfl ?_
      refine jr_geti (e_214 rfl) rfl (by decide +kernel) ?_
      exact jr_retW (e_214 rfl) rfl

theorem e_215 {pc : Nat} {en : xa_I} (h : xlk pc xc_215 = some en) : xcd 215 pc = some en := h
noncomputable def fm_M_wipe (σ : xa_H) : Option (Int × xa_H) :=
  xnm ((σ 9 0 19) : Int) fun v1 =>
  xnm (xup σ 9 0 19 0) fun s2 =>
  some (v1, s2)
theorem jm_M_wipe (σ : xa_H) : J 215 0 [(0, xr 9 0)] [] σ jqW (fm_M_wipe σ) := by
  unfold fm_M_wipe
  refine jr_aload_n (e_215 rfl) rfl rfl ?_
  refine jr_geti (e_215 rfl) rfl (by decide +kernel) ?_
  refine jr_nm (fun v1 => ?_)
  refine jr_istore_n (L' := [(1, xi v1), (0, xr 9 0)]) (e_215 rfl) rfl rfl rfl ?_
  refine jr_aload_n (e_215 rfl) rfl rfl ?_
  refine jr_iconst (e_215 rfl) rfl ?_
  refine jr_put (e_215 rfl) rfl rfl rfl ?_
  refine jr_nms (fun s2 => ?_)
  refine jr_iload_n (e_215 rfl) rfl rfl ?_
  exact jr_retW (e_215 rfl) rfl

theorem e_216 {pc : Nat} {en : xa_I} (h : xlk pc xc_216 = some en) : xcd 216 pc = some en := h
noncomputable def fm_M_wasTold_4 (f1 : Int) (σ : xa_H) (K : Int → Option (Int)) : Nat → Int → Int → Option (Int)
  | 0, _, _ => none
  | n + 1, x2, x3 =>
    if (w32 (f1 - 2)) ≤ x3 then
      K x2
    else
      if x2 = 0 then
        if 0 ≤ x3 ∧ x3 < 60 then
          if 0 ≤ (w32 (f1 - 2)) ∧ (w32 (f1 - 2)) < 60 then
            if (σ 65 0 x3.toNat) = (σ 65 0 ((w32 (f1 - 2)).toNat)) then
              if 0 ≤ (w32 (x3 + 1)) ∧ (w32 (x3 + 1)) < 60 then
                if 0 ≤ (w32 (f1 - 1)) ∧ (w32 (f1 - 1)) < 60 then
                  if (σ 65 0 ((w32 (x3 + 1)).toNat)) = (σ 65 0 ((w32 (f1 - 1)).toNat)) then
                    if 0 ≤ (w32 (x3 + 2)) ∧ (w32 (x3 + 2)) < 60 then
                      if 0 ≤ f1 ∧ f1 < 60 then
                        if (σ 65 0 ((w32 (x3 + 2)).toNat)) = (σ 65 0 f1.toNat) then
                          xnm (w32 (x3 + 4) : Int) fun v6 =>
                          fm_M_wasTold_4 f1 σ K n 1 v6
                        else
                          xnm (w32 (x3 + 4) : Int) fun v7 =>
                          fm_M_wasTold_4 f1 σ K n 0 v7
                      else none
                    else none
                  else
                    xnm (w32 (x3 + 4) : Int) fun v8 =>
                    fm_M_wasTold_4 f1 σ K n 0 v8
                else none
              else none
            else
              xnm (w32 (x3 + 4) : Int) fun v9 =>
              fm_M_wasTold_4 f1 σ K n 0 v9
          else none
        else none
      else
        xnm (w32 (x3 + 4) : Int) fun v10 =>
        fm_M_wasTold_4 f1 σ K n 1 v10
theorem jl_M_wasTold_4 (f1 : Int) (σ : xa_H)  (K : Int → Option (Int)) (hK4 : ∀ (z0 : Int), J 216 80 [(2, xi z0)] [] σ (jqP σ) (K z0)) : ∀ (n : Nat) (x2 : Int) (x3 : Int), J 216 4 [(0, xr 9 0), (1, xi f1), (2, xi x2), (3, xi x3)] [] σ (jqP σ) (fm_M_wasTold_4 f1 σ K n x2 x3) := by
  intro n
  induction n with
  | zero => intro x2 x3; exact jr_none
  | succ n ih4 =>
    intro x2 x3
    rw [fm_M_wasTold_4]
    refine jr_iload_n (e_216 rfl) rfl rfl ?_
    refine jr_iload_n (e_216 rfl) rfl rfl ?_
    refine jr_iconst (e_216 rfl) rfl ?_
    refine jr_isub (e_216 rfl) rfl ?_
    refine jr_bri (c := (w32 (f1 - 2)) ≤ x3) (pt := 80) (pn := 11) (e_216 rfl) rfl rfl (fun h1 => ?_) (fun h1 => ?_)
    · exact jr_sub (show ([0, 1, 2, 3] : List Nat).Nodup from by decide) (xsb_c (List.Mem.tail _ (List.Mem.tail _ (List.Mem.head _))) xsb_n) (hK4 x2)
    · refine jr_iload_n (e_216 rfl) rfl rfl ?_
      refine jr_brx (c := x2 = 0) (pt := 68) (pn := 15) (e_216 rfl) rfl rfl (fun h2 => ?_) (fun h2 => ?_)
      · refine jr_aload_n (e_216 rfl) rfl rfl ?_
        refine jr_getr (K2 := 65) (i2 := 0) (e_216 rfl) rfl rfl rfl ?_
        refine jr_iload_n (e_216 rfl) rfl rfl ?_
        refine jr_ald (n := 60) (e_216 rfl) rfl rfl rfl ?_
        refine jr_aload_n (e_216 rfl) rfl rfl ?_
        refine jr_getr (K2 := 65) (i2 := 0) (e_216 rfl) rfl rfl rfl ?_
        refine jr_iload_n (e_216 rfl) rfl rfl ?_
        refine jr_iconst (e_216 rfl) rfl ?_
        refine jr_isub (e_216 rfl) rfl ?_
        refine jr_ald (n := 60) (e_216 rfl) rfl rfl rfl ?_
        refine jr_brx (c := (σ 65 0 x3.toNat) = (σ 65 0 ((w32 (f1 - 2)).toNat))) (pt := 72) (pn := 32) (e_216 rfl) rfl rfl (fun h3 => ?_) (fun h3 => ?_)
        · refine jr_aload_n (e_216 rfl) rfl rfl ?_
          refine jr_getr (K2 := 65) (i2 := 0) (e_216 rfl) rfl rfl rfl ?_
          refine jr_iload_n (e_216 rfl) rfl rfl ?_
          refine jr_iconst (e_216 rfl) rfl ?_
          refine jr_iadd (e_216 rfl) rfl ?_
          refine jr_ald (n := 60) (e_216 rfl) rfl rfl rfl ?_
          refine jr_aload_n (e_216 rfl) rfl rfl ?_
          refine jr_getr (K2 := 65) (i2 := 0) (e_216 rfl) rfl rfl rfl ?_
          refine jr_iload_n (e_216 rfl) rfl rfl ?_
          refine jr_iconst (e_216 rfl) rfl ?_
          refine jr_isub (e_216 rfl) rfl ?_
          refine jr_ald (n := 60) (e_216 rfl) rfl rfl rfl ?_
          refine jr_brx (c := (σ 65 0 ((w32 (x3 + 1)).toNat)) = (σ 65 0 ((w32 (f1 - 1)).toNat))) (pt := 72) (pn := 51) (e_216 rfl) rfl rfl (fun h4 => ?_) (fun h4 => ?_)
          · refine jr_aload_n (e_216 rfl) rfl rfl ?_
            refine jr_getr (K2 := 65) (i2 := 0) (e_216 rfl) rfl rfl rfl ?_
            refine jr_iload_n (e_216 rfl) rfl rfl ?_
            refine jr_iconst (e_216 rfl) rfl ?_
            refine jr_iadd (e_216 rfl) rfl ?_
            refine jr_ald (n := 60) (e_216 rfl) rfl rfl rfl ?_
            refine jr_aload_n (e_216 rfl) rfl rfl ?_
            refine jr_getr (K2 := 65) (i2 := 0) (e_216 rfl) rfl rfl rfl ?_
            refine jr_iload_n (e_216 rfl) rfl rfl ?_
            refine jr_ald (n := 60) (e_216 rfl) rfl rfl rfl ?_
            refine jr_brx (c := (σ 65 0 ((w32 (x3 + 2)).toNat)) = (σ 65 0 f1.toNat)) (pt := 72) (pn := 68) (e_216 rfl) rfl rfl (fun h5 => ?_) (fun h5 => ?_)
            · refine jr_iconst (e_216 rfl) rfl ?_
              refine jr_goto (pc' := 73) (e_216 rfl) rfl ?_
              refine jr_istore_n (L' := [(2, xi 1), (0, xr 9 0), (1, xi f1), (3, xi x3)]) (e_216 rfl) rfl rfl rfl ?_
              refine jr_iinc (L2 := fun c => [(3, xi c), (2, xi 1), (0, xr 9 0), (1, xi f1)]) (e_216 rfl) rfl rfl rfl (fun _ => rfl) (fun v6 => ?_)
              refine jr_goto (pc' := 4) (e_216 rfl) rfl ?_
              exact jr_sub (show ([3, 2, 0, 1] : List Nat).Nodup from by decide) (xsb_c (List.Mem.tail _ (List.Mem.tail _ (List.Mem.head _))) (xsb_c (List.Mem.tail _ (List.Mem.tail _ (List.Mem.tail _ (List.Mem.head _)))) (xsb_c (List.Mem.tail _ (List.Mem.head _)) (xsb_c (List.Mem.head _) xsb_n)))) (ih4 1 v6)
            · refine jr_iconst (e_216 rfl) rfl ?_
              refine jr_istore_n (L' := [(2, xi 0), (0, xr 9 0), (1, xi f1), (3, xi x3)]) (e_216 rfl) rfl rfl rfl ?_
              refine jr_iinc (L2 := fun c => [(3, xi c), (2, xi 0), (0, xr 9 0), (1, xi f1)]) (e_216 rfl) rfl rfl rfl (fun _ => rfl) (fun v7 => ?_)
              refine jr_goto (pc' := 4) (e_216 rfl) rfl ?_
              exact jr_sub (show ([3, 2, 0, 1] : List Nat).Nodup from by decide) (xsb_c (List.Mem.tail _ (List.Mem.tail _ (List.Mem.head _))) (xsb_c (List.Mem.tail _ (List.Mem.tail _ (List.Mem.tail _ (List.Mem.head _)))) (xsb_c (List.Mem.tail _ (List.Mem.head _)) (xsb_c (List.Mem.head _) xsb_n)))) (ih4 0 v7)
          · refine jr_iconst (e_216 rfl) rfl ?_
            refine jr_istore_n (L' := [(2, xi 0), (0, xr 9 0), (1, xi f1), (3, xi x3)]) (e_216 rfl) rfl rfl rfl ?_
            refine jr_iinc (L2 := fun c => [(3, xi c), (2, xi 0), (0, xr 9 0), (1, xi f1)]) (e_216 rfl) rfl rfl rfl (fun _ => rfl) (fun v8 => ?_)
            refine jr_goto (pc' := 4) (e_216 rfl) rfl ?_
            exact jr_sub (show ([3, 2, 0, 1] : List Nat).Nodup from by decide) (xsb_c (List.Mem.tail _ (List.Mem.tail _ (List.Mem.head _))) (xsb_c (List.Mem.tail _ (List.Mem.tail _ (List.Mem.tail _ (List.Mem.head _)))) (xsb_c (List.Mem.tail _ (List.Mem.head _)) (xsb_c (List.Mem.head _) xsb_n)))) (ih4 0 v8)
        · refine jr_iconst (e_216 rfl) rfl ?_
          refine jr_istore_n (L' := [(2, xi 0), (0, xr 9 0), (1, xi f1), (3, xi x3)]) (e_216 rfl) rfl rfl rfl ?_
          refine jr_iinc (L2 := fun c => [(3, xi c), (2, xi 0), (0, xr 9 0), (1, xi f1)]) (e_216 rfl) rfl rfl rfl (fun _ => rfl) (fun v9 => ?_)
          refine jr_goto (pc' := 4) (e_216 rfl) rfl ?_
          exact jr_sub (show ([3, 2, 0, 1] : List Nat).Nodup from by decide) (xsb_c (List.Mem.tail _ (List.Mem.tail _ (List.Mem.head _))) (xsb_c (List.Mem.tail _ (List.Mem.tail _ (List.Mem.tail _ (List.Mem.head _)))) (xsb_c (List.Mem.tail _ (List.Mem.head _)) (xsb_c (List.Mem.head _) xsb_n)))) (ih4 0 v9)
      · refine jr_iconst (e_216 rfl) rfl ?_
        refine jr_goto (pc' := 73) (e_216 rfl) rfl ?_
        refine jr_istore_n (L' := [(2, xi 1), (0, xr 9 0), (1, xi f1), (3, xi x3)]) (e_216 rfl) rfl rfl rfl ?_
        refine jr_iinc (L2 := fun c => [(3, xi c), (2, xi 1), (0, xr 9 0), (1, xi f1)]) (e_216 rfl) rfl rfl rfl (fun _ => rfl) (fun v10 => ?_)
        refine jr_goto (pc' := 4) (e_216 rfl) rfl ?_
        exact jr_sub (show ([3, 2, 0, 1] : List Nat).Nodup from by decide) (xsb_c (List.Mem.tail _ (List.Mem.tail _ (List.Mem.head _))) (xsb_c (List.Mem.tail _ (List.Mem.tail _ (List.Mem.tail _ (List.Mem.head _)))) (xsb_c (List.Mem.tail _ (List.Mem.head _)) (xsb_c (List.Mem.head _) xsb_n)))) (ih4 1 v10)
noncomputable def fm_M_wasTold (a1 : Int) (σ : xa_H) : Option (Int) :=
  fm_M_wasTold_4 a1 σ (fun (v11 : Int) =>
    some (v11 % 2)) xFU 0 0
theorem jm_M_wasTold (a1 : Int) (σ : xa_H) : J 216 0 [(0, xr 9 0), (1, xi a1)] [] σ (jqP σ) (fm_M_wasTold a1 σ) := by
  unfold fm_M_wasTold
  refine jr_iconst (e_216 rfl) rfl ?_
  refine jr_istore_n (L' := [(2, xi 0), (0, xr 9 0), (1, xi a1)]) (e_216 rfl) rfl rfl rfl ?_
  refine jr_iconst (e_216 rfl) rfl ?_
  refine jr_istore_n (L' := [(3, xi 0), (2, xi 0), (0, xr 9 0), (1, xi a1)]) (e_216 rfl) rfl rfl rfl ?_
  refine jr_sub (show ([3, 2, 0, 1] : List Nat).Nodup from by decide) (xsb_c (List.Mem.tail _ (List.Mem.tail _ (List.Mem.head _))) (xsb_c (List.Mem.tail _ (List.Mem.tail _ (List.Mem.tail _ (List.Mem.head _)))) (xsb_c (List.Mem.tail _ (List.Mem.head _)) (xsb_c (List.Mem.head _) xsb_n)))) (jl_M_wasTold_4 a1 σ _ (fun v11 => ?_) xFU 0 0)
  refine jr_iload_n (e_216 rfl) rfl rfl ?_
  exact jr_retPz (e_216 rfl) rfl rfl

theorem e_217 {pc : Nat} {en : xa_I} (h : xlk pc xc_217 = some en) : xcd 217 pc = some en := h
noncomputable def fm_M_faultOfThing_12 (σ : xa_H) (K : Int → Int → Int → Option (Int)) : Nat → Int → Int → Int → Int → Option (Int)
  | 0, _, _, _, _ => none
  | n + 1, x1, x2, x3, x4 =>
    if (σ 9 0 19) ≤ x4 then
      K x1 x2 x3
    else
      if 0 ≤ x4 ∧ x4 < 60 then
        xnm ((σ 65 0 x4.toNat) : Int) fun v2 =>
        xnm ((xrem x4 4) : Int) fun v3 =>
        xj (fun (v5 : Int) =>
          xj (fun (v11 : Int) =>
            xj (fun (v18 : Int) =>
              if v18 = 0 then
                some x4
              else
                xnm ((w32 (v2 - 48)) : Int) fun v26 =>
                xnm ((if v3 = 0 then (if x1 ≤ v26 then x1 else v26) else x1) : Int) fun v28 =>
                xnm ((if v3 = 1 then (if x2 ≤ v26 then x2 else v26) else x2) : Int) fun v32 =>
                if v3 = 2 then
                  if x3 ≤ v26 then
                    xnm (w32 (x4 + 1) : Int) fun v37 =>
                    fm_M_faultOfThing_12 σ K n v28 v32 x3 v37
                  else
                    xnm (w32 (x4 + 1) : Int) fun v38 =>
                    fm_M_faultOfThing_12 σ K n v28 v32 v26 v38
                else
                  xnm (w32 (x4 + 1) : Int) fun v39 =>
                  fm_M_faultOfThing_12 σ K n v28 v32 x3 v39) fun K19 =>
            if v3 = 3 then
              if v2 = 45 then
                K19 1
              else
                if x4 ≤ 3 then
                  K19 0
                else
                  (fm_M_in v2 97 100).bind fun v23 =>
                  if v23 = 0 then
                    K19 0
                  else
                    K19 1
            else
              K19 v11) fun K12 =>
          if v3 = 2 then
            if v5 = 0 then
              K12 0
            else
              (fm_M_wasTold x4 σ).bind fun v15 =>
              if v15 = 0 then
                K12 1
              else
                K12 0
          else
            K12 v5) fun K6 =>
        if 40 ≤ x4 then
          K6 0
        else
          (fm_M_in v2 48 51).bind fun v8 =>
          if v8 = 0 then
            K6 0
          else
            K6 1
      else none
theorem jl_M_faultOfThing_12 (σ : xa_H)  (K : Int → Int → Int → Option (Int)) (hK12 : ∀ (z0 : Int) (z1 : Int) (z2 : Int), J 217 210 [(0, xr 9 0), (1, xi z0), (2, xi z1), (3, xi z2)] [] σ (jqP σ) (K z0 z1 z2)) : ∀ (n : Nat) (x1 : Int) (x2 : Int) (x3 : Int) (x4 : Int), J 217 12 [(0, xr 9 0), (1, xi x1), (2, xi x2), (3, xi x3), (4, xi x4)] [] σ (jqP σ) (fm_M_faultOfThing_12 σ K n x1 x2 x3 x4) := by
  intro n
  induction n with
  | zero => intro x1 x2 x3 x4; exact jr_none
  | succ n ih12 =>
    intro x1 x2 x3 x4
    rw [fm_M_faultOfThing_12]
    refine jr_iload (e_217 rfl) rfl rfl ?_
    refine jr_aload_n (e_217 rfl) rfl rfl ?_
    refine jr_geti (e_217 rfl) rfl (by decide +kernel) ?_
    refine jr_bri (c := (σ 9 0 19) ≤ x4) (pt := 210) (pn := 21) (e_217 rfl) rfl rfl (fun h1 => ?_) (fun h1 => ?_)
    · exact jr_sub (show ([0, 1, 2, 3, 4] : List Nat).Nodup from by decide) (xsb_c (List.Mem.head _) (xsb_c (List.Mem.tail _ (List.Mem.head _)) (xsb_c (List.Mem.tail _ (List.Mem.tail _ (List.Mem.head _))) (xsb_c (List.Mem.tail _ (List.Mem.tail _ (List.Mem.tail _ (List.Mem.head _)))) xsb_n)))) (hK12 x1 x2 x3)
    · refine jr_aload_n (e_217 rfl) rfl rfl ?_
      refine jr_getr (K2 := 65) (i2 := 0) (e_217 rfl) rfl rfl rfl ?_
      refine jr_iload (e_217 rfl) rfl rfl ?_
      refine jr_ald (n := 60) (e_217 rfl) rfl rfl rfl ?_
      refine jr_nm (fun v2 => ?_)
      refine jr_istore (L' := [(5, xi v2), (0, xr 9 0), (1, xi x1), (2, xi x2), (3, xi x3), (4, xi x4)]) (e_217 rfl) rfl rfl rfl ?_
      refine jr_iload (e_217 rfl) rfl rfl ?_
      refine jr_iconst (e_217 rfl) rfl ?_
      refine jr_irem (e_217 rfl) rfl (by decide) ?_
      refine jr_nm (fun v3 => ?_)
      refine jr_istore (L' := [(6, xi v3), (5, xi v2), (0, xr 9 0), (1, xi x1), (2, xi x2), (3, xi x3), (4, xi x4)]) (e_217 rfl) rfl rfl rfl ?_
      refine jr_iload (e_217 rfl) rfl rfl ?_
      refine jr_bipush (e_217 rfl) rfl ?_
      refine jr_j (fun K6 => ∀ (v5 : Int), J 217 63 [(0, xr 9 0), (1, xi x1), (2, xi x2), (3, xi x3), (4, xi x4), (5, xi v2), (6, xi v3)] [xi v5] σ (jqP σ) (K6 v5)) (fun v5 => ?_) (fun K6 hK6 => ?_)
      · refine jr_istore (L' := [(7, xi v5), (0, xr 9 0), (1, xi x1), (2, xi x2), (3, xi x3), (4, xi x4), (5, xi v2), (6, xi v3)]) (e_217 rfl) rfl rfl rfl ?_
        refine jr_iload (e_217 rfl) rfl rfl ?_
        refine jr_iconst (e_217 rfl) rfl ?_
        refine jr_j (fun K12 => ∀ (v11 : Int), J 217 92 [(0, xr 9 0), (1, xi x1), (2, xi x2), (3, xi x3), (4, xi x4), (5, xi v2), (6, xi v3), (7, xi v11)] [] σ (jqP σ) (K12 v11)) (fun v11 => ?_) (fun K12 hK12 => ?_)
        · refine jr_iload (e_217 rfl) rfl rfl ?_
          refine jr_iconst (e_217 rfl) rfl ?_
          refine jr_j (fun K19 => ∀ (v18 : Int), J 217 133 [(0, xr 9 0), (1, xi x1), (2, xi x2), (3, xi x3), (4, xi x4), (5, xi v2), (6, xi v3), (7, xi v18)] [] σ (jqP σ) (K19 v18)) (fun v18 => ?_) (fun K19 hK19 => ?_)
          · refine jr_iload (e_217 rfl) rfl rfl ?_
            refine jr_brx (c := v18 = 0) (pt := 141) (pn := 138) (e_217 rfl) rfl rfl (fun h25 => ?_) (fun h25 => ?_)
            · refine jr_iload (e_217 rfl) rfl rfl ?_
              exact jr_retP (e_217 rfl) rfl
            · refine jr_iload (e_217 rfl) rfl rfl ?_
              refine jr_bipush (e_217 rfl) rfl ?_
              refine jr_isub (e_217 rfl) rfl ?_
              refine jr_nm (fun v26 => ?_)
              refine jr_istore (L' := [(8, xi v26), (0, xr 9 0), (1, xi x1), (2, xi x2), (3, xi x3), (4, xi x4), (5, xi v2), (6, xi v3), (7, xi v18)]) (e_217 rfl) rfl rfl rfl ?_
              refine jr_iload (e_217 rfl) rfl rfl ?_
              refine jr_pm1 (fun T => ∀ v28 : Int, J 217 165 [(0, xr 9 0), (2, xi x2), (3, xi x3), (4, xi x4), (6, xi v3), (8, xi v26)] [xi v28] σ (jqP σ) (T v28)) (fun v28 => ?_) (fun T hT => ?_)
              · refine jr_istore_n (L' := [(1, xi v28), (0, xr 9 0), (2, xi x2), (3, xi x3), (4, xi x4), (6, xi v3), (8, xi v26)]) (e_217 rfl) rfl rfl rfl ?_
                refine jr_iload (e_217 rfl) rfl rfl ?_
                refine jr_iconst (e_217 rfl) rfl ?_
                refine jr_pm1 (fun T => ∀ v32 : Int, J 217 184 [(0, xr 9 0), (1, xi v28), (3, xi x3), (4, xi x4), (6, xi v3), (8, xi v26)] [xi v32] σ (jqP σ) (T v32)) (fun v32 => ?_) (fun T hT => ?_)
                · refine jr_istore_n (L' := [(2, xi v32), (0, xr 9 0), (1, xi v28), (3, xi x3), (4, xi x4), (6, xi v3), (8, xi v26)]) (e_217 rfl) rfl rfl rfl ?_
                  refine jr_iload (e_217 rfl) rfl rfl ?_
                  refine jr_iconst (e_217 rfl) rfl ?_
                  refine jr_brx (c := v3 = 2) (pt := 202) (pn := 191) (e_217 rfl) rfl rfl (fun h35 => ?_) (fun h35 => ?_)
                  · refine jr_iload (e_217 rfl) rfl rfl ?_
                    refine jr_iload_n (e_217 rfl) rfl rfl ?_
                    refine jr_bri (c := x3 ≤ v26) (pt := 202) (pn := 197) (e_217 rfl) rfl rfl (fun h36 => ?_) (fun h36 => ?_)
                    · refine jr_iload_n (e_217 rfl) rfl rfl ?_
                      refine jr_istore_n (L' := [(3, xi x3), (2, xi v32), (0, xr 9 0), (1, xi v28), (4, xi x4), (6, xi v3), (8, xi v26)]) (e_217 rfl) rfl rfl rfl ?_
                      refine jr_iinc (L2 := fun c => [(4, xi c), (3, xi x3), (2, xi v32), (0, xr 9 0), (1, xi v28), (6, xi v3), (8, xi v26)]) (e_217 rfl) rfl rfl rfl (fun _ => rfl) (fun v37 => ?_)
                      refine jr_goto (pc' := 12) (e_217 rfl) rfl ?_
                      exact jr_sub (show ([4, 3, 2, 0, 1, 6, 8] : List Nat).Nodup from by decide) (xsb_c (List.Mem.tail _ (List.Mem.tail _ (List.Mem.tail _ (List.Mem.head _)))) (xsb_c (List.Mem.tail _ (List.Mem.tail _ (List.Mem.tail _ (List.Mem.tail _ (List.Mem.head _))))) (xsb_c (List.Mem.tail _ (List.Mem.tail _ (List.Mem.head _))) (xsb_c (List.Mem.tail _ (List.Mem.head _)) (xsb_c (List.Mem.head _) xsb_n))))) (ih12 v28 v32 x3 v37)
                    · refine jr_iload (e_217 rfl) rfl rfl ?_
                      refine jr_goto (pc' := 203) (e_217 rfl) rfl ?_
                      refine jr_istore_n (L' := [(3, xi v26), (2, xi v32), (0, xr 9 0), (1, xi v28), (4, xi x4), (6, xi v3), (8, xi v26)]) (e_217 rfl) rfl rfl rfl ?_
                      refine jr_iinc (L2 := fun c => [(4, xi c), (3, xi v26), (2, xi v32), (0, xr 9 0), (1, xi v28), (6, xi v3), (8, xi v26)]) (e_217 rfl) rfl rfl rfl (fun _ => rfl) (fun v38 => ?_)
                      refine jr_goto (pc' := 12) (e_217 rfl) rfl ?_
                      exact jr_sub (show ([4, 3, 2, 0, 1, 6, 8] : List Nat).Nodup from by decide) (xsb_c (List.Mem.tail _ (List.Mem.tail _ (List.Mem.tail _ (List.Mem.head _)))) (xsb_c (List.Mem.tail _ (List.Mem.tail _ (List.Mem.tail _ (List.Mem.tail _ (List.Mem.head _))))) (xsb_c (List.Mem.tail _ (List.Mem.tail _ (List.Mem.head _))) (xsb_c (List.Mem.tail _ (List.Mem.head _)) (xsb_c (List.Mem.head _) xsb_n))))) (ih12 v28 v32 v26 v38)
                  · refine jr_iload_n (e_217 rfl) rfl rfl ?_
                    refine jr_istore_n (L' := [(3, xi x3), (2, xi v32), (0, xr 9 0), (1, xi v28), (4, xi x4), (6, xi v3), (8, xi v26)]) (e_217 rfl) rfl rfl rfl ?_
                    refine jr_iinc (L2 := fun c => [(4, xi c), (3, xi x3), (2, xi v32), (0, xr 9 0), (1, xi v28), (6, xi v3), (8, xi v26)]) (e_217 rfl) rfl rfl rfl (fun _ => rfl) (fun v39 => ?_)
                    refine jr_goto (pc' := 12) (e_217 rfl) rfl ?_
                    exact jr_sub (show ([4, 3, 2, 0, 1, 6, 8] : List Nat).Nodup from by decide) (xsb_c (List.Mem.tail _ (List.Mem.tail _ (List.Mem.tail _ (List.Mem.head _)))) (xsb_c (List.Mem.tail _ (List.Mem.tail _ (List.Mem.tail _ (List.Mem.tail _ (List.Mem.head _))))) (xsb_c (List.Mem.tail _ (List.Mem.tail _ (List.Mem.head _))) (xsb_c (List.Mem.tail _ (List.Mem.head _)) (xsb_c (List.Mem.head _) xsb_n))))) (ih12 v28 v32 x3 v39)
                · refine jr_bx (c := v3 = 1) (pt := 183) (pn := 172) (e_217 rfl) rfl rfl (fun h33 => ?_) (fun h33 => ?_)
                  · refine jr_iload (e_217 rfl) rfl rfl ?_
                    refine jr_iload_n (e_217 rfl) rfl rfl ?_
                    refine jr_br (c := x2 ≤ v26) (pt := 183) (pn := 178) (e_217 rfl) rfl rfl (fun h34 => ?_) (fun h34 => ?_)
                    · refine jr_iload_n (e_217 rfl) rfl rfl ?_
                      exact (jr_nme ((if_pos h33).trans (if_pos h34)) (jr_sub (show ([1, 0, 2, 3, 4, 6, 8] : List Nat).Nodup from by decide) (xsb_c (List.Mem.tail _ (List.Mem.head _)) (xsb_c (List.Mem.head _) (xsb_c (List.Mem.tail _ (List.Mem.tail _ (List.Mem.tail _ (List.Mem.head _)))) (xsb_c (List.Mem.tail _ (List.Mem.tail _ (List.Mem.tail _ (List.Mem.tail _ (List.Mem.head _))))) (xsb_c (List.Mem.tail _ (List.Mem.tail _ (List.Mem.tail _ (List.Mem.tail _ (List.Mem.tail _ (List.Mem.head _)))))) (xsb_c (List.Mem.tail _ (List.Mem.tail _ (List.Mem.tail _ (List.Mem.tail _ (List.Mem.tail _ (List.Mem.tail _ (List.Mem.head _))))))) xsb_n)))))) (hT x2)))
                    · refine jr_iload (e_217 rfl) rfl rfl ?_
                      refine jr_goto (pc' := 184) (e_217 rfl) rfl ?_
                      exact (jr_nme ((if_pos h33).trans (if_neg h34)) (jr_sub (show ([1, 0, 2, 3, 4, 6, 8] : List Nat).Nodup from by decide) (xsb_c (List.Mem.tail _ (List.Mem.head _)) (xsb_c (List.Mem.head _) (xsb_c (List.Mem.tail _ (List.Mem.tail _ (List.Mem.tail _ (List.Mem.head _)))) (xsb_c (List.Mem.tail _ (List.Mem.tail _ (List.Mem.tail _ (List.Mem.tail _ (List.Mem.head _))))) (xsb_c (List.Mem.tail _ (List.Mem.tail _ (List.Mem.tail _ (List.Mem.tail _ (List.Mem.tail _ (List.Mem.head _)))))) (xsb_c (List.Mem.tail _ (List.Mem.tail _ (List.Mem.tail _ (List.Mem.tail _ (List.Mem.tail _ (List.Mem.tail _ (List.Mem.head _))))))) xsb_n)))))) (hT v26)))
                  · refine jr_iload_n (e_217 rfl) rfl rfl ?_
                    exact (jr_nme (if_neg h33) (jr_sub (show ([1, 0, 2, 3, 4, 6, 8] : List Nat).Nodup from by decide) (xsb_c (List.Mem.tail _ (List.Mem.head _)) (xsb_c (List.Mem.head _) (xsb_c (List.Mem.tail _ (List.Mem.tail _ (List.Mem.tail _ (List.Mem.head _)))) (xsb_c (List.Mem.tail _ (List.Mem.tail _ (List.Mem.tail _ (List.Mem.tail _ (List.Mem.head _))))) (xsb_c (List.Mem.tail _ (List.Mem.tail _ (List.Mem.tail _ (List.Mem.tail _ (List.Mem.tail _ (List.Mem.head _)))))) (xsb_c (List.Mem.tail _ (List.Mem.tail _ (List.Mem.tail _ (List.Mem.tail _ (List.Mem.tail _ (List.Mem.tail _ (List.Mem.head _))))))) xsb_n)))))) (hT x2)))
              · refine jr_bx (c := v3 = 0) (pt := 164) (pn := 153) (e_217 rfl) rfl rfl (fun h29 => ?_) (fun h29 => ?_)
                · refine jr_iload (e_217 rfl) rfl rfl ?_
                  refine jr_iload_n (e_217 rfl) rfl rfl ?_
                  refine jr_br (c := x1 ≤ v26) (pt := 164) (pn := 159) (e_217 rfl) rfl rfl (fun h30 => ?_) (fun h30 => ?_)
                  · refine jr_iload_n (e_217 rfl) rfl rfl ?_
                    exact (jr_nme ((if_pos h29).trans (if_pos h30)) (jr_sub (show ([8, 0, 1, 2, 3, 4, 5, 6, 7] : List Nat).Nodup from by decide) (xsb_c (List.Mem.tail _ (List.Mem.head _)) (xsb_c (List.Mem.tail _ (List.Mem.tail _ (List.Mem.tail _ (List.Mem.head _)))) (xsb_c (List.Mem.tail _ (List.Mem.tail _ (List.Mem.tail _ (List.Mem.tail _ (List.Mem.head _))))) (xsb_c (List.Mem.tail _ (List.Mem.tail _ (List.Mem.tail _ (List.Mem.tail _ (List.Mem.tail _ (List.Mem.head _)))))) (xsb_c (List.Mem.tail _ (List.Mem.tail _ (List.Mem.tail _ (List.Mem.tail _ (List.Mem.tail _ (List.Mem.tail _ (List.Mem.tail _ (List.Mem.head _)))))))) (xsb_c (List.Mem.head _) xsb_n)))))) (hT x1)))
                  · refine jr_iload (e_217 rfl) rfl rfl ?_
                    refine jr_goto (pc' := 165) (e_217 rfl) rfl ?_
                    exact (jr_nme ((if_pos h29).trans (if_neg h30)) (jr_sub (show ([8, 0, 1, 2, 3, 4, 5, 6, 7] : List Nat).Nodup from by decide) (xsb_c (List.Mem.tail _ (List.Mem.head _)) (xsb_c (List.Mem.tail _ (List.Mem.tail _ (List.Mem.tail _ (List.Mem.head _)))) (xsb_c (List.Mem.tail _ (List.Mem.tail _ (List.Mem.tail _ (List.Mem.tail _ (List.Mem.head _))))) (xsb_c (List.Mem.tail _ (List.Mem.tail _ (List.Mem.tail _ (List.Mem.tail _ (List.Mem.tail _ (List.Mem.head _)))))) (xsb_c (List.Mem.tail _ (List.Mem.tail _ (List.Mem.tail _ (List.Mem.tail _ (List.Mem.tail _ (List.Mem.tail _ (List.Mem.tail _ (List.Mem.head _)))))))) (xsb_c (List.Mem.head _) xsb_n)))))) (hT v26)))
                · refine jr_iload_n (e_217 rfl) rfl rfl ?_
                  exact (jr_nme (if_neg h29) (jr_sub (show ([8, 0, 1, 2, 3, 4, 5, 6, 7] : List Nat).Nodup from by decide) (xsb_c (List.Mem.tail _ (List.Mem.head _)) (xsb_c (List.Mem.tail _ (List.Mem.tail _ (List.Mem.tail _ (List.Mem.head _)))) (xsb_c (List.Mem.tail _ (List.Mem.tail _ (List.Mem.tail _ (List.Mem.tail _ (List.Mem.head _))))) (xsb_c (List.Mem.tail _ (List.Mem.tail _ (List.Mem.tail _ (List.Mem.tail _ (List.Mem.tail _ (List.Mem.head _)))))) (xsb_c (List.Mem.tail _ (List.Mem.tail _ (List.Mem.tail _ (List.Mem.tail _ (List.Mem.tail _ (List.Mem.tail _ (List.Mem.tail _ (List.Mem.head _)))))))) (xsb_c (List.Mem.head _) xsb_n)))))) (hT x1)))
          · refine jr_brx (c := v3 = 3) (pt := 133) (pn := 98) (e_217 rfl) rfl rfl (fun h20 => ?_) (fun h20 => ?_)
            · refine jr_iload (e_217 rfl) rfl rfl ?_
              refine jr_bipush (e_217 rfl) rfl ?_
              refine jr_bri (c := v2 = 45) (pt := 126) (pn := 105) (e_217 rfl) rfl rfl (fun h21 => ?_) (fun h21 => ?_)
              · refine jr_iconst (e_217 rfl) rfl ?_
                refine jr_goto (pc' := 131) (e_217 rfl) rfl ?_
                refine jr_istore (L' := [(7, xi 1), (0, xr 9 0), (1, xi x1), (2, xi x2), (3, xi x3), (4, xi x4), (5, xi v2), (6, xi v3)]) (e_217 rfl) rfl rfl rfl ?_
                exact jr_sub (show ([7, 0, 1, 2, 3, 4, 5, 6] : List Nat).Nodup from by decide) (xsb_c (List.Mem.tail _ (List.Mem.head _)) (xsb_c (List.Mem.tail _ (List.Mem.tail _ (List.Mem.head _))) (xsb_c (List.Mem.tail _ (List.Mem.tail _ (List.Mem.tail _ (List.Mem.head _)))) (xsb_c (List.Mem.tail _ (List.Mem.tail _ (List.Mem.tail _ (List.Mem.tail _ (List.Mem.head _))))) (xsb_c (List.Mem.tail _ (List.Mem.tail _ (List.Mem.tail _ (List.Mem.tail _ (List.Mem.tail _ (List.Mem.head _)))))) (xsb_c (List.Mem.tail _ (List.Mem.tail _ (List.Mem.tail _ (List.Mem.tail _ (List.Mem.tail _ (List.Mem.tail _ (List.Mem.head _))))))) (xsb_c (List.Mem.tail _ (List.Mem.tail _ (List.Mem.tail _ (List.Mem.tail _ (List.Mem.tail _ (List.Mem.tail _ (List.Mem.tail _ (List.Mem.head _)))))))) (xsb_c (List.Mem.head _) xsb_n)))))))) (hK19 1)
              · refine jr_iload (e_217 rfl) rfl rfl ?_
                refine jr_iconst (e_217 rfl) rfl ?_
                refine jr_bri (c := x4 ≤ 3) (pt := 130) (pn := 111) (e_217 rfl) rfl rfl (fun h22 => ?_) (fun h22 => ?_)
                · refine jr_iconst (e_217 rfl) rfl ?_
                  refine jr_istore (L' := [(7, xi 0), (0, xr 9 0), (1, xi x1), (2, xi x2), (3, xi x3), (4, xi x4), (5, xi v2), (6, xi v3)]) (e_217 rfl) rfl rfl rfl ?_
                  exact jr_sub (show ([7, 0, 1, 2, 3, 4, 5, 6] : List Nat).Nodup from by decide) (xsb_c (List.Mem.tail _ (List.Mem.head _)) (xsb_c (List.Mem.tail _ (List.Mem.tail _ (List.Mem.head _))) (xsb_c (List.Mem.tail _ (List.Mem.tail _ (List.Mem.tail _ (List.Mem.head _)))) (xsb_c (List.Mem.tail _ (List.Mem.tail _ (List.Mem.tail _ (List.Mem.tail _ (List.Mem.head _))))) (xsb_c (List.Mem.tail _ (List.Mem.tail _ (List.Mem.tail _ (List.Mem.tail _ (List.Mem.tail _ (List.Mem.head _)))))) (xsb_c (List.Mem.tail _ (List.Mem.tail _ (List.Mem.tail _ (List.Mem.tail _ (List.Mem.tail _ (List.Mem.tail _ (List.Mem.head _))))))) (xsb_c (List.Mem.tail _ (List.Mem.tail _ (List.Mem.tail _ (List.Mem.tail _ (List.Mem.tail _ (List.Mem.tail _ (List.Mem.tail _ (List.Mem.head _)))))))) (xsb_c (List.Mem.head _) xsb_n)))))))) (hK19 0)
                · refine jr_iload (e_217 rfl) rfl rfl ?_
                  refine jr_i2l (e_217 rfl) rfl ?_
                  refine jr_ldc2 (a := 97) (e_217 rfl) rfl rfl ?_
                  refine jr_ldc2 (a := 100) (e_217 rfl) rfl rfl ?_
                  refine jr_callP (as := [xl v2, xl 97, xl 100]) (S1 := []) (e_217 rfl) rfl rfl rfl rfl rfl rfl (jm_M_in v2 97 100 σ) rfl (fun v23 => ?_)
                  refine jr_bri (c := v23 = 0) (pt := 130) (pn := 126) (e_217 rfl) rfl rfl (fun h24 => ?_) (fun h24 => ?_)
                  · refine jr_iconst (e_217 rfl) rfl ?_
                    refine jr_istore (L' := [(7, xi 0), (0, xr 9 0), (1, xi x1), (2, xi x2), (3, xi x3), (4, xi x4), (5, xi v2), (6, xi v3)]) (e_217 rfl) rfl rfl rfl ?_
                    exact jr_sub (show ([7, 0, 1, 2, 3, 4, 5, 6] : List Nat).Nodup from by decide) (xsb_c (List.Mem.tail _ (List.Mem.head _)) (xsb_c (List.Mem.tail _ (List.Mem.tail _ (List.Mem.head _))) (xsb_c (List.Mem.tail _ (List.Mem.tail _ (List.Mem.tail _ (List.Mem.head _)))) (xsb_c (List.Mem.tail _ (List.Mem.tail _ (List.Mem.tail _ (List.Mem.tail _ (List.Mem.head _))))) (xsb_c (List.Mem.tail _ (List.Mem.tail _ (List.Mem.tail _ (List.Mem.tail _ (List.Mem.tail _ (List.Mem.head _)))))) (xsb_c (List.Mem.tail _ (List.Mem.tail _ (List.Mem.tail _ (List.Mem.tail _ (List.Mem.tail _ (List.Mem.tail _ (List.Mem.head _))))))) (xsb_c (List.Mem.tail _ (List.Mem.tail _ (List.Mem.tail _ (List.Mem.tail _ (List.Mem.tail _ (List.Mem.tail _ (List.Mem.tail _ (List.Mem.head _)))))))) (xsb_c (List.Mem.head _) xsb_n)))))))) (hK19 0)
                  · refine jr_iconst (e_217 rfl) rfl ?_
                    refine jr_goto (pc' := 131) (e_217 rfl) rfl ?_
                    refine jr_istore (L' := [(7, xi 1), (0, xr 9 0), (1, xi x1), (2, xi x2), (3, xi x3), (4, xi x4), (5, xi v2), (6, xi v3)]) (e_217 rfl) rfl rfl rfl ?_
                    exact jr_sub (show ([7, 0, 1, 2, 3, 4, 5, 6] : List Nat).Nodup from by decide) (xsb_c (List.Mem.tail _ (List.Mem.head _)) (xsb_c (List.Mem.tail _ (List.Mem.tail _ (List.Mem.head _))) (xsb_c (List.Mem.tail _ (List.Mem.tail _ (List.Mem.tail _ (List.Mem.head _)))) (xsb_c (List.Mem.tail _ (List.Mem.tail _ (List.Mem.tail _ (List.Mem.tail _ (List.Mem.head _))))) (xsb_c (List.Mem.tail _ (List.Mem.tail _ (List.Mem.tail _ (List.Mem.tail _ (List.Mem.tail _ (List.Mem.head _)))))) (xsb_c (List.Mem.tail _ (List.Mem.tail _ (List.Mem.tail _ (List.Mem.tail _ (List.Mem.tail _ (List.Mem.tail _ (List.Mem.head _))))))) (xsb_c (List.Mem.tail _ (List.Mem.tail _ (List.Mem.tail _ (List.Mem.tail _ (List.Mem.tail _ (List.Mem.tail _ (List.Mem.tail _ (List.Mem.head _)))))))) (xsb_c (List.Mem.head _) xsb_n)))))))) (hK19 1)
            · exact jr_sub (show ([0, 1, 2, 3, 4, 5, 6, 7] : List Nat).Nodup from by decide) (xsb_c (List.Mem.head _) (xsb_c (List.Mem.tail _ (List.Mem.head _)) (xsb_c (List.Mem.tail _ (List.Mem.tail _ (List.Mem.head _))) (xsb_c (List.Mem.tail _ (List.Mem.tail _ (List.Mem.tail _ (List.Mem.head _)))) (xsb_c (List.Mem.tail _ (List.Mem.tail _ (List.Mem.tail _ (List.Mem.tail _ (List.Mem.head _))))) (xsb_c (List.Mem.tail _ (List.Mem.tail _ (List.Mem.tail _ (List.Mem.tail _ (List.Mem.tail _ (List.Mem.head _)))))) (xsb_c (List.Mem.tail _ (List.Mem.tail _ (List.Mem.tail _ (List.Mem.tail _ (List.Mem.tail _ (List.Mem.tail _ (List.Mem.head _))))))) (xsb_c (List.Mem.tail _ (List.Mem.tail _ (List.Mem.tail _ (List.Mem.tail _ (List.Mem.tail _ (List.Mem.tail _ (List.Mem.tail _ (List.Mem.head _)))))))) xsb_n)))))))) (hK19 v11)
        · refine jr_brx (c := v3 = 2) (pt := 92) (pn := 71) (e_217 rfl) rfl rfl (fun h13 => ?_) (fun h13 => ?_)
          · refine jr_iload (e_217 rfl) rfl rfl ?_
            refine jr_bri (c := v5 = 0) (pt := 89) (pn := 76) (e_217 rfl) rfl rfl (fun h14 => ?_) (fun h14 => ?_)
            · refine jr_iconst (e_217 rfl) rfl ?_
              refine jr_istore (L' := [(7, xi 0), (0, xr 9 0), (1, xi x1), (2, xi x2), (3, xi x3), (4, xi x4), (5, xi v2), (6, xi v3)]) (e_217 rfl) rfl rfl rfl ?_
              exact jr_sub (show ([7, 0, 1, 2, 3, 4, 5, 6] : List Nat).Nodup from by decide) (xsb_c (List.Mem.tail _ (List.Mem.head _)) (xsb_c (List.Mem.tail _ (List.Mem.tail _ (List.Mem.head _))) (xsb_c (List.Mem.tail _ (List.Mem.tail _ (List.Mem.tail _ (List.Mem.head _)))) (xsb_c (List.Mem.tail _ (List.Mem.tail _ (List.Mem.tail _ (List.Mem.tail _ (List.Mem.head _))))) (xsb_c (List.Mem.tail _ (List.Mem.tail _ (List.Mem.tail _ (List.Mem.tail _ (List.Mem.tail _ (List.Mem.head _)))))) (xsb_c (List.Mem.tail _ (List.Mem.tail _ (List.Mem.tail _ (List.Mem.tail _ (List.Mem.tail _ (List.Mem.tail _ (List.Mem.head _))))))) (xsb_c (List.Mem.tail _ (List.Mem.tail _ (List.Mem.tail _ (List.Mem.tail _ (List.Mem.tail _ (List.Mem.tail _ (List.Mem.tail _ (List.Mem.head _)))))))) (xsb_c (List.Mem.head _) xsb_n)))))))) (hK12 0)
            · refine jr_aload_n (e_217 rfl) rfl rfl ?_
              refine jr_iload (e_217 rfl) rfl rfl ?_
              refine jr_callP (as := [xr 9 0, xi x4]) (S1 := []) (e_217 rfl) rfl rfl rfl rfl rfl rfl (jm_M_wasTold x4 σ) rfl (fun v15 => ?_)
              refine jr_brx (c := v15 = 0) (pt := 89) (pn := 85) (e_217 rfl) rfl rfl (fun h16 => ?_) (fun h16 => ?_)
              · refine jr_iconst (e_217 rfl) rfl ?_
                refine jr_goto (pc' := 90) (e_217 rfl) rfl ?_
                refine jr_istore (L' := [(7, xi 1), (0, xr 9 0), (1, xi x1), (2, xi x2), (3, xi x3), (4, xi x4), (5, xi v2), (6, xi v3)]) (e_217 rfl) rfl rfl rfl ?_
                exact jr_sub (show ([7, 0, 1, 2, 3, 4, 5, 6] : List Nat).Nodup from by decide) (xsb_c (List.Mem.tail _ (List.Mem.head _)) (xsb_c (List.Mem.tail _ (List.Mem.tail _ (List.Mem.head _))) (xsb_c (List.Mem.tail _ (List.Mem.tail _ (List.Mem.tail _ (List.Mem.head _)))) (xsb_c (List.Mem.tail _ (List.Mem.tail _ (List.Mem.tail _ (List.Mem.tail _ (List.Mem.head _))))) (xsb_c (List.Mem.tail _ (List.Mem.tail _ (List.Mem.tail _ (List.Mem.tail _ (List.Mem.tail _ (List.Mem.head _)))))) (xsb_c (List.Mem.tail _ (List.Mem.tail _ (List.Mem.tail _ (List.Mem.tail _ (List.Mem.tail _ (List.Mem.tail _ (List.Mem.head _))))))) (xsb_c (List.Mem.tail _ (List.Mem.tail _ (List.Mem.tail _ (List.Mem.tail _ (List.Mem.tail _ (List.Mem.tail _ (List.Mem.tail _ (List.Mem.head _)))))))) (xsb_c (List.Mem.head _) xsb_n)))))))) (hK12 1)
              · refine jr_iconst (e_217 rfl) rfl ?_
                refine jr_istore (L' := [(7, xi 0), (0, xr 9 0), (1, xi x1), (2, xi x2), (3, xi x3), (4, xi x4), (5, xi v2), (6, xi v3)]) (e_217 rfl) rfl rfl rfl ?_
                exact jr_sub (show ([7, 0, 1, 2, 3, 4, 5, 6] : List Nat).Nodup from by decide) (xsb_c (List.Mem.tail _ (List.Mem.head _)) (xsb_c (List.Mem.tail _ (List.Mem.tail _ (List.Mem.head _))) (xsb_c (List.Mem.tail _ (List.Mem.tail _ (List.Mem.tail _ (List.Mem.head _)))) (xsb_c (List.Mem.tail _ (List.Mem.tail _ (List.Mem.tail _ (List.Mem.tail _ (List.Mem.head _))))) (xsb_c (List.Mem.tail _ (List.Mem.tail _ (List.Mem.tail _ (List.Mem.tail _ (List.Mem.tail _ (List.Mem.head _)))))) (xsb_c (List.Mem.tail _ (List.Mem.tail _ (List.Mem.tail _ (List.Mem.tail _ (List.Mem.tail _ (List.Mem.tail _ (List.Mem.head _))))))) (xsb_c (List.Mem.tail _ (List.Mem.tail _ (List.Mem.tail _ (List.Mem.tail _ (List.Mem.tail _ (List.Mem.tail _ (List.Mem.tail _ (List.Mem.head _)))))))) (xsb_c (List.Mem.head _) xsb_n)))))))) (hK12 0)
          · exact jr_sub (show ([7, 0, 1, 2, 3, 4, 5, 6] : List Nat).Nodup from by decide) (xsb_c (List.Mem.tail _ (List.Mem.head _)) (xsb_c (List.Mem.tail _ (List.Mem.tail _ (List.Mem.head _))) (xsb_c (List.Mem.tail _ (List.Mem.tail _ (List.Mem.tail _ (List.Mem.head _)))) (xsb_c (List.Mem.tail _ (List.Mem.tail _ (List.Mem.tail _ (List.Mem.tail _ (List.Mem.head _))))) (xsb_c (List.Mem.tail _ (List.Mem.tail _ (List.Mem.tail _ (List.Mem.tail _ (List.Mem.tail _ (List.Mem.head _)))))) (xsb_c (List.Mem.tail _ (List.Mem.tail _ (List.Mem.tail _ (List.Mem.tail _ (List.Mem.tail _ (List.Mem.tail _ (List.Mem.head _))))))) (xsb_c (List.Mem.tail _ (List.Mem.tail _ (List.Mem.tail _ (List.Mem.tail _ (List.Mem.tail _ (List.Mem.tail _ (List.Mem.tail _ (List.Mem.head _)))))))) (xsb_c (List.Mem.head _) xsb_n)))))))) (hK12 v5)
      · refine jr_bri (c := 40 ≤ x4) (pt := 62) (pn := 43) (e_217 rfl) rfl rfl (fun h7 => ?_) (fun h7 => ?_)
        · refine jr_iconst (e_217 rfl) rfl ?_
          exact jr_sub (show ([6, 5, 0, 1, 2, 3, 4] : List Nat).Nodup from by decide) (xsb_c (List.Mem.tail _ (List.Mem.tail _ (List.Mem.head _))) (xsb_c (List.Mem.tail _ (List.Mem.tail _ (List.Mem.tail _ (List.Mem.head _)))) (xsb_c (List.Mem.tail _ (List.Mem.tail _ (List.Mem.tail _ (List.Mem.tail _ (List.Mem.head _))))) (xsb_c (List.Mem.tail _ (List.Mem.tail _ (List.Mem.tail _ (List.Mem.tail _ (List.Mem.tail _ (List.Mem.head _)))))) (xsb_c (List.Mem.tail _ (List.Mem.tail _ (List.Mem.tail _ (List.Mem.tail _ (List.Mem.tail _ (List.Mem.tail _ (List.Mem.head _))))))) (xsb_c (List.Mem.tail _ (List.Mem.head _)) (xsb_c (List.Mem.head _) xsb_n))))))) (hK6 0)
        · refine jr_iload (e_217 rfl) rfl rfl ?_
          refine jr_i2l (e_217 rfl) rfl ?_
          refine jr_ldc2 (a := 48) (e_217 rfl) rfl rfl ?_
          refine jr_ldc2 (a := 51) (e_217 rfl) rfl rfl ?_
          refine jr_callP (as := [xl v2, xl 48, xl 51]) (S1 := []) (e_217 rfl) rfl rfl rfl rfl rfl rfl (jm_M_in v2 48 51 σ) rfl (fun v8 => ?_)
          refine jr_bri (c := v8 = 0) (pt := 62) (pn := 58) (e_217 rfl) rfl rfl (fun h9 => ?_) (fun h9 => ?_)
          · refine jr_iconst (e_217 rfl) rfl ?_
            exact jr_sub (show ([6, 5, 0, 1, 2, 3, 4] : List Nat).Nodup from by decide) (xsb_c (List.Mem.tail _ (List.Mem.tail _ (List.Mem.head _))) (xsb_c (List.Mem.tail _ (List.Mem.tail _ (List.Mem.tail _ (List.Mem.head _)))) (xsb_c (List.Mem.tail _ (List.Mem.tail _ (List.Mem.tail _ (List.Mem.tail _ (List.Mem.head _))))) (xsb_c (List.Mem.tail _ (List.Mem.tail _ (List.Mem.tail _ (List.Mem.tail _ (List.Mem.tail _ (List.Mem.head _)))))) (xsb_c (List.Mem.tail _ (List.Mem.tail _ (List.Mem.tail _ (List.Mem.tail _ (List.Mem.tail _ (List.Mem.tail _ (List.Mem.head _))))))) (xsb_c (List.Mem.tail _ (List.Mem.head _)) (xsb_c (List.Mem.head _) xsb_n))))))) (hK6 0)
          · refine jr_iconst (e_217 rfl) rfl ?_
            refine jr_goto (pc' := 63) (e_217 rfl) rfl ?_
            exact jr_sub (show ([6, 5, 0, 1, 2, 3, 4] : List Nat).Nodup from by decide) (xsb_c (List.Mem.tail _ (List.Mem.tail _ (List.Mem.head _))) (xsb_c (List.Mem.tail _ (List.Mem.tail _ (List.Mem.tail _ (List.Mem.head _)))) (xsb_c (List.Mem.tail _ (List.Mem.tail _ (List.Mem.tail _ (List.Mem.tail _ (List.Mem.head _))))) (xsb_c (List.Mem.tail _ (List.Mem.tail _ (List.Mem.tail _ (List.Mem.tail _ (List.Mem.tail _ (List.Mem.head _)))))) (xsb_c (List.Mem.tail _ (List.Mem.tail _ (List.Mem.tail _ (List.Mem.tail _ (List.Mem.tail _ (List.Mem.tail _ (List.Mem.head _))))))) (xsb_c (List.Mem.tail _ (List.Mem.head _)) (xsb_c (List.Mem.head _) xsb_n))))))) (hK6 1)
noncomputable def fm_M_faultOfThing (σ : xa_H) : Option (Int) :=
  fm_M_faultOfThing_12 σ (fun (v40 : Int) (v41 : Int) (v42 : Int) =>
    if (σ 9 0 19) ≤ 0 then
      some (σ 9 0 19)
    else
      if (xrem (σ 9 0 19) 4) = 0 then
        if (w32 ((w32 (v40 + v41)) + v42)) = 0 then
          some (-6)
        else
          some (σ 9 0 19)
      else
        some (σ 9 0 19)) xFU 9 9 9 0
theorem jm_M_faultOfThing (σ : xa_H) : J 217 0 [(0, xr 9 0)] [] σ (jqP σ) (fm_M_faultOfThing σ) := by
  unfold fm_M_faultOfThing
  refine jr_bipush (e_217 rfl) rfl ?_
  refine jr_istore_n (L' := [(1, xi 9), (0, xr 9 0)]) (e_217 rfl) rfl rfl rfl ?_
  refine jr_bipush (e_217 rfl) rfl ?_
  refine jr_istore_n (L' := [(2, xi 9), (1, xi 9), (0, xr 9 0)]) (e_217 rfl) rfl rfl rfl ?_
  refine jr_bipush (e_217 rfl) rfl ?_
  refine jr_istore_n (L' := [(3, xi 9), (2, xi 9), (1, xi 9), (0, xr 9 0)]) (e_217 rfl) rfl rfl rfl ?_
  refine jr_iconst (e_217 rfl) rfl ?_
  refine jr_istore (L' := [(4, xi 0), (3, xi 9), (2, xi 9), (1, xi 9), (0, xr 9 0)]) (e_217 rfl) rfl rfl rfl ?_
  refine jr_sub (show ([4, 3, 2, 1, 0] : List Nat).Nodup from by decide) (xsb_c (List.Mem.tail _ (List.Mem.tail _ (List.Mem.tail _ (List.Mem.tail _ (List.Mem.head _))))) (xsb_c (List.Mem.tail _ (List.Mem.tail _ (List.Mem.tail _ (List.Mem.head _)))) (xsb_c (List.Mem.tail _ (List.Mem.tail _ (List.Mem.head _))) (xsb_c (List.Mem.tail _ (List.Mem.head _)) (xsb_c (List.Mem.head _) xsb_n))))) (jl_M_faultOfThing_12 σ _ (fun v40 v41 v42 => ?_) xFU 9 9 9 0)
  refine jr_aload_n (e_217 rfl) rfl rfl ?_
  refine jr_geti (e_217 rfl) rfl (by decide +kernel) ?_
  refine jr_bri (c := (σ 9 0 19) ≤ 0) (pt := 239) (pn := 217) (e_217 rfl) rfl rfl (fun h43 => ?_) (fun h43 => ?_)
  · refine jr_aload_n (e_217 rfl) rfl rfl ?_
    refine jr_geti (e_217 rfl) rfl (by decide +kernel) ?_
    exact jr_retP (e_217 rfl) rfl
  · refine jr_aload_n (e_217 rfl) rfl rfl ?_
    refine jr_geti (e_217 rfl) rfl (by decide +kernel) ?_
    refine jr_iconst (e_217 rfl) rfl ?_
    refine jr_irem (e_217 rfl) rfl (by decide) ?_
    refine jr_brx (c := (xrem (σ 9 0 19) 4) = 0) (pt := 239) (pn := 226) (e_217 rfl) rfl rfl (fun h44 => ?_) (fun h44 => ?_)
    · refine jr_iload_n (e_217 rfl) rfl rfl ?_
      refine jr_iload_n (e_217 rfl) rfl rfl ?_
      refine jr_iadd (e_217 rfl) rfl ?_
      refine jr_iload_n (e_217 rfl) rfl rfl ?_
      refine jr_iadd (e_217 rfl) rfl ?_
      refine jr_brx (c := (w32 ((w32 (v40 + v41)) + v42)) = 0) (pt := 239) (pn := 234) (e_217 rfl) rfl rfl (fun h45 => ?_) (fun h45 => ?_)
      · refine jr_bipush (e_217 rfl) rfl ?_
        refine jr_goto (pc' := 243) (e_217 rfl) rfl ?_
        exact jr_retP (e_217 rfl) rfl
      · refine jr_aload_n (e_217 rfl) rfl rfl ?_
        refine jr_geti (e_217 rfl) rfl (by decide +kernel) ?_
        exact jr_retP (e_217 rfl) rfl
    · refine jr_aload_n (e_217 rfl) rfl rfl ?_
      refine jr_geti (e_217 rfl) rfl (by decide +kernel) ?_
      exact jr_retP (e_217 rfl) rfl

theorem e_218 {pc : Nat} {en : xa_I} (h : xlk pc xc_218 = some en) : xcd 218 pc = some en := h
noncomputable def fm_M_moveOf (a0 : Int) : Option (Int) :=
  if a0 = 88 then
    some 9
  else
    if a0 = 89 then
      some 10
    else
      if a0 = 90 then
        some 11
      else
        if a0 = 101 then
          some 3
        else
          if a0 = 110 then
            some 0
          else
            if a0 = 115 then
              some 1
            else
              if a0 = 117 then
                some 4
              else
                if a0 = 118 then
                  some 5
                else
                  if a0 = 119 then
                    some 2
                  else
                    if a0 = 120 then
                      some 6
                    else
                      if a0 = 121 then
                        some 7
                      else
                        if a0 = 122 then
                          some 8
                        else
                          some (-6)
theorem jm_M_moveOf (a0 : Int) (σ : xa_H) : J 218 0 [(0, xi a0)] [] σ (jqP σ) (fm_M_moveOf a0) := by
  unfold fm_M_moveOf
  refine jr_iload_n (e_218 rfl) rfl rfl ?_
  refine jr_ite (fun h12 => ?_) (fun h12 => ?_)
  · refine jr_tabc (pt := 177) (e_218 rfl) rfl h12 rfl ?_
    refine jr_bipush (e_218 rfl) rfl ?_
    exact jr_retP (e_218 rfl) rfl
  · refine jr_ite (fun h11 => ?_) (fun h11 => ?_)
    · refine jr_tabc (pt := 180) (e_218 rfl) rfl h11 rfl ?_
      refine jr_bipush (e_218 rfl) rfl ?_
      exact jr_retP (e_218 rfl) rfl
    · refine jr_ite (fun h10 => ?_) (fun h10 => ?_)
      · refine jr_tabc (pt := 183) (e_218 rfl) rfl h10 rfl ?_
        refine jr_bipush (e_218 rfl) rfl ?_
        exact jr_retP (e_218 rfl) rfl
      · refine jr_ite (fun h9 => ?_) (fun h9 => ?_)
        · refine jr_tabc (pt := 162) (e_218 rfl) rfl h9 rfl ?_
          refine jr_iconst (e_218 rfl) rfl ?_
          exact jr_retP (e_218 rfl) rfl
        · refine jr_ite (fun h8 => ?_) (fun h8 => ?_)
          · refine jr_tabc (pt := 156) (e_218 rfl) rfl h8 rfl ?_
            refine jr_iconst (e_218 rfl) rfl ?_
            exact jr_retP (e_218 rfl) rfl
          · refine jr_ite (fun h7 => ?_) (fun h7 => ?_)
            · refine jr_tabc (pt := 158) (e_218 rfl) rfl h7 rfl ?_
              refine jr_iconst (e_218 rfl) rfl ?_
              exact jr_retP (e_218 rfl) rfl
            · refine jr_ite (fun h6 => ?_) (fun h6 => ?_)
              · refine jr_tabc (pt := 164) (e_218 rfl) rfl h6 rfl ?_
                refine jr_iconst (e_218 rfl) rfl ?_
                exact jr_retP (e_218 rfl) rfl
              · refine jr_ite (fun h5 => ?_) (fun h5 => ?_)
                · refine jr_tabc (pt := 166) (e_218 rfl) rfl h5 rfl ?_
                  refine jr_iconst (e_218 rfl) rfl ?_
                  exact jr_retP (e_218 rfl) rfl
                · refine jr_ite (fun h4 => ?_) (fun h4 => ?_)
                  · refine jr_tabc (pt := 160) (e_218 rfl) rfl h4 rfl ?_
                    refine jr_iconst (e_218 rfl) rfl ?_
                    exact jr_retP (e_218 rfl) rfl
                  · refine jr_ite (fun h3 => ?_) (fun h3 => ?_)
                    · refine jr_tabc (pt := 168) (e_218 rfl) rfl h3 rfl ?_
                      refine jr_bipush (e_218 rfl) rfl ?_
                      exact jr_retP (e_218 rfl) rfl
                    · refine jr_ite (fun h2 => ?_) (fun h2 => ?_)
                      · refine jr_tabc (pt := 171) (e_218 rfl) rfl h2 rfl ?_
                        refine jr_bipush (e_218 rfl) rfl ?_
                        exact jr_retP (e_218 rfl) rfl
                      · refine jr_ite (fun h1 => ?_) (fun h1 => ?_)
                        · refine jr_tabc (pt := 174) (e_218 rfl) rfl h1 rfl ?_
                          refine jr_bipush (e_218 rfl) rfl ?_
                          exact jr_retP (e_218 rfl) rfl
                        · refine jr_tabd (pt := 186) (e_218 rfl) rfl (fun hr => ((by decide : ∀ j : Nat, j < 35 → j ∈ ([0, 1, 2, 13, 22, 27, 29, 30, 31, 32, 33, 34] : List Nat) ∨ (#[176, 179, 182, 185, 185, 185, 185, 185, 185, 185, 185, 185, 185, 161, 185, 185, 185, 185, 185, 185, 185, 185, 155, 185, 185, 185, 185, 157, 185, 163, 165, 159, 167, 170, 173] : Array Int)[j]? = some 185) (a0 - 88).toNat (by omega)).resolve_left (by simp only [List.mem_cons, List.not_mem_nil, or_false]; omega)) ?_
                          refine jr_bipush (e_218 rfl) rfl ?_
                          exact jr_retP (e_218 rfl) rfl

theorem e_219 {pc : Nat} {en : xa_I} (h : xlk pc xc_219 = some en) : xcd 219 pc = some en := h
noncomputable def fm_M_signOf (a0 : Int) : Option (Int) :=
  if a0 = 0 then
    some 110
  else
    if a0 = 1 then
      some 115
    else
      if a0 = 2 then
        some 119
      else
        if a0 = 3 then
          some 101
        else
          if a0 = 4 then
            some 117
          else
            if a0 = 5 then
              some 118
            else
              if 9 ≤ a0 then
                some (w32 ((w32 (88 + a0)) - 9))
              else
                some (w32 ((w32 (120 + a0)) - 6))
theorem jm_M_signOf (a0 : Int) (σ : xa_H) : J 219 0 [(0, xi a0)] [] σ (jqP σ) (fm_M_signOf a0) := by
  unfold fm_M_signOf
  refine jr_iload_n (e_219 rfl) rfl rfl ?_
  refine jr_ite (fun h7 => ?_) (fun h7 => ?_)
  · refine jr_tabc (pt := 40) (e_219 rfl) rfl h7 rfl ?_
    refine jr_bipush (e_219 rfl) rfl ?_
    exact jr_retP (e_219 rfl) rfl
  · refine jr_ite (fun h6 => ?_) (fun h6 => ?_)
    · refine jr_tabc (pt := 43) (e_219 rfl) rfl h6 rfl ?_
      refine jr_bipush (e_219 rfl) rfl ?_
      exact jr_retP (e_219 rfl) rfl
    · refine jr_ite (fun h5 => ?_) (fun h5 => ?_)
      · refine jr_tabc (pt := 46) (e_219 rfl) rfl h5 rfl ?_
        refine jr_bipush (e_219 rfl) rfl ?_
        exact jr_retP (e_219 rfl) rfl
      · refine jr_ite (fun h4 => ?_) (fun h4 => ?_)
        · refine jr_tabc (pt := 49) (e_219 rfl) rfl h4 rfl ?_
          refine jr_bipush (e_219 rfl) rfl ?_
          exact jr_retP (e_219 rfl) rfl
        · refine jr_ite (fun h3 => ?_) (fun h3 => ?_)
          · refine jr_tabc (pt := 52) (e_219 rfl) rfl h3 rfl ?_
            refine jr_bipush (e_219 rfl) rfl ?_
            exact jr_retP (e_219 rfl) rfl
          · refine jr_ite (fun h2 => ?_) (fun h2 => ?_)
            · refine jr_tabc (pt := 55) (e_219 rfl) rfl h2 rfl ?_
              refine jr_bipush (e_219 rfl) rfl ?_
              exact jr_retP (e_219 rfl) rfl
            · refine jr_tabd (pt := 58) (e_219 rfl) rfl (fun hr => by exfalso; omega) ?_
              refine jr_iload_n (e_219 rfl) rfl rfl ?_
              refine jr_bipush (e_219 rfl) rfl ?_
              refine jr_bri (c := 9 ≤ a0) (pt := 74) (pn := 64) (e_219 rfl) rfl rfl (fun h1 => ?_) (fun h1 => ?_)
              · refine jr_bipush (e_219 rfl) rfl ?_
                refine jr_iload_n (e_219 rfl) rfl rfl ?_
                refine jr_iadd (e_219 rfl) rfl ?_
                refine jr_bipush (e_219 rfl) rfl ?_
                refine jr_isub (e_219 rfl) rfl ?_
                exact jr_retP (e_219 rfl) rfl
              · refine jr_bipush (e_219 rfl) rfl ?_
                refine jr_iload_n (e_219 rfl) rfl rfl ?_
                refine jr_iadd (e_219 rfl) rfl ?_
                refine jr_bipush (e_219 rfl) rfl ?_
                refine jr_isub (e_219 rfl) rfl ?_
                refine jr_goto (pc' := 81) (e_219 rfl) rfl ?_
                exact jr_retP (e_219 rfl) rfl

theorem e_220 {pc : Nat} {en : xa_I} (h : xlk pc xc_220 = some en) : xcd 220 pc = some en := h
noncomputable def fm_M_faultOfRow_2 (σ : xa_H) (K : Option (Int)) : Nat → Int → Option (Int)
  | 0, _ => none
  | n + 1, x1 =>
    if (σ 9 0 19) ≤ x1 then
      K
    else
      if x1 = 40 then
        some x1
      else
        if 0 ≤ x1 ∧ x1 < 60 then
          (fm_M_moveOf (σ 65 0 x1.toNat)).bind fun v3 =>
          if 0 ≤ v3 then
            xnm (w32 (x1 + 1) : Int) fun v5 =>
            fm_M_faultOfRow_2 σ K n v5
          else
            some x1
        else none
theorem jl_M_faultOfRow_2 (σ : xa_H)  (K : Option (Int)) (hK2 : J 220 36 [] [] σ (jqP σ) (K)) : ∀ (n : Nat) (x1 : Int), J 220 2 [(0, xr 9 0), (1, xi x1)] [] σ (jqP σ) (fm_M_faultOfRow_2 σ K n x1) := by
  intro n
  induction n with
  | zero => intro x1; exact jr_none
  | succ n ih2 =>
    intro x1
    rw [fm_M_faultOfRow_2]
    refine jr_iload_n (e_220 rfl) rfl rfl ?_
    refine jr_aload_n (e_220 rfl) rfl rfl ?_
    refine jr_geti (e_220 rfl) rfl (by decide +kernel) ?_
    refine jr_bri (c := (σ 9 0 19) ≤ x1) (pt := 36) (pn := 10) (e_220 rfl) rfl rfl (fun h1 => ?_) (fun h1 => ?_)
    · exact jr_sub (show ([0, 1] : List Nat).Nodup from by decide) xsb_n (hK2)
    · refine jr_iload_n (e_220 rfl) rfl rfl ?_
      refine jr_bipush (e_220 rfl) rfl ?_
      refine jr_bri (c := x1 = 40) (pt := 28) (pn := 16) (e_220 rfl) rfl rfl (fun h2 => ?_) (fun h2 => ?_)
      · refine jr_iload_n (e_220 rfl) rfl rfl ?_
        exact jr_retP (e_220 rfl) rfl
      · refine jr_aload_n (e_220 rfl) rfl rfl ?_
        refine jr_getr (K2 := 65) (i2 := 0) (e_220 rfl) rfl rfl rfl ?_
        refine jr_iload_n (e_220 rfl) rfl rfl ?_
        refine jr_ald (n := 60) (e_220 rfl) rfl rfl rfl ?_
        refine jr_callP (as := [xi (σ 65 0 x1.toNat)]) (S1 := []) (e_220 rfl) rfl rfl rfl rfl rfl rfl (jm_M_moveOf (σ 65 0 x1.toNat) σ) rfl (fun v3 => ?_)
        refine jr_bri (c := 0 ≤ v3) (pt := 30) (pn := 28) (e_220 rfl) rfl rfl (fun h4 => ?_) (fun h4 => ?_)
        · refine jr_iinc (L2 := fun c => [(1, xi c), (0, xr 9 0)]) (e_220 rfl) rfl rfl rfl (fun _ => rfl) (fun v5 => ?_)
          refine jr_goto (pc' := 2) (e_220 rfl) rfl ?_
          exact jr_sub (show ([1, 0] : List Nat).Nodup from by decide) (xsb_c (List.Mem.tail _ (List.Mem.head _)) (xsb_c (List.Mem.head _) xsb_n)) (ih2 v5)
        · refine jr_iload_n (e_220 rfl) rfl rfl ?_
          exact jr_retP (e_220 rfl) rfl
noncomputable def fm_M_faultOfRow (σ : xa_H) : Option (Int) :=
  fm_M_faultOfRow_2 σ (
    some (-6)) xFU 0
theorem jm_M_faultOfRow (σ : xa_H) : J 220 0 [(0, xr 9 0)] [] σ (jqP σ) (fm_M_faultOfRow σ) := by
  unfold fm_M_faultOfRow
  refine jr_iconst (e_220 rfl) rfl ?_
  refine jr_istore_n (L' := [(1, xi 0), (0, xr 9 0)]) (e_220 rfl) rfl rfl rfl ?_
  refine jr_sub (show ([1, 0] : List Nat).Nodup from by decide) (xsb_c (List.Mem.tail _ (List.Mem.head _)) (xsb_c (List.Mem.head _) xsb_n)) (jl_M_faultOfRow_2 σ _ ?_ xFU 0)
  refine jr_bipush (e_220 rfl) rfl ?_
  exact jr_retP (e_220 rfl) rfl

theorem e_221 {pc : Nat} {en : xa_I} (h : xlk pc xc_221 = some en) : xcd 221 pc = some en := h
noncomputable def fm_M_fault (a1 : Int) (σ : xa_H) : Option (Int) :=
  if a1 = 0 then
    (fm_M_faultOfThing σ).bind fun v2 =>
    some v2
  else
    if a1 = 1 then
      (fm_M_faultOfRow σ).bind fun v4 =>
      some v4
    else
      some (-2)
theorem jm_M_fault (a1 : Int) (σ : xa_H) : J 221 0 [(0, xr 9 0), (1, xi a1)] [] σ (jqP σ) (fm_M_fault a1 σ) := by
  unfold fm_M_fault
  refine jr_iload_n (e_221 rfl) rfl rfl ?_
  refine jr_brx (c := a1 = 0) (pt := 11) (pn := 4) (e_221 rfl) rfl rfl (fun h1 => ?_) (fun h1 => ?_)
  · refine jr_aload_n (e_221 rfl) rfl rfl ?_
    refine jr_callP (as := [xr 9 0]) (S1 := []) (e_221 rfl) rfl rfl rfl rfl rfl rfl (jm_M_faultOfThing σ) rfl (fun v2 => ?_)
    refine jr_goto (pc' := 25) (e_221 rfl) rfl ?_
    exact jr_retP (e_221 rfl) rfl
  · refine jr_iload_n (e_221 rfl) rfl rfl ?_
    refine jr_iconst (e_221 rfl) rfl ?_
    refine jr_brx (c := a1 = 1) (pt := 23) (pn := 16) (e_221 rfl) rfl rfl (fun h3 => ?_) (fun h3 => ?_)
    · refine jr_aload_n (e_221 rfl) rfl rfl ?_
      refine jr_callP (as := [xr 9 0]) (S1 := []) (e_221 rfl) rfl rfl rfl rfl rfl rfl (jm_M_faultOfRow σ) rfl (fun v4 => ?_)
      refine jr_goto (pc' := 25) (e_221 rfl) rfl ?_
      exact jr_retP (e_221 rfl) rfl
    · refine jr_bipush (e_221 rfl) rfl ?_
      exact jr_retP (e_221 rfl) rfl

theorem e_222 {pc : Nat} {en : xa_I} (h : xlk pc xc_222 = some en) : xcd 222 pc = some en := h
noncomputable def fm_M_thing_33 (f1 : Int) (K : xa_H → Option (Int × xa_H)) : Nat → Int → xa_H → Option (Int × xa_H)
  | 0, _, _ => none
  | n + 1, x2, sh =>
    if 0 ≤ f1 ∧ f1 < 5 then
      if (sh 54 0 f1.toNat) ≤ x2 then
        K sh
      else
        xnm ((w32 ((w32 (10 * f1)) + x2)) : Int) fun v2 =>
        if 0 ≤ (w32 (4 * x2)) ∧ (w32 (4 * x2)) < 60 then
          if 0 ≤ v2 ∧ v2 < 50 then
            xnm (xup sh 55 0 v2.toNat (w32 ((sh 65 0 ((w32 (4 * x2)).toNat)) - 48))) fun s3 =>
            if 0 ≤ (w32 ((w32 (4 * x2)) + 1)) ∧ (w32 ((w32 (4 * x2)) + 1)) < 60 then
              if 0 ≤ v2 ∧ v2 < 50 then
                xnm (xup s3 56 0 v2.toNat (w32 ((s3 65 0 ((w32 ((w32 (4 * x2)) + 1)).toNat)) - 48))) fun s4 =>
                if 0 ≤ (w32 ((w32 (4 * x2)) + 2)) ∧ (w32 ((w32 (4 * x2)) + 2)) < 60 then
                  if 0 ≤ v2 ∧ v2 < 50 then
                    xnm (xup s4 57 0 v2.toNat (w32 ((s4 65 0 ((w32 ((w32 (4 * x2)) + 2)).toNat)) - 48))) fun s5 =>
                    if 0 ≤ (w32 ((w32 (4 * x2)) + 3)) ∧ (w32 ((w32 (4 * x2)) + 3)) < 60 then
                      xj (fun (v7 : Int) =>
                        if 0 ≤ v2 ∧ v2 < 50 then
                          xnm (xup s5 58 0 v2.toNat v7) fun s10 =>
                          xnm (w32 (x2 + 1) : Int) fun v11 =>
                          fm_M_thing_33 f1 K n v11 s10
                        else none) fun K8 =>
                      if (s5 65 0 ((w32 ((w32 (4 * x2)) + 3)).toNat)) = 45 then
                        K8 (-6)
                      else
                        if 0 ≤ (w32 ((w32 (4 * x2)) + 3)) ∧ (w32 ((w32 (4 * x2)) + 3)) < 60 then
                          K8 (w32 ((s5 65 0 ((w32 ((w32 (4 * x2)) + 3)).toNat)) - 97))
                        else none
                    else none
                  else none
                else none
              else none
            else none
          else none
        else none
    else none
theorem jl_M_thing_33 (f1 : Int) (σ : xa_H)  (K : xa_H → Option (Int × xa_H)) (hK33 : ∀ (sz : xa_H), J 222 150 [(0, xr 9 0), (1, xi f1)] [] sz jqW (K sz)) : ∀ (n : Nat) (x2 : Int) (sh : xa_H), J 222 33 [(0, xr 9 0), (1, xi f1), (2, xi x2)] [] sh jqW (fm_M_thing_33 f1 K n x2 sh) := by
  intro n
  induction n with
  | zero => intro x2 sh; exact jr_none
  | succ n ih33 =>
    intro x2 sh
    rw [fm_M_thing_33]
    refine jr_iload_n (e_222 rfl) rfl rfl ?_
    refine jr_aload_n (e_222 rfl) rfl rfl ?_
    refine jr_getr (K2 := 54) (i2 := 0) (e_222 rfl) rfl rfl rfl ?_
    refine jr_iload_n (e_222 rfl) rfl rfl ?_
    refine jr_ald (n := 5) (e_222 rfl) rfl rfl rfl ?_
    refine jr_bri (c := (sh 54 0 f1.toNat) ≤ x2) (pt := 150) (pn := 43) (e_222 rfl) rfl rfl (fun h1 => ?_) (fun h1 => ?_)
    · exact jr_sub (show ([0, 1, 2] : List Nat).Nodup from by decide) (xsb_c (List.Mem.head _) (xsb_c (List.Mem.tail _ (List.Mem.head _)) xsb_n)) (hK33 sh)
    · refine jr_bipush (e_222 rfl) rfl ?_
      refine jr_iload_n (e_222 rfl) rfl rfl ?_
      refine jr_imul (e_222 rfl) rfl ?_
      refine jr_iload_n (e_222 rfl) rfl rfl ?_
      refine jr_iadd (e_222 rfl) rfl ?_
      refine jr_nm (fun v2 => ?_)
      refine jr_istore_n (L' := [(3, xi v2), (0, xr 9 0), (1, xi f1), (2, xi x2)]) (e_222 rfl) rfl rfl rfl ?_
      refine jr_aload_n (e_222 rfl) rfl rfl ?_
      refine jr_getr (K2 := 55) (i2 := 0) (e_222 rfl) rfl rfl rfl ?_
      refine jr_iload_n (e_222 rfl) rfl rfl ?_
      refine jr_aload_n (e_222 rfl) rfl rfl ?_
      refine jr_getr (K2 := 65) (i2 := 0) (e_222 rfl) rfl rfl rfl ?_
      refine jr_iconst (e_222 rfl) rfl ?_
      refine jr_iload_n (e_222 rfl) rfl rfl ?_
      refine jr_imul (e_222 rfl) rfl ?_
      refine jr_ald (n := 60) (e_222 rfl) rfl rfl rfl ?_
      refine jr_bipush (e_222 rfl) rfl ?_
      refine jr_isub (e_222 rfl) rfl ?_
      refine jr_ast (n := 50) (e_222 rfl) rfl rfl rfl rfl ?_
      refine jr_nms (fun s3 => ?_)
      refine jr_aload_n (e_222 rfl) rfl rfl ?_
      refine jr_getr (K2 := 56) (i2 := 0) (e_222 rfl) rfl rfl rfl ?_
      refine jr_iload_n (e_222 rfl) rfl rfl ?_
      refine jr_aload_n (e_222 rfl) rfl rfl ?_
      refine jr_getr (K2 := 65) (i2 := 0) (e_222 rfl) rfl rfl rfl ?_
      refine jr_iconst (e_222 rfl) rfl ?_
      refine jr_iload_n (e_222 rfl) rfl rfl ?_
      refine jr_imul (e_222 rfl) rfl ?_
      refine jr_iconst (e_222 rfl) rfl ?_
      refine jr_iadd (e_222 rfl) rfl ?_
      refine jr_ald (n := 60) (e_222 rfl) rfl rfl rfl ?_
      refine jr_bipush (e_222 rfl) rfl ?_
      refine jr_isub (e_222 rfl) rfl ?_
      refine jr_ast (n := 50) (e_222 rfl) rfl rfl rfl rfl ?_
      refine jr_nms (fun s4 => ?_)
      refine jr_aload_n (e_222 rfl) rfl rfl ?_
      refine jr_getr (K2 := 57) (i2 := 0) (e_222 rfl) rfl rfl rfl ?_
      refine jr_iload_n (e_222 rfl) rfl rfl ?_
      refine jr_aload_n (e_222 rfl) rfl rfl ?_
      refine jr_getr (K2 := 65) (i2 := 0) (e_222 rfl) rfl rfl rfl ?_
      refine jr_iconst (e_222 rfl) rfl ?_
      refine jr_iload_n (e_222 rfl) rfl rfl ?_
      refine jr_imul (e_222 rfl) rfl ?_
      refine jr_iconst (e_222 rfl) rfl ?_
      refine jr_iadd (e_222 rfl) rfl ?_
      refine jr_ald (n := 60) (e_222 rfl) rfl rfl rfl ?_
      refine jr_bipush (e_222 rfl) rfl ?_
      refine jr_isub (e_222 rfl) rfl ?_
      refine jr_ast (n := 50) (e_222 rfl) rfl rfl rfl rfl ?_
      refine jr_nms (fun s5 => ?_)
      refine jr_aload_n (e_222 rfl) rfl rfl ?_
      refine jr_getr (K2 := 58) (i2 := 0) (e_222 rfl) rfl rfl rfl ?_
      refine jr_iload_n (e_222 rfl) rfl rfl ?_
      refine jr_aload_n (e_222 rfl) rfl rfl ?_
      refine jr_getr (K2 := 65) (i2 := 0) (e_222 rfl) rfl rfl rfl ?_
      refine jr_iconst (e_222 rfl) rfl ?_
      refine jr_iload_n (e_222 rfl) rfl rfl ?_
      refine jr_imul (e_222 rfl) rfl ?_
      refine jr_iconst (e_222 rfl) rfl ?_
      refine jr_iadd (e_222 rfl) rfl ?_
      refine jr_ald (n := 60) (e_222 rfl) rfl rfl rfl ?_
      refine jr_bipush (e_222 rfl) rfl ?_
      refine jr_j (fun K8 => ∀ (v7 : Int), J 222 143 [(0, xr 9 0), (1, xi f1), (2, xi x2)] [xi v7, xi v2, xr 58 0] s5 jqW (K8 v7)) (fun v7 => ?_) (fun K8 hK8 => ?_)
      · refine jr_ast (n := 50) (e_222 rfl) rfl rfl rfl rfl ?_
        refine jr_nms (fun s10 => ?_)
        refine jr_iinc (L2 := fun c => [(2, xi c), (0, xr 9 0), (1, xi f1)]) (e_222 rfl) rfl rfl rfl (fun _ => rfl) (fun v11 => ?_)
        refine jr_goto (pc' := 33) (e_222 rfl) rfl ?_
        exact jr_sub (show ([2, 0, 1] : List Nat).Nodup from by decide) (xsb_c (List.Mem.tail _ (List.Mem.head _)) (xsb_c (List.Mem.tail _ (List.Mem.tail _ (List.Mem.head _))) (xsb_c (List.Mem.head _) xsb_n))) (ih33 v11 s10)
      · refine jr_brx (c := (s5 65 0 ((w32 ((w32 (4 * x2)) + 3)).toNat)) = 45) (pt := 130) (pn := 125) (e_222 rfl) rfl rfl (fun h9 => ?_) (fun h9 => ?_)
        · refine jr_bipush (e_222 rfl) rfl ?_
          refine jr_goto (pc' := 143) (e_222 rfl) rfl ?_
          exact jr_sub (show ([3, 0, 1, 2] : List Nat).Nodup from by decide) (xsb_c (List.Mem.tail _ (List.Mem.head _)) (xsb_c (List.Mem.tail _ (List.Mem.tail _ (List.Mem.head _))) (xsb_c (List.Mem.tail _ (List.Mem.tail _ (List.Mem.tail _ (List.Mem.head _)))) xsb_n))) (hK8 (-6))
        · refine jr_aload_n (e_222 rfl) rfl rfl ?_
          refine jr_getr (K2 := 65) (i2 := 0) (e_222 rfl) rfl rfl rfl ?_
          refine jr_iconst (e_222 rfl) rfl ?_
          refine jr_iload_n (e_222 rfl) rfl rfl ?_
          refine jr_imul (e_222 rfl) rfl ?_
          refine jr_iconst (e_222 rfl) rfl ?_
          refine jr_iadd (e_222 rfl) rfl ?_
          refine jr_ald (n := 60) (e_222 rfl) rfl rfl rfl ?_
          refine jr_bipush (e_222 rfl) rfl ?_
          refine jr_isub (e_222 rfl) rfl ?_
          exact jr_sub (show ([3, 0, 1, 2] : List Nat).Nodup from by decide) (xsb_c (List.Mem.tail _ (List.Mem.head _)) (xsb_c (List.Mem.tail _ (List.Mem.tail _ (List.Mem.head _))) (xsb_c (List.Mem.tail _ (List.Mem.tail _ (List.Mem.tail _ (List.Mem.head _)))) xsb_n))) (hK8 (w32 ((s5 65 0 ((w32 ((w32 (4 * x2)) + 3)).toNat)) - 97)))
noncomputable def fm_M_thing (a1 : Int) (σ : xa_H) : Option (Int × xa_H) :=
  (fm_M_isThing a1).bind fun v1 =>
  if v1 = 0 then
    some ((-1), σ)
  else
    (fm_M_faultOfThing σ).bind fun v3 =>
    if v3 < 0 then
      if 0 ≤ a1 ∧ a1 < 5 then
        xnm (xup σ 54 0 a1.toNat (xdiv (σ 9 0 19) 4)) fun s5 =>
        fm_M_thing_33 a1 (fun (s12 : xa_H) =>
          if 0 ≤ a1 ∧ a1 < 5 then
            xnm (xup s12 62 0 a1.toNat (-6)) fun s13 =>
            xnm (xup s13 9 0 19 0) fun s14 =>
            if 0 ≤ a1 ∧ a1 < 5 then
              some ((s14 54 0 a1.toNat), s14)
            else none
          else none) xFU 0 s5
      else none
    else
      some ((-5), σ)
theorem jm_M_thing (a1 : Int) (σ : xa_H) : J 222 0 [(0, xr 9 0), (1, xi a1)] [] σ jqW (fm_M_thing a1 σ) := by
  unfold fm_M_thing
  refine jr_iload_n (e_222 rfl) rfl rfl ?_
  refine jr_callP (as := [xi a1]) (S1 := []) (e_222 rfl) rfl rfl rfl rfl rfl rfl (jm_M_isThing a1 σ) rfl (fun v1 => ?_)
  refine jr_brx (c := v1 = 0) (pt := 9) (pn := 7) (e_222 rfl) rfl rfl (fun h2 => ?_) (fun h2 => ?_)
  · refine jr_iconst (e_222 rfl) rfl ?_
    exact jr_retW (e_222 rfl) rfl
  · refine jr_aload_n (e_222 rfl) rfl rfl ?_
    refine jr_callP (as := [xr 9 0]) (S1 := []) (e_222 rfl) rfl rfl rfl rfl rfl rfl (jm_M_faultOfThing σ) rfl (fun v3 => ?_)
    refine jr_bri (c := v3 < 0) (pt := 19) (pn := 16) (e_222 rfl) rfl rfl (fun h4 => ?_) (fun h4 => ?_)
    · refine jr_aload_n (e_222 rfl) rfl rfl ?_
      refine jr_getr (K2 := 54) (i2 := 0) (e_222 rfl) rfl rfl rfl ?_
      refine jr_iload_n (e_222 rfl) rfl rfl ?_
      refine jr_aload_n (e_222 rfl) rfl rfl ?_
      refine jr_geti (e_222 rfl) rfl (by decide +kernel) ?_
      refine jr_iconst (e_222 rfl) rfl ?_
      refine jr_idiv (e_222 rfl) rfl (by decide) ?_
      refine jr_ast (n := 5) (e_222 rfl) rfl rfl rfl rfl ?_
      refine jr_nms (fun s5 => ?_)
      refine jr_iconst (e_222 rfl) rfl ?_
      refine jr_istore_n (L' := [(2, xi 0), (0, xr 9 0), (1, xi a1)]) (e_222 rfl) rfl rfl rfl ?_
      refine jr_sub (show ([2, 0, 1] : List Nat).Nodup from by decide) (xsb_c (List.Mem.tail _ (List.Mem.head _)) (xsb_c (List.Mem.tail _ (List.Mem.tail _ (List.Mem.head _))) (xsb_c (List.Mem.head _) xsb_n))) (jl_M_thing_33 a1 σ _ (fun s12 => ?_) xFU 0 s5)
      refine jr_aload_n (e_222 rfl) rfl rfl ?_
      refine jr_getr (K2 := 62) (i2 := 0) (e_222 rfl) rfl rfl rfl ?_
      refine jr_iload_n (e_222 rfl) rfl rfl ?_
      refine jr_bipush (e_222 rfl) rfl ?_
      refine jr_ast (n := 5) (e_222 rfl) rfl rfl rfl rfl ?_
      refine jr_nms (fun s13 => ?_)
      refine jr_aload_n (e_222 rfl) rfl rfl ?_
      refine jr_iconst (e_222 rfl) rfl ?_
      refine jr_put (e_222 rfl) rfl rfl rfl ?_
      refine jr_nms (fun s14 => ?_)
      refine jr_aload_n (e_222 rfl) rfl rfl ?_
      refine jr_getr (K2 := 54) (i2 := 0) (e_222 rfl) rfl rfl rfl ?_
      refine jr_iload_n (e_222 rfl) rfl rfl ?_
      refine jr_ald (n := 5) (e_222 rfl) rfl rfl rfl ?_
      exact jr_retW (e_222 rfl) rfl
    · refine jr_bipush (e_222 rfl) rfl ?_
      exact jr_retW (e_222 rfl) rfl

theorem e_223 {pc : Nat} {en : xa_I} (h : xlk pc xc_223 = some en) : xcd 223 pc = some en := h
noncomputable def fm_M_row (a1 : Int) (a2 : Int) (a3 : Int) (σ : xa_H) : Option (Int) :=
  xnm ((w32 ((w32 (9 * a1)) + (w32 (3 * a2)))) : Int) fun v1 =>
  if 0 ≤ v1 ∧ v1 < 216 then
    if 0 ≤ a3 ∧ a3 < 50 then
      if 0 ≤ (w32 (v1 + 1)) ∧ (w32 (v1 + 1)) < 216 then
        if 0 ≤ a3 ∧ a3 < 50 then
          if 0 ≤ (w32 (v1 + 2)) ∧ (w32 (v1 + 2)) < 216 then
            if 0 ≤ a3 ∧ a3 < 50 then
              some (w32 ((w32 ((w32 ((σ 50 0 v1.toNat) * (σ 55 0 a3.toNat))) + (w32 ((σ 50 0 ((w32 (v1 + 1)).toNat)) * (σ 56 0 a3.toNat))))) + (w32 ((σ 50 0 ((w32 (v1 + 2)).toNat)) * (σ 57 0 a3.toNat)))))
            else none
          else none
        else none
      else none
    else none
  else none
theorem jm_M_row (a1 : Int) (a2 : Int) (a3 : Int) (σ : xa_H) : J 223 0 [(0, xr 9 0), (1, xi a1), (2, xi a2), (3, xi a3)] [] σ (jqP σ) (fm_M_row a1 a2 a3 σ) := by
  unfold fm_M_row
  refine jr_bipush (e_223 rfl) rfl ?_
  refine jr_iload_n (e_223 rfl) rfl rfl ?_
  refine jr_imul (e_223 rfl) rfl ?_
  refine jr_iconst (e_223 rfl) rfl ?_
  refine jr_iload_n (e_223 rfl) rfl rfl ?_
  refine jr_imul (e_223 rfl) rfl ?_
  refine jr_iadd (e_223 rfl) rfl ?_
  refine jr_nm (fun v1 => ?_)
  refine jr_istore (L' := [(4, xi v1), (0, xr 9 0), (1, xi a1), (2, xi a2), (3, xi a3)]) (e_223 rfl) rfl rfl rfl ?_
  refine jr_aload_n (e_223 rfl) rfl rfl ?_
  refine jr_getr (K2 := 50) (i2 := 0) (e_223 rfl) rfl rfl rfl ?_
  refine jr_iload (e_223 rfl) rfl rfl ?_
  refine jr_ald (n := 216) (e_223 rfl) rfl rfl rfl ?_
  refine jr_aload_n (e_223 rfl) rfl rfl ?_
  refine jr_getr (K2 := 55) (i2 := 0) (e_223 rfl) rfl rfl rfl ?_
  refine jr_iload_n (e_223 rfl) rfl rfl ?_
  refine jr_ald (n := 50) (e_223 rfl) rfl rfl rfl ?_
  refine jr_imul (e_223 rfl) rfl ?_
  refine jr_aload_n (e_223 rfl) rfl rfl ?_
  refine jr_getr (K2 := 50) (i2 := 0) (e_223 rfl) rfl rfl rfl ?_
  refine jr_iload (e_223 rfl) rfl rfl ?_
  refine jr_iconst (e_223 rfl) rfl ?_
  refine jr_iadd (e_223 rfl) rfl ?_
  refine jr_ald (n := 216) (e_223 rfl) rfl rfl rfl ?_
  refine jr_aload_n (e_223 rfl) rfl rfl ?_
  refine jr_getr (K2 := 56) (i2 := 0) (e_223 rfl) rfl rfl rfl ?_
  refine jr_iload_n (e_223 rfl) rfl rfl ?_
  refine jr_ald (n := 50) (e_223 rfl) rfl rfl rfl ?_
  refine jr_imul (e_223 rfl) rfl ?_
  refine jr_iadd (e_223 rfl) rfl ?_
  refine jr_aload_n (e_223 rfl) rfl rfl ?_
  refine jr_getr (K2 := 50) (i2 := 0) (e_223 rfl) rfl rfl rfl ?_
  refine jr_iload (e_223 rfl) rfl rfl ?_
  refine jr_iconst (e_223 rfl) rfl ?_
  refine jr_iadd (e_223 rfl) rfl ?_
  refine jr_ald (n := 216) (e_223 rfl) rfl rfl rfl ?_
  refine jr_aload_n (e_223 rfl) rfl rfl ?_
  refine jr_getr (K2 := 57) (i2 := 0) (e_223 rfl) rfl rfl rfl ?_
  refine jr_iload_n (e_223 rfl) rfl rfl ?_
  refine jr_ald (n := 50) (e_223 rfl) rfl rfl rfl ?_
  refine jr_imul (e_223 rfl) rfl ?_
  refine jr_iadd (e_223 rfl) rfl ?_
  exact jr_retP (e_223 rfl) rfl

theorem e_224 {pc : Nat} {en : xa_I} (h : xlk pc xc_224 = some en) : xcd 224 pc = some en := h
noncomputable def fm_M_layCubes_14 (f1 : Int) (f2 : Int) (K : Int → Int → Int → xa_H → Option (xa_H)) : Nat → Int → Int → Int → Int → xa_H → Option (xa_H)
  | 0, _, _, _, _, _ => none
  | n + 1, x3, x4, x5, x6, sh =>
    if 0 ≤ f1 ∧ f1 < 5 then
      if (sh 54 0 f1.toNat) ≤ x6 then
        K x3 x4 x5 sh
      else
        xnm ((w32 ((w32 (10 * f1)) + x6)) : Int) fun v2 =>
        (fm_M_row f2 0 v2 sh).bind fun v3 =>
        if 0 ≤ x6 ∧ x6 < 10 then
          xnm (xup sh 66 0 x6.toNat v3) fun s4 =>
          (fm_M_row f2 1 v2 s4).bind fun v5 =>
          if 0 ≤ x6 ∧ x6 < 10 then
            xnm (xup s4 67 0 x6.toNat v5) fun s6 =>
            (fm_M_row f2 2 v2 s6).bind fun v7 =>
            if 0 ≤ x6 ∧ x6 < 10 then
              xnm (xup s6 68 0 x6.toNat v7) fun s8 =>
              if 0 ≤ x6 ∧ x6 < 10 then
                xj (fun (v10 : Int) =>
                  if 0 ≤ x6 ∧ x6 < 10 then
                    xj (fun (v14 : Int) =>
                      if 0 ≤ x6 ∧ x6 < 10 then
                        if x5 ≤ (s8 68 0 x6.toNat) then
                          xnm (w32 (x6 + 1) : Int) fun v18 =>
                          fm_M_layCubes_14 f1 f2 K n v10 v14 x5 v18 s8
                        else
                          if 0 ≤ x6 ∧ x6 < 10 then
                            xnm ((s8 68 0 x6.toNat) : Int) fun v19 =>
                            xnm (w32 (x6 + 1) : Int) fun v20 =>
                            fm_M_layCubes_14 f1 f2 K n v10 v14 v19 v20 s8
                          else none
                      else none) fun K15 =>
                    if x4 ≤ (s8 67 0 x6.toNat) then
                      K15 x4
                    else
                      if 0 ≤ x6 ∧ x6 < 10 then
                        K15 (s8 67 0 x6.toNat)
                      else none
                  else none) fun K11 =>
                if x3 ≤ (s8 66 0 x6.toNat) then
                  K11 x3
                else
                  if 0 ≤ x6 ∧ x6 < 10 then
                    K11 (s8 66 0 x6.toNat)
                  else none
              else none
            else none
          else none
        else none
    else none
theorem jl_M_layCubes_14 (f1 : Int) (f2 : Int) (σ : xa_H)  (K : Int → Int → Int → xa_H → Option (xa_H)) (hK14 : ∀ (z0 : Int) (z1 : Int) (z2 : Int) (sz : xa_H), J 224 160 [(0, xr 9 0), (1, xi f1), (3, xi z0), (4, xi z1), (5, xi z2)] [] sz jqV (K z0 z1 z2 sz)) : ∀ (n : Nat) (x3 : Int) (x4 : Int) (x5 : Int) (x6 : Int) (sh : xa_H), J 224 14 [(0, xr 9 0), (1, xi f1), (2, xi f2), (3, xi x3), (4, xi x4), (5, xi x5), (6, xi x6)] [] sh jqV (fm_M_layCubes_14 f1 f2 K n x3 x4 x5 x6 sh) := by
  intro n
  induction n with
  | zero => intro x3 x4 x5 x6 sh; exact jr_none
  | succ n ih14 =>
    intro x3 x4 x5 x6 sh
    rw [fm_M_layCubes_14]
    refine jr_iload (e_224 rfl) rfl rfl ?_
    refine jr_aload_n (e_224 rfl) rfl rfl ?_
    refine jr_getr (K2 := 54) (i2 := 0) (e_224 rfl) rfl rfl rfl ?_
    refine jr_iload_n (e_224 rfl) rfl rfl ?_
    refine jr_ald (n := 5) (e_224 rfl) rfl rfl rfl ?_
    refine jr_bri (c := (sh 54 0 f1.toNat) ≤ x6) (pt := 160) (pn := 25) (e_224 rfl) rfl rfl (fun h1 => ?_) (fun h1 => ?_)
    · exact jr_sub (show ([0, 1, 2, 3, 4, 5, 6] : List Nat).Nodup from by decide) (xsb_c (List.Mem.head _) (xsb_c (List.Mem.tail _ (List.Mem.head _)) (xsb_c (List.Mem.tail _ (List.Mem.tail _ (List.Mem.tail _ (List.Mem.head _)))) (xsb_c (List.Mem.tail _ (List.Mem.tail _ (List.Mem.tail _ (List.Mem.tail _ (List.Mem.head _))))) (xsb_c (List.Mem.tail _ (List.Mem.tail _ (List.Mem.tail _ (List.Mem.tail _ (List.Mem.tail _ (List.Mem.head _)))))) xsb_n))))) (hK14 x3 x4 x5 sh)
    · refine jr_bipush (e_224 rfl) rfl ?_
      refine jr_iload_n (e_224 rfl) rfl rfl ?_
      refine jr_imul (e_224 rfl) rfl ?_
      refine jr_iload (e_224 rfl) rfl rfl ?_
      refine jr_iadd (e_224 rfl) rfl ?_
      refine jr_nm (fun v2 => ?_)
      refine jr_istore (L' := [(7, xi v2), (0, xr 9 0), (1, xi f1), (2, xi f2), (3, xi x3), (4, xi x4), (5, xi x5), (6, xi x6)]) (e_224 rfl) rfl rfl rfl ?_
      refine jr_aload_n (e_224 rfl) rfl rfl ?_
      refine jr_getr (K2 := 66) (i2 := 0) (e_224 rfl) rfl rfl rfl ?_
      refine jr_iload (e_224 rfl) rfl rfl ?_
      refine jr_aload_n (e_224 rfl) rfl rfl ?_
      refine jr_iload_n (e_224 rfl) rfl rfl ?_
      refine jr_iconst (e_224 rfl) rfl ?_
      refine jr_iload (e_224 rfl) rfl rfl ?_
      refine jr_callP (as := [xr 9 0, xi f2, xi 0, xi v2]) (S1 := [xi x6, xr 66 0]) (e_224 rfl) rfl rfl rfl rfl rfl rfl (jm_M_row f2 0 v2 sh) rfl (fun v3 => ?_)
      refine jr_ast (n := 10) (e_224 rfl) rfl rfl rfl rfl ?_
      refine jr_nms (fun s4 => ?_)
      refine jr_aload_n (e_224 rfl) rfl rfl ?_
      refine jr_getr (K2 := 67) (i2 := 0) (e_224 rfl) rfl rfl rfl ?_
      refine jr_iload (e_224 rfl) rfl rfl ?_
      refine jr_aload_n (e_224 rfl) rfl rfl ?_
      refine jr_iload_n (e_224 rfl) rfl rfl ?_
      refine jr_iconst (e_224 rfl) rfl ?_
      refine jr_iload (e_224 rfl) rfl rfl ?_
      refine jr_callP (as := [xr 9 0, xi f2, xi 1, xi v2]) (S1 := [xi x6, xr 67 0]) (e_224 rfl) rfl rfl rfl rfl rfl rfl (jm_M_row f2 1 v2 s4) rfl (fun v5 => ?_)
      refine jr_ast (n := 10) (e_224 rfl) rfl rfl rfl rfl ?_
      refine jr_nms (fun s6 => ?_)
      refine jr_aload_n (e_224 rfl) rfl rfl ?_
      refine jr_getr (K2 := 68) (i2 := 0) (e_224 rfl) rfl rfl rfl ?_
      refine jr_iload (e_224 rfl) rfl rfl ?_
      refine jr_aload_n (e_224 rfl) rfl rfl ?_
      refine jr_iload_n (e_224 rfl) rfl rfl ?_
      refine jr_iconst (e_224 rfl) rfl ?_
      refine jr_iload (e_224 rfl) rfl rfl ?_
      refine jr_callP (as := [xr 9 0, xi f2, xi 2, xi v2]) (S1 := [xi x6, xr 68 0]) (e_224 rfl) rfl rfl rfl rfl rfl rfl (jm_M_row f2 2 v2 s6) rfl (fun v7 => ?_)
      refine jr_ast (n := 10) (e_224 rfl) rfl rfl rfl rfl ?_
      refine jr_nms (fun s8 => ?_)
      refine jr_aload_n (e_224 rfl) rfl rfl ?_
      refine jr_getr (K2 := 66) (i2 := 0) (e_224 rfl) rfl rfl rfl ?_
      refine jr_iload (e_224 rfl) rfl rfl ?_
      refine jr_ald (n := 10) (e_224 rfl) rfl rfl rfl ?_
      refine jr_iload_n (e_224 rfl) rfl rfl ?_
      refine jr_j (fun K11 => ∀ (v10 : Int), J 224 101 [(0, xr 9 0), (1, xi f1), (2, xi f2), (4, xi x4), (5, xi x5), (6, xi x6)] [xi v10] s8 jqV (K11 v10)) (fun v10 => ?_) (fun K11 hK11 => ?_)
      · refine jr_istore_n (L' := [(3, xi v10), (0, xr 9 0), (1, xi f1), (2, xi f2), (4, xi x4), (5, xi x5), (6, xi x6)]) (e_224 rfl) rfl rfl rfl ?_
        refine jr_aload_n (e_224 rfl) rfl rfl ?_
        refine jr_getr (K2 := 67) (i2 := 0) (e_224 rfl) rfl rfl rfl ?_
        refine jr_iload (e_224 rfl) rfl rfl ?_
        refine jr_ald (n := 10) (e_224 rfl) rfl rfl rfl ?_
        refine jr_iload (e_224 rfl) rfl rfl ?_
        refine jr_j (fun K15 => ∀ (v14 : Int), J 224 126 [(0, xr 9 0), (1, xi f1), (2, xi f2), (3, xi v10), (5, xi x5), (6, xi x6)] [xi v14] s8 jqV (K15 v14)) (fun v14 => ?_) (fun K15 hK15 => ?_)
        · refine jr_istore (L' := [(4, xi v14), (0, xr 9 0), (1, xi f1), (2, xi f2), (3, xi v10), (5, xi x5), (6, xi x6)]) (e_224 rfl) rfl rfl rfl ?_
          refine jr_aload_n (e_224 rfl) rfl rfl ?_
          refine jr_getr (K2 := 68) (i2 := 0) (e_224 rfl) rfl rfl rfl ?_
          refine jr_iload (e_224 rfl) rfl rfl ?_
          refine jr_ald (n := 10) (e_224 rfl) rfl rfl rfl ?_
          refine jr_iload (e_224 rfl) rfl rfl ?_
          refine jr_bri (c := x5 ≤ (s8 68 0 x6.toNat)) (pt := 150) (pn := 140) (e_224 rfl) rfl rfl (fun h17 => ?_) (fun h17 => ?_)
          · refine jr_iload (e_224 rfl) rfl rfl ?_
            refine jr_istore (L' := [(5, xi x5), (4, xi v14), (0, xr 9 0), (1, xi f1), (2, xi f2), (3, xi v10), (6, xi x6)]) (e_224 rfl) rfl rfl rfl ?_
            refine jr_iinc (L2 := fun c => [(6, xi c), (5, xi x5), (4, xi v14), (0, xr 9 0), (1, xi f1), (2, xi f2), (3, xi v10)]) (e_224 rfl) rfl rfl rfl (fun _ => rfl) (fun v18 => ?_)
            refine jr_goto (pc' := 14) (e_224 rfl) rfl ?_
            exact jr_sub (show ([6, 5, 4, 0, 1, 2, 3] : List Nat).Nodup from by decide) (xsb_c (List.Mem.tail _ (List.Mem.tail _ (List.Mem.tail _ (List.Mem.head _)))) (xsb_c (List.Mem.tail _ (List.Mem.tail _ (List.Mem.tail _ (List.Mem.tail _ (List.Mem.head _))))) (xsb_c (List.Mem.tail _ (List.Mem.tail _ (List.Mem.tail _ (List.Mem.tail _ (List.Mem.tail _ (List.Mem.head _)))))) (xsb_c (List.Mem.tail _ (List.Mem.tail _ (List.Mem.tail _ (List.Mem.tail _ (List.Mem.tail _ (List.Mem.tail _ (List.Mem.head _))))))) (xsb_c (List.Mem.tail _ (List.Mem.tail _ (List.Mem.head _))) (xsb_c (List.Mem.tail _ (List.Mem.head _)) (xsb_c (List.Mem.head _) xsb_n))))))) (ih14 v10 v14 x5 v18 s8)
          · refine jr_aload_n (e_224 rfl) rfl rfl ?_
            refine jr_getr (K2 := 68) (i2 := 0) (e_224 rfl) rfl rfl rfl ?_
            refine jr_iload (e_224 rfl) rfl rfl ?_
            refine jr_ald (n := 10) (e_224 rfl) rfl rfl rfl ?_
            refine jr_goto (pc' := 152) (e_224 rfl) rfl ?_
            refine jr_nm (fun v19 => ?_)
            refine jr_istore (L' := [(5, xi v19), (4, xi v14), (0, xr 9 0), (1, xi f1), (2, xi f2), (3, xi v10), (6, xi x6)]) (e_224 rfl) rfl rfl rfl ?_
            refine jr_iinc (L2 := fun c => [(6, xi c), (5, xi v19), (4, xi v14), (0, xr 9 0), (1, xi f1), (2, xi f2), (3, xi v10)]) (e_224 rfl) rfl rfl rfl (fun _ => rfl) (fun v20 => ?_)
            refine jr_goto (pc' := 14) (e_224 rfl) rfl ?_
            exact jr_sub (show ([6, 5, 4, 0, 1, 2, 3] : List Nat).Nodup from by decide) (xsb_c (List.Mem.tail _ (List.Mem.tail _ (List.Mem.tail _ (List.Mem.head _)))) (xsb_c (List.Mem.tail _ (List.Mem.tail _ (List.Mem.tail _ (List.Mem.tail _ (List.Mem.head _))))) (xsb_c (List.Mem.tail _ (List.Mem.tail _ (List.Mem.tail _ (List.Mem.tail _ (List.Mem.tail _ (List.Mem.head _)))))) (xsb_c (List.Mem.tail _ (List.Mem.tail _ (List.Mem.tail _ (List.Mem.tail _ (List.Mem.tail _ (List.Mem.tail _ (List.Mem.head _))))))) (xsb_c (List.Mem.tail _ (List.Mem.tail _ (List.Mem.head _))) (xsb_c (List.Mem.tail _ (List.Mem.head _)) (xsb_c (List.Mem.head _) xsb_n))))))) (ih14 v10 v14 v19 v20 s8)
        · refine jr_bri (c := x4 ≤ (s8 67 0 x6.toNat)) (pt := 124) (pn := 114) (e_224 rfl) rfl rfl (fun h16 => ?_) (fun h16 => ?_)
          · refine jr_iload (e_224 rfl) rfl rfl ?_
            exact jr_sub (show ([3, 0, 1, 2, 4, 5, 6] : List Nat).Nodup from by decide) (xsb_c (List.Mem.tail _ (List.Mem.head _)) (xsb_c (List.Mem.tail _ (List.Mem.tail _ (List.Mem.head _))) (xsb_c (List.Mem.tail _ (List.Mem.tail _ (List.Mem.tail _ (List.Mem.head _)))) (xsb_c (List.Mem.head _) (xsb_c (List.Mem.tail _ (List.Mem.tail _ (List.Mem.tail _ (List.Mem.tail _ (List.Mem.tail _ (List.Mem.head _)))))) (xsb_c (List.Mem.tail _ (List.Mem.tail _ (List.Mem.tail _ (List.Mem.tail _ (List.Mem.tail _ (List.Mem.tail _ (List.Mem.head _))))))) xsb_n)))))) (hK15 x4)
          · refine jr_aload_n (e_224 rfl) rfl rfl ?_
            refine jr_getr (K2 := 67) (i2 := 0) (e_224 rfl) rfl rfl rfl ?_
            refine jr_iload (e_224 rfl) rfl rfl ?_
            refine jr_ald (n := 10) (e_224 rfl) rfl rfl rfl ?_
            refine jr_goto (pc' := 126) (e_224 rfl) rfl ?_
            exact jr_sub (show ([3, 0, 1, 2, 4, 5, 6] : List Nat).Nodup from by decide) (xsb_c (List.Mem.tail _ (List.Mem.head _)) (xsb_c (List.Mem.tail _ (List.Mem.tail _ (List.Mem.head _))) (xsb_c (List.Mem.tail _ (List.Mem.tail _ (List.Mem.tail _ (List.Mem.head _)))) (xsb_c (List.Mem.head _) (xsb_c (List.Mem.tail _ (List.Mem.tail _ (List.Mem.tail _ (List.Mem.tail _ (List.Mem.tail _ (List.Mem.head _)))))) (xsb_c (List.Mem.tail _ (List.Mem.tail _ (List.Mem.tail _ (List.Mem.tail _ (List.Mem.tail _ (List.Mem.tail _ (List.Mem.head _))))))) xsb_n)))))) (hK15 (s8 67 0 x6.toNat))
      · refine jr_bri (c := x3 ≤ (s8 66 0 x6.toNat)) (pt := 100) (pn := 90) (e_224 rfl) rfl rfl (fun h12 => ?_) (fun h12 => ?_)
        · refine jr_iload_n (e_224 rfl) rfl rfl ?_
          exact jr_sub (show ([7, 0, 1, 2, 3, 4, 5, 6] : List Nat).Nodup from by decide) (xsb_c (List.Mem.tail _ (List.Mem.head _)) (xsb_c (List.Mem.tail _ (List.Mem.tail _ (List.Mem.head _))) (xsb_c (List.Mem.tail _ (List.Mem.tail _ (List.Mem.tail _ (List.Mem.head _)))) (xsb_c (List.Mem.tail _ (List.Mem.tail _ (List.Mem.tail _ (List.Mem.tail _ (List.Mem.tail _ (List.Mem.head _)))))) (xsb_c (List.Mem.tail _ (List.Mem.tail _ (List.Mem.tail _ (List.Mem.tail _ (List.Mem.tail _ (List.Mem.tail _ (List.Mem.head _))))))) (xsb_c (List.Mem.tail _ (List.Mem.tail _ (List.Mem.tail _ (List.Mem.tail _ (List.Mem.tail _ (List.Mem.tail _ (List.Mem.tail _ (List.Mem.head _)))))))) xsb_n)))))) (hK11 x3)
        · refine jr_aload_n (e_224 rfl) rfl rfl ?_
          refine jr_getr (K2 := 66) (i2 := 0) (e_224 rfl) rfl rfl rfl ?_
          refine jr_iload (e_224 rfl) rfl rfl ?_
          refine jr_ald (n := 10) (e_224 rfl) rfl rfl rfl ?_
          refine jr_goto (pc' := 101) (e_224 rfl) rfl ?_
          exact jr_sub (show ([7, 0, 1, 2, 3, 4, 5, 6] : List Nat).Nodup from by decide) (xsb_c (List.Mem.tail _ (List.Mem.head _)) (xsb_c (List.Mem.tail _ (List.Mem.tail _ (List.Mem.head _))) (xsb_c (List.Mem.tail _ (List.Mem.tail _ (List.Mem.tail _ (List.Mem.head _)))) (xsb_c (List.Mem.tail _ (List.Mem.tail _ (List.Mem.tail _ (List.Mem.tail _ (List.Mem.tail _ (List.Mem.head _)))))) (xsb_c (List.Mem.tail _ (List.Mem.tail _ (List.Mem.tail _ (List.Mem.tail _ (List.Mem.tail _ (List.Mem.tail _ (List.Mem.head _))))))) (xsb_c (List.Mem.tail _ (List.Mem.tail _ (List.Mem.tail _ (List.Mem.tail _ (List.Mem.tail _ (List.Mem.tail _ (List.Mem.tail _ (List.Mem.head _)))))))) xsb_n)))))) (hK11 (s8 66 0 x6.toNat))
noncomputable def fm_M_layCubes_163 (f1 : Int) (f3 : Int) (f4 : Int) (f5 : Int) (K : xa_H → Option (xa_H)) : Nat → Int → xa_H → Option (xa_H)
  | 0, _, _ => none
  | n + 1, x6, sh =>
    if 0 ≤ f1 ∧ f1 < 5 then
      if (sh 54 0 f1.toNat) ≤ x6 then
        K sh
      else
        if 0 ≤ x6 ∧ x6 < 10 then
          if 0 ≤ x6 ∧ x6 < 10 then
            xnm (xup sh 66 0 x6.toNat (w32 ((sh 66 0 x6.toNat) - f3))) fun s2 =>
            if 0 ≤ x6 ∧ x6 < 10 then
              if 0 ≤ x6 ∧ x6 < 10 then
                xnm (xup s2 67 0 x6.toNat (w32 ((s2 67 0 x6.toNat) - f4))) fun s3 =>
                if 0 ≤ x6 ∧ x6 < 10 then
                  if 0 ≤ x6 ∧ x6 < 10 then
                    xnm (xup s3 68 0 x6.toNat (w32 ((s3 68 0 x6.toNat) - f5))) fun s4 =>
                    xnm (w32 (x6 + 1) : Int) fun v5 =>
                    fm_M_layCubes_163 f1 f3 f4 f5 K n v5 s4
                  else none
                else none
              else none
            else none
          else none
        else none
    else none
theorem jl_M_layCubes_163 (f1 : Int) (f3 : Int) (f4 : Int) (f5 : Int) (σ : xa_H)  (K : xa_H → Option (xa_H)) (hK163 : ∀ (sz : xa_H), J 224 215 [] [] sz jqV (K sz)) : ∀ (n : Nat) (x6 : Int) (sh : xa_H), J 224 163 [(0, xr 9 0), (1, xi f1), (3, xi f3), (4, xi f4), (5, xi f5), (6, xi x6)] [] sh jqV (fm_M_layCubes_163 f1 f3 f4 f5 K n x6 sh) := by
  intro n
  induction n with
  | zero => intro x6 sh; exact jr_none
  | succ n ih163 =>
    intro x6 sh
    rw [fm_M_layCubes_163]
    refine jr_iload (e_224 rfl) rfl rfl ?_
    refine jr_aload_n (e_224 rfl) rfl rfl ?_
    refine jr_getr (K2 := 54) (i2 := 0) (e_224 rfl) rfl rfl rfl ?_
    refine jr_iload_n (e_224 rfl) rfl rfl ?_
    refine jr_ald (n := 5) (e_224 rfl) rfl rfl rfl ?_
    refine jr_bri (c := (sh 54 0 f1.toNat) ≤ x6) (pt := 215) (pn := 174) (e_224 rfl) rfl rfl (fun h1 => ?_) (fun h1 => ?_)
    · exact jr_sub (show ([0, 1, 3, 4, 5, 6] : List Nat).Nodup from by decide) xsb_n (hK163 sh)
    · refine jr_aload_n (e_224 rfl) rfl rfl ?_
      refine jr_getr (K2 := 66) (i2 := 0) (e_224 rfl) rfl rfl rfl ?_
      refine jr_iload (e_224 rfl) rfl rfl ?_
      refine jr_dup2 (e_224 rfl) rfl rfl ?_
      refine jr_ald (n := 10) (e_224 rfl) rfl rfl rfl ?_
      refine jr_iload_n (e_224 rfl) rfl rfl ?_
      refine jr_isub (e_224 rfl) rfl ?_
      refine jr_ast (n := 10) (e_224 rfl) rfl rfl rfl rfl ?_
      refine jr_nms (fun s2 => ?_)
      refine jr_aload_n (e_224 rfl) rfl rfl ?_
      refine jr_getr (K2 := 67) (i2 := 0) (e_224 rfl) rfl rfl rfl ?_
      refine jr_iload (e_224 rfl) rfl rfl ?_
      refine jr_dup2 (e_224 rfl) rfl rfl ?_
      refine jr_ald (n := 10) (e_224 rfl) rfl rfl rfl ?_
      refine jr_iload (e_224 rfl) rfl rfl ?_
      refine jr_isub (e_224 rfl) rfl ?_
      refine jr_ast (n := 10) (e_224 rfl) rfl rfl rfl rfl ?_
      refine jr_nms (fun s3 => ?_)
      refine jr_aload_n (e_224 rfl) rfl rfl ?_
      refine jr_getr (K2 := 68) (i2 := 0) (e_224 rfl) rfl rfl rfl ?_
      refine jr_iload (e_224 rfl) rfl rfl ?_
      refine jr_dup2 (e_224 rfl) rfl rfl ?_
      refine jr_ald (n := 10) (e_224 rfl) rfl rfl rfl ?_
      refine jr_iload (e_224 rfl) rfl rfl ?_
      refine jr_isub (e_224 rfl) rfl ?_
      refine jr_ast (n := 10) (e_224 rfl) rfl rfl rfl rfl ?_
      refine jr_nms (fun s4 => ?_)
      refine jr_iinc (L2 := fun c => [(6, xi c), (0, xr 9 0), (1, xi f1), (3, xi f3), (4, xi f4), (5, xi f5)]) (e_224 rfl) rfl rfl rfl (fun _ => rfl) (fun v5 => ?_)
      refine jr_goto (pc' := 163) (e_224 rfl) rfl ?_
      exact jr_sub (show ([6, 0, 1, 3, 4, 5] : List Nat).Nodup from by decide) (xsb_c (List.Mem.tail _ (List.Mem.head _)) (xsb_c (List.Mem.tail _ (List.Mem.tail _ (List.Mem.head _))) (xsb_c (List.Mem.tail _ (List.Mem.tail _ (List.Mem.tail _ (List.Mem.head _)))) (xsb_c (List.Mem.tail _ (List.Mem.tail _ (List.Mem.tail _ (List.Mem.tail _ (List.Mem.head _))))) (xsb_c (List.Mem.tail _ (List.Mem.tail _ (List.Mem.tail _ (List.Mem.tail _ (List.Mem.tail _ (List.Mem.head _)))))) (xsb_c (List.Mem.head _) xsb_n)))))) (ih163 v5 s4)
noncomputable def fm_M_layCubes (a1 : Int) (a2 : Int) (σ : xa_H) : Option (xa_H) :=
  fm_M_layCubes_14 a1 a2 (fun (v21 : Int) (v22 : Int) (v23 : Int) (s24 : xa_H) =>
    fm_M_layCubes_163 a1 v21 v22 v23 (fun (s25 : xa_H) =>
      some s25) xFU 0 s24) xFU 9 9 9 0 σ
theorem jm_M_layCubes (a1 : Int) (a2 : Int) (σ : xa_H) : J 224 0 [(0, xr 9 0), (1, xi a1), (2, xi a2)] [] σ jqV (fm_M_layCubes a1 a2 σ) := by
  unfold fm_M_layCubes
  refine jr_bipush (e_224 rfl) rfl ?_
  refine jr_istore_n (L' := [(3, xi 9), (0, xr 9 0), (1, xi a1), (2, xi a2)]) (e_224 rfl) rfl rfl rfl ?_
  refine jr_bipush (e_224 rfl) rfl ?_
  refine jr_istore (L' := [(4, xi 9), (3, xi 9), (0, xr 9 0), (1, xi a1), (2, xi a2)]) (e_224 rfl) rfl rfl rfl ?_
  refine jr_bipush (e_224 rfl) rfl ?_
  refine jr_istore (L' := [(5, xi 9), (4, xi 9), (3, xi 9), (0, xr 9 0), (1, xi a1), (2, xi a2)]) (e_224 rfl) rfl rfl rfl ?_
  refine jr_iconst (e_224 rfl) rfl ?_
  refine jr_istore (L' := [(6, xi 0), (5, xi 9), (4, xi 9), (3, xi 9), (0, xr 9 0), (1, xi a1), (2, xi a2)]) (e_224 rfl) rfl rfl rfl ?_
  refine jr_sub (show ([6, 5, 4, 3, 0, 1, 2] : List Nat).Nodup from by decide) (xsb_c (List.Mem.tail _ (List.Mem.tail _ (List.Mem.tail _ (List.Mem.tail _ (List.Mem.head _))))) (xsb_c (List.Mem.tail _ (List.Mem.tail _ (List.Mem.tail _ (List.Mem.tail _ (List.Mem.tail _ (List.Mem.head _)))))) (xsb_c (List.Mem.tail _ (List.Mem.tail _ (List.Mem.tail _ (List.Mem.tail _ (List.Mem.tail _ (List.Mem.tail _ (List.Mem.head _))))))) (xsb_c (List.Mem.tail _ (List.Mem.tail _ (List.Mem.tail _ (List.Mem.head _)))) (xsb_c (List.Mem.tail _ (List.Mem.tail _ (List.Mem.head _))) (xsb_c (List.Mem.tail _ (List.Mem.head _)) (xsb_c (List.Mem.head _) xsb_n))))))) (jl_M_layCubes_14 a1 a2 σ _ (fun v21 v22 v23 s24 => ?_) xFU 9 9 9 0 σ)
  refine jr_iconst (e_224 rfl) rfl ?_
  refine jr_istore (L' := [(6, xi 0), (0, xr 9 0), (1, xi a1), (3, xi v21), (4, xi v22), (5, xi v23)]) (e_224 rfl) rfl rfl rfl ?_
  refine jr_sub (show ([6, 0, 1, 3, 4, 5] : List Nat).Nodup from by decide) (xsb_c (List.Mem.tail _ (List.Mem.head _)) (xsb_c (List.Mem.tail _ (List.Mem.tail _ (List.Mem.head _))) (xsb_c (List.Mem.tail _ (List.Mem.tail _ (List.Mem.tail _ (List.Mem.head _)))) (xsb_c (List.Mem.tail _ (List.Mem.tail _ (List.Mem.tail _ (List.Mem.tail _ (List.Mem.head _))))) (xsb_c (List.Mem.tail _ (List.Mem.tail _ (List.Mem.tail _ (List.Mem.tail _ (List.Mem.tail _ (List.Mem.head _)))))) (xsb_c (List.Mem.head _) xsb_n)))))) (jl_M_layCubes_163 a1 v21 v22 v23 σ _ (fun s25 => ?_) xFU 0 s24)
  exact jr_retV (e_224 rfl)

theorem e_225 {pc : Nat} {en : xa_I} (h : xlk pc xc_225 = some en) : xcd 225 pc = some en := h
noncomputable def fm_M_cube (a1 : Int) (a2 : Int) (a3 : Int) (σ : xa_H) : Option (Int × xa_H) :=
  (fm_M_isThing a1).bind fun v1 =>
  if v1 = 0 then
    some ((-1), σ)
  else
    if 0 ≤ a1 ∧ a1 < 5 then
      (fm_M_in a2 0 (w32 ((σ 54 0 a1.toNat) - 1))).bind fun v3 =>
      if v3 = 0 then
        some ((-1), σ)
      else
        if 0 ≤ a1 ∧ a1 < 5 then
          xj (fun (v6 : Int) =>
            (fm_M_layCubes a1 v6 σ).bind fun s9 =>
            if a3 = 0 then
              if 0 ≤ a2 ∧ a2 < 10 then
                some ((s9 66 0 a2.toNat), s9)
              else none
            else
              if a3 = 1 then
                if 0 ≤ a2 ∧ a2 < 10 then
                  some ((s9 67 0 a2.toNat), s9)
                else none
              else
                if a3 = 2 then
                  if 0 ≤ a2 ∧ a2 < 10 then
                    some ((s9 68 0 a2.toNat), s9)
                  else none
                else
                  if a3 = 3 then
                    if 0 ≤ (w32 ((w32 (10 * a1)) + a2)) ∧ (w32 ((w32 (10 * a1)) + a2)) < 50 then
                      some ((s9 58 0 ((w32 ((w32 (10 * a1)) + a2)).toNat)), s9)
                    else none
                  else
                    some ((-2), s9)) fun K7 =>
          if 0 ≤ (σ 62 0 a1.toNat) then
            if 0 ≤ a1 ∧ a1 < 5 then
              K7 (σ 63 0 a1.toNat)
            else none
          else
            K7 0
        else none
    else none
theorem jm_M_cube (a1 : Int) (a2 : Int) (a3 : Int) (σ : xa_H) : J 225 0 [(0, xr 9 0), (1, xi a1), (2, xi a2), (3, xi a3)] [] σ jqW (fm_M_cube a1 a2 a3 σ) := by
  unfold fm_M_cube
  refine jr_iload_n (e_225 rfl) rfl rfl ?_
  refine jr_callP (as := [xi a1]) (S1 := []) (e_225 rfl) rfl rfl rfl rfl rfl rfl (jm_M_isThing a1 σ) rfl (fun v1 => ?_)
  refine jr_bri (c := v1 = 0) (pt := 25) (pn := 7) (e_225 rfl) rfl rfl (fun h2 => ?_) (fun h2 => ?_)
  · refine jr_iconst (e_225 rfl) rfl ?_
    exact jr_retW (e_225 rfl) rfl
  · refine jr_iload_n (e_225 rfl) rfl rfl ?_
    refine jr_i2l (e_225 rfl) rfl ?_
    refine jr_lconst (a := 0) (e_225 rfl) rfl rfl ?_
    refine jr_aload_n (e_225 rfl) rfl rfl ?_
    refine jr_getr (K2 := 54) (i2 := 0) (e_225 rfl) rfl rfl rfl ?_
    refine jr_iload_n (e_225 rfl) rfl rfl ?_
    refine jr_ald (n := 5) (e_225 rfl) rfl rfl rfl ?_
    refine jr_iconst (e_225 rfl) rfl ?_
    refine jr_isub (e_225 rfl) rfl ?_
    refine jr_i2l (e_225 rfl) rfl ?_
    refine jr_callP (as := [xl a2, xl 0, xl (w32 ((σ 54 0 a1.toNat) - 1))]) (S1 := []) (e_225 rfl) rfl rfl rfl rfl rfl rfl (jm_M_in a2 0 (w32 ((σ 54 0 a1.toNat) - 1)) σ) rfl (fun v3 => ?_)
    refine jr_brx (c := v3 = 0) (pt := 27) (pn := 25) (e_225 rfl) rfl rfl (fun h4 => ?_) (fun h4 => ?_)
    · refine jr_iconst (e_225 rfl) rfl ?_
      exact jr_retW (e_225 rfl) rfl
    · refine jr_aload_n (e_225 rfl) rfl rfl ?_
      refine jr_iload_n (e_225 rfl) rfl rfl ?_
      refine jr_aload_n (e_225 rfl) rfl rfl ?_
      refine jr_getr (K2 := 62) (i2 := 0) (e_225 rfl) rfl rfl rfl ?_
      refine jr_iload_n (e_225 rfl) rfl rfl ?_
      refine jr_ald (n := 5) (e_225 rfl) rfl rfl rfl ?_
      refine jr_j (fun K7 => ∀ (v6 : Int), J 225 48 [(0, xr 9 0), (1, xi a1), (2, xi a2), (3, xi a3)] [xi v6, xi a1, xr 9 0] σ jqW (K7 v6)) (fun v6 => ?_) (fun K7 hK7 => ?_)
      · refine jr_callV (as := [xr 9 0, xi a1, xi v6]) (S1 := []) (e_225 rfl) rfl rfl rfl rfl rfl rfl (jm_M_layCubes a1 v6 σ) rfl (fun s9 => ?_)
        refine jr_iload_n (e_225 rfl) rfl rfl ?_
        refine jr_brx (c := a3 = 0) (pt := 64) (pn := 55) (e_225 rfl) rfl rfl (fun h10 => ?_) (fun h10 => ?_)
        · refine jr_aload_n (e_225 rfl) rfl rfl ?_
          refine jr_getr (K2 := 66) (i2 := 0) (e_225 rfl) rfl rfl rfl ?_
          refine jr_iload_n (e_225 rfl) rfl rfl ?_
          refine jr_ald (n := 10) (e_225 rfl) rfl rfl rfl ?_
          refine jr_goto (pc' := 113) (e_225 rfl) rfl ?_
          exact jr_retW (e_225 rfl) rfl
        · refine jr_iload_n (e_225 rfl) rfl rfl ?_
          refine jr_iconst (e_225 rfl) rfl ?_
          refine jr_brx (c := a3 = 1) (pt := 78) (pn := 69) (e_225 rfl) rfl rfl (fun h11 => ?_) (fun h11 => ?_)
          · refine jr_aload_n (e_225 rfl) rfl rfl ?_
            refine jr_getr (K2 := 67) (i2 := 0) (e_225 rfl) rfl rfl rfl ?_
            refine jr_iload_n (e_225 rfl) rfl rfl ?_
            refine jr_ald (n := 10) (e_225 rfl) rfl rfl rfl ?_
            refine jr_goto (pc' := 113) (e_225 rfl) rfl ?_
            exact jr_retW (e_225 rfl) rfl
          · refine jr_iload_n (e_225 rfl) rfl rfl ?_
            refine jr_iconst (e_225 rfl) rfl ?_
            refine jr_brx (c := a3 = 2) (pt := 92) (pn := 83) (e_225 rfl) rfl rfl (fun h12 => ?_) (fun h12 => ?_)
            · refine jr_aload_n (e_225 rfl) rfl rfl ?_
              refine jr_getr (K2 := 68) (i2 := 0) (e_225 rfl) rfl rfl rfl ?_
              refine jr_iload_n (e_225 rfl) rfl rfl ?_
              refine jr_ald (n := 10) (e_225 rfl) rfl rfl rfl ?_
              refine jr_goto (pc' := 113) (e_225 rfl) rfl ?_
              exact jr_retW (e_225 rfl) rfl
            · refine jr_iload_n (e_225 rfl) rfl rfl ?_
              refine jr_iconst (e_225 rfl) rfl ?_
              refine jr_brx (c := a3 = 3) (pt := 111) (pn := 97) (e_225 rfl) rfl rfl (fun h13 => ?_) (fun h13 => ?_)
              · refine jr_aload_n (e_225 rfl) rfl rfl ?_
                refine jr_getr (K2 := 58) (i2 := 0) (e_225 rfl) rfl rfl rfl ?_
                refine jr_bipush (e_225 rfl) rfl ?_
                refine jr_iload_n (e_225 rfl) rfl rfl ?_
                refine jr_imul (e_225 rfl) rfl ?_
                refine jr_iload_n (e_225 rfl) rfl rfl ?_
                refine jr_iadd (e_225 rfl) rfl ?_
                refine jr_ald (n := 50) (e_225 rfl) rfl rfl rfl ?_
                refine jr_goto (pc' := 113) (e_225 rfl) rfl ?_
                exact jr_retW (e_225 rfl) rfl
              · refine jr_bipush (e_225 rfl) rfl ?_
                exact jr_retW (e_225 rfl) rfl
      · refine jr_bri (c := 0 ≤ (σ 62 0 a1.toNat)) (pt := 42) (pn := 38) (e_225 rfl) rfl rfl (fun h8 => ?_) (fun h8 => ?_)
        · refine jr_aload_n (e_225 rfl) rfl rfl ?_
          refine jr_getr (K2 := 63) (i2 := 0) (e_225 rfl) rfl rfl rfl ?_
          refine jr_iload_n (e_225 rfl) rfl rfl ?_
          refine jr_ald (n := 5) (e_225 rfl) rfl rfl rfl ?_
          exact jr_sub (show ([0, 1, 2, 3] : List Nat).Nodup from by decide) (xsb_c (List.Mem.head _) (xsb_c (List.Mem.tail _ (List.Mem.head _)) (xsb_c (List.Mem.tail _ (List.Mem.tail _ (List.Mem.head _))) (xsb_c (List.Mem.tail _ (List.Mem.tail _ (List.Mem.tail _ (List.Mem.head _)))) xsb_n)))) (hK7 (σ 63 0 a1.toNat))
        · refine jr_iconst (e_225 rfl) rfl ?_
          refine jr_goto (pc' := 48) (e_225 rfl) rfl ?_
          exact jr_sub (show ([0, 1, 2, 3] : List Nat).Nodup from by decide) (xsb_c (List.Mem.head _) (xsb_c (List.Mem.tail _ (List.Mem.head _)) (xsb_c (List.Mem.tail _ (List.Mem.tail _ (List.Mem.head _))) (xsb_c (List.Mem.tail _ (List.Mem.tail _ (List.Mem.tail _ (List.Mem.head _)))) xsb_n)))) (hK7 0)

theorem e_226 {pc : Nat} {en : xa_I} (h : xlk pc xc_226 = some en) : xcd 226 pc = some en := h
noncomputable def fm_M_cost (a1 : Int) (a2 : Int) (a3 : Int) (σ : xa_H) : Option (Int × xa_H) :=
  (fm_M_in a1 (-2) 3).bind fun v1 =>
  if v1 = 0 then
    some ((-1), σ)
  else
    (fm_M_in a2 0 3).bind fun v3 =>
    if v3 = 0 then
      some ((-2), σ)
    else
      (fm_M_in a3 0 9).bind fun v5 =>
      if v5 = 0 then
        some ((-2), σ)
      else
        xj (fun (v8 : Int) =>
          if a1 = (-1) then
            if 0 ≤ a2 ∧ a2 < 4 then
              xnm (xup σ 60 0 a2.toNat a3) fun s13 =>
              some (v8, s13)
            else none
          else
            if a1 = (-2) then
              if 0 ≤ a2 ∧ a2 < 4 then
                xnm (xup σ 61 0 a2.toNat a3) fun s15 =>
                some (v8, s15)
              else none
            else
              if 0 ≤ (w32 ((w32 (4 * a1)) + a2)) ∧ (w32 ((w32 (4 * a1)) + a2)) < 16 then
                xnm (xup σ 59 0 ((w32 ((w32 (4 * a1)) + a2)).toNat) a3) fun s16 =>
                some (v8, s16)
              else none) fun K9 =>
        if a1 = (-1) then
          if 0 ≤ a2 ∧ a2 < 4 then
            K9 (σ 60 0 a2.toNat)
          else none
        else
          if a1 = (-2) then
            if 0 ≤ a2 ∧ a2 < 4 then
              K9 (σ 61 0 a2.toNat)
            else none
          else
            if 0 ≤ (w32 ((w32 (4 * a1)) + a2)) ∧ (w32 ((w32 (4 * a1)) + a2)) < 16 then
              K9 (σ 59 0 ((w32 ((w32 (4 * a1)) + a2)).toNat))
            else none
theorem jm_M_cost (a1 : Int) (a2 : Int) (a3 : Int) (σ : xa_H) : J 226 0 [(0, xr 9 0), (1, xi a1), (2, xi a2), (3, xi a3)] [] σ jqW (fm_M_cost a1 a2 a3 σ) := by
  unfold fm_M_cost
  refine jr_iload_n (e_226 rfl) rfl rfl ?_
  refine jr_i2l (e_226 rfl) rfl ?_
  refine jr_ldc2 (a := (-2)) (e_226 rfl) rfl rfl ?_
  refine jr_ldc2 (a := 3) (e_226 rfl) rfl rfl ?_
  refine jr_callP (as := [xl a1, xl (-2), xl 3]) (S1 := []) (e_226 rfl) rfl rfl rfl rfl rfl rfl (jm_M_in a1 (-2) 3 σ) rfl (fun v1 => ?_)
  refine jr_brx (c := v1 = 0) (pt := 16) (pn := 14) (e_226 rfl) rfl rfl (fun h2 => ?_) (fun h2 => ?_)
  · refine jr_iconst (e_226 rfl) rfl ?_
    exact jr_retW (e_226 rfl) rfl
  · refine jr_iload_n (e_226 rfl) rfl rfl ?_
    refine jr_i2l (e_226 rfl) rfl ?_
    refine jr_lconst (a := 0) (e_226 rfl) rfl rfl ?_
    refine jr_ldc2 (a := 3) (e_226 rfl) rfl rfl ?_
    refine jr_callP (as := [xl a2, xl 0, xl 3]) (S1 := []) (e_226 rfl) rfl rfl rfl rfl rfl rfl (jm_M_in a2 0 3 σ) rfl (fun v3 => ?_)
    refine jr_bri (c := v3 = 0) (pt := 40) (pn := 28) (e_226 rfl) rfl rfl (fun h4 => ?_) (fun h4 => ?_)
    · refine jr_bipush (e_226 rfl) rfl ?_
      exact jr_retW (e_226 rfl) rfl
    · refine jr_iload_n (e_226 rfl) rfl rfl ?_
      refine jr_i2l (e_226 rfl) rfl ?_
      refine jr_lconst (a := 0) (e_226 rfl) rfl rfl ?_
      refine jr_ldc2 (a := 9) (e_226 rfl) rfl rfl ?_
      refine jr_callP (as := [xl a3, xl 0, xl 9]) (S1 := []) (e_226 rfl) rfl rfl rfl rfl rfl rfl (jm_M_in a3 0 9 σ) rfl (fun v5 => ?_)
      refine jr_brx (c := v5 = 0) (pt := 43) (pn := 40) (e_226 rfl) rfl rfl (fun h6 => ?_) (fun h6 => ?_)
      · refine jr_bipush (e_226 rfl) rfl ?_
        exact jr_retW (e_226 rfl) rfl
      · refine jr_iload_n (e_226 rfl) rfl rfl ?_
        refine jr_iconst (e_226 rfl) rfl ?_
        refine jr_j (fun K9 => ∀ (v8 : Int), J 226 82 [(0, xr 9 0), (1, xi a1), (2, xi a2), (3, xi a3)] [xi v8] σ jqW (K9 v8)) (fun v8 => ?_) (fun K9 hK9 => ?_)
        · refine jr_istore (L' := [(4, xi v8), (0, xr 9 0), (1, xi a1), (2, xi a2), (3, xi a3)]) (e_226 rfl) rfl rfl rfl ?_
          refine jr_iload_n (e_226 rfl) rfl rfl ?_
          refine jr_iconst (e_226 rfl) rfl ?_
          refine jr_brx (c := a1 = (-1)) (pt := 99) (pn := 89) (e_226 rfl) rfl rfl (fun h12 => ?_) (fun h12 => ?_)
          · refine jr_aload_n (e_226 rfl) rfl rfl ?_
            refine jr_getr (K2 := 60) (i2 := 0) (e_226 rfl) rfl rfl rfl ?_
            refine jr_iload_n (e_226 rfl) rfl rfl ?_
            refine jr_iload_n (e_226 rfl) rfl rfl ?_
            refine jr_ast (n := 4) (e_226 rfl) rfl rfl rfl rfl ?_
            refine jr_nms (fun s13 => ?_)
            refine jr_goto (pc' := 126) (e_226 rfl) rfl ?_
            refine jr_iload (e_226 rfl) rfl rfl ?_
            exact jr_retW (e_226 rfl) rfl
          · refine jr_iload_n (e_226 rfl) rfl rfl ?_
            refine jr_bipush (e_226 rfl) rfl ?_
            refine jr_brx (c := a1 = (-2)) (pt := 115) (pn := 105) (e_226 rfl) rfl rfl (fun h14 => ?_) (fun h14 => ?_)
            · refine jr_aload_n (e_226 rfl) rfl rfl ?_
              refine jr_getr (K2 := 61) (i2 := 0) (e_226 rfl) rfl rfl rfl ?_
              refine jr_iload_n (e_226 rfl) rfl rfl ?_
              refine jr_iload_n (e_226 rfl) rfl rfl ?_
              refine jr_ast (n := 4) (e_226 rfl) rfl rfl rfl rfl ?_
              refine jr_nms (fun s15 => ?_)
              refine jr_goto (pc' := 126) (e_226 rfl) rfl ?_
              refine jr_iload (e_226 rfl) rfl rfl ?_
              exact jr_retW (e_226 rfl) rfl
            · refine jr_aload_n (e_226 rfl) rfl rfl ?_
              refine jr_getr (K2 := 59) (i2 := 0) (e_226 rfl) rfl rfl rfl ?_
              refine jr_iconst (e_226 rfl) rfl ?_
              refine jr_iload_n (e_226 rfl) rfl rfl ?_
              refine jr_imul (e_226 rfl) rfl ?_
              refine jr_iload_n (e_226 rfl) rfl rfl ?_
              refine jr_iadd (e_226 rfl) rfl ?_
              refine jr_iload_n (e_226 rfl) rfl rfl ?_
              refine jr_ast (n := 16) (e_226 rfl) rfl rfl rfl rfl ?_
              refine jr_nms (fun s16 => ?_)
              refine jr_iload (e_226 rfl) rfl rfl ?_
              exact jr_retW (e_226 rfl) rfl
        · refine jr_brx (c := a1 = (-1)) (pt := 57) (pn := 48) (e_226 rfl) rfl rfl (fun h10 => ?_) (fun h10 => ?_)
          · refine jr_aload_n (e_226 rfl) rfl rfl ?_
            refine jr_getr (K2 := 60) (i2 := 0) (e_226 rfl) rfl rfl rfl ?_
            refine jr_iload_n (e_226 rfl) rfl rfl ?_
            refine jr_ald (n := 4) (e_226 rfl) rfl rfl rfl ?_
            refine jr_goto (pc' := 82) (e_226 rfl) rfl ?_
            exact jr_sub (show ([0, 1, 2, 3] : List Nat).Nodup from by decide) (xsb_c (List.Mem.head _) (xsb_c (List.Mem.tail _ (List.Mem.head _)) (xsb_c (List.Mem.tail _ (List.Mem.tail _ (List.Mem.head _))) (xsb_c (List.Mem.tail _ (List.Mem.tail _ (List.Mem.tail _ (List.Mem.head _)))) xsb_n)))) (hK9 (σ 60 0 a2.toNat))
          · refine jr_iload_n (e_226 rfl) rfl rfl ?_
            refine jr_bipush (e_226 rfl) rfl ?_
            refine jr_brx (c := a1 = (-2)) (pt := 72) (pn := 63) (e_226 rfl) rfl rfl (fun h11 => ?_) (fun h11 => ?_)
            · refine jr_aload_n (e_226 rfl) rfl rfl ?_
              refine jr_getr (K2 := 61) (i2 := 0) (e_226 rfl) rfl rfl rfl ?_
              refine jr_iload_n (e_226 rfl) rfl rfl ?_
              refine jr_ald (n := 4) (e_226 rfl) rfl rfl rfl ?_
              refine jr_goto (pc' := 82) (e_226 rfl) rfl ?_
              exact jr_sub (show ([0, 1, 2, 3] : List Nat).Nodup from by decide) (xsb_c (List.Mem.head _) (xsb_c (List.Mem.tail _ (List.Mem.head _)) (xsb_c (List.Mem.tail _ (List.Mem.tail _ (List.Mem.head _))) (xsb_c (List.Mem.tail _ (List.Mem.tail _ (List.Mem.tail _ (List.Mem.head _)))) xsb_n)))) (hK9 (σ 61 0 a2.toNat))
            · refine jr_aload_n (e_226 rfl) rfl rfl ?_
              refine jr_getr (K2 := 59) (i2 := 0) (e_226 rfl) rfl rfl rfl ?_
              refine jr_iconst (e_226 rfl) rfl ?_
              refine jr_iload_n (e_226 rfl) rfl rfl ?_
              refine jr_imul (e_226 rfl) rfl ?_
              refine jr_iload_n (e_226 rfl) rfl rfl ?_
              refine jr_iadd (e_226 rfl) rfl ?_
              refine jr_ald (n := 16) (e_226 rfl) rfl rfl rfl ?_
              exact jr_sub (show ([0, 1, 2, 3] : List Nat).Nodup from by decide) (xsb_c (List.Mem.head _) (xsb_c (List.Mem.tail _ (List.Mem.head _)) (xsb_c (List.Mem.tail _ (List.Mem.tail _ (List.Mem.head _))) (xsb_c (List.Mem.tail _ (List.Mem.tail _ (List.Mem.tail _ (List.Mem.head _)))) xsb_n)))) (hK9 (σ 59 0 ((w32 ((w32 (4 * a1)) + a2)).toNat)))

theorem e_227 {pc : Nat} {en : xa_I} (h : xlk pc xc_227 = some en) : xcd 227 pc = some en := h
noncomputable def fm_M_takeOff_12  (K : xa_H → Option (xa_H)) : Nat → Int → xa_H → Option (xa_H)
  | 0, _, _ => none
  | n + 1, x3, sh =>
    if 144 ≤ x3 then
      K sh
    else
      if 0 ≤ x3 ∧ x3 < 144 then
        xnm (xup sh 69 0 x3.toNat (0 % 2)) fun s2 =>
        xnm (w32 (x3 + 1) : Int) fun v3 =>
        fm_M_takeOff_12 K n v3 s2
      else none
theorem jl_M_takeOff_12  (σ : xa_H)  (K : xa_H → Option (xa_H)) (hK12 : ∀ (sz : xa_H), J 227 32 [] [] sz jqV (K sz)) : ∀ (n : Nat) (x3 : Int) (sh : xa_H), J 227 12 [(0, xr 9 0), (3, xi x3)] [] sh jqV (fm_M_takeOff_12 K n x3 sh) := by
  intro n
  induction n with
  | zero => intro x3 sh; exact jr_none
  | succ n ih12 =>
    intro x3 sh
    rw [fm_M_takeOff_12]
    refine jr_iload_n (e_227 rfl) rfl rfl ?_
    refine jr_sipush (e_227 rfl) rfl ?_
    refine jr_bri (c := 144 ≤ x3) (pt := 32) (pn := 19) (e_227 rfl) rfl rfl (fun h1 => ?_) (fun h1 => ?_)
    · exact jr_sub (show ([0, 3] : List Nat).Nodup from by decide) xsb_n (hK12 sh)
    · refine jr_aload_n (e_227 rfl) rfl rfl ?_
      refine jr_getr (K2 := 69) (i2 := 0) (e_227 rfl) rfl rfl rfl ?_
      refine jr_iload_n (e_227 rfl) rfl rfl ?_
      refine jr_iconst (e_227 rfl) rfl ?_
      refine jr_bast (n := 144) (e_227 rfl) rfl rfl rfl rfl ?_
      refine jr_nms (fun s2 => ?_)
      refine jr_iinc (L2 := fun c => [(3, xi c), (0, xr 9 0)]) (e_227 rfl) rfl rfl rfl (fun _ => rfl) (fun v3 => ?_)
      refine jr_goto (pc' := 12) (e_227 rfl) rfl ?_
      exact jr_sub (show ([3, 0] : List Nat).Nodup from by decide) (xsb_c (List.Mem.tail _ (List.Mem.head _)) (xsb_c (List.Mem.head _) xsb_n)) (ih12 v3 s2)
noncomputable def fm_M_takeOff (a1 : Int) (a2 : Int) (σ : xa_H) : Option (xa_H) :=
  xnm (xup σ 9 0 23 a1) fun s1 =>
  xnm (xup s1 9 0 24 a2) fun s2 =>
  fm_M_takeOff_12 (fun (s4 : xa_H) =>
    some s4) xFU 0 s2
theorem jm_M_takeOff (a1 : Int) (a2 : Int) (σ : xa_H) : J 227 0 [(0, xr 9 0), (1, xi a1), (2, xi a2)] [] σ jqV (fm_M_takeOff a1 a2 σ) := by
  unfold fm_M_takeOff
  refine jr_aload_n (e_227 rfl) rfl rfl ?_
  refine jr_iload_n (e_227 rfl) rfl rfl ?_
  refine jr_put (e_227 rfl) rfl rfl rfl ?_
  refine jr_nms (fun s1 => ?_)
  refine jr_aload_n (e_227 rfl) rfl rfl ?_
  refine jr_iload_n (e_227 rfl) rfl rfl ?_
  refine jr_put (e_227 rfl) rfl rfl rfl ?_
  refine jr_nms (fun s2 => ?_)
  refine jr_iconst (e_227 rfl) rfl ?_
  refine jr_istore_n (L' := [(3, xi 0), (0, xr 9 0), (1, xi a1), (2, xi a2)]) (e_227 rfl) rfl rfl rfl ?_
  refine jr_sub (show ([3, 0, 1, 2] : List Nat).Nodup from by decide) (xsb_c (List.Mem.tail _ (List.Mem.head _)) (xsb_c (List.Mem.head _) xsb_n)) (jl_M_takeOff_12 σ _ (fun s4 => ?_) xFU 0 s2)
  exact jr_retV (e_227 rfl)

theorem e_228 {pc : Nat} {en : xa_I} (h : xlk pc xc_228 = some en) : xcd 228 pc = some en := h
noncomputable def fm_M_isOn (a1 : Int) (a2 : Int) (σ : xa_H) : Option (Int) :=
  if 0 ≤ (w32 ((w32 (10 * a1)) + a2)) ∧ (w32 ((w32 (10 * a1)) + a2)) < 50 then
    xnm ((σ 58 0 ((w32 ((w32 (10 * a1)) + a2)).toNat)) : Int) fun v1 =>
    if v1 < 0 then
      some 1
    else
      if (xand (xshr (σ 9 0 23) v1) 1) = 0 then
        some 1
      else
        some 0
  else none
theorem jm_M_isOn (a1 : Int) (a2 : Int) (σ : xa_H) : J 228 0 [(0, xr 9 0), (1, xi a1), (2, xi a2)] [] σ (jqP σ) (fm_M_isOn a1 a2 σ) := by
  unfold fm_M_isOn
  refine jr_aload_n (e_228 rfl) rfl rfl ?_
  refine jr_getr (K2 := 58) (i2 := 0) (e_228 rfl) rfl rfl rfl ?_
  refine jr_bipush (e_228 rfl) rfl ?_
  refine jr_iload_n (e_228 rfl) rfl rfl ?_
  refine jr_imul (e_228 rfl) rfl ?_
  refine jr_iload_n (e_228 rfl) rfl rfl ?_
  refine jr_iadd (e_228 rfl) rfl ?_
  refine jr_ald (n := 50) (e_228 rfl) rfl rfl rfl ?_
  refine jr_nm (fun v1 => ?_)
  refine jr_istore_n (L' := [(3, xi v1), (0, xr 9 0), (1, xi a1), (2, xi a2)]) (e_228 rfl) rfl rfl rfl ?_
  refine jr_iload_n (e_228 rfl) rfl rfl ?_
  refine jr_bri (c := v1 < 0) (pt := 27) (pn := 16) (e_228 rfl) rfl rfl (fun h2 => ?_) (fun h2 => ?_)
  · refine jr_iconst (e_228 rfl) rfl ?_
    refine jr_goto (pc' := 32) (e_228 rfl) rfl ?_
    exact jr_retPz (e_228 rfl) rfl rfl
  · refine jr_aload_n (e_228 rfl) rfl rfl ?_
    refine jr_geti (e_228 rfl) rfl (by decide +kernel) ?_
    refine jr_iload_n (e_228 rfl) rfl rfl ?_
    refine jr_ishr (e_228 rfl) rfl ?_
    refine jr_iconst (e_228 rfl) rfl ?_
    refine jr_iand (e_228 rfl) rfl ?_
    refine jr_brx (c := (xand (xshr (σ 9 0 23) v1) 1) = 0) (pt := 31) (pn := 27) (e_228 rfl) rfl rfl (fun h3 => ?_) (fun h3 => ?_)
    · refine jr_iconst (e_228 rfl) rfl ?_
      refine jr_goto (pc' := 32) (e_228 rfl) rfl ?_
      exact jr_retPz (e_228 rfl) rfl rfl
    · refine jr_iconst (e_228 rfl) rfl ?_
      exact jr_retPz (e_228 rfl) rfl rfl

theorem e_229 {pc : Nat} {en : xa_I} (h : xlk pc xc_229 = some en) : xcd 229 pc = some en := h
noncomputable def fm_M_isOpen (a1 : Int) (σ : xa_H) : Option (Int) :=
  if 0 ≤ a1 ∧ a1 < 144 then
    xnm ((σ 53 0 a1.toNat) : Int) fun v1 =>
    if 0 ≤ a1 ∧ a1 < 144 then
      if (σ 69 0 a1.toNat) = 0 then
        if v1 = 0 then
          some 1
        else
          if v1 ≤ 1 then
            some 0
          else
            if (xand (xshr (σ 9 0 24) (w32 (v1 - 2))) 1) = 1 then
              some 1
            else
              some 0
      else
        some 0
    else none
  else none
theorem jm_M_isOpen (a1 : Int) (σ : xa_H) : J 229 0 [(0, xr 9 0), (1, xi a1)] [] σ (jqP σ) (fm_M_isOpen a1 σ) := by
  unfold fm_M_isOpen
  refine jr_aload_n (e_229 rfl) rfl rfl ?_
  refine jr_getr (K2 := 53) (i2 := 0) (e_229 rfl) rfl rfl rfl ?_
  refine jr_iload_n (e_229 rfl) rfl rfl ?_
  refine jr_ald (n := 144) (e_229 rfl) rfl rfl rfl ?_
  refine jr_nm (fun v1 => ?_)
  refine jr_istore_n (L' := [(2, xi v1), (0, xr 9 0), (1, xi a1)]) (e_229 rfl) rfl rfl rfl ?_
  refine jr_aload_n (e_229 rfl) rfl rfl ?_
  refine jr_getr (K2 := 69) (i2 := 0) (e_229 rfl) rfl rfl rfl ?_
  refine jr_iload_n (e_229 rfl) rfl rfl ?_
  refine jr_bald (n := 144) (e_229 rfl) rfl rfl rfl ?_
  refine jr_brx (c := (σ 69 0 a1.toNat) = 0) (pt := 43) (pn := 16) (e_229 rfl) rfl rfl (fun h2 => ?_) (fun h2 => ?_)
  · refine jr_iload_n (e_229 rfl) rfl rfl ?_
    refine jr_bri (c := v1 = 0) (pt := 39) (pn := 20) (e_229 rfl) rfl rfl (fun h3 => ?_) (fun h3 => ?_)
    · refine jr_iconst (e_229 rfl) rfl ?_
      refine jr_goto (pc' := 44) (e_229 rfl) rfl ?_
      exact jr_retPz (e_229 rfl) rfl rfl
    · refine jr_iload_n (e_229 rfl) rfl rfl ?_
      refine jr_iconst (e_229 rfl) rfl ?_
      refine jr_bri (c := v1 ≤ 1) (pt := 43) (pn := 25) (e_229 rfl) rfl rfl (fun h4 => ?_) (fun h4 => ?_)
      · refine jr_iconst (e_229 rfl) rfl ?_
        exact jr_retPz (e_229 rfl) rfl rfl
      · refine jr_aload_n (e_229 rfl) rfl rfl ?_
        refine jr_geti (e_229 rfl) rfl (by decide +kernel) ?_
        refine jr_iload_n (e_229 rfl) rfl rfl ?_
        refine jr_iconst (e_229 rfl) rfl ?_
        refine jr_isub (e_229 rfl) rfl ?_
        refine jr_ishr (e_229 rfl) rfl ?_
        refine jr_iconst (e_229 rfl) rfl ?_
        refine jr_iand (e_229 rfl) rfl ?_
        refine jr_iconst (e_229 rfl) rfl ?_
        refine jr_brx (c := (xand (xshr (σ 9 0 24) (w32 (v1 - 2))) 1) = 1) (pt := 43) (pn := 39) (e_229 rfl) rfl rfl (fun h5 => ?_) (fun h5 => ?_)
        · refine jr_iconst (e_229 rfl) rfl ?_
          refine jr_goto (pc' := 44) (e_229 rfl) rfl ?_
          exact jr_retPz (e_229 rfl) rfl rfl
        · refine jr_iconst (e_229 rfl) rfl ?_
          exact jr_retPz (e_229 rfl) rfl rfl
  · refine jr_iconst (e_229 rfl) rfl ?_
    exact jr_retPz (e_229 rfl) rfl rfl
