/-! what constructors do behind their making of cells -/
theorem e_33 {pc : Nat} {en : xa_I} (h : xlk pc xc_33 = some en) : xcd 33 pc = some en := h
noncomputable def fm_Search_init_78  (K : xa_H → Option (xa_H)) : Nat → Int → xa_H → Option (xa_H)
  | 0, _, _ => none
  | n + 1, x3, sh =>
    if 144 ≤ x3 then
      K sh
    else
      (fm_S_xOf x3).bind fun v2 =>
      (fm_S_yOf x3).bind fun v3 =>
      (fm_S_zOf x3).bind fun v4 =>
      (fm_Search_gridAt v2 v3 v4).bind fun v5 =>
      (fm_S_write 19 0 x3 v5 sh).bind fun s6 =>
      xnm (w32 (x3 + 1) : Int) fun v7 =>
      fm_Search_init_78 K n v7 s6
theorem jl_Search_init_78  (σ : xa_H)  (K : xa_H → Option (xa_H)) (hK78 : ∀ (sz : xa_H), J 33 114 [] [] sz jqV (K sz)) : ∀ (n : Nat) (x3 : Int) (sh : xa_H), J 33 78 [(0, xr 3 0), (3, xi x3)] [] sh jqV (fm_Search_init_78 K n x3 sh) := by
  intro n
  induction n with
  | zero => intro x3 sh; exact jr_none
  | succ n ih78 =>
    intro x3 sh
    rw [fm_Search_init_78]
    refine jr_iload_n (e_33 rfl) rfl rfl ?_
    refine jr_sipush (e_33 rfl) rfl ?_
    refine jr_bri (c := 144 ≤ x3) (pt := 114) (pn := 85) (e_33 rfl) rfl rfl (fun h1 => ?_) (fun h1 => ?_)
    · exact jr_sub (show ([0, 3] : List Nat).Nodup from by decide) xsb_n (hK78 sh)
    · refine jr_aload_n (e_33 rfl) rfl rfl ?_
      refine jr_getr (K2 := 19) (i2 := 0) (e_33 rfl) rfl rfl rfl ?_
      refine jr_iload_n (e_33 rfl) rfl rfl ?_
      refine jr_iload_n (e_33 rfl) rfl rfl ?_
      refine jr_callP (as := [xi x3]) (S1 := [xi x3, xr 19 0]) (e_33 rfl) rfl rfl rfl rfl rfl rfl (jm_S_xOf x3 sh) rfl (fun v2 => ?_)
      refine jr_iload_n (e_33 rfl) rfl rfl ?_
      refine jr_callP (as := [xi x3]) (S1 := [xi v2, xi x3, xr 19 0]) (e_33 rfl) rfl rfl rfl rfl rfl rfl (jm_S_yOf x3 sh) rfl (fun v3 => ?_)
      refine jr_iload_n (e_33 rfl) rfl rfl ?_
      refine jr_callP (as := [xi x3]) (S1 := [xi v3, xi v2, xi x3, xr 19 0]) (e_33 rfl) rfl rfl rfl rfl rfl rfl (jm_S_zOf x3 sh) rfl (fun v4 => ?_)
      refine jr_callP (as := [xi v2, xi v3, xi v4]) (S1 := [xi x3, xr 19 0]) (e_33 rfl) rfl rfl rfl rfl rfl rfl (jm_Search_gridAt v2 v3 v4 sh) rfl (fun v5 => ?_)
      refine jr_callV (as := [xr 19 0, xi x3, xi v5]) (S1 := []) (e_33 rfl) rfl rfl rfl rfl rfl rfl (jm_S_write 19 0 x3 v5 sh rfl rfl) rfl (fun s6 => ?_)
      refine jr_iinc (L2 := fun c => [(3, xi c), (0, xr 3 0)]) (e_33 rfl) rfl rfl rfl (fun _ => rfl) (fun v7 => ?_)
      refine jr_goto (pc' := 78) (e_33 rfl) rfl ?_
      exact jr_sub (show ([3, 0] : List Nat).Nodup from by decide) (xsb_c (List.Mem.tail _ (List.Mem.head _)) (xsb_c (List.Mem.head _) xsb_n)) (ih78 v7 s6)
noncomputable def fm_Search_init (σ : xa_H) : Option (xa_H) :=
  (fm_Arrays_fill 23 0 (-1) σ).bind fun s1 =>
  fm_Search_init_78 (fun (s8 : xa_H) =>
    some s8) xFU 0 s1
theorem jm_Search_init (σ : xa_H) : J 33 68 [(0, xr 3 0)] [] σ jqV (fm_Search_init σ) := by
  unfold fm_Search_init
  refine jr_aload_n (e_33 rfl) rfl rfl ?_
  refine jr_getr (K2 := 23) (i2 := 0) (e_33 rfl) rfl rfl rfl ?_
  refine jr_iconst (e_33 rfl) rfl ?_
  refine jr_callV (as := [xr 23 0, xi (-1)]) (S1 := []) (e_33 rfl) rfl rfl rfl rfl rfl rfl (jm_Arrays_fill 23 0 (-1) σ rfl rfl) rfl (fun s1 => ?_)
  refine jr_iconst (e_33 rfl) rfl ?_
  refine jr_istore_n (L' := [(3, xi 0), (0, xr 3 0)]) (e_33 rfl) rfl rfl rfl ?_
  refine jr_sub (show ([3, 0] : List Nat).Nodup from by decide) (xsb_c (List.Mem.tail _ (List.Mem.head _)) (xsb_c (List.Mem.head _) xsb_n)) (jl_Search_init_78 σ _ (fun s8 => ?_) xFU 0 s1)
  exact jr_retV (e_33 rfl)

theorem e_50 {pc : Nat} {en : xa_I} (h : xlk pc xc_50 = some en) : xcd 50 pc = some en := h
noncomputable def fm_Stair_init (i0 : Nat) (σ : xa_H) : Option (xa_H) :=
  (fm_Arrays_fill 25 i0 1 σ).bind fun s1 =>
  (fm_Arrays_fill 26 i0 1 s1).bind fun s2 =>
  some s2
theorem jm_Stair_init (i0 : Nat) (σ : xa_H) : J 50 63 [(0, xr 4 i0)] [] σ jqV (fm_Stair_init i0 σ) := by
  unfold fm_Stair_init
  refine jr_aload_n (e_50 rfl) rfl rfl ?_
  refine jr_getr (K2 := 25) (i2 := i0) (e_50 rfl) rfl rfl rfl ?_
  refine jr_iconst (e_50 rfl) rfl ?_
  refine jr_callV (as := [xr 25 i0, xi 1]) (S1 := []) (e_50 rfl) rfl rfl rfl rfl rfl rfl (jm_Arrays_fill 25 i0 1 σ rfl rfl) rfl (fun s1 => ?_)
  refine jr_aload_n (e_50 rfl) rfl rfl ?_
  refine jr_getr (K2 := 26) (i2 := i0) (e_50 rfl) rfl rfl rfl ?_
  refine jr_iconst (e_50 rfl) rfl ?_
  refine jr_callV (as := [xr 26 i0, xi 1]) (S1 := []) (e_50 rfl) rfl rfl rfl rfl rfl rfl (jm_Arrays_fill 26 i0 1 s1 rfl rfl) rfl (fun s2 => ?_)
  exact jr_retV (e_50 rfl)

theorem e_54 {pc : Nat} {en : xa_I} (h : xlk pc xc_54 = some en) : xcd 54 pc = some en := h
noncomputable def fm_Thing_init (i0 : Nat) (σ : xa_H) : Option (xa_H) :=
  (fm_Arrays_fill 30 i0 1 σ).bind fun s1 =>
  some s1
theorem jm_Thing_init (i0 : Nat) (σ : xa_H) : J 54 40 [(0, xr 5 i0)] [] σ jqV (fm_Thing_init i0 σ) := by
  unfold fm_Thing_init
  refine jr_aload_n (e_54 rfl) rfl rfl ?_
  refine jr_getr (K2 := 30) (i2 := i0) (e_54 rfl) rfl rfl rfl ?_
  refine jr_iconst (e_54 rfl) rfl ?_
  refine jr_callV (as := [xr 30 i0, xi 1]) (S1 := []) (e_54 rfl) rfl rfl rfl rfl rfl rfl (jm_Arrays_fill 30 i0 1 σ rfl rfl) rfl (fun s1 => ?_)
  exact jr_retV (e_54 rfl)

theorem e_64 {pc : Nat} {en : xa_I} (h : xlk pc xc_64 = some en) : xcd 64 pc = some en := h
noncomputable def fm_Turns_init_59 (f2 : Int) (K : Int → xa_H → Option (xa_H)) : Nat → Int → Int → xa_H → Option (xa_H)
  | 0, _, _, _ => none
  | n + 1, x1, x3, sh =>
    if 6 ≤ x3 then
      K x1 sh
    else
      (fm_Turns_turnedAxis f2 x3 0 sh).bind fun v2 =>
      (fm_Turns_turnedAxis f2 x3 1 sh).bind fun v3 =>
      (fm_Turns_turnedAxis f2 x3 2 sh).bind fun v4 =>
      (fm_Turns_find x1 v2 v3 v4 sh).bind fun v5 =>
      xj (fun (v7 : Int) (s8 : xa_H) =>
        (fm_S_write 32 0 (w32 ((w32 (f2 * 6)) + x3)) v5 s8).bind fun s15 =>
        xnm (w32 (x3 + 1) : Int) fun v16 =>
        fm_Turns_init_59 f2 K n v7 v16 s15) fun K9 =>
      if v5 = x1 then
        (fm_S_write 31 0 (w32 (3 * v5)) v2 sh).bind fun s11 =>
        (fm_S_write 31 0 (w32 ((w32 (3 * v5)) + 1)) v3 s11).bind fun s12 =>
        (fm_S_write 31 0 (w32 ((w32 (3 * v5)) + 2)) v4 s12).bind fun s13 =>
        xnm (w32 (x1 + 1) : Int) fun v14 =>
        K9 v14 s13
      else
        K9 x1 sh
theorem jl_Turns_init_59 (f2 : Int) (σ : xa_H)  (K : Int → xa_H → Option (xa_H)) (hK59 : ∀ (z0 : Int) (sz : xa_H), J 64 178 [(0, xr 6 0), (1, xi z0), (2, xi f2)] [] sz jqV (K z0 sz)) : ∀ (n : Nat) (x1 : Int) (x3 : Int) (sh : xa_H), J 64 59 [(0, xr 6 0), (1, xi x1), (2, xi f2), (3, xi x3)] [] sh jqV (fm_Turns_init_59 f2 K n x1 x3 sh) := by
  intro n
  induction n with
  | zero => intro x1 x3 sh; exact jr_none
  | succ n ih59 =>
    intro x1 x3 sh
    rw [fm_Turns_init_59]
    refine jr_iload_n (e_64 rfl) rfl rfl ?_
    refine jr_bipush (e_64 rfl) rfl ?_
    refine jr_bri (c := 6 ≤ x3) (pt := 178) (pn := 65) (e_64 rfl) rfl rfl (fun h1 => ?_) (fun h1 => ?_)
    · exact jr_sub (show ([0, 1, 2, 3] : List Nat).Nodup from by decide) (xsb_c (List.Mem.head _) (xsb_c (List.Mem.tail _ (List.Mem.head _)) (xsb_c (List.Mem.tail _ (List.Mem.tail _ (List.Mem.head _))) xsb_n))) (hK59 x1 sh)
    · refine jr_aload_n (e_64 rfl) rfl rfl ?_
      refine jr_iload_n (e_64 rfl) rfl rfl ?_
      refine jr_iload_n (e_64 rfl) rfl rfl ?_
      refine jr_iconst (e_64 rfl) rfl ?_
      refine jr_callP (as := [xr 6 0, xi f2, xi x3, xi 0]) (S1 := []) (e_64 rfl) rfl rfl rfl rfl rfl rfl (jm_Turns_turnedAxis f2 x3 0 sh) rfl (fun v2 => ?_)
      refine jr_istore (L' := [(4, xi v2), (0, xr 6 0), (1, xi x1), (2, xi f2), (3, xi x3)]) (e_64 rfl) rfl rfl rfl ?_
      refine jr_aload_n (e_64 rfl) rfl rfl ?_
      refine jr_iload_n (e_64 rfl) rfl rfl ?_
      refine jr_iload_n (e_64 rfl) rfl rfl ?_
      refine jr_iconst (e_64 rfl) rfl ?_
      refine jr_callP (as := [xr 6 0, xi f2, xi x3, xi 1]) (S1 := []) (e_64 rfl) rfl rfl rfl rfl rfl rfl (jm_Turns_turnedAxis f2 x3 1 sh) rfl (fun v3 => ?_)
      refine jr_istore (L' := [(5, xi v3), (4, xi v2), (0, xr 6 0), (1, xi x1), (2, xi f2), (3, xi x3)]) (e_64 rfl) rfl rfl rfl ?_
      refine jr_aload_n (e_64 rfl) rfl rfl ?_
      refine jr_iload_n (e_64 rfl) rfl rfl ?_
      refine jr_iload_n (e_64 rfl) rfl rfl ?_
      refine jr_iconst (e_64 rfl) rfl ?_
      refine jr_callP (as := [xr 6 0, xi f2, xi x3, xi 2]) (S1 := []) (e_64 rfl) rfl rfl rfl rfl rfl rfl (jm_Turns_turnedAxis f2 x3 2 sh) rfl (fun v4 => ?_)
      refine jr_istore (L' := [(6, xi v4), (5, xi v3), (4, xi v2), (0, xr 6 0), (1, xi x1), (2, xi f2), (3, xi x3)]) (e_64 rfl) rfl rfl rfl ?_
      refine jr_aload_n (e_64 rfl) rfl rfl ?_
      refine jr_iload_n (e_64 rfl) rfl rfl ?_
      refine jr_iload (e_64 rfl) rfl rfl ?_
      refine jr_iload (e_64 rfl) rfl rfl ?_
      refine jr_iload (e_64 rfl) rfl rfl ?_
      refine jr_callP (as := [xr 6 0, xi x1, xi v2, xi v3, xi v4]) (S1 := []) (e_64 rfl) rfl rfl rfl rfl rfl rfl (jm_Turns_find x1 v2 v3 v4 sh) rfl (fun v5 => ?_)
      refine jr_istore (L' := [(7, xi v5), (6, xi v4), (5, xi v3), (4, xi v2), (0, xr 6 0), (1, xi x1), (2, xi f2), (3, xi x3)]) (e_64 rfl) rfl rfl rfl ?_
      refine jr_iload (e_64 rfl) rfl rfl ?_
      refine jr_iload_n (e_64 rfl) rfl rfl ?_
      refine jr_j (fun K9 => ∀ (v7 : Int) (s8 : xa_H), J 64 157 [(0, xr 6 0), (1, xi v7), (2, xi f2), (3, xi x3), (7, xi v5)] [] s8 jqV (K9 v7 s8)) (fun v7 s8 => ?_) (fun K9 hK9 => ?_)
      · refine jr_aload_n (e_64 rfl) rfl rfl ?_
        refine jr_getr (K2 := 32) (i2 := 0) (e_64 rfl) rfl rfl rfl ?_
        refine jr_iload_n (e_64 rfl) rfl rfl ?_
        refine jr_bipush (e_64 rfl) rfl ?_
        refine jr_imul (e_64 rfl) rfl ?_
        refine jr_iload_n (e_64 rfl) rfl rfl ?_
        refine jr_iadd (e_64 rfl) rfl ?_
        refine jr_iload (e_64 rfl) rfl rfl ?_
        refine jr_callV (as := [xr 32 0, xi (w32 ((w32 (f2 * 6)) + x3)), xi v5]) (S1 := []) (e_64 rfl) rfl rfl rfl rfl rfl rfl (jm_S_write 32 0 (w32 ((w32 (f2 * 6)) + x3)) v5 s8 rfl rfl) rfl (fun s15 => ?_)
        refine jr_iinc (L2 := fun c => [(3, xi c), (0, xr 6 0), (1, xi v7), (2, xi f2), (7, xi v5)]) (e_64 rfl) rfl rfl rfl (fun _ => rfl) (fun v16 => ?_)
        refine jr_goto (pc' := 59) (e_64 rfl) rfl ?_
        exact jr_sub (show ([3, 0, 1, 2, 7] : List Nat).Nodup from by decide) (xsb_c (List.Mem.tail _ (List.Mem.head _)) (xsb_c (List.Mem.tail _ (List.Mem.tail _ (List.Mem.head _))) (xsb_c (List.Mem.tail _ (List.Mem.tail _ (List.Mem.tail _ (List.Mem.head _)))) (xsb_c (List.Mem.head _) xsb_n)))) (ih59 v7 v16 s15)
      · refine jr_brx (c := v5 = x1) (pt := 157) (pn := 111) (e_64 rfl) rfl rfl (fun h10 => ?_) (fun h10 => ?_)
        · refine jr_aload_n (e_64 rfl) rfl rfl ?_
          refine jr_getr (K2 := 31) (i2 := 0) (e_64 rfl) rfl rfl rfl ?_
          refine jr_iconst (e_64 rfl) rfl ?_
          refine jr_iload (e_64 rfl) rfl rfl ?_
          refine jr_imul (e_64 rfl) rfl ?_
          refine jr_iload (e_64 rfl) rfl rfl ?_
          refine jr_callV (as := [xr 31 0, xi (w32 (3 * v5)), xi v2]) (S1 := []) (e_64 rfl) rfl rfl rfl rfl rfl rfl (jm_S_write 31 0 (w32 (3 * v5)) v2 sh rfl rfl) rfl (fun s11 => ?_)
          refine jr_aload_n (e_64 rfl) rfl rfl ?_
          refine jr_getr (K2 := 31) (i2 := 0) (e_64 rfl) rfl rfl rfl ?_
          refine jr_iconst (e_64 rfl) rfl ?_
          refine jr_iload (e_64 rfl) rfl rfl ?_
          refine jr_imul (e_64 rfl) rfl ?_
          refine jr_iconst (e_64 rfl) rfl ?_
          refine jr_iadd (e_64 rfl) rfl ?_
          refine jr_iload (e_64 rfl) rfl rfl ?_
          refine jr_callV (as := [xr 31 0, xi (w32 ((w32 (3 * v5)) + 1)), xi v3]) (S1 := []) (e_64 rfl) rfl rfl rfl rfl rfl rfl (jm_S_write 31 0 (w32 ((w32 (3 * v5)) + 1)) v3 s11 rfl rfl) rfl (fun s12 => ?_)
          refine jr_aload_n (e_64 rfl) rfl rfl ?_
          refine jr_getr (K2 := 31) (i2 := 0) (e_64 rfl) rfl rfl rfl ?_
          refine jr_iconst (e_64 rfl) rfl ?_
          refine jr_iload (e_64 rfl) rfl rfl ?_
          refine jr_imul (e_64 rfl) rfl ?_
          refine jr_iconst (e_64 rfl) rfl ?_
          refine jr_iadd (e_64 rfl) rfl ?_
          refine jr_iload (e_64 rfl) rfl rfl ?_
          refine jr_callV (as := [xr 31 0, xi (w32 ((w32 (3 * v5)) + 2)), xi v4]) (S1 := []) (e_64 rfl) rfl rfl rfl rfl rfl rfl (jm_S_write 31 0 (w32 ((w32 (3 * v5)) + 2)) v4 s12 rfl rfl) rfl (fun s13 => ?_)
          refine jr_iinc (L2 := fun c => [(1, xi c), (7, xi v5), (6, xi v4), (5, xi v3), (4, xi v2), (0, xr 6 0), (2, xi f2), (3, xi x3)]) (e_64 rfl) rfl rfl rfl (fun _ => rfl) (fun v14 => ?_)
          exact jr_sub (show ([1, 7, 6, 5, 4, 0, 2, 3] : List Nat).Nodup from by decide) (xsb_c (List.Mem.tail _ (List.Mem.tail _ (List.Mem.tail _ (List.Mem.tail _ (List.Mem.tail _ (List.Mem.head _)))))) (xsb_c (List.Mem.head _) (xsb_c (List.Mem.tail _ (List.Mem.tail _ (List.Mem.tail _ (List.Mem.tail _ (List.Mem.tail _ (List.Mem.tail _ (List.Mem.head _))))))) (xsb_c (List.Mem.tail _ (List.Mem.tail _ (List.Mem.tail _ (List.Mem.tail _ (List.Mem.tail _ (List.Mem.tail _ (List.Mem.tail _ (List.Mem.head _)))))))) (xsb_c (List.Mem.tail _ (List.Mem.head _)) xsb_n))))) (hK9 v14 s13)
        · exact jr_sub (show ([7, 6, 5, 4, 0, 1, 2, 3] : List Nat).Nodup from by decide) (xsb_c (List.Mem.tail _ (List.Mem.tail _ (List.Mem.tail _ (List.Mem.tail _ (List.Mem.head _))))) (xsb_c (List.Mem.tail _ (List.Mem.tail _ (List.Mem.tail _ (List.Mem.tail _ (List.Mem.tail _ (List.Mem.head _)))))) (xsb_c (List.Mem.tail _ (List.Mem.tail _ (List.Mem.tail _ (List.Mem.tail _ (List.Mem.tail _ (List.Mem.tail _ (List.Mem.head _))))))) (xsb_c (List.Mem.tail _ (List.Mem.tail _ (List.Mem.tail _ (List.Mem.tail _ (List.Mem.tail _ (List.Mem.tail _ (List.Mem.tail _ (List.Mem.head _)))))))) (xsb_c (List.Mem.head _) xsb_n))))) (hK9 x1 sh)
noncomputable def fm_Turns_init_46  (K : xa_H → Option (xa_H)) : Nat → Int → Int → xa_H → Option (xa_H)
  | 0, _, _, _ => none
  | n + 1, x1, x2, sh =>
    if x1 ≤ x2 then
      K sh
    else
      if 24 ≤ x2 then
        K sh
      else
        fm_Turns_init_59 x2 (fun (v17 : Int) (s18 : xa_H) =>
          xnm (w32 (x2 + 1) : Int) fun v19 =>
          fm_Turns_init_46 K n v17 v19 s18) xFU x1 0 sh
theorem jl_Turns_init_46  (σ : xa_H)  (K : xa_H → Option (xa_H)) (hK46 : ∀ (sz : xa_H), J 64 184 [] [] sz jqV (K sz)) : ∀ (n : Nat) (x1 : Int) (x2 : Int) (sh : xa_H), J 64 46 [(0, xr 6 0), (1, xi x1), (2, xi x2)] [] sh jqV (fm_Turns_init_46 K n x1 x2 sh) := by
  intro n
  induction n with
  | zero => intro x1 x2 sh; exact jr_none
  | succ n ih46 =>
    intro x1 x2 sh
    rw [fm_Turns_init_46]
    refine jr_iload_n (e_64 rfl) rfl rfl ?_
    refine jr_iload_n (e_64 rfl) rfl rfl ?_
    refine jr_bri (c := x1 ≤ x2) (pt := 184) (pn := 51) (e_64 rfl) rfl rfl (fun h1 => ?_) (fun h1 => ?_)
    · exact jr_sub (show ([0, 1, 2] : List Nat).Nodup from by decide) xsb_n (hK46 sh)
    · refine jr_iload_n (e_64 rfl) rfl rfl ?_
      refine jr_bipush (e_64 rfl) rfl ?_
      refine jr_bri (c := 24 ≤ x2) (pt := 184) (pn := 57) (e_64 rfl) rfl rfl (fun h2 => ?_) (fun h2 => ?_)
      · exact jr_sub (show ([0, 1, 2] : List Nat).Nodup from by decide) xsb_n (hK46 sh)
      · refine jr_iconst (e_64 rfl) rfl ?_
        refine jr_istore_n (L' := [(3, xi 0), (0, xr 6 0), (1, xi x1), (2, xi x2)]) (e_64 rfl) rfl rfl rfl ?_
        refine jr_sub (show ([3, 0, 1, 2] : List Nat).Nodup from by decide) (xsb_c (List.Mem.tail _ (List.Mem.head _)) (xsb_c (List.Mem.tail _ (List.Mem.tail _ (List.Mem.head _))) (xsb_c (List.Mem.tail _ (List.Mem.tail _ (List.Mem.tail _ (List.Mem.head _)))) (xsb_c (List.Mem.head _) xsb_n)))) (jl_Turns_init_59 x2 σ _ (fun v17 s18 => ?_) xFU x1 0 sh)
        refine jr_iinc (L2 := fun c => [(2, xi c), (0, xr 6 0), (1, xi v17)]) (e_64 rfl) rfl rfl rfl (fun _ => rfl) (fun v19 => ?_)
        refine jr_goto (pc' := 46) (e_64 rfl) rfl ?_
        exact jr_sub (show ([2, 0, 1] : List Nat).Nodup from by decide) (xsb_c (List.Mem.tail _ (List.Mem.head _)) (xsb_c (List.Mem.tail _ (List.Mem.tail _ (List.Mem.head _))) (xsb_c (List.Mem.head _) xsb_n))) (ih46 v17 v19 s18)
noncomputable def fm_Turns_init (σ : xa_H) : Option (xa_H) :=
  xnm (xup σ 31 0 ((0 : Int).toNat) 1) fun s1 =>
  xnm (xup s1 31 0 ((1 : Int).toNat) 2) fun s2 =>
  xnm (xup s2 31 0 ((2 : Int).toNat) 3) fun s3 =>
  fm_Turns_init_46 (fun (s20 : xa_H) =>
    some s20) xFU 1 0 s3
theorem jm_Turns_init (σ : xa_H) : J 64 21 [(0, xr 6 0)] [] σ jqV (fm_Turns_init σ) := by
  unfold fm_Turns_init
  refine jr_aload_n (e_64 rfl) rfl rfl ?_
  refine jr_getr (K2 := 31) (i2 := 0) (e_64 rfl) rfl rfl rfl ?_
  refine jr_iconst (e_64 rfl) rfl ?_
  refine jr_iconst (e_64 rfl) rfl ?_
  refine jr_ast' (n := 72) (e_64 rfl) rfl rfl rfl rfl (by decide) ?_
  refine jr_nms (fun s1 => ?_)
  refine jr_aload_n (e_64 rfl) rfl rfl ?_
  refine jr_getr (K2 := 31) (i2 := 0) (e_64 rfl) rfl rfl rfl ?_
  refine jr_iconst (e_64 rfl) rfl ?_
  refine jr_iconst (e_64 rfl) rfl ?_
  refine jr_ast' (n := 72) (e_64 rfl) rfl rfl rfl rfl (by decide) ?_
  refine jr_nms (fun s2 => ?_)
  refine jr_aload_n (e_64 rfl) rfl rfl ?_
  refine jr_getr (K2 := 31) (i2 := 0) (e_64 rfl) rfl rfl rfl ?_
  refine jr_iconst (e_64 rfl) rfl ?_
  refine jr_iconst (e_64 rfl) rfl ?_
  refine jr_ast' (n := 72) (e_64 rfl) rfl rfl rfl rfl (by decide) ?_
  refine jr_nms (fun s3 => ?_)
  refine jr_iconst (e_64 rfl) rfl ?_
  refine jr_istore_n (L' := [(1, xi 1), (0, xr 6 0)]) (e_64 rfl) rfl rfl rfl ?_
  refine jr_iconst (e_64 rfl) rfl ?_
  refine jr_istore_n (L' := [(2, xi 0), (1, xi 1), (0, xr 6 0)]) (e_64 rfl) rfl rfl rfl ?_
  refine jr_sub (show ([2, 1, 0] : List Nat).Nodup from by decide) (xsb_c (List.Mem.tail _ (List.Mem.tail _ (List.Mem.head _))) (xsb_c (List.Mem.tail _ (List.Mem.head _)) (xsb_c (List.Mem.head _) xsb_n))) (jl_Turns_init_46 σ _ (fun s20 => ?_) xFU 1 0 s3)
  exact jr_retV (e_64 rfl)

theorem e_69 {pc : Nat} {en : xa_I} (h : xlk pc xc_69 = some en) : xcd 69 pc = some en := h
noncomputable def fm_Way_init (i0 : Nat) (σ : xa_H) : Option (xa_H) :=
  (fm_Way_measure i0 6 6 2 σ).bind fun s1 =>
  some s1
theorem jm_Way_init (i0 : Nat) (σ : xa_H) : J 69 22 [(0, xr 7 i0)] [] σ jqV (fm_Way_init i0 σ) := by
  unfold fm_Way_init
  refine jr_aload_n (e_69 rfl) rfl rfl ?_
  refine jr_bipush (e_69 rfl) rfl ?_
  refine jr_bipush (e_69 rfl) rfl ?_
  refine jr_iconst (e_69 rfl) rfl ?_
  refine jr_callV (as := [xr 7 i0, xi 6, xi 6, xi 2]) (S1 := []) (e_69 rfl) rfl rfl rfl rfl rfl rfl (jm_Way_measure i0 6 6 2 σ) rfl (fun s1 => ?_)
  exact jr_retV (e_69 rfl)

theorem e_200 {pc : Nat} {en : xa_I} (h : xlk pc xc_200 = some en) : xcd 200 pc = some en := h
noncomputable def fm_M_init_269 (f1 : Int) (K : xa_H → Option (xa_H)) : Nat → Int → xa_H → Option (xa_H)
  | 0, _, _ => none
  | n + 1, x2, sh =>
    if 4 ≤ x2 then
      K sh
    else
      if 0 ≤ (w32 ((w32 (4 * f1)) + x2)) ∧ (w32 ((w32 (4 * f1)) + x2)) < 16 then
        xnm (xup sh 59 0 ((w32 ((w32 (4 * f1)) + x2)).toNat) 1) fun s2 =>
        xnm (w32 (x2 + 1) : Int) fun v3 =>
        fm_M_init_269 f1 K n v3 s2
      else none
set_option maxRecDepth 20000 in
theorem jl_M_init_269 (f1 : Int) (σ : xa_H)  (K : xa_H → Option (xa_H)) (hK269 : ∀ (sz : xa_H), J 200 291 [(0, xr 9 0), (1, xi f1)] [] sz jqV (K sz)) : ∀ (n : Nat) (x2 : Int) (sh : xa_H), J 200 269 [(0, xr 9 0), (1, xi f1), (2, xi x2)] [] sh jqV (fm_M_init_269 f1 K n x2 sh) := by
  intro n
  induction n with
  | zero => intro x2 sh; exact jr_none
  | succ n ih269 =>
    intro x2 sh
    rw [fm_M_init_269]
    refine jr_iload_n (e_200 rfl) rfl rfl ?_
    refine jr_iconst (e_200 rfl) rfl ?_
    refine jr_bri (c := 4 ≤ x2) (pt := 291) (pn := 274) (e_200 rfl) rfl rfl (fun h1 => ?_) (fun h1 => ?_)
    · exact jr_sub (show ([0, 1, 2] : List Nat).Nodup from by decide) (xsb_c (List.Mem.head _) (xsb_c (List.Mem.tail _ (List.Mem.head _)) xsb_n)) (hK269 sh)
    · refine jr_aload_n (e_200 rfl) rfl rfl ?_
      refine jr_getr (K2 := 59) (i2 := 0) (e_200 rfl) rfl rfl rfl ?_
      refine jr_iconst (e_200 rfl) rfl ?_
      refine jr_iload_n (e_200 rfl) rfl rfl ?_
      refine jr_imul (e_200 rfl) rfl ?_
      refine jr_iload_n (e_200 rfl) rfl rfl ?_
      refine jr_iadd (e_200 rfl) rfl ?_
      refine jr_iconst (e_200 rfl) rfl ?_
      refine jr_ast (n := 16) (e_200 rfl) rfl rfl rfl rfl ?_
      refine jr_nms (fun s2 => ?_)
      refine jr_iinc (L2 := fun c => [(2, xi c), (0, xr 9 0), (1, xi f1)]) (e_200 rfl) rfl rfl rfl (fun _ => rfl) (fun v3 => ?_)
      refine jr_goto (pc' := 269) (e_200 rfl) rfl ?_
      exact jr_sub (show ([2, 0, 1] : List Nat).Nodup from by decide) (xsb_c (List.Mem.tail _ (List.Mem.head _)) (xsb_c (List.Mem.tail _ (List.Mem.tail _ (List.Mem.head _))) (xsb_c (List.Mem.head _) xsb_n))) (ih269 v3 s2)
noncomputable def fm_M_init_240  (K : xa_H → Option (xa_H)) : Nat → Int → xa_H → Option (xa_H)
  | 0, _, _ => none
  | n + 1, x1, sh =>
    if 4 ≤ x1 then
      K sh
    else
      if 0 ≤ x1 ∧ x1 < 5 then
        xnm (xup sh 62 0 x1.toNat (-6)) fun s2 =>
        if 0 ≤ x1 ∧ x1 < 4 then
          xnm (xup s2 60 0 x1.toNat 1) fun s3 =>
          if 0 ≤ x1 ∧ x1 < 4 then
            xnm (xup s3 61 0 x1.toNat 1) fun s4 =>
            fm_M_init_269 x1 (fun (s5 : xa_H) =>
              xnm (w32 (x1 + 1) : Int) fun v6 =>
              fm_M_init_240 K n v6 s5) xFU 0 s4
          else none
        else none
      else none
set_option maxRecDepth 20000 in
theorem jl_M_init_240  (σ : xa_H)  (K : xa_H → Option (xa_H)) (hK240 : ∀ (sz : xa_H), J 200 297 [(0, xr 9 0)] [] sz jqV (K sz)) : ∀ (n : Nat) (x1 : Int) (sh : xa_H), J 200 240 [(0, xr 9 0), (1, xi x1)] [] sh jqV (fm_M_init_240 K n x1 sh) := by
  intro n
  induction n with
  | zero => intro x1 sh; exact jr_none
  | succ n ih240 =>
    intro x1 sh
    rw [fm_M_init_240]
    refine jr_iload_n (e_200 rfl) rfl rfl ?_
    refine jr_iconst (e_200 rfl) rfl ?_
    refine jr_bri (c := 4 ≤ x1) (pt := 297) (pn := 245) (e_200 rfl) rfl rfl (fun h1 => ?_) (fun h1 => ?_)
    · exact jr_sub (show ([0, 1] : List Nat).Nodup from by decide) (xsb_c (List.Mem.head _) xsb_n) (hK240 sh)
    · refine jr_aload_n (e_200 rfl) rfl rfl ?_
      refine jr_getr (K2 := 62) (i2 := 0) (e_200 rfl) rfl rfl rfl ?_
      refine jr_iload_n (e_200 rfl) rfl rfl ?_
      refine jr_bipush (e_200 rfl) rfl ?_
      refine jr_ast (n := 5) (e_200 rfl) rfl rfl rfl rfl ?_
      refine jr_nms (fun s2 => ?_)
      refine jr_aload_n (e_200 rfl) rfl rfl ?_
      refine jr_getr (K2 := 60) (i2 := 0) (e_200 rfl) rfl rfl rfl ?_
      refine jr_iload_n (e_200 rfl) rfl rfl ?_
      refine jr_iconst (e_200 rfl) rfl ?_
      refine jr_ast (n := 4) (e_200 rfl) rfl rfl rfl rfl ?_
      refine jr_nms (fun s3 => ?_)
      refine jr_aload_n (e_200 rfl) rfl rfl ?_
      refine jr_getr (K2 := 61) (i2 := 0) (e_200 rfl) rfl rfl rfl ?_
      refine jr_iload_n (e_200 rfl) rfl rfl ?_
      refine jr_iconst (e_200 rfl) rfl ?_
      refine jr_ast (n := 4) (e_200 rfl) rfl rfl rfl rfl ?_
      refine jr_nms (fun s4 => ?_)
      refine jr_iconst (e_200 rfl) rfl ?_
      refine jr_istore_n (L' := [(2, xi 0), (0, xr 9 0), (1, xi x1)]) (e_200 rfl) rfl rfl rfl ?_
      refine jr_sub (show ([2, 0, 1] : List Nat).Nodup from by decide) (xsb_c (List.Mem.tail _ (List.Mem.head _)) (xsb_c (List.Mem.tail _ (List.Mem.tail _ (List.Mem.head _))) (xsb_c (List.Mem.head _) xsb_n))) (jl_M_init_269 x1 σ _ (fun s5 => ?_) xFU 0 s4)
      refine jr_iinc (L2 := fun c => [(1, xi c), (0, xr 9 0)]) (e_200 rfl) rfl rfl rfl (fun _ => rfl) (fun v6 => ?_)
      refine jr_goto (pc' := 240) (e_200 rfl) rfl ?_
      exact jr_sub (show ([1, 0] : List Nat).Nodup from by decide) (xsb_c (List.Mem.tail _ (List.Mem.head _)) (xsb_c (List.Mem.head _) xsb_n)) (ih240 v6 s5)
noncomputable def fm_M_init (σ : xa_H) : Option (xa_H) :=
  xnm (xup σ 9 0 3 6) fun s1 =>
  xnm (xup s1 9 0 4 6) fun s2 =>
  xnm (xup s2 9 0 5 2) fun s3 =>
  fm_M_init_240 (fun (s7 : xa_H) =>
    (fm_M_findTables s7).bind fun s8 =>
    some s8) xFU 0 s3
theorem jm_M_init (σ : xa_H) : J 200 221 [(0, xr 9 0)] [] σ jqV (fm_M_init σ) := by
  unfold fm_M_init
  refine jr_aload_n (e_200 rfl) rfl rfl ?_
  refine jr_bipush (e_200 rfl) rfl ?_
  refine jr_put (e_200 rfl) rfl rfl rfl ?_
  refine jr_nms (fun s1 => ?_)
  refine jr_aload_n (e_200 rfl) rfl rfl ?_
  refine jr_bipush (e_200 rfl) rfl ?_
  refine jr_put (e_200 rfl) rfl rfl rfl ?_
  refine jr_nms (fun s2 => ?_)
  refine jr_aload_n (e_200 rfl) rfl rfl ?_
  refine jr_iconst (e_200 rfl) rfl ?_
  refine jr_put (e_200 rfl) rfl rfl rfl ?_
  refine jr_nms (fun s3 => ?_)
  refine jr_iconst (e_200 rfl) rfl ?_
  refine jr_istore_n (L' := [(1, xi 0), (0, xr 9 0)]) (e_200 rfl) rfl rfl rfl ?_
  refine jr_sub (show ([1, 0] : List Nat).Nodup from by decide) (xsb_c (List.Mem.tail _ (List.Mem.head _)) (xsb_c (List.Mem.head _) xsb_n)) (jl_M_init_240 σ _ (fun s7 => ?_) xFU 0 s3)
  refine jr_aload_n (e_200 rfl) rfl rfl ?_
  refine jr_callV (as := [xr 9 0]) (S1 := []) (e_200 rfl) rfl rfl rfl rfl rfl rfl (jm_M_findTables s7) rfl (fun s8 => ?_)
  exact jr_retV (e_200 rfl)
