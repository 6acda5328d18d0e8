/-! methods as functions, printed by wip/whole/gen/gen5.py -/
theorem e_125 {pc : Nat} {en : xa_I} (h : xlk pc xc_125 = some en) : xcd 125 pc = some en := h
noncomputable def fm_S_forgetWay (σ : xa_H) : Option (xa_H) :=
  (fm_Search_forget σ).bind fun s1 =>
  (fm_Answer_forget s1).bind fun s2 =>
  some s2
theorem jm_S_forgetWay (σ : xa_H) : J 125 0 [(0, xr 8 0)] [] σ jqV (fm_S_forgetWay σ) := by
  unfold fm_S_forgetWay
  refine jr_aload_n (e_125 rfl) rfl rfl ?_
  refine jr_getr (K2 := 3) (i2 := 0) (e_125 rfl) rfl rfl rfl ?_
  refine jr_callV (as := [xr 3 0]) (S1 := []) (e_125 rfl) rfl rfl rfl rfl rfl rfl (jm_Search_forget σ) rfl (fun s1 => ?_)
  refine jr_aload_n (e_125 rfl) rfl rfl ?_
  refine jr_getr (K2 := 0) (i2 := 0) (e_125 rfl) rfl rfl rfl ?_
  refine jr_callV (as := [xr 0 0]) (S1 := []) (e_125 rfl) rfl rfl rfl rfl rfl rfl (jm_Answer_forget s1) rfl (fun s2 => ?_)
  exact jr_retV (e_125 rfl)

theorem e_82 {pc : Nat} {en : xa_I} (h : xlk pc xc_82 = some en) : xcd 82 pc = some en := h
noncomputable def fm_S_size_51 (f1 : Int) (f2 : Int) (f3 : Int) (K : xa_H → Option (Int × xa_H)) : Nat → Int → xa_H → Option (Int × xa_H)
  | 0, _, _ => none
  | n + 1, x4, sh =>
    if 4 ≤ x4 then
      K sh
    else
      if x4 < 0 then
        xnm (w32 (x4 + 1) : Int) fun v2 =>
        fm_S_size_51 f1 f2 f3 K n v2 sh
      else
        if 4 ≤ x4 then
          xnm (w32 (x4 + 1) : Int) fun v3 =>
          fm_S_size_51 f1 f2 f3 K n v3 sh
        else
          if 0 ≤ x4 ∧ x4 < 4 then
            xnm (xup sh 5 (4 * 0 + x4.toNat) 1 (-6)) fun s4 =>
            xnm (xup s4 5 (4 * 0 + x4.toNat) 3 0) fun s5 =>
            xnm (w32 (x4 + 1) : Int) fun v6 =>
            fm_S_size_51 f1 f2 f3 K n v6 s5
          else none
theorem jl_S_size_51 (f1 : Int) (f2 : Int) (f3 : Int) (σ : xa_H)  (K : xa_H → Option (Int × xa_H)) (hK51 : ∀ (sz : xa_H), J 82 92 [(0, xr 8 0), (1, xi f1), (2, xi f2), (3, xi f3)] [] sz jqW (K sz)) : ∀ (n : Nat) (x4 : Int) (sh : xa_H), J 82 51 [(0, xr 8 0), (1, xi f1), (2, xi f2), (3, xi f3), (4, xi x4)] [] sh jqW (fm_S_size_51 f1 f2 f3 K n x4 sh) := by
  intro n
  induction n with
  | zero => intro x4 sh; exact jr_none
  | succ n ih51 =>
    intro x4 sh
    rw [fm_S_size_51]
    refine jr_iload (e_82 rfl) rfl rfl ?_
    refine jr_iconst (e_82 rfl) rfl ?_
    refine jr_bri (c := 4 ≤ x4) (pt := 92) (pn := 57) (e_82 rfl) rfl rfl (fun h1 => ?_) (fun h1 => ?_)
    · exact jr_sub (show ([0, 1, 2, 3, 4] : List Nat).Nodup from by decide) (xsb_c (List.Mem.head _) (xsb_c (List.Mem.tail _ (List.Mem.head _)) (xsb_c (List.Mem.tail _ (List.Mem.tail _ (List.Mem.head _))) (xsb_c (List.Mem.tail _ (List.Mem.tail _ (List.Mem.tail _ (List.Mem.head _)))) xsb_n)))) (hK51 sh)
    · refine jr_aload_n (e_82 rfl) rfl rfl ?_
      refine jr_getr (K2 := 4) (i2 := 0) (e_82 rfl) rfl rfl rfl ?_
      refine jr_iload (e_82 rfl) rfl rfl ?_
      refine jr_inl (as := [xr 4 0, xi x4]) (S1 := []) (L' := [(0, xr 4 0), (1, xi x4)]) (e_82 rfl) rfl rfl rfl rfl rfl rfl rfl rfl ?_
      refine jr_iload_n (e_51 rfl) rfl rfl ?_
      refine jr_bri (c := x4 < 0) (pt := 22) (pn := 4) (e_51 rfl) rfl rfl (fun h1002 => ?_) (fun h1002 => ?_)
      · refine jr_null (e_51 rfl) rfl ?_
        refine jr_retC (e_51 rfl) ?_
        refine jr_astore (L' := [(5, xn), (0, xr 8 0), (1, xi f1), (2, xi f2), (3, xi f3), (4, xi x4)]) (e_82 rfl) rfl rfl rfl ?_
        refine jr_aload (e_82 rfl) rfl rfl ?_
        refine jr_s (q := (86, [(5, xn), (0, xr 8 0), (1, xi f1), (2, xi f2), (3, xi f3), (4, xi x4)], [], sh)) (e_82 rfl) rfl rfl ?_
        refine jr_iinc (L2 := fun c => [(4, xi c), (5, xn), (0, xr 8 0), (1, xi f1), (2, xi f2), (3, xi f3)]) (e_82 rfl) rfl rfl rfl (fun _ => rfl) (fun v2 => ?_)
        refine jr_goto (pc' := 51) (e_82 rfl) rfl ?_
        exact jr_sub (show ([4, 5, 0, 1, 2, 3] : List Nat).Nodup from by decide) (xsb_c (List.Mem.tail _ (List.Mem.tail _ (List.Mem.head _))) (xsb_c (List.Mem.tail _ (List.Mem.tail _ (List.Mem.tail _ (List.Mem.head _)))) (xsb_c (List.Mem.tail _ (List.Mem.tail _ (List.Mem.tail _ (List.Mem.tail _ (List.Mem.head _))))) (xsb_c (List.Mem.tail _ (List.Mem.tail _ (List.Mem.tail _ (List.Mem.tail _ (List.Mem.tail _ (List.Mem.head _)))))) (xsb_c (List.Mem.head _) xsb_n))))) (ih51 v2 sh)
      · refine jr_iload_n (e_51 rfl) rfl rfl ?_
        refine jr_aload_n (e_51 rfl) rfl rfl ?_
        refine jr_getr (K2 := 24) (i2 := 0) (e_51 rfl) rfl rfl rfl ?_
        refine jr_alen (a := 4) (e_51 rfl) rfl (by decide +kernel) rfl ?_
        refine jr_bri (c := 4 ≤ x4) (pt := 22) (pn := 13) (e_51 rfl) rfl rfl (fun h1003 => ?_) (fun h1003 => ?_)
        · refine jr_null (e_51 rfl) rfl ?_
          refine jr_retC (e_51 rfl) ?_
          refine jr_astore (L' := [(5, xn), (0, xr 8 0), (1, xi f1), (2, xi f2), (3, xi f3), (4, xi x4)]) (e_82 rfl) rfl rfl rfl ?_
          refine jr_aload (e_82 rfl) rfl rfl ?_
          refine jr_s (q := (86, [(5, xn), (0, xr 8 0), (1, xi f1), (2, xi f2), (3, xi f3), (4, xi x4)], [], sh)) (e_82 rfl) rfl rfl ?_
          refine jr_iinc (L2 := fun c => [(4, xi c), (5, xn), (0, xr 8 0), (1, xi f1), (2, xi f2), (3, xi f3)]) (e_82 rfl) rfl rfl rfl (fun _ => rfl) (fun v3 => ?_)
          refine jr_goto (pc' := 51) (e_82 rfl) rfl ?_
          exact jr_sub (show ([4, 5, 0, 1, 2, 3] : List Nat).Nodup from by decide) (xsb_c (List.Mem.tail _ (List.Mem.tail _ (List.Mem.head _))) (xsb_c (List.Mem.tail _ (List.Mem.tail _ (List.Mem.tail _ (List.Mem.head _)))) (xsb_c (List.Mem.tail _ (List.Mem.tail _ (List.Mem.tail _ (List.Mem.tail _ (List.Mem.head _))))) (xsb_c (List.Mem.tail _ (List.Mem.tail _ (List.Mem.tail _ (List.Mem.tail _ (List.Mem.tail _ (List.Mem.head _)))))) (xsb_c (List.Mem.head _) xsb_n))))) (ih51 v3 sh)
        · refine jr_aload_n (e_51 rfl) rfl rfl ?_
          refine jr_getr (K2 := 24) (i2 := 0) (e_51 rfl) rfl rfl rfl ?_
          refine jr_iload_n (e_51 rfl) rfl rfl ?_
          refine jr_aald (n := 4) (K2 := 5) (i2 := (4 * 0 + x4.toNat)) (e_51 rfl) rfl (by decide +kernel) rfl rfl ?_
          refine jr_goto (pc' := 23) (e_51 rfl) rfl ?_
          refine jr_retC (e_51 rfl) ?_
          refine jr_astore (L' := [(5, xr 5 (4 * 0 + x4.toNat)), (0, xr 8 0), (1, xi f1), (2, xi f2), (3, xi f3), (4, xi x4)]) (e_82 rfl) rfl rfl rfl ?_
          refine jr_aload (e_82 rfl) rfl rfl ?_
          refine jr_s (q := (73, [(5, xr 5 (4 * 0 + x4.toNat)), (0, xr 8 0), (1, xi f1), (2, xi f2), (3, xi f3), (4, xi x4)], [], sh)) (e_82 rfl) rfl rfl ?_
          refine jr_aload (e_82 rfl) rfl rfl ?_
          refine jr_bipush (e_82 rfl) rfl ?_
          refine jr_put (e_82 rfl) rfl rfl rfl ?_
          refine jr_nms (fun s4 => ?_)
          refine jr_aload (e_82 rfl) rfl rfl ?_
          refine jr_iconst (e_82 rfl) rfl ?_
          refine jr_put (e_82 rfl) rfl rfl rfl ?_
          refine jr_nms (fun s5 => ?_)
          refine jr_iinc (L2 := fun c => [(4, xi c), (5, xr 5 (4 * 0 + x4.toNat)), (0, xr 8 0), (1, xi f1), (2, xi f2), (3, xi f3)]) (e_82 rfl) rfl rfl rfl (fun _ => rfl) (fun v6 => ?_)
          refine jr_goto (pc' := 51) (e_82 rfl) rfl ?_
          exact jr_sub (show ([4, 5, 0, 1, 2, 3] : List Nat).Nodup from by decide) (xsb_c (List.Mem.tail _ (List.Mem.tail _ (List.Mem.head _))) (xsb_c (List.Mem.tail _ (List.Mem.tail _ (List.Mem.tail _ (List.Mem.head _)))) (xsb_c (List.Mem.tail _ (List.Mem.tail _ (List.Mem.tail _ (List.Mem.tail _ (List.Mem.head _))))) (xsb_c (List.Mem.tail _ (List.Mem.tail _ (List.Mem.tail _ (List.Mem.tail _ (List.Mem.tail _ (List.Mem.head _)))))) (xsb_c (List.Mem.head _) xsb_n))))) (ih51 v6 s5)
noncomputable def fm_S_size (a1 : Int) (a2 : Int) (a3 : Int) (σ : xa_H) : Option (Int × xa_H) :=
  if a1 < 1 then
    some ((-2), σ)
  else
    if 6 < a1 then
      some ((-2), σ)
    else
      if a2 < 1 then
        some ((-2), σ)
      else
        if 6 < a2 then
          some ((-2), σ)
        else
          if a3 < 1 then
            some ((-2), σ)
          else
            if a3 ≤ 4 then
              (fm_Way_resize 0 a1 a2 a3 σ).bind fun s7 =>
              fm_S_size_51 a1 a2 a3 (fun (s8 : xa_H) =>
                (fm_S_forgetWay s8).bind fun s9 =>
                some ((w32 ((w32 (a1 * a2)) * a3)), s9)) xFU 0 s7
            else
              some ((-2), σ)
theorem jm_S_size (a1 : Int) (a2 : Int) (a3 : Int) (σ : xa_H) : J 82 0 [(0, xr 8 0), (1, xi a1), (2, xi a2), (3, xi a3)] [] σ jqW (fm_S_size a1 a2 a3 σ) := by
  unfold fm_S_size
  refine jr_iload_n (e_82 rfl) rfl rfl ?_
  refine jr_iconst (e_82 rfl) rfl ?_
  refine jr_bri (c := a1 < 1) (pt := 32) (pn := 5) (e_82 rfl) rfl rfl (fun h1 => ?_) (fun h1 => ?_)
  · refine jr_bipush (e_82 rfl) rfl ?_
    exact jr_retW (e_82 rfl) rfl
  · refine jr_iload_n (e_82 rfl) rfl rfl ?_
    refine jr_bipush (e_82 rfl) rfl ?_
    refine jr_bri (c := 6 < a1) (pt := 32) (pn := 11) (e_82 rfl) rfl rfl (fun h2 => ?_) (fun h2 => ?_)
    · refine jr_bipush (e_82 rfl) rfl ?_
      exact jr_retW (e_82 rfl) rfl
    · refine jr_iload_n (e_82 rfl) rfl rfl ?_
      refine jr_iconst (e_82 rfl) rfl ?_
      refine jr_bri (c := a2 < 1) (pt := 32) (pn := 16) (e_82 rfl) rfl rfl (fun h3 => ?_) (fun h3 => ?_)
      · refine jr_bipush (e_82 rfl) rfl ?_
        exact jr_retW (e_82 rfl) rfl
      · refine jr_iload_n (e_82 rfl) rfl rfl ?_
        refine jr_bipush (e_82 rfl) rfl ?_
        refine jr_bri (c := 6 < a2) (pt := 32) (pn := 22) (e_82 rfl) rfl rfl (fun h4 => ?_) (fun h4 => ?_)
        · refine jr_bipush (e_82 rfl) rfl ?_
          exact jr_retW (e_82 rfl) rfl
        · refine jr_iload_n (e_82 rfl) rfl rfl ?_
          refine jr_iconst (e_82 rfl) rfl ?_
          refine jr_bri (c := a3 < 1) (pt := 32) (pn := 27) (e_82 rfl) rfl rfl (fun h5 => ?_) (fun h5 => ?_)
          · refine jr_bipush (e_82 rfl) rfl ?_
            exact jr_retW (e_82 rfl) rfl
          · refine jr_iload_n (e_82 rfl) rfl rfl ?_
            refine jr_iconst (e_82 rfl) rfl ?_
            refine jr_bri (c := a3 ≤ 4) (pt := 35) (pn := 32) (e_82 rfl) rfl rfl (fun h6 => ?_) (fun h6 => ?_)
            · refine jr_aload_n (e_82 rfl) rfl rfl ?_
              refine jr_getr (K2 := 4) (i2 := 0) (e_82 rfl) rfl rfl rfl ?_
              refine jr_getr (K2 := 7) (i2 := 0) (e_82 rfl) rfl rfl rfl ?_
              refine jr_iload_n (e_82 rfl) rfl rfl ?_
              refine jr_iload_n (e_82 rfl) rfl rfl ?_
              refine jr_iload_n (e_82 rfl) rfl rfl ?_
              refine jr_callV (as := [xr 7 0, xi a1, xi a2, xi a3]) (S1 := []) (e_82 rfl) rfl rfl rfl rfl rfl rfl (jm_Way_resize 0 a1 a2 a3 σ) rfl (fun s7 => ?_)
              refine jr_iconst (e_82 rfl) rfl ?_
              refine jr_istore (L' := [(4, xi 0), (0, xr 8 0), (1, xi a1), (2, xi a2), (3, xi a3)]) (e_82 rfl) rfl rfl rfl ?_
              refine jr_sub (show ([4, 0, 1, 2, 3] : List Nat).Nodup from by decide) (xsb_c (List.Mem.tail _ (List.Mem.head _)) (xsb_c (List.Mem.tail _ (List.Mem.tail _ (List.Mem.head _))) (xsb_c (List.Mem.tail _ (List.Mem.tail _ (List.Mem.tail _ (List.Mem.head _)))) (xsb_c (List.Mem.tail _ (List.Mem.tail _ (List.Mem.tail _ (List.Mem.tail _ (List.Mem.head _))))) (xsb_c (List.Mem.head _) xsb_n))))) (jl_S_size_51 a1 a2 a3 σ _ (fun s8 => ?_) xFU 0 s7)
              refine jr_aload_n (e_82 rfl) rfl rfl ?_
              refine jr_callV (as := [xr 8 0]) (S1 := []) (e_82 rfl) rfl rfl rfl rfl rfl rfl (jm_S_forgetWay s8) rfl (fun s9 => ?_)
              refine jr_iload_n (e_82 rfl) rfl rfl ?_
              refine jr_iload_n (e_82 rfl) rfl rfl ?_
              refine jr_imul (e_82 rfl) rfl ?_
              refine jr_iload_n (e_82 rfl) rfl rfl ?_
              refine jr_imul (e_82 rfl) rfl ?_
              exact jr_retW (e_82 rfl) rfl
            · refine jr_bipush (e_82 rfl) rfl ?_
              exact jr_retW (e_82 rfl) rfl

theorem e_83 {pc : Nat} {en : xa_I} (h : xlk pc xc_83 = some en) : xcd 83 pc = some en := h
noncomputable def fm_S_fill (a1 : Int) (a2 : Int) (a3 : Int) (σ : xa_H) : Option (Int × xa_H) :=
  (fm_Way_placeOf 0 a1 σ).bind fun v1 =>
  (fm_Way_placeOf 0 a2 σ).bind fun v2 =>
  if v1 < 0 then
    some ((-1), σ)
  else
    if 0 ≤ v2 then
      (fm_S_xOf v1).bind fun v5 =>
      (fm_S_xOf v2).bind fun v6 =>
      xj (fun (v8 : Int) =>
        if a3 < 0 then
          some ((-2), σ)
        else
          if 6 ≤ a3 then
            some ((-2), σ)
          else
            if v8 = 0 then
              some ((-2), σ)
            else
              (fm_S_forgetWay σ).bind fun s20 =>
              xb2 (fm_Way_paint 0 v1 v2 a3 s20) fun v21 s22 =>
              some (v21, s22)) fun K9 =>
      if v6 < v5 then
        K9 0
      else
        (fm_S_yOf v1).bind fun v11 =>
        (fm_S_yOf v2).bind fun v12 =>
        if v12 < v11 then
          K9 0
        else
          (fm_S_zOf v1).bind fun v14 =>
          (fm_S_zOf v2).bind fun v15 =>
          if v15 < v14 then
            K9 0
          else
            K9 1
    else
      some ((-1), σ)
theorem jm_S_fill (a1 : Int) (a2 : Int) (a3 : Int) (σ : xa_H) : J 83 0 [(0, xr 8 0), (1, xi a1), (2, xi a2), (3, xi a3)] [] σ jqW (fm_S_fill a1 a2 a3 σ) := by
  unfold fm_S_fill
  refine jr_aload_n (e_83 rfl) rfl rfl ?_
  refine jr_getr (K2 := 4) (i2 := 0) (e_83 rfl) rfl rfl rfl ?_
  refine jr_getr (K2 := 7) (i2 := 0) (e_83 rfl) rfl rfl rfl ?_
  refine jr_iload_n (e_83 rfl) rfl rfl ?_
  refine jr_callP (as := [xr 7 0, xi a1]) (S1 := []) (e_83 rfl) rfl rfl rfl rfl rfl rfl (jm_Way_placeOf 0 a1 σ) rfl (fun v1 => ?_)
  refine jr_istore (L' := [(4, xi v1), (0, xr 8 0), (1, xi a1), (2, xi a2), (3, xi a3)]) (e_83 rfl) rfl rfl rfl ?_
  refine jr_aload_n (e_83 rfl) rfl rfl ?_
  refine jr_getr (K2 := 4) (i2 := 0) (e_83 rfl) rfl rfl rfl ?_
  refine jr_getr (K2 := 7) (i2 := 0) (e_83 rfl) rfl rfl rfl ?_
  refine jr_iload_n (e_83 rfl) rfl rfl ?_
  refine jr_callP (as := [xr 7 0, xi a2]) (S1 := []) (e_83 rfl) rfl rfl rfl rfl rfl rfl (jm_Way_placeOf 0 a2 σ) rfl (fun v2 => ?_)
  refine jr_istore (L' := [(5, xi v2), (4, xi v1), (0, xr 8 0), (1, xi a1), (2, xi a2), (3, xi a3)]) (e_83 rfl) rfl rfl rfl ?_
  refine jr_iload (e_83 rfl) rfl rfl ?_
  refine jr_bri (c := v1 < 0) (pt := 36) (pn := 31) (e_83 rfl) rfl rfl (fun h3 => ?_) (fun h3 => ?_)
  · refine jr_iconst (e_83 rfl) rfl ?_
    exact jr_retW (e_83 rfl) rfl
  · refine jr_iload (e_83 rfl) rfl rfl ?_
    refine jr_bri (c := 0 ≤ v2) (pt := 38) (pn := 36) (e_83 rfl) rfl rfl (fun h4 => ?_) (fun h4 => ?_)
    · refine jr_iload (e_83 rfl) rfl rfl ?_
      refine jr_callP (as := [xi v1]) (S1 := []) (e_83 rfl) rfl rfl rfl rfl rfl rfl (jm_S_xOf v1 σ) rfl (fun v5 => ?_)
      refine jr_iload (e_83 rfl) rfl rfl ?_
      refine jr_callP (as := [xi v2]) (S1 := [xi v5]) (e_83 rfl) rfl rfl rfl rfl rfl rfl (jm_S_xOf v2 σ) rfl (fun v6 => ?_)
      refine jr_j (fun K9 => ∀ (v8 : Int), J 83 82 [(0, xr 8 0), (3, xi a3), (4, xi v1), (5, xi v2)] [xi v8] σ jqW (K9 v8)) (fun v8 => ?_) (fun K9 hK9 => ?_)
      · refine jr_istore (L' := [(6, xi v8), (0, xr 8 0), (3, xi a3), (4, xi v1), (5, xi v2)]) (e_83 rfl) rfl rfl rfl ?_
        refine jr_iload_n (e_83 rfl) rfl rfl ?_
        refine jr_bri (c := a3 < 0) (pt := 99) (pn := 88) (e_83 rfl) rfl rfl (fun h17 => ?_) (fun h17 => ?_)
        · refine jr_bipush (e_83 rfl) rfl ?_
          exact jr_retW (e_83 rfl) rfl
        · refine jr_iload_n (e_83 rfl) rfl rfl ?_
          refine jr_bipush (e_83 rfl) rfl ?_
          refine jr_bri (c := 6 ≤ a3) (pt := 99) (pn := 94) (e_83 rfl) rfl rfl (fun h18 => ?_) (fun h18 => ?_)
          · refine jr_bipush (e_83 rfl) rfl ?_
            exact jr_retW (e_83 rfl) rfl
          · refine jr_iload (e_83 rfl) rfl rfl ?_
            refine jr_brx (c := v8 = 0) (pt := 102) (pn := 99) (e_83 rfl) rfl rfl (fun h19 => ?_) (fun h19 => ?_)
            · refine jr_bipush (e_83 rfl) rfl ?_
              exact jr_retW (e_83 rfl) rfl
            · refine jr_aload_n (e_83 rfl) rfl rfl ?_
              refine jr_callV (as := [xr 8 0]) (S1 := []) (e_83 rfl) rfl rfl rfl rfl rfl rfl (jm_S_forgetWay σ) rfl (fun s20 => ?_)
              refine jr_aload_n (e_83 rfl) rfl rfl ?_
              refine jr_getr (K2 := 4) (i2 := 0) (e_83 rfl) rfl rfl rfl ?_
              refine jr_getr (K2 := 7) (i2 := 0) (e_83 rfl) rfl rfl rfl ?_
              refine jr_iload (e_83 rfl) rfl rfl ?_
              refine jr_iload (e_83 rfl) rfl rfl ?_
              refine jr_iload_n (e_83 rfl) rfl rfl ?_
              refine jr_callX (as := [xr 7 0, xi v1, xi v2, xi a3]) (S1 := []) (e_83 rfl) rfl rfl rfl rfl rfl rfl (jm_Way_paint 0 v1 v2 a3 s20) rfl (fun v21 s22 => ?_)
              exact jr_retW (e_83 rfl) rfl
      · refine jr_bri (c := v6 < v5) (pt := 81) (pn := 51) (e_83 rfl) rfl rfl (fun h10 => ?_) (fun h10 => ?_)
        · refine jr_iconst (e_83 rfl) rfl ?_
          exact jr_sub (show ([5, 4, 0, 1, 2, 3] : List Nat).Nodup from by decide) (xsb_c (List.Mem.tail _ (List.Mem.tail _ (List.Mem.head _))) (xsb_c (List.Mem.tail _ (List.Mem.tail _ (List.Mem.tail _ (List.Mem.tail _ (List.Mem.tail _ (List.Mem.head _)))))) (xsb_c (List.Mem.tail _ (List.Mem.head _)) (xsb_c (List.Mem.head _) xsb_n)))) (hK9 0)
        · refine jr_iload (e_83 rfl) rfl rfl ?_
          refine jr_callP (as := [xi v1]) (S1 := []) (e_83 rfl) rfl rfl rfl rfl rfl rfl (jm_S_yOf v1 σ) rfl (fun v11 => ?_)
          refine jr_iload (e_83 rfl) rfl rfl ?_
          refine jr_callP (as := [xi v2]) (S1 := [xi v11]) (e_83 rfl) rfl rfl rfl rfl rfl rfl (jm_S_yOf v2 σ) rfl (fun v12 => ?_)
          refine jr_bri (c := v12 < v11) (pt := 81) (pn := 64) (e_83 rfl) rfl rfl (fun h13 => ?_) (fun h13 => ?_)
          · refine jr_iconst (e_83 rfl) rfl ?_
            exact jr_sub (show ([5, 4, 0, 1, 2, 3] : List Nat).Nodup from by decide) (xsb_c (List.Mem.tail _ (List.Mem.tail _ (List.Mem.head _))) (xsb_c (List.Mem.tail _ (List.Mem.tail _ (List.Mem.tail _ (List.Mem.tail _ (List.Mem.tail _ (List.Mem.head _)))))) (xsb_c (List.Mem.tail _ (List.Mem.head _)) (xsb_c (List.Mem.head _) xsb_n)))) (hK9 0)
          · refine jr_iload (e_83 rfl) rfl rfl ?_
            refine jr_callP (as := [xi v1]) (S1 := []) (e_83 rfl) rfl rfl rfl rfl rfl rfl (jm_S_zOf v1 σ) rfl (fun v14 => ?_)
            refine jr_iload (e_83 rfl) rfl rfl ?_
            refine jr_callP (as := [xi v2]) (S1 := [xi v14]) (e_83 rfl) rfl rfl rfl rfl rfl rfl (jm_S_zOf v2 σ) rfl (fun v15 => ?_)
            refine jr_bri (c := v15 < v14) (pt := 81) (pn := 77) (e_83 rfl) rfl rfl (fun h16 => ?_) (fun h16 => ?_)
            · refine jr_iconst (e_83 rfl) rfl ?_
              exact jr_sub (show ([5, 4, 0, 1, 2, 3] : List Nat).Nodup from by decide) (xsb_c (List.Mem.tail _ (List.Mem.tail _ (List.Mem.head _))) (xsb_c (List.Mem.tail _ (List.Mem.tail _ (List.Mem.tail _ (List.Mem.tail _ (List.Mem.tail _ (List.Mem.head _)))))) (xsb_c (List.Mem.tail _ (List.Mem.head _)) (xsb_c (List.Mem.head _) xsb_n)))) (hK9 0)
            · refine jr_iconst (e_83 rfl) rfl ?_
              refine jr_goto (pc' := 82) (e_83 rfl) rfl ?_
              exact jr_sub (show ([5, 4, 0, 1, 2, 3] : List Nat).Nodup from by decide) (xsb_c (List.Mem.tail _ (List.Mem.tail _ (List.Mem.head _))) (xsb_c (List.Mem.tail _ (List.Mem.tail _ (List.Mem.tail _ (List.Mem.tail _ (List.Mem.tail _ (List.Mem.head _)))))) (xsb_c (List.Mem.tail _ (List.Mem.head _)) (xsb_c (List.Mem.head _) xsb_n)))) (hK9 1)
    · refine jr_iconst (e_83 rfl) rfl ?_
      exact jr_retW (e_83 rfl) rfl

theorem e_84 {pc : Nat} {en : xa_I} (h : xlk pc xc_84 = some en) : xcd 84 pc = some en := h
noncomputable def fm_S_cell (a1 : Int) (σ : xa_H) : Option (Int) :=
  (fm_Way_placeOf 0 a1 σ).bind fun v1 =>
  if 0 ≤ v1 then
    (fm_Way_kindAt 0 v1 σ).bind fun v3 =>
    some v3
  else
    some (-1)
theorem jm_S_cell (a1 : Int) (σ : xa_H) : J 84 0 [(0, xr 8 0), (1, xi a1)] [] σ (jqP σ) (fm_S_cell a1 σ) := by
  unfold fm_S_cell
  refine jr_aload_n (e_84 rfl) rfl rfl ?_
  refine jr_getr (K2 := 4) (i2 := 0) (e_84 rfl) rfl rfl rfl ?_
  refine jr_getr (K2 := 7) (i2 := 0) (e_84 rfl) rfl rfl rfl ?_
  refine jr_iload_n (e_84 rfl) rfl rfl ?_
  refine jr_callP (as := [xr 7 0, xi a1]) (S1 := []) (e_84 rfl) rfl rfl rfl rfl rfl rfl (jm_Way_placeOf 0 a1 σ) rfl (fun v1 => ?_)
  refine jr_istore_n (L' := [(2, xi v1), (0, xr 8 0), (1, xi a1)]) (e_84 rfl) rfl rfl rfl ?_
  refine jr_iload_n (e_84 rfl) rfl rfl ?_
  refine jr_bri (c := 0 ≤ v1) (pt := 20) (pn := 16) (e_84 rfl) rfl rfl (fun h2 => ?_) (fun h2 => ?_)
  · refine jr_aload_n (e_84 rfl) rfl rfl ?_
    refine jr_getr (K2 := 4) (i2 := 0) (e_84 rfl) rfl rfl rfl ?_
    refine jr_getr (K2 := 7) (i2 := 0) (e_84 rfl) rfl rfl rfl ?_
    refine jr_iload_n (e_84 rfl) rfl rfl ?_
    refine jr_callP (as := [xr 7 0, xi v1]) (S1 := []) (e_84 rfl) rfl rfl rfl rfl rfl rfl (jm_Way_kindAt 0 v1 σ) rfl (fun v3 => ?_)
    exact jr_retP (e_84 rfl) rfl
  · refine jr_iconst (e_84 rfl) rfl ?_
    refine jr_goto (pc' := 31) (e_84 rfl) rfl ?_
    exact jr_retP (e_84 rfl) rfl

theorem e_85 {pc : Nat} {en : xa_I} (h : xlk pc xc_85 = some en) : xcd 85 pc = some en := h
noncomputable def fm_S_say (a1 : Int) (σ : xa_H) : Option (Int × xa_H) :=
  if a1 < 33 then
    some ((-2), σ)
  else
    if a1 ≤ 126 then
      (fm_Pad_isFull σ).bind fun v3 =>
      if v3 = 0 then
        xb2 (fm_Pad_add a1 σ) fun v5 s6 =>
        some (v5, s6)
      else
        some ((-4), σ)
    else
      some ((-2), σ)
theorem jm_S_say (a1 : Int) (σ : xa_H) : J 85 0 [(0, xr 8 0), (1, xi a1)] [] σ jqW (fm_S_say a1 σ) := by
  unfold fm_S_say
  refine jr_iload_n (e_85 rfl) rfl rfl ?_
  refine jr_bipush (e_85 rfl) rfl ?_
  refine jr_bri (c := a1 < 33) (pt := 12) (pn := 6) (e_85 rfl) rfl rfl (fun h1 => ?_) (fun h1 => ?_)
  · refine jr_bipush (e_85 rfl) rfl ?_
    exact jr_retW (e_85 rfl) rfl
  · refine jr_iload_n (e_85 rfl) rfl rfl ?_
    refine jr_bipush (e_85 rfl) rfl ?_
    refine jr_bri (c := a1 ≤ 126) (pt := 15) (pn := 12) (e_85 rfl) rfl rfl (fun h2 => ?_) (fun h2 => ?_)
    · refine jr_aload_n (e_85 rfl) rfl rfl ?_
      refine jr_getr (K2 := 2) (i2 := 0) (e_85 rfl) rfl rfl rfl ?_
      refine jr_callP (as := [xr 2 0]) (S1 := []) (e_85 rfl) rfl rfl rfl rfl rfl rfl (jm_Pad_isFull σ) rfl (fun v3 => ?_)
      refine jr_bri (c := v3 = 0) (pt := 30) (pn := 25) (e_85 rfl) rfl rfl (fun h4 => ?_) (fun h4 => ?_)
      · refine jr_aload_n (e_85 rfl) rfl rfl ?_
        refine jr_getr (K2 := 2) (i2 := 0) (e_85 rfl) rfl rfl rfl ?_
        refine jr_iload_n (e_85 rfl) rfl rfl ?_
        refine jr_callX (as := [xr 2 0, xi a1]) (S1 := []) (e_85 rfl) rfl rfl rfl rfl rfl rfl (jm_Pad_add a1 σ) rfl (fun v5 s6 => ?_)
        exact jr_retW (e_85 rfl) rfl
      · refine jr_bipush (e_85 rfl) rfl ?_
        refine jr_goto (pc' := 38) (e_85 rfl) rfl ?_
        exact jr_retW (e_85 rfl) rfl
    · refine jr_bipush (e_85 rfl) rfl ?_
      exact jr_retW (e_85 rfl) rfl

theorem e_86 {pc : Nat} {en : xa_I} (h : xlk pc xc_86 = some en) : xcd 86 pc = some en := h
noncomputable def fm_S_wipe (σ : xa_H) : Option (Int × xa_H) :=
  xb2 (fm_Pad_clear σ) fun v1 s2 =>
  some (v1, s2)
theorem jm_S_wipe (σ : xa_H) : J 86 0 [(0, xr 8 0)] [] σ jqW (fm_S_wipe σ) := by
  unfold fm_S_wipe
  refine jr_aload_n (e_86 rfl) rfl rfl ?_
  refine jr_getr (K2 := 2) (i2 := 0) (e_86 rfl) rfl rfl rfl ?_
  refine jr_callX (as := [xr 2 0]) (S1 := []) (e_86 rfl) rfl rfl rfl rfl rfl rfl (jm_Pad_clear σ) rfl (fun v1 s2 => ?_)
  exact jr_retW (e_86 rfl) rfl

theorem e_127 {pc : Nat} {en : xa_I} (h : xlk pc xc_127 = some en) : xcd 127 pc = some en := h
noncomputable def fm_S_isUpTo (a0 : Int) (a1 : Int) : Option (Int) :=
  if a0 < 0 then
    some 0
  else
    if a1 < a0 then
      some 0
    else
      some 1
theorem jm_S_isUpTo (a0 : Int) (a1 : Int) (σ : xa_H) : J 127 0 [(0, xi a0), (1, xi a1)] [] σ (jqP σ) (fm_S_isUpTo a0 a1) := by
  unfold fm_S_isUpTo
  refine jr_iload_n (e_127 rfl) rfl rfl ?_
  refine jr_bri (c := a0 < 0) (pt := 13) (pn := 4) (e_127 rfl) rfl rfl (fun h1 => ?_) (fun h1 => ?_)
  · refine jr_iconst (e_127 rfl) rfl ?_
    exact jr_retPz (e_127 rfl) rfl rfl
  · refine jr_iload_n (e_127 rfl) rfl rfl ?_
    refine jr_iload_n (e_127 rfl) rfl rfl ?_
    refine jr_bri (c := a1 < a0) (pt := 13) (pn := 9) (e_127 rfl) rfl rfl (fun h2 => ?_) (fun h2 => ?_)
    · refine jr_iconst (e_127 rfl) rfl ?_
      exact jr_retPz (e_127 rfl) rfl rfl
    · refine jr_iconst (e_127 rfl) rfl ?_
      refine jr_goto (pc' := 14) (e_127 rfl) rfl ?_
      exact jr_retPz (e_127 rfl) rfl rfl

theorem e_87 {pc : Nat} {en : xa_I} (h : xlk pc xc_87 = some en) : xcd 87 pc = some en := h
noncomputable def fm_S_fault (a1 : Int) (σ : xa_H) : Option (Int) :=
  (fm_S_isUpTo a1 1).bind fun v1 =>
  if v1 = 0 then
    some (-2)
  else
    if a1 = 0 then
      (fm_Pad_thingFault σ).bind fun v4 =>
      some v4
    else
      (fm_Pad_rowFault σ).bind fun v5 =>
      some v5
theorem jm_S_fault (a1 : Int) (σ : xa_H) : J 87 0 [(0, xr 8 0), (1, xi a1)] [] σ (jqP σ) (fm_S_fault a1 σ) := by
  unfold fm_S_fault
  refine jr_iload_n (e_87 rfl) rfl rfl ?_
  refine jr_iconst (e_87 rfl) rfl ?_
  refine jr_callP (as := [xi a1, xi 1]) (S1 := []) (e_87 rfl) rfl rfl rfl rfl rfl rfl (jm_S_isUpTo a1 1 σ) rfl (fun v1 => ?_)
  refine jr_brx (c := v1 = 0) (pt := 11) (pn := 8) (e_87 rfl) rfl rfl (fun h2 => ?_) (fun h2 => ?_)
  · refine jr_bipush (e_87 rfl) rfl ?_
    exact jr_retP (e_87 rfl) rfl
  · refine jr_iload_n (e_87 rfl) rfl rfl ?_
    refine jr_brx (c := a1 = 0) (pt := 25) (pn := 15) (e_87 rfl) rfl rfl (fun h3 => ?_) (fun h3 => ?_)
    · refine jr_aload_n (e_87 rfl) rfl rfl ?_
      refine jr_getr (K2 := 2) (i2 := 0) (e_87 rfl) rfl rfl rfl ?_
      refine jr_callP (as := [xr 2 0]) (S1 := []) (e_87 rfl) rfl rfl rfl rfl rfl rfl (jm_Pad_thingFault σ) rfl (fun v4 => ?_)
      refine jr_goto (pc' := 32) (e_87 rfl) rfl ?_
      exact jr_retP (e_87 rfl) rfl
    · refine jr_aload_n (e_87 rfl) rfl rfl ?_
      refine jr_getr (K2 := 2) (i2 := 0) (e_87 rfl) rfl rfl rfl ?_
      refine jr_callP (as := [xr 2 0]) (S1 := []) (e_87 rfl) rfl rfl rfl rfl rfl rfl (jm_Pad_rowFault σ) rfl (fun v5 => ?_)
      exact jr_retP (e_87 rfl) rfl

theorem e_88 {pc : Nat} {en : xa_I} (h : xlk pc xc_88 = some en) : xcd 88 pc = some en := h
noncomputable def fm_S_thing (a1 : Int) (σ : xa_H) : Option (Int × xa_H) :=
  if a1 < 0 then
    some ((-1), σ)
  else
    if 4 ≤ a1 then
      some ((-1), σ)
    else
      if 0 ≤ a1 ∧ a1 < 4 then
        (fm_Pad_thingFault σ).bind fun v1 =>
        if v1 = (-6) then
          (fm_Thing_tell (4 * 0 + a1.toNat) σ).bind fun s3 =>
          xb2 (fm_Pad_clear s3) fun v4 s5 =>
          (fm_S_forgetWay s5).bind fun s6 =>
          some ((s6 5 (4 * 0 + a1.toNat) 0), s6)
        else
          some ((-5), σ)
      else none
theorem jm_S_thing (a1 : Int) (σ : xa_H) : J 88 0 [(0, xr 8 0), (1, xi a1)] [] σ jqW (fm_S_thing a1 σ) := by
  unfold fm_S_thing
  refine jr_aload_n (e_88 rfl) rfl rfl ?_
  refine jr_getr (K2 := 4) (i2 := 0) (e_88 rfl) rfl rfl rfl ?_
  refine jr_iload_n (e_88 rfl) rfl rfl ?_
  refine jr_inl (as := [xr 4 0, xi a1]) (S1 := []) (L' := [(0, xr 4 0), (1, xi a1)]) (e_88 rfl) rfl rfl rfl rfl rfl rfl rfl rfl ?_
  refine jr_iload_n (e_51 rfl) rfl rfl ?_
  refine jr_bri (c := a1 < 0) (pt := 22) (pn := 4) (e_51 rfl) rfl rfl (fun h1001 => ?_) (fun h1001 => ?_)
  · refine jr_null (e_51 rfl) rfl ?_
    refine jr_retC (e_51 rfl) ?_
    refine jr_astore_n (L' := [(2, xn), (0, xr 8 0), (1, xi a1)]) (e_88 rfl) rfl rfl rfl ?_
    refine jr_aload_n (e_88 rfl) rfl rfl ?_
    refine jr_s (q := (13, [(2, xn), (0, xr 8 0), (1, xi a1)], [], σ)) (e_88 rfl) rfl rfl ?_
    refine jr_iconst (e_88 rfl) rfl ?_
    exact jr_retW (e_88 rfl) rfl
  · refine jr_iload_n (e_51 rfl) rfl rfl ?_
    refine jr_aload_n (e_51 rfl) rfl rfl ?_
    refine jr_getr (K2 := 24) (i2 := 0) (e_51 rfl) rfl rfl rfl ?_
    refine jr_alen (a := 4) (e_51 rfl) rfl (by decide +kernel) rfl ?_
    refine jr_bri (c := 4 ≤ a1) (pt := 22) (pn := 13) (e_51 rfl) rfl rfl (fun h1002 => ?_) (fun h1002 => ?_)
    · refine jr_null (e_51 rfl) rfl ?_
      refine jr_retC (e_51 rfl) ?_
      refine jr_astore_n (L' := [(2, xn), (0, xr 8 0), (1, xi a1)]) (e_88 rfl) rfl rfl rfl ?_
      refine jr_aload_n (e_88 rfl) rfl rfl ?_
      refine jr_s (q := (13, [(2, xn), (0, xr 8 0), (1, xi a1)], [], σ)) (e_88 rfl) rfl rfl ?_
      refine jr_iconst (e_88 rfl) rfl ?_
      exact jr_retW (e_88 rfl) rfl
    · refine jr_aload_n (e_51 rfl) rfl rfl ?_
      refine jr_getr (K2 := 24) (i2 := 0) (e_51 rfl) rfl rfl rfl ?_
      refine jr_iload_n (e_51 rfl) rfl rfl ?_
      refine jr_aald (n := 4) (K2 := 5) (i2 := (4 * 0 + a1.toNat)) (e_51 rfl) rfl (by decide +kernel) rfl rfl ?_
      refine jr_goto (pc' := 23) (e_51 rfl) rfl ?_
      refine jr_retC (e_51 rfl) ?_
      refine jr_astore_n (L' := [(2, xr 5 (4 * 0 + a1.toNat)), (0, xr 8 0), (1, xi a1)]) (e_88 rfl) rfl rfl rfl ?_
      refine jr_aload_n (e_88 rfl) rfl rfl ?_
      refine jr_s (q := (15, [(2, xr 5 (4 * 0 + a1.toNat)), (0, xr 8 0), (1, xi a1)], [], σ)) (e_88 rfl) rfl rfl ?_
      refine jr_aload_n (e_88 rfl) rfl rfl ?_
      refine jr_getr (K2 := 2) (i2 := 0) (e_88 rfl) rfl rfl rfl ?_
      refine jr_callP (as := [xr 2 0]) (S1 := []) (e_88 rfl) rfl rfl rfl rfl rfl rfl (jm_Pad_thingFault σ) rfl (fun v1 => ?_)
      refine jr_bipush (e_88 rfl) rfl ?_
      refine jr_bri (c := v1 = (-6)) (pt := 30) (pn := 27) (e_88 rfl) rfl rfl (fun h2 => ?_) (fun h2 => ?_)
      · refine jr_aload_n (e_88 rfl) rfl rfl ?_
        refine jr_aload_n (e_88 rfl) rfl rfl ?_
        refine jr_getr (K2 := 2) (i2 := 0) (e_88 rfl) rfl rfl rfl ?_
        refine jr_callV (as := [xr 5 (4 * 0 + a1.toNat), xr 2 0]) (S1 := []) (e_88 rfl) rfl rfl rfl rfl rfl rfl (jm_Thing_tell (4 * 0 + a1.toNat) σ) rfl (fun s3 => ?_)
        refine jr_aload_n (e_88 rfl) rfl rfl ?_
        refine jr_getr (K2 := 2) (i2 := 0) (e_88 rfl) rfl rfl rfl ?_
        refine jr_callX (as := [xr 2 0]) (S1 := []) (e_88 rfl) rfl rfl rfl rfl rfl rfl (jm_Pad_clear s3) rfl (fun v4 s5 => ?_)
        refine jr_pop (e_88 rfl) rfl rfl ?_
        refine jr_aload_n (e_88 rfl) rfl rfl ?_
        refine jr_callV (as := [xr 8 0]) (S1 := []) (e_88 rfl) rfl rfl rfl rfl rfl rfl (jm_S_forgetWay s5) rfl (fun s6 => ?_)
        refine jr_aload_n (e_88 rfl) rfl rfl ?_
        refine jr_geti (e_88 rfl) rfl (by decide +kernel) ?_
        exact jr_retW (e_88 rfl) rfl
      · refine jr_bipush (e_88 rfl) rfl ?_
        exact jr_retW (e_88 rfl) rfl

theorem e_89 {pc : Nat} {en : xa_I} (h : xlk pc xc_89 = some en) : xcd 89 pc = some en := h
noncomputable def fm_S_cube (a1 : Int) (a2 : Int) (a3 : Int) (σ : xa_H) : Option (Int) :=
  if a1 < 0 then
    some (-1)
  else
    if 4 ≤ a1 then
      some (-1)
    else
      if 0 ≤ a1 ∧ a1 < 4 then
        if a2 < 0 then
          some (-1)
        else
          if a2 < (σ 5 (4 * 0 + a1.toNat) 0) then
            (fm_S_isUpTo a3 3).bind fun v3 =>
            if v3 = 0 then
              some (-2)
            else
              if a3 = 3 then
                (fm_Thing_groupOf (4 * 0 + a1.toNat) a2 σ).bind fun v6 =>
                if v6 = 0 then
                  some (-6)
                else
                  some (w32 (v6 - 1))
              else
                xnm ((if 0 ≤ (σ 5 (4 * 0 + a1.toNat) 1) then (σ 5 (4 * 0 + a1.toNat) 2) else 0) : Int) fun v9 =>
                (fm_Thing_along (4 * 0 + a1.toNat) v9 a2 a3 σ).bind fun v11 =>
                some v11
          else
            some (-1)
      else none
theorem jm_S_cube (a1 : Int) (a2 : Int) (a3 : Int) (σ : xa_H) : J 89 0 [(0, xr 8 0), (1, xi a1), (2, xi a2), (3, xi a3)] [] σ (jqP σ) (fm_S_cube a1 a2 a3 σ) := by
  unfold fm_S_cube
  refine jr_aload_n (e_89 rfl) rfl rfl ?_
  refine jr_getr (K2 := 4) (i2 := 0) (e_89 rfl) rfl rfl rfl ?_
  refine jr_iload_n (e_89 rfl) rfl rfl ?_
  refine jr_inl (as := [xr 4 0, xi a1]) (S1 := []) (L' := [(0, xr 4 0), (1, xi a1)]) (e_89 rfl) rfl rfl rfl rfl rfl rfl rfl rfl ?_
  refine jr_iload_n (e_51 rfl) rfl rfl ?_
  refine jr_bri (c := a1 < 0) (pt := 22) (pn := 4) (e_51 rfl) rfl rfl (fun h1001 => ?_) (fun h1001 => ?_)
  · refine jr_null (e_51 rfl) rfl ?_
    refine jr_retC (e_51 rfl) ?_
    refine jr_astore (L' := [(4, xn), (0, xr 8 0), (1, xi a1), (2, xi a2), (3, xi a3)]) (e_89 rfl) rfl rfl rfl ?_
    refine jr_aload (e_89 rfl) rfl rfl ?_
    refine jr_s (q := (28, [(4, xn), (0, xr 8 0), (1, xi a1), (2, xi a2), (3, xi a3)], [], σ)) (e_89 rfl) rfl rfl ?_
    refine jr_iconst (e_89 rfl) rfl ?_
    exact jr_retP (e_89 rfl) rfl
  · refine jr_iload_n (e_51 rfl) rfl rfl ?_
    refine jr_aload_n (e_51 rfl) rfl rfl ?_
    refine jr_getr (K2 := 24) (i2 := 0) (e_51 rfl) rfl rfl rfl ?_
    refine jr_alen (a := 4) (e_51 rfl) rfl (by decide +kernel) rfl ?_
    refine jr_bri (c := 4 ≤ a1) (pt := 22) (pn := 13) (e_51 rfl) rfl rfl (fun h1002 => ?_) (fun h1002 => ?_)
    · refine jr_null (e_51 rfl) rfl ?_
      refine jr_retC (e_51 rfl) ?_
      refine jr_astore (L' := [(4, xn), (0, xr 8 0), (1, xi a1), (2, xi a2), (3, xi a3)]) (e_89 rfl) rfl rfl rfl ?_
      refine jr_aload (e_89 rfl) rfl rfl ?_
      refine jr_s (q := (28, [(4, xn), (0, xr 8 0), (1, xi a1), (2, xi a2), (3, xi a3)], [], σ)) (e_89 rfl) rfl rfl ?_
      refine jr_iconst (e_89 rfl) rfl ?_
      exact jr_retP (e_89 rfl) rfl
    · refine jr_aload_n (e_51 rfl) rfl rfl ?_
      refine jr_getr (K2 := 24) (i2 := 0) (e_51 rfl) rfl rfl rfl ?_
      refine jr_iload_n (e_51 rfl) rfl rfl ?_
      refine jr_aald (n := 4) (K2 := 5) (i2 := (4 * 0 + a1.toNat)) (e_51 rfl) rfl (by decide +kernel) rfl rfl ?_
      refine jr_goto (pc' := 23) (e_51 rfl) rfl ?_
      refine jr_retC (e_51 rfl) ?_
      refine jr_astore (L' := [(4, xr 5 (4 * 0 + a1.toNat)), (0, xr 8 0), (1, xi a1), (2, xi a2), (3, xi a3)]) (e_89 rfl) rfl rfl rfl ?_
      refine jr_aload (e_89 rfl) rfl rfl ?_
      refine jr_s (q := (15, [(4, xr 5 (4 * 0 + a1.toNat)), (0, xr 8 0), (1, xi a1), (2, xi a2), (3, xi a3)], [], σ)) (e_89 rfl) rfl rfl ?_
      refine jr_iload_n (e_89 rfl) rfl rfl ?_
      refine jr_bri (c := a2 < 0) (pt := 28) (pn := 19) (e_89 rfl) rfl rfl (fun h1 => ?_) (fun h1 => ?_)
      · refine jr_iconst (e_89 rfl) rfl ?_
        exact jr_retP (e_89 rfl) rfl
      · refine jr_iload_n (e_89 rfl) rfl rfl ?_
        refine jr_aload (e_89 rfl) rfl rfl ?_
        refine jr_geti (e_89 rfl) rfl (by decide +kernel) ?_
        refine jr_bri (c := a2 < (σ 5 (4 * 0 + a1.toNat) 0)) (pt := 30) (pn := 28) (e_89 rfl) rfl rfl (fun h2 => ?_) (fun h2 => ?_)
        · refine jr_iload_n (e_89 rfl) rfl rfl ?_
          refine jr_iconst (e_89 rfl) rfl ?_
          refine jr_callP (as := [xi a3, xi 3]) (S1 := []) (e_89 rfl) rfl rfl rfl rfl rfl rfl (jm_S_isUpTo a3 3 σ) rfl (fun v3 => ?_)
          refine jr_brx (c := v3 = 0) (pt := 41) (pn := 38) (e_89 rfl) rfl rfl (fun h4 => ?_) (fun h4 => ?_)
          · refine jr_bipush (e_89 rfl) rfl ?_
            exact jr_retP (e_89 rfl) rfl
          · refine jr_iload_n (e_89 rfl) rfl rfl ?_
            refine jr_iconst (e_89 rfl) rfl ?_
            refine jr_brx (c := a3 = 3) (pt := 69) (pn := 46) (e_89 rfl) rfl rfl (fun h5 => ?_) (fun h5 => ?_)
            · refine jr_aload (e_89 rfl) rfl rfl ?_
              refine jr_iload_n (e_89 rfl) rfl rfl ?_
              refine jr_callP (as := [xr 5 (4 * 0 + a1.toNat), xi a2]) (S1 := []) (e_89 rfl) rfl rfl rfl rfl rfl rfl (jm_Thing_groupOf (4 * 0 + a1.toNat) a2 σ) rfl (fun v6 => ?_)
              refine jr_istore (L' := [(5, xi v6), (4, xr 5 (4 * 0 + a1.toNat)), (0, xr 8 0), (1, xi a1), (2, xi a2), (3, xi a3)]) (e_89 rfl) rfl rfl rfl ?_
              refine jr_iload (e_89 rfl) rfl rfl ?_
              refine jr_brx (c := v6 = 0) (pt := 64) (pn := 59) (e_89 rfl) rfl rfl (fun h7 => ?_) (fun h7 => ?_)
              · refine jr_bipush (e_89 rfl) rfl ?_
                refine jr_goto (pc' := 68) (e_89 rfl) rfl ?_
                exact jr_retP (e_89 rfl) rfl
              · refine jr_iload (e_89 rfl) rfl rfl ?_
                refine jr_iconst (e_89 rfl) rfl ?_
                refine jr_isub (e_89 rfl) rfl ?_
                exact jr_retP (e_89 rfl) rfl
            · refine jr_aload (e_89 rfl) rfl rfl ?_
              refine jr_aload_n (e_89 rfl) rfl rfl ?_
              refine jr_getr (K2 := 6) (i2 := 0) (e_89 rfl) rfl rfl rfl ?_
              refine jr_aload (e_89 rfl) rfl rfl ?_
              refine jr_geti (e_89 rfl) rfl (by decide +kernel) ?_
              refine jr_pm1 (fun T => ∀ v9 : Int, J 89 92 [(2, xi a2), (3, xi a3)] [xi v9, xr 6 0, xr 5 (4 * 0 + a1.toNat)] σ (jqP σ) (T v9)) (fun v9 => ?_) (fun T hT => ?_)
              · refine jr_iload_n (e_89 rfl) rfl rfl ?_
                refine jr_iload_n (e_89 rfl) rfl rfl ?_
                refine jr_callP (as := [xr 5 (4 * 0 + a1.toNat), xr 6 0, xi v9, xi a2, xi a3]) (S1 := []) (e_89 rfl) rfl rfl rfl rfl rfl rfl (jm_Thing_along (4 * 0 + a1.toNat) v9 a2 a3 σ) rfl (fun v11 => ?_)
                exact jr_retP (e_89 rfl) rfl
              · refine jr_br (c := 0 ≤ (σ 5 (4 * 0 + a1.toNat) 1)) (pt := 87) (pn := 83) (e_89 rfl) rfl rfl (fun h10 => ?_) (fun h10 => ?_)
                · refine jr_aload (e_89 rfl) rfl rfl ?_
                  refine jr_geti (e_89 rfl) rfl (by decide +kernel) ?_
                  exact (jr_nme (if_pos h10) (jr_sub (show ([4, 0, 1, 2, 3] : List Nat).Nodup from by decide) (xsb_c (List.Mem.tail _ (List.Mem.tail _ (List.Mem.tail _ (List.Mem.head _)))) (xsb_c (List.Mem.tail _ (List.Mem.tail _ (List.Mem.tail _ (List.Mem.tail _ (List.Mem.head _))))) xsb_n)) (hT (σ 5 (4 * 0 + a1.toNat) 2))))
                · refine jr_iconst (e_89 rfl) rfl ?_
                  refine jr_goto (pc' := 92) (e_89 rfl) rfl ?_
                  exact (jr_nme (if_neg h10) (jr_sub (show ([4, 0, 1, 2, 3] : List Nat).Nodup from by decide) (xsb_c (List.Mem.tail _ (List.Mem.tail _ (List.Mem.tail _ (List.Mem.head _)))) (xsb_c (List.Mem.tail _ (List.Mem.tail _ (List.Mem.tail _ (List.Mem.tail _ (List.Mem.head _))))) xsb_n)) (hT 0)))
        · refine jr_iconst (e_89 rfl) rfl ?_
          exact jr_retP (e_89 rfl) rfl

theorem e_90 {pc : Nat} {en : xa_I} (h : xlk pc xc_90 = some en) : xcd 90 pc = some en := h
noncomputable def fm_S_cost (a1 : Int) (a2 : Int) (a3 : Int) (σ : xa_H) : Option (Int × xa_H) :=
  if a1 < 0 then
    if a1 = (-1) then
      if a2 < 0 then
        some ((-2), σ)
      else
        if 4 ≤ a2 then
          some ((-2), σ)
        else
          if a3 < 0 then
            some ((-2), σ)
          else
            if a3 ≤ 9 then
              if 0 ≤ a2 ∧ a2 < 4 then
                xnm ((σ 25 0 a2.toNat) : Int) fun v5 =>
                if 0 ≤ a2 ∧ a2 < 4 then
                  xnm (xup σ 25 0 a2.toNat a3) fun s6 =>
                  (fm_Answer_forget s6).bind fun s7 =>
                  some (v5, s7)
                else none
              else none
            else
              some ((-2), σ)
    else
      if a1 = (-2) then
        if a2 < 0 then
          some ((-2), σ)
        else
          if 4 ≤ a2 then
            some ((-2), σ)
          else
            if a3 < 0 then
              some ((-2), σ)
            else
              if a3 ≤ 9 then
                if 0 ≤ a2 ∧ a2 < 4 then
                  xnm ((σ 26 0 a2.toNat) : Int) fun v12 =>
                  if 0 ≤ a2 ∧ a2 < 4 then
                    xnm (xup σ 26 0 a2.toNat a3) fun s13 =>
                    (fm_Answer_forget s13).bind fun s14 =>
                    some (v12, s14)
                  else none
                else none
              else
                some ((-2), σ)
      else
        some ((-1), σ)
  else
    if 4 ≤ a1 then
      if a1 = (-1) then
        if a2 < 0 then
          some ((-2), σ)
        else
          if 4 ≤ a2 then
            some ((-2), σ)
          else
            if a3 < 0 then
              some ((-2), σ)
            else
              if a3 ≤ 9 then
                if 0 ≤ a2 ∧ a2 < 4 then
                  xnm ((σ 25 0 a2.toNat) : Int) fun v19 =>
                  if 0 ≤ a2 ∧ a2 < 4 then
                    xnm (xup σ 25 0 a2.toNat a3) fun s20 =>
                    (fm_Answer_forget s20).bind fun s21 =>
                    some (v19, s21)
                  else none
                else none
              else
                some ((-2), σ)
      else
        if a1 = (-2) then
          if a2 < 0 then
            some ((-2), σ)
          else
            if 4 ≤ a2 then
              some ((-2), σ)
            else
              if a3 < 0 then
                some ((-2), σ)
              else
                if a3 ≤ 9 then
                  if 0 ≤ a2 ∧ a2 < 4 then
                    xnm ((σ 26 0 a2.toNat) : Int) fun v26 =>
                    if 0 ≤ a2 ∧ a2 < 4 then
                      xnm (xup σ 26 0 a2.toNat a3) fun s27 =>
                      (fm_Answer_forget s27).bind fun s28 =>
                      some (v26, s28)
                    else none
                  else none
                else
                  some ((-2), σ)
        else
          some ((-1), σ)
    else
      if 0 ≤ a1 ∧ a1 < 4 then
        if a2 < 0 then
          some ((-2), σ)
        else
          if 4 ≤ a2 then
            some ((-2), σ)
          else
            if a3 < 0 then
              some ((-2), σ)
            else
              if a3 ≤ 9 then
                if 0 ≤ a2 ∧ a2 < 4 then
                  xnm ((σ 30 (4 * 0 + a1.toNat) a2.toNat) : Int) fun v33 =>
                  if 0 ≤ a2 ∧ a2 < 4 then
                    xnm (xup σ 30 (4 * 0 + a1.toNat) a2.toNat a3) fun s34 =>
                    (fm_Answer_forget s34).bind fun s35 =>
                    some (v33, s35)
                  else none
                else none
              else
                some ((-2), σ)
      else none
theorem jm_S_cost (a1 : Int) (a2 : Int) (a3 : Int) (σ : xa_H) : J 90 0 [(0, xr 8 0), (1, xi a1), (2, xi a2), (3, xi a3)] [] σ jqW (fm_S_cost a1 a2 a3 σ) := by
  unfold fm_S_cost
  refine jr_aload_n (e_90 rfl) rfl rfl ?_
  refine jr_getr (K2 := 4) (i2 := 0) (e_90 rfl) rfl rfl rfl ?_
  refine jr_iload_n (e_90 rfl) rfl rfl ?_
  refine jr_inl (as := [xr 4 0, xi a1]) (S1 := []) (L' := [(0, xr 4 0), (1, xi a1)]) (e_90 rfl) rfl rfl rfl rfl rfl rfl rfl rfl ?_
  refine jr_aload_n (e_52 rfl) rfl rfl ?_
  refine jr_iload_n (e_52 rfl) rfl rfl ?_
  refine jr_inl (as := [xr 4 0, xi a1]) (S1 := []) (L' := [(0, xr 4 0), (1, xi a1)]) (e_52 rfl) rfl rfl rfl rfl rfl rfl rfl rfl ?_
  refine jr_iload_n (e_51 rfl) rfl rfl ?_
  refine jr_bri (c := a1 < 0) (pt := 22) (pn := 4) (e_51 rfl) rfl rfl (fun h2001 => ?_) (fun h2001 => ?_)
  · refine jr_null (e_51 rfl) rfl ?_
    refine jr_retC (e_51 rfl) ?_
    refine jr_astore_n (L' := [(2, xn), (0, xr 4 0), (1, xi a1)]) (e_52 rfl) rfl rfl rfl ?_
    refine jr_aload_n (e_52 rfl) rfl rfl ?_
    refine jr_s (q := (15, [(2, xn), (0, xr 4 0), (1, xi a1)], [], σ)) (e_52 rfl) rfl rfl ?_
    refine jr_iload_n (e_52 rfl) rfl rfl ?_
    refine jr_iconst (e_52 rfl) rfl ?_
    refine jr_brx (c := a1 = (-1)) (pt := 27) (pn := 20) (e_52 rfl) rfl rfl (fun h1001 => ?_) (fun h1001 => ?_)
    · refine jr_aload_n (e_52 rfl) rfl rfl ?_
      refine jr_getr (K2 := 25) (i2 := 0) (e_52 rfl) rfl rfl rfl ?_
      refine jr_goto (pc' := 41) (e_52 rfl) rfl ?_
      refine jr_retC (e_52 rfl) ?_
      refine jr_astore (L' := [(4, xr 25 0), (0, xr 8 0), (1, xi a1), (2, xi a2), (3, xi a3)]) (e_90 rfl) rfl rfl rfl ?_
      refine jr_aload (e_90 rfl) rfl rfl ?_
      refine jr_s (q := (17, [(4, xr 25 0), (0, xr 8 0), (1, xi a1), (2, xi a2), (3, xi a3)], [], σ)) (e_90 rfl) rfl rfl ?_
      refine jr_iload_n (e_90 rfl) rfl rfl ?_
      refine jr_bri (c := a2 < 0) (pt := 38) (pn := 21) (e_90 rfl) rfl rfl (fun h1 => ?_) (fun h1 => ?_)
      · refine jr_bipush (e_90 rfl) rfl ?_
        exact jr_retW (e_90 rfl) rfl
      · refine jr_iload_n (e_90 rfl) rfl rfl ?_
        refine jr_aload (e_90 rfl) rfl rfl ?_
        refine jr_alen (a := 4) (e_90 rfl) rfl (by decide +kernel) rfl ?_
        refine jr_bri (c := 4 ≤ a2) (pt := 38) (pn := 28) (e_90 rfl) rfl rfl (fun h2 => ?_) (fun h2 => ?_)
        · refine jr_bipush (e_90 rfl) rfl ?_
          exact jr_retW (e_90 rfl) rfl
        · refine jr_iload_n (e_90 rfl) rfl rfl ?_
          refine jr_bri (c := a3 < 0) (pt := 38) (pn := 32) (e_90 rfl) rfl rfl (fun h3 => ?_) (fun h3 => ?_)
          · refine jr_bipush (e_90 rfl) rfl ?_
            exact jr_retW (e_90 rfl) rfl
          · refine jr_iload_n (e_90 rfl) rfl rfl ?_
            refine jr_bipush (e_90 rfl) rfl ?_
            refine jr_bri (c := a3 ≤ 9) (pt := 41) (pn := 38) (e_90 rfl) rfl rfl (fun h4 => ?_) (fun h4 => ?_)
            · refine jr_aload (e_90 rfl) rfl rfl ?_
              refine jr_iload_n (e_90 rfl) rfl rfl ?_
              refine jr_ald (n := 4) (e_90 rfl) rfl rfl rfl ?_
              refine jr_nm (fun v5 => ?_)
              refine jr_istore (L' := [(5, xi v5), (4, xr 25 0), (0, xr 8 0), (1, xi a1), (2, xi a2), (3, xi a3)]) (e_90 rfl) rfl rfl rfl ?_
              refine jr_aload (e_90 rfl) rfl rfl ?_
              refine jr_iload_n (e_90 rfl) rfl rfl ?_
              refine jr_iload_n (e_90 rfl) rfl rfl ?_
              refine jr_ast (n := 4) (e_90 rfl) rfl rfl rfl rfl ?_
              refine jr_nms (fun s6 => ?_)
              refine jr_aload_n (e_90 rfl) rfl rfl ?_
              refine jr_getr (K2 := 0) (i2 := 0) (e_90 rfl) rfl rfl rfl ?_
              refine jr_callV (as := [xr 0 0]) (S1 := []) (e_90 rfl) rfl rfl rfl rfl rfl rfl (jm_Answer_forget s6) rfl (fun s7 => ?_)
              refine jr_iload (e_90 rfl) rfl rfl ?_
              exact jr_retW (e_90 rfl) rfl
            · refine jr_bipush (e_90 rfl) rfl ?_
              exact jr_retW (e_90 rfl) rfl
    · refine jr_iload_n (e_52 rfl) rfl rfl ?_
      refine jr_bipush (e_52 rfl) rfl ?_
      refine jr_brx (c := a1 = (-2)) (pt := 40) (pn := 33) (e_52 rfl) rfl rfl (fun h1002 => ?_) (fun h1002 => ?_)
      · refine jr_aload_n (e_52 rfl) rfl rfl ?_
        refine jr_getr (K2 := 26) (i2 := 0) (e_52 rfl) rfl rfl rfl ?_
        refine jr_goto (pc' := 41) (e_52 rfl) rfl ?_
        refine jr_retC (e_52 rfl) ?_
        refine jr_astore (L' := [(4, xr 26 0), (0, xr 8 0), (1, xi a1), (2, xi a2), (3, xi a3)]) (e_90 rfl) rfl rfl rfl ?_
        refine jr_aload (e_90 rfl) rfl rfl ?_
        refine jr_s (q := (17, [(4, xr 26 0), (0, xr 8 0), (1, xi a1), (2, xi a2), (3, xi a3)], [], σ)) (e_90 rfl) rfl rfl ?_
        refine jr_iload_n (e_90 rfl) rfl rfl ?_
        refine jr_bri (c := a2 < 0) (pt := 38) (pn := 21) (e_90 rfl) rfl rfl (fun h8 => ?_) (fun h8 => ?_)
        · refine jr_bipush (e_90 rfl) rfl ?_
          exact jr_retW (e_90 rfl) rfl
        · refine jr_iload_n (e_90 rfl) rfl rfl ?_
          refine jr_aload (e_90 rfl) rfl rfl ?_
          refine jr_alen (a := 4) (e_90 rfl) rfl (by decide +kernel) rfl ?_
          refine jr_bri (c := 4 ≤ a2) (pt := 38) (pn := 28) (e_90 rfl) rfl rfl (fun h9 => ?_) (fun h9 => ?_)
          · refine jr_bipush (e_90 rfl) rfl ?_
            exact jr_retW (e_90 rfl) rfl
          · refine jr_iload_n (e_90 rfl) rfl rfl ?_
            refine jr_bri (c := a3 < 0) (pt := 38) (pn := 32) (e_90 rfl) rfl rfl (fun h10 => ?_) (fun h10 => ?_)
            · refine jr_bipush (e_90 rfl) rfl ?_
              exact jr_retW (e_90 rfl) rfl
            · refine jr_iload_n (e_90 rfl) rfl rfl ?_
              refine jr_bipush (e_90 rfl) rfl ?_
              refine jr_bri (c := a3 ≤ 9) (pt := 41) (pn := 38) (e_90 rfl) rfl rfl (fun h11 => ?_) (fun h11 => ?_)
              · refine jr_aload (e_90 rfl) rfl rfl ?_
                refine jr_iload_n (e_90 rfl) rfl rfl ?_
                refine jr_ald (n := 4) (e_90 rfl) rfl rfl rfl ?_
                refine jr_nm (fun v12 => ?_)
                refine jr_istore (L' := [(5, xi v12), (4, xr 26 0), (0, xr 8 0), (1, xi a1), (2, xi a2), (3, xi a3)]) (e_90 rfl) rfl rfl rfl ?_
                refine jr_aload (e_90 rfl) rfl rfl ?_
                refine jr_iload_n (e_90 rfl) rfl rfl ?_
                refine jr_iload_n (e_90 rfl) rfl rfl ?_
                refine jr_ast (n := 4) (e_90 rfl) rfl rfl rfl rfl ?_
                refine jr_nms (fun s13 => ?_)
                refine jr_aload_n (e_90 rfl) rfl rfl ?_
                refine jr_getr (K2 := 0) (i2 := 0) (e_90 rfl) rfl rfl rfl ?_
                refine jr_callV (as := [xr 0 0]) (S1 := []) (e_90 rfl) rfl rfl rfl rfl rfl rfl (jm_Answer_forget s13) rfl (fun s14 => ?_)
                refine jr_iload (e_90 rfl) rfl rfl ?_
                exact jr_retW (e_90 rfl) rfl
              · refine jr_bipush (e_90 rfl) rfl ?_
                exact jr_retW (e_90 rfl) rfl
      · refine jr_null (e_52 rfl) rfl ?_
        refine jr_retC (e_52 rfl) ?_
        refine jr_astore (L' := [(4, xn), (0, xr 8 0), (1, xi a1), (2, xi a2), (3, xi a3)]) (e_90 rfl) rfl rfl rfl ?_
        refine jr_aload (e_90 rfl) rfl rfl ?_
        refine jr_s (q := (15, [(4, xn), (0, xr 8 0), (1, xi a1), (2, xi a2), (3, xi a3)], [], σ)) (e_90 rfl) rfl rfl ?_
        refine jr_iconst (e_90 rfl) rfl ?_
        exact jr_retW (e_90 rfl) rfl
  · refine jr_iload_n (e_51 rfl) rfl rfl ?_
    refine jr_aload_n (e_51 rfl) rfl rfl ?_
    refine jr_getr (K2 := 24) (i2 := 0) (e_51 rfl) rfl rfl rfl ?_
    refine jr_alen (a := 4) (e_51 rfl) rfl (by decide +kernel) rfl ?_
    refine jr_bri (c := 4 ≤ a1) (pt := 22) (pn := 13) (e_51 rfl) rfl rfl (fun h2002 => ?_) (fun h2002 => ?_)
    · refine jr_null (e_51 rfl) rfl ?_
      refine jr_retC (e_51 rfl) ?_
      refine jr_astore_n (L' := [(2, xn), (0, xr 4 0), (1, xi a1)]) (e_52 rfl) rfl rfl rfl ?_
      refine jr_aload_n (e_52 rfl) rfl rfl ?_
      refine jr_s (q := (15, [(2, xn), (0, xr 4 0), (1, xi a1)], [], σ)) (e_52 rfl) rfl rfl ?_
      refine jr_iload_n (e_52 rfl) rfl rfl ?_
      refine jr_iconst (e_52 rfl) rfl ?_
      refine jr_brx (c := a1 = (-1)) (pt := 27) (pn := 20) (e_52 rfl) rfl rfl (fun h1003 => ?_) (fun h1003 => ?_)
      · refine jr_aload_n (e_52 rfl) rfl rfl ?_
        refine jr_getr (K2 := 25) (i2 := 0) (e_52 rfl) rfl rfl rfl ?_
        refine jr_goto (pc' := 41) (e_52 rfl) rfl ?_
        refine jr_retC (e_52 rfl) ?_
        refine jr_astore (L' := [(4, xr 25 0), (0, xr 8 0), (1, xi a1), (2, xi a2), (3, xi a3)]) (e_90 rfl) rfl rfl rfl ?_
        refine jr_aload (e_90 rfl) rfl rfl ?_
        refine jr_s (q := (17, [(4, xr 25 0), (0, xr 8 0), (1, xi a1), (2, xi a2), (3, xi a3)], [], σ)) (e_90 rfl) rfl rfl ?_
        refine jr_iload_n (e_90 rfl) rfl rfl ?_
        refine jr_bri (c := a2 < 0) (pt := 38) (pn := 21) (e_90 rfl) rfl rfl (fun h15 => ?_) (fun h15 => ?_)
        · refine jr_bipush (e_90 rfl) rfl ?_
          exact jr_retW (e_90 rfl) rfl
        · refine jr_iload_n (e_90 rfl) rfl rfl ?_
          refine jr_aload (e_90 rfl) rfl rfl ?_
          refine jr_alen (a := 4) (e_90 rfl) rfl (by decide +kernel) rfl ?_
          refine jr_bri (c := 4 ≤ a2) (pt := 38) (pn := 28) (e_90 rfl) rfl rfl (fun h16 => ?_) (fun h16 => ?_)
          · refine jr_bipush (e_90 rfl) rfl ?_
            exact jr_retW (e_90 rfl) rfl
          · refine jr_iload_n (e_90 rfl) rfl rfl ?_
            refine jr_bri (c := a3 < 0) (pt := 38) (pn := 32) (e_90 rfl) rfl rfl (fun h17 => ?_) (fun h17 => ?_)
            · refine jr_bipush (e_90 rfl) rfl ?_
              exact jr_retW (e_90 rfl) rfl
            · refine jr_iload_n (e_90 rfl) rfl rfl ?_
              refine jr_bipush (e_90 rfl) rfl ?_
              refine jr_bri (c := a3 ≤ 9) (pt := 41) (pn := 38) (e_90 rfl) rfl rfl (fun h18 => ?_) (fun h18 => ?_)
              · refine jr_aload (e_90 rfl) rfl rfl ?_
                refine jr_iload_n (e_90 rfl) rfl rfl ?_
                refine jr_ald (n := 4) (e_90 rfl) rfl rfl rfl ?_
                refine jr_nm (fun v19 => ?_)
                refine jr_istore (L' := [(5, xi v19), (4, xr 25 0), (0, xr 8 0), (1, xi a1), (2, xi a2), (3, xi a3)]) (e_90 rfl) rfl rfl rfl ?_
                refine jr_aload (e_90 rfl) rfl rfl ?_
                refine jr_iload_n (e_90 rfl) rfl rfl ?_
                refine jr_iload_n (e_90 rfl) rfl rfl ?_
                refine jr_ast (n := 4) (e_90 rfl) rfl rfl rfl rfl ?_
                refine jr_nms (fun s20 => ?_)
                refine jr_aload_n (e_90 rfl) rfl rfl ?_
                refine jr_getr (K2 := 0) (i2 := 0) (e_90 rfl) rfl rfl rfl ?_
                refine jr_callV (as := [xr 0 0]) (S1 := []) (e_90 rfl) rfl rfl rfl rfl rfl rfl (jm_Answer_forget s20) rfl (fun s21 => ?_)
                refine jr_iload (e_90 rfl) rfl rfl ?_
                exact jr_retW (e_90 rfl) rfl
              · refine jr_bipush (e_90 rfl) rfl ?_
                exact jr_retW (e_90 rfl) rfl
      · refine jr_iload_n (e_52 rfl) rfl rfl ?_
        refine jr_bipush (e_52 rfl) rfl ?_
        refine jr_brx (c := a1 = (-2)) (pt := 40) (pn := 33) (e_52 rfl) rfl rfl (fun h1004 => ?_) (fun h1004 => ?_)
        · refine jr_aload_n (e_52 rfl) rfl rfl ?_
          refine jr_getr (K2 := 26) (i2 := 0) (e_52 rfl) rfl rfl rfl ?_
          refine jr_goto (pc' := 41) (e_52 rfl) rfl ?_
          refine jr_retC (e_52 rfl) ?_
          refine jr_astore (L' := [(4, xr 26 0), (0, xr 8 0), (1, xi a1), (2, xi a2), (3, xi a3)]) (e_90 rfl) rfl rfl rfl ?_
          refine jr_aload (e_90 rfl) rfl rfl ?_
          refine jr_s (q := (17, [(4, xr 26 0), (0, xr 8 0), (1, xi a1), (2, xi a2), (3, xi a3)], [], σ)) (e_90 rfl) rfl rfl ?_
          refine jr_iload_n (e_90 rfl) rfl rfl ?_
          refine jr_bri (c := a2 < 0) (pt := 38) (pn := 21) (e_90 rfl) rfl rfl (fun h22 => ?_) (fun h22 => ?_)
          · refine jr_bipush (e_90 rfl) rfl ?_
            exact jr_retW (e_90 rfl) rfl
          · refine jr_iload_n (e_90 rfl) rfl rfl ?_
            refine jr_aload (e_90 rfl) rfl rfl ?_
            refine jr_alen (a := 4) (e_90 rfl) rfl (by decide +kernel) rfl ?_
            refine jr_bri (c := 4 ≤ a2) (pt := 38) (pn := 28) (e_90 rfl) rfl rfl (fun h23 => ?_) (fun h23 => ?_)
            · refine jr_bipush (e_90 rfl) rfl ?_
              exact jr_retW (e_90 rfl) rfl
            · refine jr_iload_n (e_90 rfl) rfl rfl ?_
              refine jr_bri (c := a3 < 0) (pt := 38) (pn := 32) (e_90 rfl) rfl rfl (fun h24 => ?_) (fun h24 => ?_)
              · refine jr_bipush (e_90 rfl) rfl ?_
                exact jr_retW (e_90 rfl) rfl
              · refine jr_iload_n (e_90 rfl) rfl rfl ?_
                refine jr_bipush (e_90 rfl) rfl ?_
                refine jr_bri (c := a3 ≤ 9) (pt := 41) (pn := 38) (e_90 rfl) rfl rfl (fun h25 => ?_) (fun h25 => ?_)
                · refine jr_aload (e_90 rfl) rfl rfl ?_
                  refine jr_iload_n (e_90 rfl) rfl rfl ?_
                  refine jr_ald (n := 4) (e_90 rfl) rfl rfl rfl ?_
                  refine jr_nm (fun v26 => ?_)
                  refine jr_istore (L' := [(5, xi v26), (4, xr 26 0), (0, xr 8 0), (1, xi a1), (2, xi a2), (3, xi a3)]) (e_90 rfl) rfl rfl rfl ?_
                  refine jr_aload (e_90 rfl) rfl rfl ?_
                  refine jr_iload_n (e_90 rfl) rfl rfl ?_
                  refine jr_iload_n (e_90 rfl) rfl rfl ?_
                  refine jr_ast (n := 4) (e_90 rfl) rfl rfl rfl rfl ?_
                  refine jr_nms (fun s27 => ?_)
                  refine jr_aload_n (e_90 rfl) rfl rfl ?_
                  refine jr_getr (K2 := 0) (i2 := 0) (e_90 rfl) rfl rfl rfl ?_
                  refine jr_callV (as := [xr 0 0]) (S1 := []) (e_90 rfl) rfl rfl rfl rfl rfl rfl (jm_Answer_forget s27) rfl (fun s28 => ?_)
                  refine jr_iload (e_90 rfl) rfl rfl ?_
                  exact jr_retW (e_90 rfl) rfl
                · refine jr_bipush (e_90 rfl) rfl ?_
                  exact jr_retW (e_90 rfl) rfl
        · refine jr_null (e_52 rfl) rfl ?_
          refine jr_retC (e_52 rfl) ?_
          refine jr_astore (L' := [(4, xn), (0, xr 8 0), (1, xi a1), (2, xi a2), (3, xi a3)]) (e_90 rfl) rfl rfl rfl ?_
          refine jr_aload (e_90 rfl) rfl rfl ?_
          refine jr_s (q := (15, [(4, xn), (0, xr 8 0), (1, xi a1), (2, xi a2), (3, xi a3)], [], σ)) (e_90 rfl) rfl rfl ?_
          refine jr_iconst (e_90 rfl) rfl ?_
          exact jr_retW (e_90 rfl) rfl
    · refine jr_aload_n (e_51 rfl) rfl rfl ?_
      refine jr_getr (K2 := 24) (i2 := 0) (e_51 rfl) rfl rfl rfl ?_
      refine jr_iload_n (e_51 rfl) rfl rfl ?_
      refine jr_aald (n := 4) (K2 := 5) (i2 := (4 * 0 + a1.toNat)) (e_51 rfl) rfl (by decide +kernel) rfl rfl ?_
      refine jr_goto (pc' := 23) (e_51 rfl) rfl ?_
      refine jr_retC (e_51 rfl) ?_
      refine jr_astore_n (L' := [(2, xr 5 (4 * 0 + a1.toNat)), (0, xr 4 0), (1, xi a1)]) (e_52 rfl) rfl rfl rfl ?_
      refine jr_aload_n (e_52 rfl) rfl rfl ?_
      refine jr_s (q := (10, [(2, xr 5 (4 * 0 + a1.toNat)), (0, xr 4 0), (1, xi a1)], [], σ)) (e_52 rfl) rfl rfl ?_
      refine jr_aload_n (e_52 rfl) rfl rfl ?_
      refine jr_getr (K2 := 30) (i2 := (4 * 0 + a1.toNat)) (e_52 rfl) rfl rfl rfl ?_
      refine jr_retC (e_52 rfl) ?_
      refine jr_astore (L' := [(4, xr 30 (4 * 0 + a1.toNat)), (0, xr 8 0), (1, xi a1), (2, xi a2), (3, xi a3)]) (e_90 rfl) rfl rfl rfl ?_
      refine jr_aload (e_90 rfl) rfl rfl ?_
      refine jr_s (q := (17, [(4, xr 30 (4 * 0 + a1.toNat)), (0, xr 8 0), (1, xi a1), (2, xi a2), (3, xi a3)], [], σ)) (e_90 rfl) rfl rfl ?_
      refine jr_iload_n (e_90 rfl) rfl rfl ?_
      refine jr_bri (c := a2 < 0) (pt := 38) (pn := 21) (e_90 rfl) rfl rfl (fun h29 => ?_) (fun h29 => ?_)
      · refine jr_bipush (e_90 rfl) rfl ?_
        exact jr_retW (e_90 rfl) rfl
      · refine jr_iload_n (e_90 rfl) rfl rfl ?_
        refine jr_aload (e_90 rfl) rfl rfl ?_
        refine jr_alen (a := 4) (e_90 rfl) rfl (by decide +kernel) rfl ?_
        refine jr_bri (c := 4 ≤ a2) (pt := 38) (pn := 28) (e_90 rfl) rfl rfl (fun h30 => ?_) (fun h30 => ?_)
        · refine jr_bipush (e_90 rfl) rfl ?_
          exact jr_retW (e_90 rfl) rfl
        · refine jr_iload_n (e_90 rfl) rfl rfl ?_
          refine jr_bri (c := a3 < 0) (pt := 38) (pn := 32) (e_90 rfl) rfl rfl (fun h31 => ?_) (fun h31 => ?_)
          · refine jr_bipush (e_90 rfl) rfl ?_
            exact jr_retW (e_90 rfl) rfl
          · refine jr_iload_n (e_90 rfl) rfl rfl ?_
            refine jr_bipush (e_90 rfl) rfl ?_
            refine jr_bri (c := a3 ≤ 9) (pt := 41) (pn := 38) (e_90 rfl) rfl rfl (fun h32 => ?_) (fun h32 => ?_)
            · refine jr_aload (e_90 rfl) rfl rfl ?_
              refine jr_iload_n (e_90 rfl) rfl rfl ?_
              refine jr_ald (n := 4) (e_90 rfl) rfl rfl rfl ?_
              refine jr_nm (fun v33 => ?_)
              refine jr_istore (L' := [(5, xi v33), (4, xr 30 (4 * 0 + a1.toNat)), (0, xr 8 0), (1, xi a1), (2, xi a2), (3, xi a3)]) (e_90 rfl) rfl rfl rfl ?_
              refine jr_aload (e_90 rfl) rfl rfl ?_
              refine jr_iload_n (e_90 rfl) rfl rfl ?_
              refine jr_iload_n (e_90 rfl) rfl rfl ?_
              refine jr_ast (n := 4) (e_90 rfl) rfl rfl rfl rfl ?_
              refine jr_nms (fun s34 => ?_)
              refine jr_aload_n (e_90 rfl) rfl rfl ?_
              refine jr_getr (K2 := 0) (i2 := 0) (e_90 rfl) rfl rfl rfl ?_
              refine jr_callV (as := [xr 0 0]) (S1 := []) (e_90 rfl) rfl rfl rfl rfl rfl rfl (jm_Answer_forget s34) rfl (fun s35 => ?_)
              refine jr_iload (e_90 rfl) rfl rfl ?_
              exact jr_retW (e_90 rfl) rfl
            · refine jr_bipush (e_90 rfl) rfl ?_
              exact jr_retW (e_90 rfl) rfl

theorem e_105 {pc : Nat} {en : xa_I} (h : xlk pc xc_105 = some en) : xcd 105 pc = some en := h
noncomputable def fm_S_turnedByPad_4 (σ : xa_H) (K : Int → Option (Int)) : Nat → Int → Int → Option (Int)
  | 0, _, _ => none
  | n + 1, x1, x2 =>
    if (σ 2 0 1) ≤ x2 then
      K x1
    else
      (fm_Pad_moveAt x2 σ).bind fun v2 =>
      xnm ((w32 (v2 - 6)) : Int) fun v3 =>
      if 0 ≤ v3 then
        (fm_Turns_after x1 v3 σ).bind fun v5 =>
        xnm (w32 (x2 + 1) : Int) fun v6 =>
        fm_S_turnedByPad_4 σ K n v5 v6
      else
        some (-5)
theorem jl_S_turnedByPad_4 (σ : xa_H)  (K : Int → Option (Int)) (hK4 : ∀ (z0 : Int), J 105 50 [(1, xi z0)] [] σ (jqP σ) (K z0)) : ∀ (n : Nat) (x1 : Int) (x2 : Int), J 105 4 [(0, xr 8 0), (1, xi x1), (2, xi x2)] [] σ (jqP σ) (fm_S_turnedByPad_4 σ K n x1 x2) := by
  intro n
  induction n with
  | zero => intro x1 x2; exact jr_none
  | succ n ih4 =>
    intro x1 x2
    rw [fm_S_turnedByPad_4]
    refine jr_iload_n (e_105 rfl) rfl rfl ?_
    refine jr_aload_n (e_105 rfl) rfl rfl ?_
    refine jr_getr (K2 := 2) (i2 := 0) (e_105 rfl) rfl rfl rfl ?_
    refine jr_geti (e_105 rfl) rfl (by decide +kernel) ?_
    refine jr_bri (c := (σ 2 0 1) ≤ x2) (pt := 50) (pn := 15) (e_105 rfl) rfl rfl (fun h1 => ?_) (fun h1 => ?_)
    · exact jr_sub (show ([0, 1, 2] : List Nat).Nodup from by decide) (xsb_c (List.Mem.tail _ (List.Mem.head _)) xsb_n) (hK4 x1)
    · refine jr_aload_n (e_105 rfl) rfl rfl ?_
      refine jr_getr (K2 := 2) (i2 := 0) (e_105 rfl) rfl rfl rfl ?_
      refine jr_iload_n (e_105 rfl) rfl rfl ?_
      refine jr_callP (as := [xr 2 0, xi x2]) (S1 := []) (e_105 rfl) rfl rfl rfl rfl rfl rfl (jm_Pad_moveAt x2 σ) rfl (fun v2 => ?_)
      refine jr_bipush (e_105 rfl) rfl ?_
      refine jr_isub (e_105 rfl) rfl ?_
      refine jr_nm (fun v3 => ?_)
      refine jr_istore_n (L' := [(3, xi v3), (0, xr 8 0), (1, xi x1), (2, xi x2)]) (e_105 rfl) rfl rfl rfl ?_
      refine jr_iload_n (e_105 rfl) rfl rfl ?_
      refine jr_bri (c := 0 ≤ v3) (pt := 34) (pn := 31) (e_105 rfl) rfl rfl (fun h4 => ?_) (fun h4 => ?_)
      · refine jr_aload_n (e_105 rfl) rfl rfl ?_
        refine jr_getr (K2 := 6) (i2 := 0) (e_105 rfl) rfl rfl rfl ?_
        refine jr_iload_n (e_105 rfl) rfl rfl ?_
        refine jr_iload_n (e_105 rfl) rfl rfl ?_
        refine jr_callP (as := [xr 6 0, xi x1, xi v3]) (S1 := []) (e_105 rfl) rfl rfl rfl rfl rfl rfl (jm_Turns_after x1 v3 σ) rfl (fun v5 => ?_)
        refine jr_istore_n (L' := [(1, xi v5), (3, xi v3), (0, xr 8 0), (2, xi x2)]) (e_105 rfl) rfl rfl rfl ?_
        refine jr_iinc (L2 := fun c => [(2, xi c), (1, xi v5), (3, xi v3), (0, xr 8 0)]) (e_105 rfl) rfl rfl rfl (fun _ => rfl) (fun v6 => ?_)
        refine jr_goto (pc' := 4) (e_105 rfl) rfl ?_
        exact jr_sub (show ([2, 1, 3, 0] : List Nat).Nodup from by decide) (xsb_c (List.Mem.tail _ (List.Mem.tail _ (List.Mem.tail _ (List.Mem.head _)))) (xsb_c (List.Mem.tail _ (List.Mem.head _)) (xsb_c (List.Mem.head _) xsb_n))) (ih4 v5 v6)
      · refine jr_bipush (e_105 rfl) rfl ?_
        exact jr_retP (e_105 rfl) rfl
noncomputable def fm_S_turnedByPad (σ : xa_H) : Option (Int) :=
  fm_S_turnedByPad_4 σ (fun (v7 : Int) =>
    some v7) xFU 0 0
theorem jm_S_turnedByPad (σ : xa_H) : J 105 0 [(0, xr 8 0)] [] σ (jqP σ) (fm_S_turnedByPad σ) := by
  unfold fm_S_turnedByPad
  refine jr_iconst (e_105 rfl) rfl ?_
  refine jr_istore_n (L' := [(1, xi 0), (0, xr 8 0)]) (e_105 rfl) rfl rfl rfl ?_
  refine jr_iconst (e_105 rfl) rfl ?_
  refine jr_istore_n (L' := [(2, xi 0), (1, xi 0), (0, xr 8 0)]) (e_105 rfl) rfl rfl rfl ?_
  refine jr_sub (show ([2, 1, 0] : List Nat).Nodup from by decide) (xsb_c (List.Mem.tail _ (List.Mem.tail _ (List.Mem.head _))) (xsb_c (List.Mem.tail _ (List.Mem.head _)) (xsb_c (List.Mem.head _) xsb_n))) (jl_S_turnedByPad_4 σ _ (fun v7 => ?_) xFU 0 0)
  refine jr_iload_n (e_105 rfl) rfl rfl ?_
  exact jr_retP (e_105 rfl) rfl

theorem e_91 {pc : Nat} {en : xa_I} (h : xlk pc xc_91 = some en) : xcd 91 pc = some en := h
noncomputable def fm_S_lay (a1 : Int) (a2 : Int) (σ : xa_H) : Option (Int × xa_H) :=
  if a1 < 0 then
    (fm_Way_placeOf 0 a2 σ).bind fun v1 =>
    some ((-1), σ)
  else
    if 4 ≤ a1 then
      (fm_Way_placeOf 0 a2 σ).bind fun v2 =>
      some ((-1), σ)
    else
      if 0 ≤ a1 ∧ a1 < 4 then
        (fm_Way_placeOf 0 a2 σ).bind fun v3 =>
        if 0 ≤ v3 then
          if (σ 5 (4 * 0 + a1.toNat) 0) = 0 then
            some ((-3), σ)
          else
            (fm_Pad_rowFault σ).bind fun v6 =>
            xj (fun (v8 : Int) =>
              if 0 ≤ v8 then
                (fm_Search_about (4 * 0 + a1.toNat) σ).bind fun s13 =>
                (fm_Search_why (w32 ((w32 (v3 * 24)) + v8)) s13).bind fun v14 =>
                if v14 = 0 then
                  xnm (xup s13 5 (4 * 0 + a1.toNat) 1 v3) fun s16 =>
                  xnm (xup s16 5 (4 * 0 + a1.toNat) 2 v8) fun s17 =>
                  xb2 (fm_Pad_clear s17) fun v18 s19 =>
                  (fm_Answer_forget s19).bind fun s20 =>
                  some (1, s20)
                else
                  some ((-5), s13)
              else
                some ((-5), σ)) fun K9 =>
            if v6 = (-6) then
              (fm_S_turnedByPad σ).bind fun v11 =>
              K9 v11
            else
              K9 (-5)
        else
          some ((-1), σ)
      else none
theorem jm_S_lay (a1 : Int) (a2 : Int) (σ : xa_H) : J 91 0 [(0, xr 8 0), (1, xi a1), (2, xi a2)] [] σ jqW (fm_S_lay a1 a2 σ) := by
  unfold fm_S_lay
  refine jr_aload_n (e_91 rfl) rfl rfl ?_
  refine jr_getr (K2 := 4) (i2 := 0) (e_91 rfl) rfl rfl rfl ?_
  refine jr_iload_n (e_91 rfl) rfl rfl ?_
  refine jr_inl (as := [xr 4 0, xi a1]) (S1 := []) (L' := [(0, xr 4 0), (1, xi a1)]) (e_91 rfl) rfl rfl rfl rfl rfl rfl rfl rfl ?_
  refine jr_iload_n (e_51 rfl) rfl rfl ?_
  refine jr_bri (c := a1 < 0) (pt := 22) (pn := 4) (e_51 rfl) rfl rfl (fun h1001 => ?_) (fun h1001 => ?_)
  · refine jr_null (e_51 rfl) rfl ?_
    refine jr_retC (e_51 rfl) ?_
    refine jr_astore_n (L' := [(3, xn), (0, xr 8 0), (1, xi a1), (2, xi a2)]) (e_91 rfl) rfl rfl rfl ?_
    refine jr_aload_n (e_91 rfl) rfl rfl ?_
    refine jr_getr (K2 := 4) (i2 := 0) (e_91 rfl) rfl rfl rfl ?_
    refine jr_getr (K2 := 7) (i2 := 0) (e_91 rfl) rfl rfl rfl ?_
    refine jr_iload_n (e_91 rfl) rfl rfl ?_
    refine jr_callP (as := [xr 7 0, xi a2]) (S1 := []) (e_91 rfl) rfl rfl rfl rfl rfl rfl (jm_Way_placeOf 0 a2 σ) rfl (fun v1 => ?_)
    refine jr_istore (L' := [(4, xi v1), (3, xn), (0, xr 8 0), (1, xi a1), (2, xi a2)]) (e_91 rfl) rfl rfl rfl ?_
    refine jr_aload_n (e_91 rfl) rfl rfl ?_
    refine jr_s (q := (31, [(4, xi v1), (3, xn), (0, xr 8 0), (1, xi a1), (2, xi a2)], [], σ)) (e_91 rfl) rfl rfl ?_
    refine jr_iconst (e_91 rfl) rfl ?_
    exact jr_retW (e_91 rfl) rfl
  · refine jr_iload_n (e_51 rfl) rfl rfl ?_
    refine jr_aload_n (e_51 rfl) rfl rfl ?_
    refine jr_getr (K2 := 24) (i2 := 0) (e_51 rfl) rfl rfl rfl ?_
    refine jr_alen (a := 4) (e_51 rfl) rfl (by decide +kernel) rfl ?_
    refine jr_bri (c := 4 ≤ a1) (pt := 22) (pn := 13) (e_51 rfl) rfl rfl (fun h1002 => ?_) (fun h1002 => ?_)
    · refine jr_null (e_51 rfl) rfl ?_
      refine jr_retC (e_51 rfl) ?_
      refine jr_astore_n (L' := [(3, xn), (0, xr 8 0), (1, xi a1), (2, xi a2)]) (e_91 rfl) rfl rfl rfl ?_
      refine jr_aload_n (e_91 rfl) rfl rfl ?_
      refine jr_getr (K2 := 4) (i2 := 0) (e_91 rfl) rfl rfl rfl ?_
      refine jr_getr (K2 := 7) (i2 := 0) (e_91 rfl) rfl rfl rfl ?_
      refine jr_iload_n (e_91 rfl) rfl rfl ?_
      refine jr_callP (as := [xr 7 0, xi a2]) (S1 := []) (e_91 rfl) rfl rfl rfl rfl rfl rfl (jm_Way_placeOf 0 a2 σ) rfl (fun v2 => ?_)
      refine jr_istore (L' := [(4, xi v2), (3, xn), (0, xr 8 0), (1, xi a1), (2, xi a2)]) (e_91 rfl) rfl rfl rfl ?_
      refine jr_aload_n (e_91 rfl) rfl rfl ?_
      refine jr_s (q := (31, [(4, xi v2), (3, xn), (0, xr 8 0), (1, xi a1), (2, xi a2)], [], σ)) (e_91 rfl) rfl rfl ?_
      refine jr_iconst (e_91 rfl) rfl ?_
      exact jr_retW (e_91 rfl) rfl
    · refine jr_aload_n (e_51 rfl) rfl rfl ?_
      refine jr_getr (K2 := 24) (i2 := 0) (e_51 rfl) rfl rfl rfl ?_
      refine jr_iload_n (e_51 rfl) rfl rfl ?_
      refine jr_aald (n := 4) (K2 := 5) (i2 := (4 * 0 + a1.toNat)) (e_51 rfl) rfl (by decide +kernel) rfl rfl ?_
      refine jr_goto (pc' := 23) (e_51 rfl) rfl ?_
      refine jr_retC (e_51 rfl) ?_
      refine jr_astore_n (L' := [(3, xr 5 (4 * 0 + a1.toNat)), (0, xr 8 0), (1, xi a1), (2, xi a2)]) (e_91 rfl) rfl rfl rfl ?_
      refine jr_aload_n (e_91 rfl) rfl rfl ?_
      refine jr_getr (K2 := 4) (i2 := 0) (e_91 rfl) rfl rfl rfl ?_
      refine jr_getr (K2 := 7) (i2 := 0) (e_91 rfl) rfl rfl rfl ?_
      refine jr_iload_n (e_91 rfl) rfl rfl ?_
      refine jr_callP (as := [xr 7 0, xi a2]) (S1 := []) (e_91 rfl) rfl rfl rfl rfl rfl rfl (jm_Way_placeOf 0 a2 σ) rfl (fun v3 => ?_)
      refine jr_istore (L' := [(4, xi v3), (3, xr 5 (4 * 0 + a1.toNat)), (0, xr 8 0), (1, xi a1), (2, xi a2)]) (e_91 rfl) rfl rfl rfl ?_
      refine jr_aload_n (e_91 rfl) rfl rfl ?_
      refine jr_s (q := (26, [(4, xi v3), (3, xr 5 (4 * 0 + a1.toNat)), (0, xr 8 0), (1, xi a1), (2, xi a2)], [], σ)) (e_91 rfl) rfl rfl ?_
      refine jr_iload (e_91 rfl) rfl rfl ?_
      refine jr_bri (c := 0 ≤ v3) (pt := 33) (pn := 31) (e_91 rfl) rfl rfl (fun h4 => ?_) (fun h4 => ?_)
      · refine jr_aload_n (e_91 rfl) rfl rfl ?_
        refine jr_geti (e_91 rfl) rfl (by decide +kernel) ?_
        refine jr_brx (c := (σ 5 (4 * 0 + a1.toNat) 0) = 0) (pt := 43) (pn := 40) (e_91 rfl) rfl rfl (fun h5 => ?_) (fun h5 => ?_)
        · refine jr_bipush (e_91 rfl) rfl ?_
          exact jr_retW (e_91 rfl) rfl
        · refine jr_aload_n (e_91 rfl) rfl rfl ?_
          refine jr_getr (K2 := 2) (i2 := 0) (e_91 rfl) rfl rfl rfl ?_
          refine jr_callP (as := [xr 2 0]) (S1 := []) (e_91 rfl) rfl rfl rfl rfl rfl rfl (jm_Pad_rowFault σ) rfl (fun v6 => ?_)
          refine jr_bipush (e_91 rfl) rfl ?_
          refine jr_j (fun K9 => ∀ (v8 : Int), J 91 64 [(0, xr 8 0), (3, xr 5 (4 * 0 + a1.toNat)), (4, xi v3)] [xi v8] σ jqW (K9 v8)) (fun v8 => ?_) (fun K9 hK9 => ?_)
          · refine jr_istore (L' := [(5, xi v8), (0, xr 8 0), (3, xr 5 (4 * 0 + a1.toNat)), (4, xi v3)]) (e_91 rfl) rfl rfl rfl ?_
            refine jr_iload (e_91 rfl) rfl rfl ?_
            refine jr_bri (c := 0 ≤ v8) (pt := 74) (pn := 71) (e_91 rfl) rfl rfl (fun h12 => ?_) (fun h12 => ?_)
            · refine jr_aload_n (e_91 rfl) rfl rfl ?_
              refine jr_getr (K2 := 3) (i2 := 0) (e_91 rfl) rfl rfl rfl ?_
              refine jr_aload_n (e_91 rfl) rfl rfl ?_
              refine jr_callV (as := [xr 3 0, xr 5 (4 * 0 + a1.toNat)]) (S1 := []) (e_91 rfl) rfl rfl rfl rfl rfl rfl (jm_Search_about (4 * 0 + a1.toNat) σ) rfl (fun s13 => ?_)
              refine jr_aload_n (e_91 rfl) rfl rfl ?_
              refine jr_getr (K2 := 3) (i2 := 0) (e_91 rfl) rfl rfl rfl ?_
              refine jr_iload (e_91 rfl) rfl rfl ?_
              refine jr_bipush (e_91 rfl) rfl ?_
              refine jr_imul (e_91 rfl) rfl ?_
              refine jr_iload (e_91 rfl) rfl rfl ?_
              refine jr_iadd (e_91 rfl) rfl ?_
              refine jr_callP (as := [xr 3 0, xi (w32 ((w32 (v3 * 24)) + v8))]) (S1 := []) (e_91 rfl) rfl rfl rfl rfl rfl rfl (jm_Search_why (w32 ((w32 (v3 * 24)) + v8)) s13) rfl (fun v14 => ?_)
              refine jr_bri (c := v14 = 0) (pt := 103) (pn := 100) (e_91 rfl) rfl rfl (fun h15 => ?_) (fun h15 => ?_)
              · refine jr_aload_n (e_91 rfl) rfl rfl ?_
                refine jr_iload (e_91 rfl) rfl rfl ?_
                refine jr_put (e_91 rfl) rfl rfl rfl ?_
                refine jr_nms (fun s16 => ?_)
                refine jr_aload_n (e_91 rfl) rfl rfl ?_
                refine jr_iload (e_91 rfl) rfl rfl ?_
                refine jr_put (e_91 rfl) rfl rfl rfl ?_
                refine jr_nms (fun s17 => ?_)
                refine jr_aload_n (e_91 rfl) rfl rfl ?_
                refine jr_getr (K2 := 2) (i2 := 0) (e_91 rfl) rfl rfl rfl ?_
                refine jr_callX (as := [xr 2 0]) (S1 := []) (e_91 rfl) rfl rfl rfl rfl rfl rfl (jm_Pad_clear s17) rfl (fun v18 s19 => ?_)
                refine jr_pop (e_91 rfl) rfl rfl ?_
                refine jr_aload_n (e_91 rfl) rfl rfl ?_
                refine jr_getr (K2 := 0) (i2 := 0) (e_91 rfl) rfl rfl rfl ?_
                refine jr_callV (as := [xr 0 0]) (S1 := []) (e_91 rfl) rfl rfl rfl rfl rfl rfl (jm_Answer_forget s19) rfl (fun s20 => ?_)
                refine jr_iconst (e_91 rfl) rfl ?_
                exact jr_retW (e_91 rfl) rfl
              · refine jr_bipush (e_91 rfl) rfl ?_
                exact jr_retW (e_91 rfl) rfl
            · refine jr_bipush (e_91 rfl) rfl ?_
              exact jr_retW (e_91 rfl) rfl
          · refine jr_brx (c := v6 = (-6)) (pt := 62) (pn := 55) (e_91 rfl) rfl rfl (fun h10 => ?_) (fun h10 => ?_)
            · refine jr_aload_n (e_91 rfl) rfl rfl ?_
              refine jr_callP (as := [xr 8 0]) (S1 := []) (e_91 rfl) rfl rfl rfl rfl rfl rfl (jm_S_turnedByPad σ) rfl (fun v11 => ?_)
              refine jr_goto (pc' := 64) (e_91 rfl) rfl ?_
              exact jr_sub (show ([4, 3, 0, 1, 2] : List Nat).Nodup from by decide) (xsb_c (List.Mem.tail _ (List.Mem.tail _ (List.Mem.head _))) (xsb_c (List.Mem.tail _ (List.Mem.head _)) (xsb_c (List.Mem.head _) xsb_n))) (hK9 v11)
            · refine jr_bipush (e_91 rfl) rfl ?_
              exact jr_sub (show ([4, 3, 0, 1, 2] : List Nat).Nodup from by decide) (xsb_c (List.Mem.tail _ (List.Mem.tail _ (List.Mem.head _))) (xsb_c (List.Mem.tail _ (List.Mem.head _)) (xsb_c (List.Mem.head _) xsb_n))) (hK9 (-5))
      · refine jr_iconst (e_91 rfl) rfl ?_
        exact jr_retW (e_91 rfl) rfl

theorem e_136 {pc : Nat} {en : xa_I} (h : xlk pc xc_136 = some en) : xcd 136 pc = some en := h
noncomputable def fm_S_cellOf (a0 : Int) : Option (Int) :=
  (fm_S_xOf a0).bind fun v1 =>
  (fm_S_yOf a0).bind fun v2 =>
  (fm_S_zOf a0).bind fun v3 =>
  some (w32 ((w32 ((w32 (100 * v1)) + (w32 (10 * v2)))) + v3))
theorem jm_S_cellOf (a0 : Int) (σ : xa_H) : J 136 0 [(0, xi a0)] [] σ (jqP σ) (fm_S_cellOf a0) := by
  unfold fm_S_cellOf
  refine jr_bipush (e_136 rfl) rfl ?_
  refine jr_iload_n (e_136 rfl) rfl rfl ?_
  refine jr_callP (as := [xi a0]) (S1 := [xi 100]) (e_136 rfl) rfl rfl rfl rfl rfl rfl (jm_S_xOf a0 σ) rfl (fun v1 => ?_)
  refine jr_imul (e_136 rfl) rfl ?_
  refine jr_bipush (e_136 rfl) rfl ?_
  refine jr_iload_n (e_136 rfl) rfl rfl ?_
  refine jr_callP (as := [xi a0]) (S1 := [xi 10, xi (w32 (100 * v1))]) (e_136 rfl) rfl rfl rfl rfl rfl rfl (jm_S_yOf a0 σ) rfl (fun v2 => ?_)
  refine jr_imul (e_136 rfl) rfl ?_
  refine jr_iadd (e_136 rfl) rfl ?_
  refine jr_iload_n (e_136 rfl) rfl rfl ?_
  refine jr_callP (as := [xi a0]) (S1 := [xi (w32 ((w32 (100 * v1)) + (w32 (10 * v2))))]) (e_136 rfl) rfl rfl rfl rfl rfl rfl (jm_S_zOf a0 σ) rfl (fun v3 => ?_)
  refine jr_iadd (e_136 rfl) rfl ?_
  exact jr_retP (e_136 rfl) rfl

theorem e_92 {pc : Nat} {en : xa_I} (h : xlk pc xc_92 = some en) : xcd 92 pc = some en := h
noncomputable def fm_S_goal (a1 : Int) (a2 : Int) (σ : xa_H) : Option (Int × xa_H) :=
  if a1 < 0 then
    (fm_Way_placeOf 0 a2 σ).bind fun v1 =>
    some ((-1), σ)
  else
    if 4 ≤ a1 then
      (fm_Way_placeOf 0 a2 σ).bind fun v2 =>
      some ((-1), σ)
    else
      if 0 ≤ a1 ∧ a1 < 4 then
        (fm_Way_placeOf 0 a2 σ).bind fun v3 =>
        if 0 ≤ v3 then
          xnm ((σ 5 (4 * 0 + a1.toNat) 3) : Int) fun v5 =>
          xnm (xup σ 5 (4 * 0 + a1.toNat) 3 v3) fun s6 =>
          (fm_Answer_forget s6).bind fun s7 =>
          (fm_S_cellOf v5).bind fun v8 =>
          some (v8, s7)
        else
          some ((-1), σ)
      else none
theorem jm_S_goal (a1 : Int) (a2 : Int) (σ : xa_H) : J 92 0 [(0, xr 8 0), (1, xi a1), (2, xi a2)] [] σ jqW (fm_S_goal a1 a2 σ) := by
  unfold fm_S_goal
  refine jr_aload_n (e_92 rfl) rfl rfl ?_
  refine jr_getr (K2 := 4) (i2 := 0) (e_92 rfl) rfl rfl rfl ?_
  refine jr_iload_n (e_92 rfl) rfl rfl ?_
  refine jr_inl (as := [xr 4 0, xi a1]) (S1 := []) (L' := [(0, xr 4 0), (1, xi a1)]) (e_92 rfl) rfl rfl rfl rfl rfl rfl rfl rfl ?_
  refine jr_iload_n (e_51 rfl) rfl rfl ?_
  refine jr_bri (c := a1 < 0) (pt := 22) (pn := 4) (e_51 rfl) rfl rfl (fun h1001 => ?_) (fun h1001 => ?_)
  · refine jr_null (e_51 rfl) rfl ?_
    refine jr_retC (e_51 rfl) ?_
    refine jr_astore_n (L' := [(3, xn), (0, xr 8 0), (1, xi a1), (2, xi a2)]) (e_92 rfl) rfl rfl rfl ?_
    refine jr_aload_n (e_92 rfl) rfl rfl ?_
    refine jr_getr (K2 := 4) (i2 := 0) (e_92 rfl) rfl rfl rfl ?_
    refine jr_getr (K2 := 7) (i2 := 0) (e_92 rfl) rfl rfl rfl ?_
    refine jr_iload_n (e_92 rfl) rfl rfl ?_
    refine jr_callP (as := [xr 7 0, xi a2]) (S1 := []) (e_92 rfl) rfl rfl rfl rfl rfl rfl (jm_Way_placeOf 0 a2 σ) rfl (fun v1 => ?_)
    refine jr_istore (L' := [(4, xi v1), (3, xn), (0, xr 8 0), (1, xi a1), (2, xi a2)]) (e_92 rfl) rfl rfl rfl ?_
    refine jr_aload_n (e_92 rfl) rfl rfl ?_
    refine jr_s (q := (31, [(4, xi v1), (3, xn), (0, xr 8 0), (1, xi a1), (2, xi a2)], [], σ)) (e_92 rfl) rfl rfl ?_
    refine jr_iconst (e_92 rfl) rfl ?_
    exact jr_retW (e_92 rfl) rfl
  · refine jr_iload_n (e_51 rfl) rfl rfl ?_
    refine jr_aload_n (e_51 rfl) rfl rfl ?_
    refine jr_getr (K2 := 24) (i2 := 0) (e_51 rfl) rfl rfl rfl ?_
    refine jr_alen (a := 4) (e_51 rfl) rfl (by decide +kernel) rfl ?_
    refine jr_bri (c := 4 ≤ a1) (pt := 22) (pn := 13) (e_51 rfl) rfl rfl (fun h1002 => ?_) (fun h1002 => ?_)
    · refine jr_null (e_51 rfl) rfl ?_
      refine jr_retC (e_51 rfl) ?_
      refine jr_astore_n (L' := [(3, xn), (0, xr 8 0), (1, xi a1), (2, xi a2)]) (e_92 rfl) rfl rfl rfl ?_
      refine jr_aload_n (e_92 rfl) rfl rfl ?_
      refine jr_getr (K2 := 4) (i2 := 0) (e_92 rfl) rfl rfl rfl ?_
      refine jr_getr (K2 := 7) (i2 := 0) (e_92 rfl) rfl rfl rfl ?_
      refine jr_iload_n (e_92 rfl) rfl rfl ?_
      refine jr_callP (as := [xr 7 0, xi a2]) (S1 := []) (e_92 rfl) rfl rfl rfl rfl rfl rfl (jm_Way_placeOf 0 a2 σ) rfl (fun v2 => ?_)
      refine jr_istore (L' := [(4, xi v2), (3, xn), (0, xr 8 0), (1, xi a1), (2, xi a2)]) (e_92 rfl) rfl rfl rfl ?_
      refine jr_aload_n (e_92 rfl) rfl rfl ?_
      refine jr_s (q := (31, [(4, xi v2), (3, xn), (0, xr 8 0), (1, xi a1), (2, xi a2)], [], σ)) (e_92 rfl) rfl rfl ?_
      refine jr_iconst (e_92 rfl) rfl ?_
      exact jr_retW (e_92 rfl) rfl
    · refine jr_aload_n (e_51 rfl) rfl rfl ?_
      refine jr_getr (K2 := 24) (i2 := 0) (e_51 rfl) rfl rfl rfl ?_
      refine jr_iload_n (e_51 rfl) rfl rfl ?_
      refine jr_aald (n := 4) (K2 := 5) (i2 := (4 * 0 + a1.toNat)) (e_51 rfl) rfl (by decide +kernel) rfl rfl ?_
      refine jr_goto (pc' := 23) (e_51 rfl) rfl ?_
      refine jr_retC (e_51 rfl) ?_
      refine jr_astore_n (L' := [(3, xr 5 (4 * 0 + a1.toNat)), (0, xr 8 0), (1, xi a1), (2, xi a2)]) (e_92 rfl) rfl rfl rfl ?_
      refine jr_aload_n (e_92 rfl) rfl rfl ?_
      refine jr_getr (K2 := 4) (i2 := 0) (e_92 rfl) rfl rfl rfl ?_
      refine jr_getr (K2 := 7) (i2 := 0) (e_92 rfl) rfl rfl rfl ?_
      refine jr_iload_n (e_92 rfl) rfl rfl ?_
      refine jr_callP (as := [xr 7 0, xi a2]) (S1 := []) (e_92 rfl) rfl rfl rfl rfl rfl rfl (jm_Way_placeOf 0 a2 σ) rfl (fun v3 => ?_)
      refine jr_istore (L' := [(4, xi v3), (3, xr 5 (4 * 0 + a1.toNat)), (0, xr 8 0), (1, xi a1), (2, xi a2)]) (e_92 rfl) rfl rfl rfl ?_
      refine jr_aload_n (e_92 rfl) rfl rfl ?_
      refine jr_s (q := (26, [(4, xi v3), (3, xr 5 (4 * 0 + a1.toNat)), (0, xr 8 0), (1, xi a1), (2, xi a2)], [], σ)) (e_92 rfl) rfl rfl ?_
      refine jr_iload (e_92 rfl) rfl rfl ?_
      refine jr_bri (c := 0 ≤ v3) (pt := 33) (pn := 31) (e_92 rfl) rfl rfl (fun h4 => ?_) (fun h4 => ?_)
      · refine jr_aload_n (e_92 rfl) rfl rfl ?_
        refine jr_geti (e_92 rfl) rfl (by decide +kernel) ?_
        refine jr_nm (fun v5 => ?_)
        refine jr_istore (L' := [(5, xi v5), (4, xi v3), (3, xr 5 (4 * 0 + a1.toNat)), (0, xr 8 0), (1, xi a1), (2, xi a2)]) (e_92 rfl) rfl rfl rfl ?_
        refine jr_aload_n (e_92 rfl) rfl rfl ?_
        refine jr_iload (e_92 rfl) rfl rfl ?_
        refine jr_put (e_92 rfl) rfl rfl rfl ?_
        refine jr_nms (fun s6 => ?_)
        refine jr_aload_n (e_92 rfl) rfl rfl ?_
        refine jr_getr (K2 := 0) (i2 := 0) (e_92 rfl) rfl rfl rfl ?_
        refine jr_callV (as := [xr 0 0]) (S1 := []) (e_92 rfl) rfl rfl rfl rfl rfl rfl (jm_Answer_forget s6) rfl (fun s7 => ?_)
        refine jr_iload (e_92 rfl) rfl rfl ?_
        refine jr_callP (as := [xi v5]) (S1 := []) (e_92 rfl) rfl rfl rfl rfl rfl rfl (jm_S_cellOf v5 s7) rfl (fun v8 => ?_)
        exact jr_retW (e_92 rfl) rfl
      · refine jr_iconst (e_92 rfl) rfl ?_
        exact jr_retW (e_92 rfl) rfl

theorem e_106 {pc : Nat} {en : xa_I} (h : xlk pc xc_106 = some en) : xcd 106 pc = some en := h
noncomputable def fm_S_judged_16 (i1 : Nat) (f2 : Int) (σ : xa_H) (K : Option (Int × xa_H)) : Nat → Int → Int → Option (Int × xa_H)
  | 0, _, _ => none
  | n + 1, x3, x4 =>
    if (σ 2 0 1) ≤ x4 then
      K
    else
      (fm_Pad_moveAt x4 σ).bind fun v2 =>
      (fm_Search_step x3 v2 σ).bind fun v3 =>
      (fm_Search_why v3 σ).bind fun v4 =>
      if v4 = 0 then
        xnm (w32 (x4 + 1) : Int) fun v6 =>
        fm_S_judged_16 i1 f2 σ K n v3 v6
      else
        if f2 = 0 then
          some (x4, σ)
        else
          some (v4, σ)
theorem jl_S_judged_16 (i1 : Nat) (f2 : Int) (σ : xa_H)  (K : Option (Int × xa_H)) (hK16 : J 106 79 [] [] σ jqW (K)) : ∀ (n : Nat) (x3 : Int) (x4 : Int), J 106 16 [(0, xr 8 0), (2, xi f2), (3, xi x3), (4, xi x4)] [] σ jqW (fm_S_judged_16 i1 f2 σ K n x3 x4) := by
  intro n
  induction n with
  | zero => intro x3 x4; exact jr_none
  | succ n ih16 =>
    intro x3 x4
    rw [fm_S_judged_16]
    refine jr_iload (e_106 rfl) rfl rfl ?_
    refine jr_aload_n (e_106 rfl) rfl rfl ?_
    refine jr_getr (K2 := 2) (i2 := 0) (e_106 rfl) rfl rfl rfl ?_
    refine jr_geti (e_106 rfl) rfl (by decide +kernel) ?_
    refine jr_bri (c := (σ 2 0 1) ≤ x4) (pt := 79) (pn := 28) (e_106 rfl) rfl rfl (fun h1 => ?_) (fun h1 => ?_)
    · exact jr_sub (show ([0, 2, 3, 4] : List Nat).Nodup from by decide) xsb_n (hK16)
    · refine jr_aload_n (e_106 rfl) rfl rfl ?_
      refine jr_getr (K2 := 3) (i2 := 0) (e_106 rfl) rfl rfl rfl ?_
      refine jr_iload_n (e_106 rfl) rfl rfl ?_
      refine jr_aload_n (e_106 rfl) rfl rfl ?_
      refine jr_getr (K2 := 2) (i2 := 0) (e_106 rfl) rfl rfl rfl ?_
      refine jr_iload (e_106 rfl) rfl rfl ?_
      refine jr_callP (as := [xr 2 0, xi x4]) (S1 := [xi x3, xr 3 0]) (e_106 rfl) rfl rfl rfl rfl rfl rfl (jm_Pad_moveAt x4 σ) rfl (fun v2 => ?_)
      refine jr_callP (as := [xr 3 0, xi x3, xi v2]) (S1 := []) (e_106 rfl) rfl rfl rfl rfl rfl rfl (jm_Search_step x3 v2 σ) rfl (fun v3 => ?_)
      refine jr_istore_n (L' := [(3, xi v3), (0, xr 8 0), (2, xi f2), (4, xi x4)]) (e_106 rfl) rfl rfl rfl ?_
      refine jr_aload_n (e_106 rfl) rfl rfl ?_
      refine jr_getr (K2 := 3) (i2 := 0) (e_106 rfl) rfl rfl rfl ?_
      refine jr_iload_n (e_106 rfl) rfl rfl ?_
      refine jr_callP (as := [xr 3 0, xi v3]) (S1 := []) (e_106 rfl) rfl rfl rfl rfl rfl rfl (jm_Search_why v3 σ) rfl (fun v4 => ?_)
      refine jr_istore (L' := [(5, xi v4), (3, xi v3), (0, xr 8 0), (2, xi f2), (4, xi x4)]) (e_106 rfl) rfl rfl rfl ?_
      refine jr_iload (e_106 rfl) rfl rfl ?_
      refine jr_bri (c := v4 = 0) (pt := 73) (pn := 61) (e_106 rfl) rfl rfl (fun h5 => ?_) (fun h5 => ?_)
      · refine jr_iinc (L2 := fun c => [(4, xi c), (5, xi v4), (3, xi v3), (0, xr 8 0), (2, xi f2)]) (e_106 rfl) rfl rfl rfl (fun _ => rfl) (fun v6 => ?_)
        refine jr_goto (pc' := 16) (e_106 rfl) rfl ?_
        exact jr_sub (show ([4, 5, 3, 0, 2] : List Nat).Nodup from by decide) (xsb_c (List.Mem.tail _ (List.Mem.tail _ (List.Mem.tail _ (List.Mem.head _)))) (xsb_c (List.Mem.tail _ (List.Mem.tail _ (List.Mem.tail _ (List.Mem.tail _ (List.Mem.head _))))) (xsb_c (List.Mem.tail _ (List.Mem.tail _ (List.Mem.head _))) (xsb_c (List.Mem.head _) xsb_n)))) (ih16 v3 v6)
      · refine jr_iload_n (e_106 rfl) rfl rfl ?_
        refine jr_brx (c := f2 = 0) (pt := 70) (pn := 65) (e_106 rfl) rfl rfl (fun h7 => ?_) (fun h7 => ?_)
        · refine jr_iload (e_106 rfl) rfl rfl ?_
          refine jr_goto (pc' := 72) (e_106 rfl) rfl ?_
          exact jr_retW (e_106 rfl) rfl
        · refine jr_iload (e_106 rfl) rfl rfl ?_
          exact jr_retW (e_106 rfl) rfl
noncomputable def fm_S_judged (i1 : Nat) (a2 : Int) (σ : xa_H) : Option (Int × xa_H) :=
  (fm_Search_about i1 σ).bind fun s1 =>
  (fm_Thing_stand i1 s1).bind fun v2 =>
  fm_S_judged_16 i1 a2 s1 (
    some ((-6), s1)) xFU v2 0
theorem jm_S_judged (i1 : Nat) (a2 : Int) (σ : xa_H) : J 106 0 [(0, xr 8 0), (1, xr 5 i1), (2, xi a2)] [] σ jqW (fm_S_judged i1 a2 σ) := by
  unfold fm_S_judged
  refine jr_aload_n (e_106 rfl) rfl rfl ?_
  refine jr_getr (K2 := 3) (i2 := 0) (e_106 rfl) rfl rfl rfl ?_
  refine jr_aload_n (e_106 rfl) rfl rfl ?_
  refine jr_callV (as := [xr 3 0, xr 5 i1]) (S1 := []) (e_106 rfl) rfl rfl rfl rfl rfl rfl (jm_Search_about i1 σ) rfl (fun s1 => ?_)
  refine jr_aload_n (e_106 rfl) rfl rfl ?_
  refine jr_callP (as := [xr 5 i1]) (S1 := []) (e_106 rfl) rfl rfl rfl rfl rfl rfl (jm_Thing_stand i1 s1) rfl (fun v2 => ?_)
  refine jr_istore_n (L' := [(3, xi v2), (0, xr 8 0), (1, xr 5 i1), (2, xi a2)]) (e_106 rfl) rfl rfl rfl ?_
  refine jr_iconst (e_106 rfl) rfl ?_
  refine jr_istore (L' := [(4, xi 0), (3, xi v2), (0, xr 8 0), (1, xr 5 i1), (2, xi a2)]) (e_106 rfl) rfl rfl rfl ?_
  refine jr_sub (show ([4, 3, 0, 1, 2] : List Nat).Nodup from by decide) (xsb_c (List.Mem.tail _ (List.Mem.tail _ (List.Mem.head _))) (xsb_c (List.Mem.tail _ (List.Mem.tail _ (List.Mem.tail _ (List.Mem.tail _ (List.Mem.head _))))) (xsb_c (List.Mem.tail _ (List.Mem.head _)) (xsb_c (List.Mem.head _) xsb_n)))) (jl_S_judged_16 i1 a2 s1 _ ?_ xFU v2 0)
  refine jr_bipush (e_106 rfl) rfl ?_
  exact jr_retW (e_106 rfl) rfl

theorem e_93 {pc : Nat} {en : xa_I} (h : xlk pc xc_93 = some en) : xcd 93 pc = some en := h
noncomputable def fm_S_judge (a1 : Int) (a2 : Int) (σ : xa_H) : Option (Int × xa_H) :=
  if a1 < 0 then
    (fm_S_isUpTo a2 1).bind fun v1 =>
    some ((-1), σ)
  else
    if 4 ≤ a1 then
      (fm_S_isUpTo a2 1).bind fun v2 =>
      some ((-1), σ)
    else
      if 0 ≤ a1 ∧ a1 < 4 then
        (fm_S_isUpTo a2 1).bind fun v3 =>
        if v3 = 0 then
          if (-2) = 0 then
            (fm_Pad_rowFault σ).bind fun v5 =>
            if v5 = (-6) then
              xb2 (fm_S_judged (4 * 0 + a1.toNat) a2 σ) fun v7 s8 =>
              some (v7, s8)
            else
              some ((-5), σ)
          else
            some ((-2), σ)
        else
          if 0 ≤ (σ 5 (4 * 0 + a1.toNat) 1) then
            if 0 = 0 then
              (fm_Pad_rowFault σ).bind fun v10 =>
              if v10 = (-6) then
                xb2 (fm_S_judged (4 * 0 + a1.toNat) a2 σ) fun v12 s13 =>
                some (v12, s13)
              else
                some ((-5), σ)
            else
              some (0, σ)
          else
            if (-3) = 0 then
              (fm_Pad_rowFault σ).bind fun v15 =>
              if v15 = (-6) then
                xb2 (fm_S_judged (4 * 0 + a1.toNat) a2 σ) fun v17 s18 =>
                some (v17, s18)
              else
                some ((-5), σ)
            else
              some ((-3), σ)
      else none
theorem jm_S_judge (a1 : Int) (a2 : Int) (σ : xa_H) : J 93 0 [(0, xr 8 0), (1, xi a1), (2, xi a2)] [] σ jqW (fm_S_judge a1 a2 σ) := by
  unfold fm_S_judge
  refine jr_aload_n (e_93 rfl) rfl rfl ?_
  refine jr_getr (K2 := 4) (i2 := 0) (e_93 rfl) rfl rfl rfl ?_
  refine jr_iload_n (e_93 rfl) rfl rfl ?_
  refine jr_inl (as := [xr 4 0, xi a1]) (S1 := []) (L' := [(0, xr 4 0), (1, xi a1)]) (e_93 rfl) rfl rfl rfl rfl rfl rfl rfl rfl ?_
  refine jr_iload_n (e_51 rfl) rfl rfl ?_
  refine jr_bri (c := a1 < 0) (pt := 22) (pn := 4) (e_51 rfl) rfl rfl (fun h1001 => ?_) (fun h1001 => ?_)
  · refine jr_null (e_51 rfl) rfl ?_
    refine jr_retC (e_51 rfl) ?_
    refine jr_astore_n (L' := [(3, xn), (0, xr 8 0), (1, xi a1), (2, xi a2)]) (e_93 rfl) rfl rfl rfl ?_
    refine jr_aload_n (e_93 rfl) rfl rfl ?_
    refine jr_iload_n (e_93 rfl) rfl rfl ?_
    refine jr_iconst (e_93 rfl) rfl ?_
    refine jr_callP (as := [xi a2, xi 1]) (S1 := [xn]) (e_93 rfl) rfl rfl rfl rfl rfl rfl (jm_S_isUpTo a2 1 σ) rfl (fun v1 => ?_)
    refine jr_inl (as := [xn, xi v1]) (S1 := []) (L' := [(0, xn), (1, xi v1)]) (e_93 rfl) rfl rfl rfl rfl rfl rfl rfl rfl ?_
    refine jr_aload_n (e_126 rfl) rfl rfl ?_
    refine jr_s (q := (4, [(0, xn), (1, xi v1)], [], σ)) (e_126 rfl) rfl rfl ?_
    refine jr_iconst (e_126 rfl) rfl ?_
    refine jr_retCi (e_126 rfl) rfl ?_
    refine jr_istore (L' := [(4, xi (-1)), (3, xn), (0, xr 8 0), (1, xi a1), (2, xi a2)]) (e_93 rfl) rfl rfl rfl ?_
    refine jr_aload_n (e_93 rfl) rfl rfl ?_
    refine jr_s (q := (29, [(4, xi (-1)), (3, xn), (0, xr 8 0), (1, xi a1), (2, xi a2)], [], σ)) (e_93 rfl) rfl rfl ?_
    refine jr_iload (e_93 rfl) rfl rfl ?_
    exact jr_retW (e_93 rfl) rfl
  · refine jr_iload_n (e_51 rfl) rfl rfl ?_
    refine jr_aload_n (e_51 rfl) rfl rfl ?_
    refine jr_getr (K2 := 24) (i2 := 0) (e_51 rfl) rfl rfl rfl ?_
    refine jr_alen (a := 4) (e_51 rfl) rfl (by decide +kernel) rfl ?_
    refine jr_bri (c := 4 ≤ a1) (pt := 22) (pn := 13) (e_51 rfl) rfl rfl (fun h1002 => ?_) (fun h1002 => ?_)
    · refine jr_null (e_51 rfl) rfl ?_
      refine jr_retC (e_51 rfl) ?_
      refine jr_astore_n (L' := [(3, xn), (0, xr 8 0), (1, xi a1), (2, xi a2)]) (e_93 rfl) rfl rfl rfl ?_
      refine jr_aload_n (e_93 rfl) rfl rfl ?_
      refine jr_iload_n (e_93 rfl) rfl rfl ?_
      refine jr_iconst (e_93 rfl) rfl ?_
      refine jr_callP (as := [xi a2, xi 1]) (S1 := [xn]) (e_93 rfl) rfl rfl rfl rfl rfl rfl (jm_S_isUpTo a2 1 σ) rfl (fun v2 => ?_)
      refine jr_inl (as := [xn, xi v2]) (S1 := []) (L' := [(0, xn), (1, xi v2)]) (e_93 rfl) rfl rfl rfl rfl rfl rfl rfl rfl ?_
      refine jr_aload_n (e_126 rfl) rfl rfl ?_
      refine jr_s (q := (4, [(0, xn), (1, xi v2)], [], σ)) (e_126 rfl) rfl rfl ?_
      refine jr_iconst (e_126 rfl) rfl ?_
      refine jr_retCi (e_126 rfl) rfl ?_
      refine jr_istore (L' := [(4, xi (-1)), (3, xn), (0, xr 8 0), (1, xi a1), (2, xi a2)]) (e_93 rfl) rfl rfl rfl ?_
      refine jr_aload_n (e_93 rfl) rfl rfl ?_
      refine jr_s (q := (29, [(4, xi (-1)), (3, xn), (0, xr 8 0), (1, xi a1), (2, xi a2)], [], σ)) (e_93 rfl) rfl rfl ?_
      refine jr_iload (e_93 rfl) rfl rfl ?_
      exact jr_retW (e_93 rfl) rfl
    · refine jr_aload_n (e_51 rfl) rfl rfl ?_
      refine jr_getr (K2 := 24) (i2 := 0) (e_51 rfl) rfl rfl rfl ?_
      refine jr_iload_n (e_51 rfl) rfl rfl ?_
      refine jr_aald (n := 4) (K2 := 5) (i2 := (4 * 0 + a1.toNat)) (e_51 rfl) rfl (by decide +kernel) rfl rfl ?_
      refine jr_goto (pc' := 23) (e_51 rfl) rfl ?_
      refine jr_retC (e_51 rfl) ?_
      refine jr_astore_n (L' := [(3, xr 5 (4 * 0 + a1.toNat)), (0, xr 8 0), (1, xi a1), (2, xi a2)]) (e_93 rfl) rfl rfl rfl ?_
      refine jr_aload_n (e_93 rfl) rfl rfl ?_
      refine jr_iload_n (e_93 rfl) rfl rfl ?_
      refine jr_iconst (e_93 rfl) rfl ?_
      refine jr_callP (as := [xi a2, xi 1]) (S1 := [xr 5 (4 * 0 + a1.toNat)]) (e_93 rfl) rfl rfl rfl rfl rfl rfl (jm_S_isUpTo a2 1 σ) rfl (fun v3 => ?_)
      refine jr_inl (as := [xr 5 (4 * 0 + a1.toNat), xi v3]) (S1 := []) (L' := [(0, xr 5 (4 * 0 + a1.toNat)), (1, xi v3)]) (e_93 rfl) rfl rfl rfl rfl rfl rfl rfl rfl ?_
      refine jr_aload_n (e_126 rfl) rfl rfl ?_
      refine jr_s (q := (6, [(0, xr 5 (4 * 0 + a1.toNat)), (1, xi v3)], [], σ)) (e_126 rfl) rfl rfl ?_
      refine jr_iload_n (e_126 rfl) rfl rfl ?_
      refine jr_brx (c := v3 = 0) (pt := 13) (pn := 10) (e_126 rfl) rfl rfl (fun h1004 => ?_) (fun h1004 => ?_)
      · refine jr_bipush (e_126 rfl) rfl ?_
        refine jr_retCi (e_126 rfl) rfl ?_
        refine jr_istore (L' := [(4, xi (-2)), (3, xr 5 (4 * 0 + a1.toNat)), (0, xr 8 0), (1, xi a1), (2, xi a2)]) (e_93 rfl) rfl rfl rfl ?_
        refine jr_aload_n (e_93 rfl) rfl rfl ?_
        refine jr_s (q := (24, [(4, xi (-2)), (3, xr 5 (4 * 0 + a1.toNat)), (0, xr 8 0), (1, xi a1), (2, xi a2)], [], σ)) (e_93 rfl) rfl rfl ?_
        refine jr_iload (e_93 rfl) rfl rfl ?_
        refine jr_bri (c := (-2) = 0) (pt := 32) (pn := 29) (e_93 rfl) rfl rfl (fun h4 => ?_) (fun h4 => ?_)
        · refine jr_aload_n (e_93 rfl) rfl rfl ?_
          refine jr_getr (K2 := 2) (i2 := 0) (e_93 rfl) rfl rfl rfl ?_
          refine jr_callP (as := [xr 2 0]) (S1 := []) (e_93 rfl) rfl rfl rfl rfl rfl rfl (jm_Pad_rowFault σ) rfl (fun v5 => ?_)
          refine jr_bipush (e_93 rfl) rfl ?_
          refine jr_brx (c := v5 = (-6)) (pt := 53) (pn := 44) (e_93 rfl) rfl rfl (fun h6 => ?_) (fun h6 => ?_)
          · refine jr_aload_n (e_93 rfl) rfl rfl ?_
            refine jr_aload_n (e_93 rfl) rfl rfl ?_
            refine jr_iload_n (e_93 rfl) rfl rfl ?_
            refine jr_callX (as := [xr 8 0, xr 5 (4 * 0 + a1.toNat), xi a2]) (S1 := []) (e_93 rfl) rfl rfl rfl rfl rfl rfl (jm_S_judged (4 * 0 + a1.toNat) a2 σ) rfl (fun v7 s8 => ?_)
            refine jr_goto (pc' := 55) (e_93 rfl) rfl ?_
            exact jr_retW (e_93 rfl) rfl
          · refine jr_bipush (e_93 rfl) rfl ?_
            exact jr_retW (e_93 rfl) rfl
        · refine jr_iload (e_93 rfl) rfl rfl ?_
          exact jr_retW (e_93 rfl) rfl
      · refine jr_aload_n (e_126 rfl) rfl rfl ?_
        refine jr_geti (e_126 rfl) rfl (by decide +kernel) ?_
        refine jr_bri (c := 0 ≤ (σ 5 (4 * 0 + a1.toNat) 1)) (pt := 25) (pn := 20) (e_126 rfl) rfl rfl (fun h1005 => ?_) (fun h1005 => ?_)
        · refine jr_iconst (e_126 rfl) rfl ?_
          refine jr_retCi (e_126 rfl) rfl ?_
          refine jr_istore (L' := [(4, xi 0), (3, xr 5 (4 * 0 + a1.toNat)), (0, xr 8 0), (1, xi a1), (2, xi a2)]) (e_93 rfl) rfl rfl rfl ?_
          refine jr_aload_n (e_93 rfl) rfl rfl ?_
          refine jr_s (q := (24, [(4, xi 0), (3, xr 5 (4 * 0 + a1.toNat)), (0, xr 8 0), (1, xi a1), (2, xi a2)], [], σ)) (e_93 rfl) rfl rfl ?_
          refine jr_iload (e_93 rfl) rfl rfl ?_
          refine jr_bri (c := 0 = 0) (pt := 32) (pn := 29) (e_93 rfl) rfl rfl (fun h9 => ?_) (fun h9 => ?_)
          · refine jr_aload_n (e_93 rfl) rfl rfl ?_
            refine jr_getr (K2 := 2) (i2 := 0) (e_93 rfl) rfl rfl rfl ?_
            refine jr_callP (as := [xr 2 0]) (S1 := []) (e_93 rfl) rfl rfl rfl rfl rfl rfl (jm_Pad_rowFault σ) rfl (fun v10 => ?_)
            refine jr_bipush (e_93 rfl) rfl ?_
            refine jr_brx (c := v10 = (-6)) (pt := 53) (pn := 44) (e_93 rfl) rfl rfl (fun h11 => ?_) (fun h11 => ?_)
            · refine jr_aload_n (e_93 rfl) rfl rfl ?_
              refine jr_aload_n (e_93 rfl) rfl rfl ?_
              refine jr_iload_n (e_93 rfl) rfl rfl ?_
              refine jr_callX (as := [xr 8 0, xr 5 (4 * 0 + a1.toNat), xi a2]) (S1 := []) (e_93 rfl) rfl rfl rfl rfl rfl rfl (jm_S_judged (4 * 0 + a1.toNat) a2 σ) rfl (fun v12 s13 => ?_)
              refine jr_goto (pc' := 55) (e_93 rfl) rfl ?_
              exact jr_retW (e_93 rfl) rfl
            · refine jr_bipush (e_93 rfl) rfl ?_
              exact jr_retW (e_93 rfl) rfl
          · refine jr_iload (e_93 rfl) rfl rfl ?_
            exact jr_retW (e_93 rfl) rfl
        · refine jr_bipush (e_126 rfl) rfl ?_
          refine jr_goto (pc' := 26) (e_126 rfl) rfl ?_
          refine jr_retCi (e_126 rfl) rfl ?_
          refine jr_istore (L' := [(4, xi (-3)), (3, xr 5 (4 * 0 + a1.toNat)), (0, xr 8 0), (1, xi a1), (2, xi a2)]) (e_93 rfl) rfl rfl rfl ?_
          refine jr_aload_n (e_93 rfl) rfl rfl ?_
          refine jr_s (q := (24, [(4, xi (-3)), (3, xr 5 (4 * 0 + a1.toNat)), (0, xr 8 0), (1, xi a1), (2, xi a2)], [], σ)) (e_93 rfl) rfl rfl ?_
          refine jr_iload (e_93 rfl) rfl rfl ?_
          refine jr_bri (c := (-3) = 0) (pt := 32) (pn := 29) (e_93 rfl) rfl rfl (fun h14 => ?_) (fun h14 => ?_)
          · refine jr_aload_n (e_93 rfl) rfl rfl ?_
            refine jr_getr (K2 := 2) (i2 := 0) (e_93 rfl) rfl rfl rfl ?_
            refine jr_callP (as := [xr 2 0]) (S1 := []) (e_93 rfl) rfl rfl rfl rfl rfl rfl (jm_Pad_rowFault σ) rfl (fun v15 => ?_)
            refine jr_bipush (e_93 rfl) rfl ?_
            refine jr_brx (c := v15 = (-6)) (pt := 53) (pn := 44) (e_93 rfl) rfl rfl (fun h16 => ?_) (fun h16 => ?_)
            · refine jr_aload_n (e_93 rfl) rfl rfl ?_
              refine jr_aload_n (e_93 rfl) rfl rfl ?_
              refine jr_iload_n (e_93 rfl) rfl rfl ?_
              refine jr_callX (as := [xr 8 0, xr 5 (4 * 0 + a1.toNat), xi a2]) (S1 := []) (e_93 rfl) rfl rfl rfl rfl rfl rfl (jm_S_judged (4 * 0 + a1.toNat) a2 σ) rfl (fun v17 s18 => ?_)
              refine jr_goto (pc' := 55) (e_93 rfl) rfl ?_
              exact jr_retW (e_93 rfl) rfl
            · refine jr_bipush (e_93 rfl) rfl ?_
              exact jr_retW (e_93 rfl) rfl
          · refine jr_iload (e_93 rfl) rfl rfl ?_
            exact jr_retW (e_93 rfl) rfl

theorem e_94 {pc : Nat} {en : xa_I} (h : xlk pc xc_94 = some en) : xcd 94 pc = some en := h
noncomputable def fm_S_move_60 (r2 : Nat) (σ : xa_H) (K : Int → Option (Int × xa_H)) : Nat → Int → Int → Option (Int × xa_H)
  | 0, _, _ => none
  | n + 1, x4, x5 =>
    if (σ 2 0 1) ≤ x5 then
      K x4
    else
      (fm_Pad_moveAt x5 σ).bind fun v2 =>
      (fm_Search_step x4 v2 σ).bind fun v3 =>
      xnm (w32 (x5 + 1) : Int) fun v4 =>
      fm_S_move_60 r2 σ K n v3 v4
theorem jl_S_move_60 (r2 : Nat) (σ : xa_H)  (K : Int → Option (Int × xa_H)) (hK60 : ∀ (z0 : Int), J 94 98 [(0, xr 8 0), (2, xr 5 r2), (4, xi z0)] [] σ jqW (K z0)) : ∀ (n : Nat) (x4 : Int) (x5 : Int), J 94 60 [(0, xr 8 0), (2, xr 5 r2), (4, xi x4), (5, xi x5)] [] σ jqW (fm_S_move_60 r2 σ K n x4 x5) := by
  intro n
  induction n with
  | zero => intro x4 x5; exact jr_none
  | succ n ih60 =>
    intro x4 x5
    rw [fm_S_move_60]
    refine jr_iload (e_94 rfl) rfl rfl ?_
    refine jr_aload_n (e_94 rfl) rfl rfl ?_
    refine jr_getr (K2 := 2) (i2 := 0) (e_94 rfl) rfl rfl rfl ?_
    refine jr_geti (e_94 rfl) rfl (by decide +kernel) ?_
    refine jr_bri (c := (σ 2 0 1) ≤ x5) (pt := 98) (pn := 72) (e_94 rfl) rfl rfl (fun h1 => ?_) (fun h1 => ?_)
    · exact jr_sub (show ([0, 2, 4, 5] : List Nat).Nodup from by decide) (xsb_c (List.Mem.head _) (xsb_c (List.Mem.tail _ (List.Mem.head _)) (xsb_c (List.Mem.tail _ (List.Mem.tail _ (List.Mem.head _))) xsb_n))) (hK60 x4)
    · refine jr_aload_n (e_94 rfl) rfl rfl ?_
      refine jr_getr (K2 := 3) (i2 := 0) (e_94 rfl) rfl rfl rfl ?_
      refine jr_iload (e_94 rfl) rfl rfl ?_
      refine jr_aload_n (e_94 rfl) rfl rfl ?_
      refine jr_getr (K2 := 2) (i2 := 0) (e_94 rfl) rfl rfl rfl ?_
      refine jr_iload (e_94 rfl) rfl rfl ?_
      refine jr_callP (as := [xr 2 0, xi x5]) (S1 := [xi x4, xr 3 0]) (e_94 rfl) rfl rfl rfl rfl rfl rfl (jm_Pad_moveAt x5 σ) rfl (fun v2 => ?_)
      refine jr_callP (as := [xr 3 0, xi x4, xi v2]) (S1 := []) (e_94 rfl) rfl rfl rfl rfl rfl rfl (jm_Search_step x4 v2 σ) rfl (fun v3 => ?_)
      refine jr_istore (L' := [(4, xi v3), (0, xr 8 0), (2, xr 5 r2), (5, xi x5)]) (e_94 rfl) rfl rfl rfl ?_
      refine jr_iinc (L2 := fun c => [(5, xi c), (4, xi v3), (0, xr 8 0), (2, xr 5 r2)]) (e_94 rfl) rfl rfl rfl (fun _ => rfl) (fun v4 => ?_)
      refine jr_goto (pc' := 60) (e_94 rfl) rfl ?_
      exact jr_sub (show ([5, 4, 0, 2] : List Nat).Nodup from by decide) (xsb_c (List.Mem.tail _ (List.Mem.tail _ (List.Mem.head _))) (xsb_c (List.Mem.tail _ (List.Mem.tail _ (List.Mem.tail _ (List.Mem.head _)))) (xsb_c (List.Mem.tail _ (List.Mem.head _)) (xsb_c (List.Mem.head _) xsb_n)))) (ih60 v3 v4)
noncomputable def fm_S_move (a1 : Int) (σ : xa_H) : Option (Int × xa_H) :=
  if a1 < 0 then
    some ((-1), σ)
  else
    if 4 ≤ a1 then
      some ((-1), σ)
    else
      if 0 ≤ a1 ∧ a1 < 4 then
        if 1 = 0 then
          if (-2) = 0 then
            (fm_Pad_rowFault σ).bind fun v2 =>
            if v2 = (-6) then
              xb2 (fm_S_judged (4 * 0 + a1.toNat) 0 σ) fun v4 s5 =>
              if v4 = (-6) then
                (fm_Thing_stand (4 * 0 + a1.toNat) s5).bind fun v7 =>
                fm_S_move_60 (4 * 0 + a1.toNat) s5 (fun (v8 : Int) =>
                  xnm (xup s5 5 (4 * 0 + a1.toNat) 1 (xdiv v8 24)) fun s9 =>
                  xnm (xup s9 5 (4 * 0 + a1.toNat) 2 (xrem v8 24)) fun s10 =>
                  xb2 (fm_Pad_clear s10) fun v11 s12 =>
                  (fm_Answer_forget s12).bind fun s13 =>
                  (fm_S_cellOf (s13 5 (4 * 0 + a1.toNat) 1)).bind fun v14 =>
                  some (v14, s13)) xFU v7 0
              else
                some ((-5), s5)
            else
              some ((-5), σ)
          else
            some ((-2), σ)
        else
          if 0 ≤ (σ 5 (4 * 0 + a1.toNat) 1) then
            if 0 = 0 then
              (fm_Pad_rowFault σ).bind fun v16 =>
              if v16 = (-6) then
                xb2 (fm_S_judged (4 * 0 + a1.toNat) 0 σ) fun v18 s19 =>
                if v18 = (-6) then
                  (fm_Thing_stand (4 * 0 + a1.toNat) s19).bind fun v21 =>
                  fm_S_move_60 (4 * 0 + a1.toNat) s19 (fun (v22 : Int) =>
                    xnm (xup s19 5 (4 * 0 + a1.toNat) 1 (xdiv v22 24)) fun s23 =>
                    xnm (xup s23 5 (4 * 0 + a1.toNat) 2 (xrem v22 24)) fun s24 =>
                    xb2 (fm_Pad_clear s24) fun v25 s26 =>
                    (fm_Answer_forget s26).bind fun s27 =>
                    (fm_S_cellOf (s27 5 (4 * 0 + a1.toNat) 1)).bind fun v28 =>
                    some (v28, s27)) xFU v21 0
                else
                  some ((-5), s19)
              else
                some ((-5), σ)
            else
              some (0, σ)
          else
            if (-3) = 0 then
              (fm_Pad_rowFault σ).bind fun v30 =>
              if v30 = (-6) then
                xb2 (fm_S_judged (4 * 0 + a1.toNat) 0 σ) fun v32 s33 =>
                if v32 = (-6) then
                  (fm_Thing_stand (4 * 0 + a1.toNat) s33).bind fun v35 =>
                  fm_S_move_60 (4 * 0 + a1.toNat) s33 (fun (v36 : Int) =>
                    xnm (xup s33 5 (4 * 0 + a1.toNat) 1 (xdiv v36 24)) fun s37 =>
                    xnm (xup s37 5 (4 * 0 + a1.toNat) 2 (xrem v36 24)) fun s38 =>
                    xb2 (fm_Pad_clear s38) fun v39 s40 =>
                    (fm_Answer_forget s40).bind fun s41 =>
                    (fm_S_cellOf (s41 5 (4 * 0 + a1.toNat) 1)).bind fun v42 =>
                    some (v42, s41)) xFU v35 0
                else
                  some ((-5), s33)
              else
                some ((-5), σ)
            else
              some ((-3), σ)
      else none
theorem jm_S_move (a1 : Int) (σ : xa_H) : J 94 0 [(0, xr 8 0), (1, xi a1)] [] σ jqW (fm_S_move a1 σ) := by
  unfold fm_S_move
  refine jr_aload_n (e_94 rfl) rfl rfl ?_
  refine jr_getr (K2 := 4) (i2 := 0) (e_94 rfl) rfl rfl rfl ?_
  refine jr_iload_n (e_94 rfl) rfl rfl ?_
  refine jr_inl (as := [xr 4 0, xi a1]) (S1 := []) (L' := [(0, xr 4 0), (1, xi a1)]) (e_94 rfl) rfl rfl rfl rfl rfl rfl rfl rfl ?_
  refine jr_iload_n (e_51 rfl) rfl rfl ?_
  refine jr_bri (c := a1 < 0) (pt := 22) (pn := 4) (e_51 rfl) rfl rfl (fun h1001 => ?_) (fun h1001 => ?_)
  · refine jr_null (e_51 rfl) rfl ?_
    refine jr_retC (e_51 rfl) ?_
    refine jr_astore_n (L' := [(2, xn), (0, xr 8 0), (1, xi a1)]) (e_94 rfl) rfl rfl rfl ?_
    refine jr_aload_n (e_94 rfl) rfl rfl ?_
    refine jr_iconst (e_94 rfl) rfl ?_
    refine jr_inl (as := [xn, xi 1]) (S1 := []) (L' := [(0, xn), (1, xi 1)]) (e_94 rfl) rfl rfl rfl rfl rfl rfl rfl rfl ?_
    refine jr_aload_n (e_126 rfl) rfl rfl ?_
    refine jr_s (q := (4, [(0, xn), (1, xi 1)], [], σ)) (e_126 rfl) rfl rfl ?_
    refine jr_iconst (e_126 rfl) rfl ?_
    refine jr_retCi (e_126 rfl) rfl ?_
    refine jr_istore_n (L' := [(3, xi (-1)), (2, xn), (0, xr 8 0), (1, xi a1)]) (e_94 rfl) rfl rfl rfl ?_
    refine jr_aload_n (e_94 rfl) rfl rfl ?_
    refine jr_s (q := (23, [(3, xi (-1)), (2, xn), (0, xr 8 0), (1, xi a1)], [], σ)) (e_94 rfl) rfl rfl ?_
    refine jr_iload_n (e_94 rfl) rfl rfl ?_
    exact jr_retW (e_94 rfl) rfl
  · refine jr_iload_n (e_51 rfl) rfl rfl ?_
    refine jr_aload_n (e_51 rfl) rfl rfl ?_
    refine jr_getr (K2 := 24) (i2 := 0) (e_51 rfl) rfl rfl rfl ?_
    refine jr_alen (a := 4) (e_51 rfl) rfl (by decide +kernel) rfl ?_
    refine jr_bri (c := 4 ≤ a1) (pt := 22) (pn := 13) (e_51 rfl) rfl rfl (fun h1002 => ?_) (fun h1002 => ?_)
    · refine jr_null (e_51 rfl) rfl ?_
      refine jr_retC (e_51 rfl) ?_
      refine jr_astore_n (L' := [(2, xn), (0, xr 8 0), (1, xi a1)]) (e_94 rfl) rfl rfl rfl ?_
      refine jr_aload_n (e_94 rfl) rfl rfl ?_
      refine jr_iconst (e_94 rfl) rfl ?_
      refine jr_inl (as := [xn, xi 1]) (S1 := []) (L' := [(0, xn), (1, xi 1)]) (e_94 rfl) rfl rfl rfl rfl rfl rfl rfl rfl ?_
      refine jr_aload_n (e_126 rfl) rfl rfl ?_
      refine jr_s (q := (4, [(0, xn), (1, xi 1)], [], σ)) (e_126 rfl) rfl rfl ?_
      refine jr_iconst (e_126 rfl) rfl ?_
      refine jr_retCi (e_126 rfl) rfl ?_
      refine jr_istore_n (L' := [(3, xi (-1)), (2, xn), (0, xr 8 0), (1, xi a1)]) (e_94 rfl) rfl rfl rfl ?_
      refine jr_aload_n (e_94 rfl) rfl rfl ?_
      refine jr_s (q := (23, [(3, xi (-1)), (2, xn), (0, xr 8 0), (1, xi a1)], [], σ)) (e_94 rfl) rfl rfl ?_
      refine jr_iload_n (e_94 rfl) rfl rfl ?_
      exact jr_retW (e_94 rfl) rfl
    · refine jr_aload_n (e_51 rfl) rfl rfl ?_
      refine jr_getr (K2 := 24) (i2 := 0) (e_51 rfl) rfl rfl rfl ?_
      refine jr_iload_n (e_51 rfl) rfl rfl ?_
      refine jr_aald (n := 4) (K2 := 5) (i2 := (4 * 0 + a1.toNat)) (e_51 rfl) rfl (by decide +kernel) rfl rfl ?_
      refine jr_goto (pc' := 23) (e_51 rfl) rfl ?_
      refine jr_retC (e_51 rfl) ?_
      refine jr_astore_n (L' := [(2, xr 5 (4 * 0 + a1.toNat)), (0, xr 8 0), (1, xi a1)]) (e_94 rfl) rfl rfl rfl ?_
      refine jr_aload_n (e_94 rfl) rfl rfl ?_
      refine jr_iconst (e_94 rfl) rfl ?_
      refine jr_inl (as := [xr 5 (4 * 0 + a1.toNat), xi 1]) (S1 := []) (L' := [(0, xr 5 (4 * 0 + a1.toNat)), (1, xi 1)]) (e_94 rfl) rfl rfl rfl rfl rfl rfl rfl rfl ?_
      refine jr_aload_n (e_126 rfl) rfl rfl ?_
      refine jr_s (q := (6, [(0, xr 5 (4 * 0 + a1.toNat)), (1, xi 1)], [], σ)) (e_126 rfl) rfl rfl ?_
      refine jr_iload_n (e_126 rfl) rfl rfl ?_
      refine jr_brx (c := 1 = 0) (pt := 13) (pn := 10) (e_126 rfl) rfl rfl (fun h1001 => ?_) (fun h1001 => ?_)
      · refine jr_bipush (e_126 rfl) rfl ?_
        refine jr_retCi (e_126 rfl) rfl ?_
        refine jr_istore_n (L' := [(3, xi (-2)), (2, xr 5 (4 * 0 + a1.toNat)), (0, xr 8 0), (1, xi a1)]) (e_94 rfl) rfl rfl rfl ?_
        refine jr_aload_n (e_94 rfl) rfl rfl ?_
        refine jr_s (q := (19, [(3, xi (-2)), (2, xr 5 (4 * 0 + a1.toNat)), (0, xr 8 0), (1, xi a1)], [], σ)) (e_94 rfl) rfl rfl ?_
        refine jr_iload_n (e_94 rfl) rfl rfl ?_
        refine jr_bri (c := (-2) = 0) (pt := 25) (pn := 23) (e_94 rfl) rfl rfl (fun h1 => ?_) (fun h1 => ?_)
        · refine jr_aload_n (e_94 rfl) rfl rfl ?_
          refine jr_getr (K2 := 2) (i2 := 0) (e_94 rfl) rfl rfl rfl ?_
          refine jr_callP (as := [xr 2 0]) (S1 := []) (e_94 rfl) rfl rfl rfl rfl rfl rfl (jm_Pad_rowFault σ) rfl (fun v2 => ?_)
          refine jr_bipush (e_94 rfl) rfl ?_
          refine jr_brx (c := v2 = (-6)) (pt := 48) (pn := 37) (e_94 rfl) rfl rfl (fun h3 => ?_) (fun h3 => ?_)
          · refine jr_aload_n (e_94 rfl) rfl rfl ?_
            refine jr_aload_n (e_94 rfl) rfl rfl ?_
            refine jr_iconst (e_94 rfl) rfl ?_
            refine jr_callX (as := [xr 8 0, xr 5 (4 * 0 + a1.toNat), xi 0]) (S1 := []) (e_94 rfl) rfl rfl rfl rfl rfl rfl (jm_S_judged (4 * 0 + a1.toNat) 0 σ) rfl (fun v4 s5 => ?_)
            refine jr_bipush (e_94 rfl) rfl ?_
            refine jr_bri (c := v4 = (-6)) (pt := 51) (pn := 48) (e_94 rfl) rfl rfl (fun h6 => ?_) (fun h6 => ?_)
            · refine jr_aload_n (e_94 rfl) rfl rfl ?_
              refine jr_callP (as := [xr 5 (4 * 0 + a1.toNat)]) (S1 := []) (e_94 rfl) rfl rfl rfl rfl rfl rfl (jm_Thing_stand (4 * 0 + a1.toNat) s5) rfl (fun v7 => ?_)
              refine jr_istore (L' := [(4, xi v7), (3, xi (-2)), (2, xr 5 (4 * 0 + a1.toNat)), (0, xr 8 0), (1, xi a1)]) (e_94 rfl) rfl rfl rfl ?_
              refine jr_iconst (e_94 rfl) rfl ?_
              refine jr_istore (L' := [(5, xi 0), (4, xi v7), (3, xi (-2)), (2, xr 5 (4 * 0 + a1.toNat)), (0, xr 8 0), (1, xi a1)]) (e_94 rfl) rfl rfl rfl ?_
              refine jr_sub (show ([5, 4, 3, 2, 0, 1] : List Nat).Nodup from by decide) (xsb_c (List.Mem.tail _ (List.Mem.tail _ (List.Mem.tail _ (List.Mem.tail _ (List.Mem.head _))))) (xsb_c (List.Mem.tail _ (List.Mem.tail _ (List.Mem.tail _ (List.Mem.head _)))) (xsb_c (List.Mem.tail _ (List.Mem.head _)) (xsb_c (List.Mem.head _) xsb_n)))) (jl_S_move_60 (4 * 0 + a1.toNat) s5 _ (fun v8 => ?_) xFU v7 0)
              refine jr_aload_n (e_94 rfl) rfl rfl ?_
              refine jr_iload (e_94 rfl) rfl rfl ?_
              refine jr_bipush (e_94 rfl) rfl ?_
              refine jr_idiv (e_94 rfl) rfl (by decide) ?_
              refine jr_put (e_94 rfl) rfl rfl rfl ?_
              refine jr_nms (fun s9 => ?_)
              refine jr_aload_n (e_94 rfl) rfl rfl ?_
              refine jr_iload (e_94 rfl) rfl rfl ?_
              refine jr_bipush (e_94 rfl) rfl ?_
              refine jr_irem (e_94 rfl) rfl (by decide) ?_
              refine jr_put (e_94 rfl) rfl rfl rfl ?_
              refine jr_nms (fun s10 => ?_)
              refine jr_aload_n (e_94 rfl) rfl rfl ?_
              refine jr_getr (K2 := 2) (i2 := 0) (e_94 rfl) rfl rfl rfl ?_
              refine jr_callX (as := [xr 2 0]) (S1 := []) (e_94 rfl) rfl rfl rfl rfl rfl rfl (jm_Pad_clear s10) rfl (fun v11 s12 => ?_)
              refine jr_pop (e_94 rfl) rfl rfl ?_
              refine jr_aload_n (e_94 rfl) rfl rfl ?_
              refine jr_getr (K2 := 0) (i2 := 0) (e_94 rfl) rfl rfl rfl ?_
              refine jr_callV (as := [xr 0 0]) (S1 := []) (e_94 rfl) rfl rfl rfl rfl rfl rfl (jm_Answer_forget s12) rfl (fun s13 => ?_)
              refine jr_aload_n (e_94 rfl) rfl rfl ?_
              refine jr_geti (e_94 rfl) rfl (by decide +kernel) ?_
              refine jr_callP (as := [xi (s13 5 (4 * 0 + a1.toNat) 1)]) (S1 := []) (e_94 rfl) rfl rfl rfl rfl rfl rfl (jm_S_cellOf (s13 5 (4 * 0 + a1.toNat) 1) s13) rfl (fun v14 => ?_)
              exact jr_retW (e_94 rfl) rfl
            · refine jr_bipush (e_94 rfl) rfl ?_
              exact jr_retW (e_94 rfl) rfl
          · refine jr_bipush (e_94 rfl) rfl ?_
            exact jr_retW (e_94 rfl) rfl
        · refine jr_iload_n (e_94 rfl) rfl rfl ?_
          exact jr_retW (e_94 rfl) rfl
      · refine jr_aload_n (e_126 rfl) rfl rfl ?_
        refine jr_geti (e_126 rfl) rfl (by decide +kernel) ?_
        refine jr_bri (c := 0 ≤ (σ 5 (4 * 0 + a1.toNat) 1)) (pt := 25) (pn := 20) (e_126 rfl) rfl rfl (fun h1002 => ?_) (fun h1002 => ?_)
        · refine jr_iconst (e_126 rfl) rfl ?_
          refine jr_retCi (e_126 rfl) rfl ?_
          refine jr_istore_n (L' := [(3, xi 0), (2, xr 5 (4 * 0 + a1.toNat)), (0, xr 8 0), (1, xi a1)]) (e_94 rfl) rfl rfl rfl ?_
          refine jr_aload_n (e_94 rfl) rfl rfl ?_
          refine jr_s (q := (19, [(3, xi 0), (2, xr 5 (4 * 0 + a1.toNat)), (0, xr 8 0), (1, xi a1)], [], σ)) (e_94 rfl) rfl rfl ?_
          refine jr_iload_n (e_94 rfl) rfl rfl ?_
          refine jr_bri (c := 0 = 0) (pt := 25) (pn := 23) (e_94 rfl) rfl rfl (fun h15 => ?_) (fun h15 => ?_)
          · refine jr_aload_n (e_94 rfl) rfl rfl ?_
            refine jr_getr (K2 := 2) (i2 := 0) (e_94 rfl) rfl rfl rfl ?_
            refine jr_callP (as := [xr 2 0]) (S1 := []) (e_94 rfl) rfl rfl rfl rfl rfl rfl (jm_Pad_rowFault σ) rfl (fun v16 => ?_)
            refine jr_bipush (e_94 rfl) rfl ?_
            refine jr_brx (c := v16 = (-6)) (pt := 48) (pn := 37) (e_94 rfl) rfl rfl (fun h17 => ?_) (fun h17 => ?_)
            · refine jr_aload_n (e_94 rfl) rfl rfl ?_
              refine jr_aload_n (e_94 rfl) rfl rfl ?_
              refine jr_iconst (e_94 rfl) rfl ?_
              refine jr_callX (as := [xr 8 0, xr 5 (4 * 0 + a1.toNat), xi 0]) (S1 := []) (e_94 rfl) rfl rfl rfl rfl rfl rfl (jm_S_judged (4 * 0 + a1.toNat) 0 σ) rfl (fun v18 s19 => ?_)
              refine jr_bipush (e_94 rfl) rfl ?_
              refine jr_bri (c := v18 = (-6)) (pt := 51) (pn := 48) (e_94 rfl) rfl rfl (fun h20 => ?_) (fun h20 => ?_)
              · refine jr_aload_n (e_94 rfl) rfl rfl ?_
                refine jr_callP (as := [xr 5 (4 * 0 + a1.toNat)]) (S1 := []) (e_94 rfl) rfl rfl rfl rfl rfl rfl (jm_Thing_stand (4 * 0 + a1.toNat) s19) rfl (fun v21 => ?_)
                refine jr_istore (L' := [(4, xi v21), (3, xi 0), (2, xr 5 (4 * 0 + a1.toNat)), (0, xr 8 0), (1, xi a1)]) (e_94 rfl) rfl rfl rfl ?_
                refine jr_iconst (e_94 rfl) rfl ?_
                refine jr_istore (L' := [(5, xi 0), (4, xi v21), (3, xi 0), (2, xr 5 (4 * 0 + a1.toNat)), (0, xr 8 0), (1, xi a1)]) (e_94 rfl) rfl rfl rfl ?_
                refine jr_sub (show ([5, 4, 3, 2, 0, 1] : List Nat).Nodup from by decide) (xsb_c (List.Mem.tail _ (List.Mem.tail _ (List.Mem.tail _ (List.Mem.tail _ (List.Mem.head _))))) (xsb_c (List.Mem.tail _ (List.Mem.tail _ (List.Mem.tail _ (List.Mem.head _)))) (xsb_c (List.Mem.tail _ (List.Mem.head _)) (xsb_c (List.Mem.head _) xsb_n)))) (jl_S_move_60 (4 * 0 + a1.toNat) s19 _ (fun v22 => ?_) xFU v21 0)
                refine jr_aload_n (e_94 rfl) rfl rfl ?_
                refine jr_iload (e_94 rfl) rfl rfl ?_
                refine jr_bipush (e_94 rfl) rfl ?_
                refine jr_idiv (e_94 rfl) rfl (by decide) ?_
                refine jr_put (e_94 rfl) rfl rfl rfl ?_
                refine jr_nms (fun s23 => ?_)
                refine jr_aload_n (e_94 rfl) rfl rfl ?_
                refine jr_iload (e_94 rfl) rfl rfl ?_
                refine jr_bipush (e_94 rfl) rfl ?_
                refine jr_irem (e_94 rfl) rfl (by decide) ?_
                refine jr_put (e_94 rfl) rfl rfl rfl ?_
                refine jr_nms (fun s24 => ?_)
                refine jr_aload_n (e_94 rfl) rfl rfl ?_
                refine jr_getr (K2 := 2) (i2 := 0) (e_94 rfl) rfl rfl rfl ?_
                refine jr_callX (as := [xr 2 0]) (S1 := []) (e_94 rfl) rfl rfl rfl rfl rfl rfl (jm_Pad_clear s24) rfl (fun v25 s26 => ?_)
                refine jr_pop (e_94 rfl) rfl rfl ?_
                refine jr_aload_n (e_94 rfl) rfl rfl ?_
                refine jr_getr (K2 := 0) (i2 := 0) (e_94 rfl) rfl rfl rfl ?_
                refine jr_callV (as := [xr 0 0]) (S1 := []) (e_94 rfl) rfl rfl rfl rfl rfl rfl (jm_Answer_forget s26) rfl (fun s27 => ?_)
                refine jr_aload_n (e_94 rfl) rfl rfl ?_
                refine jr_geti (e_94 rfl) rfl (by decide +kernel) ?_
                refine jr_callP (as := [xi (s27 5 (4 * 0 + a1.toNat) 1)]) (S1 := []) (e_94 rfl) rfl rfl rfl rfl rfl rfl (jm_S_cellOf (s27 5 (4 * 0 + a1.toNat) 1) s27) rfl (fun v28 => ?_)
                exact jr_retW (e_94 rfl) rfl
              · refine jr_bipush (e_94 rfl) rfl ?_
                exact jr_retW (e_94 rfl) rfl
            · refine jr_bipush (e_94 rfl) rfl ?_
              exact jr_retW (e_94 rfl) rfl
          · refine jr_iload_n (e_94 rfl) rfl rfl ?_
            exact jr_retW (e_94 rfl) rfl
        · refine jr_bipush (e_126 rfl) rfl ?_
          refine jr_goto (pc' := 26) (e_126 rfl) rfl ?_
          refine jr_retCi (e_126 rfl) rfl ?_
          refine jr_istore_n (L' := [(3, xi (-3)), (2, xr 5 (4 * 0 + a1.toNat)), (0, xr 8 0), (1, xi a1)]) (e_94 rfl) rfl rfl rfl ?_
          refine jr_aload_n (e_94 rfl) rfl rfl ?_
          refine jr_s (q := (19, [(3, xi (-3)), (2, xr 5 (4 * 0 + a1.toNat)), (0, xr 8 0), (1, xi a1)], [], σ)) (e_94 rfl) rfl rfl ?_
          refine jr_iload_n (e_94 rfl) rfl rfl ?_
          refine jr_bri (c := (-3) = 0) (pt := 25) (pn := 23) (e_94 rfl) rfl rfl (fun h29 => ?_) (fun h29 => ?_)
          · refine jr_aload_n (e_94 rfl) rfl rfl ?_
            refine jr_getr (K2 := 2) (i2 := 0) (e_94 rfl) rfl rfl rfl ?_
            refine jr_callP (as := [xr 2 0]) (S1 := []) (e_94 rfl) rfl rfl rfl rfl rfl rfl (jm_Pad_rowFault σ) rfl (fun v30 => ?_)
            refine jr_bipush (e_94 rfl) rfl ?_
            refine jr_brx (c := v30 = (-6)) (pt := 48) (pn := 37) (e_94 rfl) rfl rfl (fun h31 => ?_) (fun h31 => ?_)
            · refine jr_aload_n (e_94 rfl) rfl rfl ?_
              refine jr_aload_n (e_94 rfl) rfl rfl ?_
              refine jr_iconst (e_94 rfl) rfl ?_
              refine jr_callX (as := [xr 8 0, xr 5 (4 * 0 + a1.toNat), xi 0]) (S1 := []) (e_94 rfl) rfl rfl rfl rfl rfl rfl (jm_S_judged (4 * 0 + a1.toNat) 0 σ) rfl (fun v32 s33 => ?_)
              refine jr_bipush (e_94 rfl) rfl ?_
              refine jr_bri (c := v32 = (-6)) (pt := 51) (pn := 48) (e_94 rfl) rfl rfl (fun h34 => ?_) (fun h34 => ?_)
              · refine jr_aload_n (e_94 rfl) rfl rfl ?_
                refine jr_callP (as := [xr 5 (4 * 0 + a1.toNat)]) (S1 := []) (e_94 rfl) rfl rfl rfl rfl rfl rfl (jm_Thing_stand (4 * 0 + a1.toNat) s33) rfl (fun v35 => ?_)
                refine jr_istore (L' := [(4, xi v35), (3, xi (-3)), (2, xr 5 (4 * 0 + a1.toNat)), (0, xr 8 0), (1, xi a1)]) (e_94 rfl) rfl rfl rfl ?_
                refine jr_iconst (e_94 rfl) rfl ?_
                refine jr_istore (L' := [(5, xi 0), (4, xi v35), (3, xi (-3)), (2, xr 5 (4 * 0 + a1.toNat)), (0, xr 8 0), (1, xi a1)]) (e_94 rfl) rfl rfl rfl ?_
                refine jr_sub (show ([5, 4, 3, 2, 0, 1] : List Nat).Nodup from by decide) (xsb_c (List.Mem.tail _ (List.Mem.tail _ (List.Mem.tail _ (List.Mem.tail _ (List.Mem.head _))))) (xsb_c (List.Mem.tail _ (List.Mem.tail _ (List.Mem.tail _ (List.Mem.head _)))) (xsb_c (List.Mem.tail _ (List.Mem.head _)) (xsb_c (List.Mem.head _) xsb_n)))) (jl_S_move_60 (4 * 0 + a1.toNat) s33 _ (fun v36 => ?_) xFU v35 0)
                refine jr_aload_n (e_94 rfl) rfl rfl ?_
                refine jr_iload (e_94 rfl) rfl rfl ?_
                refine jr_bipush (e_94 rfl) rfl ?_
                refine jr_idiv (e_94 rfl) rfl (by decide) ?_
                refine jr_put (e_94 rfl) rfl rfl rfl ?_
                refine jr_nms (fun s37 => ?_)
                refine jr_aload_n (e_94 rfl) rfl rfl ?_
                refine jr_iload (e_94 rfl) rfl rfl ?_
                refine jr_bipush (e_94 rfl) rfl ?_
                refine jr_irem (e_94 rfl) rfl (by decide) ?_
                refine jr_put (e_94 rfl) rfl rfl rfl ?_
                refine jr_nms (fun s38 => ?_)
                refine jr_aload_n (e_94 rfl) rfl rfl ?_
                refine jr_getr (K2 := 2) (i2 := 0) (e_94 rfl) rfl rfl rfl ?_
                refine jr_callX (as := [xr 2 0]) (S1 := []) (e_94 rfl) rfl rfl rfl rfl rfl rfl (jm_Pad_clear s38) rfl (fun v39 s40 => ?_)
                refine jr_pop (e_94 rfl) rfl rfl ?_
                refine jr_aload_n (e_94 rfl) rfl rfl ?_
                refine jr_getr (K2 := 0) (i2 := 0) (e_94 rfl) rfl rfl rfl ?_
                refine jr_callV (as := [xr 0 0]) (S1 := []) (e_94 rfl) rfl rfl rfl rfl rfl rfl (jm_Answer_forget s40) rfl (fun s41 => ?_)
                refine jr_aload_n (e_94 rfl) rfl rfl ?_
                refine jr_geti (e_94 rfl) rfl (by decide +kernel) ?_
                refine jr_callP (as := [xi (s41 5 (4 * 0 + a1.toNat) 1)]) (S1 := []) (e_94 rfl) rfl rfl rfl rfl rfl rfl (jm_S_cellOf (s41 5 (4 * 0 + a1.toNat) 1) s41) rfl (fun v42 => ?_)
                exact jr_retW (e_94 rfl) rfl
              · refine jr_bipush (e_94 rfl) rfl ?_
                exact jr_retW (e_94 rfl) rfl
            · refine jr_bipush (e_94 rfl) rfl ?_
              exact jr_retW (e_94 rfl) rfl
          · refine jr_iload_n (e_94 rfl) rfl rfl ?_
            exact jr_retW (e_94 rfl) rfl

theorem e_108 {pc : Nat} {en : xa_I} (h : xlk pc xc_108 = some en) : xcd 108 pc = some en := h
noncomputable def fm_S_findGoes (i1 : Nat) (σ : xa_H) : Option (xa_H) :=
  (fm_Thing_stand i1 σ).bind fun v1 =>
  xb2 (fm_Search_flood v1 (σ 5 i1 3) σ) fun v2 s3 =>
  if 0 ≤ v2 then
    (fm_Search_trace v2 s3).bind fun s5 =>
    xnm (xup s5 0 0 3 (s5 0 0 2)) fun s6 =>
    some s6
  else
    (fm_Answer_none s3).bind fun s7 =>
    some s7
theorem jm_S_findGoes (i1 : Nat) (σ : xa_H) : J 108 0 [(0, xr 8 0), (1, xr 5 i1)] [] σ jqV (fm_S_findGoes i1 σ) := by
  unfold fm_S_findGoes
  refine jr_aload_n (e_108 rfl) rfl rfl ?_
  refine jr_getr (K2 := 3) (i2 := 0) (e_108 rfl) rfl rfl rfl ?_
  refine jr_aload_n (e_108 rfl) rfl rfl ?_
  refine jr_callP (as := [xr 5 i1]) (S1 := [xr 3 0]) (e_108 rfl) rfl rfl rfl rfl rfl rfl (jm_Thing_stand i1 σ) rfl (fun v1 => ?_)
  refine jr_aload_n (e_108 rfl) rfl rfl ?_
  refine jr_geti (e_108 rfl) rfl (by decide +kernel) ?_
  refine jr_callX (as := [xr 3 0, xi v1, xi (σ 5 i1 3)]) (S1 := []) (e_108 rfl) rfl rfl rfl rfl rfl rfl (jm_Search_flood v1 (σ 5 i1 3) σ) rfl (fun v2 s3 => ?_)
  refine jr_istore_n (L' := [(2, xi v2), (0, xr 8 0), (1, xr 5 i1)]) (e_108 rfl) rfl rfl rfl ?_
  refine jr_iload_n (e_108 rfl) rfl rfl ?_
  refine jr_bri (c := 0 ≤ v2) (pt := 28) (pn := 20) (e_108 rfl) rfl rfl (fun h4 => ?_) (fun h4 => ?_)
  · refine jr_aload_n (e_108 rfl) rfl rfl ?_
    refine jr_getr (K2 := 3) (i2 := 0) (e_108 rfl) rfl rfl rfl ?_
    refine jr_iload_n (e_108 rfl) rfl rfl ?_
    refine jr_aload_n (e_108 rfl) rfl rfl ?_
    refine jr_getr (K2 := 0) (i2 := 0) (e_108 rfl) rfl rfl rfl ?_
    refine jr_callV (as := [xr 3 0, xi v2, xr 0 0]) (S1 := []) (e_108 rfl) rfl rfl rfl rfl rfl rfl (jm_Search_trace v2 s3) rfl (fun s5 => ?_)
    refine jr_aload_n (e_108 rfl) rfl rfl ?_
    refine jr_getr (K2 := 0) (i2 := 0) (e_108 rfl) rfl rfl rfl ?_
    refine jr_aload_n (e_108 rfl) rfl rfl ?_
    refine jr_getr (K2 := 0) (i2 := 0) (e_108 rfl) rfl rfl rfl ?_
    refine jr_geti (e_108 rfl) rfl (by decide +kernel) ?_
    refine jr_put (e_108 rfl) rfl rfl rfl ?_
    refine jr_nms (fun s6 => ?_)
    exact jr_retV (e_108 rfl)
  · refine jr_aload_n (e_108 rfl) rfl rfl ?_
    refine jr_getr (K2 := 0) (i2 := 0) (e_108 rfl) rfl rfl rfl ?_
    refine jr_callV (as := [xr 0 0]) (S1 := []) (e_108 rfl) rfl rfl rfl rfl rfl rfl (jm_Answer_none s3) rfl (fun s7 => ?_)
    exact jr_retV (e_108 rfl)

theorem e_128 {pc : Nat} {en : xa_I} (h : xlk pc xc_128 = some en) : xcd 128 pc = some en := h
noncomputable def fm_S_isSet (a0 : Int) : Option (Int) :=
  (fm_S_isUpTo a0 15).bind fun v1 =>
  some (v1 % 2)
theorem jm_S_isSet (a0 : Int) (σ : xa_H) : J 128 0 [(0, xi a0)] [] σ (jqP σ) (fm_S_isSet a0) := by
  unfold fm_S_isSet
  refine jr_iload_n (e_128 rfl) rfl rfl ?_
  refine jr_bipush (e_128 rfl) rfl ?_
  refine jr_callP (as := [xi a0, xi 15]) (S1 := []) (e_128 rfl) rfl rfl rfl rfl rfl rfl (jm_S_isUpTo a0 15 σ) rfl (fun v1 => ?_)
  exact jr_retPz (e_128 rfl) rfl rfl

theorem e_107 {pc : Nat} {en : xa_I} (h : xlk pc xc_107 = some en) : xcd 107 pc = some en := h
noncomputable def fm_S_rowAnswer (a1 : Int) (a2 : Int) (a3 : Int) (a4 : Int) (a5 : Int) (σ : xa_H) : Option (Int × xa_H) :=
  if a2 < 0 then
    (fm_S_isSet a3).bind fun v1 =>
    xj (fun (v3 : Int) =>
      some ((-1), σ)) fun K4 =>
    if v1 = 0 then
      K4 0
    else
      (fm_S_isSet a4).bind fun v6 =>
      if v6 = 0 then
        K4 0
      else
        K4 1
  else
    if 4 ≤ a2 then
      (fm_S_isSet a3).bind fun v8 =>
      xj (fun (v10 : Int) =>
        some ((-1), σ)) fun K11 =>
      if v8 = 0 then
        K11 0
      else
        (fm_S_isSet a4).bind fun v13 =>
        if v13 = 0 then
          K11 0
        else
          K11 1
    else
      if 0 ≤ a2 ∧ a2 < 4 then
        (fm_S_isSet a3).bind fun v15 =>
        xj (fun (v17 : Int) =>
          if v17 = 0 then
            if (-2) = 0 then
              xb2 (fm_Answer_isNew a1 a2 a3 a4 σ) fun v23 s24 =>
              xj (fun (s26 : xa_H) =>
                if a5 = (-1) then
                  some ((s26 0 0 3), s26)
                else
                  (fm_Answer_at a5 s26).bind fun v38 =>
                  some (v38, s26)) fun K27 =>
              if v23 = 0 then
                K27 s24
              else
                (fm_Search_about (4 * 0 + a2.toNat) s24).bind fun s29 =>
                (fm_Search_off a3 a4 s29).bind fun s30 =>
                if a1 = 1 then
                  (fm_S_findGoes (4 * 0 + a2.toNat) s30).bind fun s32 =>
                  K27 s32
                else
                  (fm_Thing_cubesOn (4 * 0 + a2.toNat) a3 s30).bind fun v33 =>
                  (fm_Cheapest_weigh 26 0 v33 s30).bind fun s34 =>
                  (fm_Thing_stand (4 * 0 + a2.toNat) s34).bind fun v35 =>
                  (fm_Cheapest_find v35 (s34 5 (4 * 0 + a2.toNat) 3) s34).bind fun s36 =>
                  K27 s36
            else
              some ((-2), σ)
          else
            if 0 ≤ (σ 5 (4 * 0 + a2.toNat) 1) then
              if 0 = 0 then
                xb2 (fm_Answer_isNew a1 a2 a3 a4 σ) fun v40 s41 =>
                xj (fun (s43 : xa_H) =>
                  if a5 = (-1) then
                    some ((s43 0 0 3), s43)
                  else
                    (fm_Answer_at a5 s43).bind fun v55 =>
                    some (v55, s43)) fun K44 =>
                if v40 = 0 then
                  K44 s41
                else
                  (fm_Search_about (4 * 0 + a2.toNat) s41).bind fun s46 =>
                  (fm_Search_off a3 a4 s46).bind fun s47 =>
                  if a1 = 1 then
                    (fm_S_findGoes (4 * 0 + a2.toNat) s47).bind fun s49 =>
                    K44 s49
                  else
                    (fm_Thing_cubesOn (4 * 0 + a2.toNat) a3 s47).bind fun v50 =>
                    (fm_Cheapest_weigh 26 0 v50 s47).bind fun s51 =>
                    (fm_Thing_stand (4 * 0 + a2.toNat) s51).bind fun v52 =>
                    (fm_Cheapest_find v52 (s51 5 (4 * 0 + a2.toNat) 3) s51).bind fun s53 =>
                    K44 s53
              else
                some (0, σ)
            else
              if (-3) = 0 then
                xb2 (fm_Answer_isNew a1 a2 a3 a4 σ) fun v57 s58 =>
                xj (fun (s60 : xa_H) =>
                  if a5 = (-1) then
                    some ((s60 0 0 3), s60)
                  else
                    (fm_Answer_at a5 s60).bind fun v72 =>
                    some (v72, s60)) fun K61 =>
                if v57 = 0 then
                  K61 s58
                else
                  (fm_Search_about (4 * 0 + a2.toNat) s58).bind fun s63 =>
                  (fm_Search_off a3 a4 s63).bind fun s64 =>
                  if a1 = 1 then
                    (fm_S_findGoes (4 * 0 + a2.toNat) s64).bind fun s66 =>
                    K61 s66
                  else
                    (fm_Thing_cubesOn (4 * 0 + a2.toNat) a3 s64).bind fun v67 =>
                    (fm_Cheapest_weigh 26 0 v67 s64).bind fun s68 =>
                    (fm_Thing_stand (4 * 0 + a2.toNat) s68).bind fun v69 =>
                    (fm_Cheapest_find v69 (s68 5 (4 * 0 + a2.toNat) 3) s68).bind fun s70 =>
                    K61 s70
              else
                some ((-3), σ)) fun K18 =>
        if v15 = 0 then
          K18 0
        else
          (fm_S_isSet a4).bind fun v20 =>
          if v20 = 0 then
            K18 0
          else
            K18 1
      else none
theorem jm_S_rowAnswer (a1 : Int) (a2 : Int) (a3 : Int) (a4 : Int) (a5 : Int) (σ : xa_H) : J 107 0 [(0, xr 8 0), (1, xi a1), (2, xi a2), (3, xi a3), (4, xi a4), (5, xi a5)] [] σ jqW (fm_S_rowAnswer a1 a2 a3 a4 a5 σ) := by
  unfold fm_S_rowAnswer
  refine jr_aload_n (e_107 rfl) rfl rfl ?_
  refine jr_getr (K2 := 4) (i2 := 0) (e_107 rfl) rfl rfl rfl ?_
  refine jr_iload_n (e_107 rfl) rfl rfl ?_
  refine jr_inl (as := [xr 4 0, xi a2]) (S1 := []) (L' := [(0, xr 4 0), (1, xi a2)]) (e_107 rfl) rfl rfl rfl rfl rfl rfl rfl rfl ?_
  refine jr_iload_n (e_51 rfl) rfl rfl ?_
  refine jr_bri (c := a2 < 0) (pt := 22) (pn := 4) (e_51 rfl) rfl rfl (fun h1001 => ?_) (fun h1001 => ?_)
  · refine jr_null (e_51 rfl) rfl ?_
    refine jr_retC (e_51 rfl) ?_
    refine jr_astore (L' := [(6, xn), (0, xr 8 0), (1, xi a1), (2, xi a2), (3, xi a3), (4, xi a4), (5, xi a5)]) (e_107 rfl) rfl rfl rfl ?_
    refine jr_aload (e_107 rfl) rfl rfl ?_
    refine jr_iload_n (e_107 rfl) rfl rfl ?_
    refine jr_callP (as := [xi a3]) (S1 := [xn]) (e_107 rfl) rfl rfl rfl rfl rfl rfl (jm_S_isSet a3 σ) rfl (fun v1 => ?_)
    refine jr_j (fun K4 => ∀ (v3 : Int), J 107 32 [(0, xr 8 0), (1, xi a1), (2, xi a2), (3, xi a3), (4, xi a4), (5, xi a5), (6, xn)] [xi v3, xn] σ jqW (K4 v3)) (fun v3 => ?_) (fun K4 hK4 => ?_)
    · refine jr_inl (as := [xn, xi v3]) (S1 := []) (L' := [(0, xn), (1, xi v3)]) (e_107 rfl) rfl rfl rfl rfl rfl rfl rfl rfl ?_
      refine jr_aload_n (e_126 rfl) rfl rfl ?_
      refine jr_s (q := (4, [(0, xn), (1, xi v3)], [], σ)) (e_126 rfl) rfl rfl ?_
      refine jr_iconst (e_126 rfl) rfl ?_
      refine jr_retCi (e_126 rfl) rfl ?_
      refine jr_istore (L' := [(7, xi (-1)), (0, xr 8 0), (1, xi a1), (2, xi a2), (3, xi a3), (4, xi a4), (5, xi a5), (6, xn)]) (e_107 rfl) rfl rfl rfl ?_
      refine jr_aload (e_107 rfl) rfl rfl ?_
      refine jr_s (q := (47, [(7, xi (-1)), (0, xr 8 0), (1, xi a1), (2, xi a2), (3, xi a3), (4, xi a4), (5, xi a5), (6, xn)], [], σ)) (e_107 rfl) rfl rfl ?_
      refine jr_iload (e_107 rfl) rfl rfl ?_
      exact jr_retW (e_107 rfl) rfl
    · refine jr_bri (c := v1 = 0) (pt := 31) (pn := 19) (e_107 rfl) rfl rfl (fun h5 => ?_) (fun h5 => ?_)
      · refine jr_iconst (e_107 rfl) rfl ?_
        exact jr_sub (show ([6, 0, 1, 2, 3, 4, 5] : List Nat).Nodup from by decide) (xsb_c (List.Mem.tail _ (List.Mem.head _)) (xsb_c (List.Mem.tail _ (List.Mem.tail _ (List.Mem.head _))) (xsb_c (List.Mem.tail _ (List.Mem.tail _ (List.Mem.tail _ (List.Mem.head _)))) (xsb_c (List.Mem.tail _ (List.Mem.tail _ (List.Mem.tail _ (List.Mem.tail _ (List.Mem.head _))))) (xsb_c (List.Mem.tail _ (List.Mem.tail _ (List.Mem.tail _ (List.Mem.tail _ (List.Mem.tail _ (List.Mem.head _)))))) (xsb_c (List.Mem.tail _ (List.Mem.tail _ (List.Mem.tail _ (List.Mem.tail _ (List.Mem.tail _ (List.Mem.tail _ (List.Mem.head _))))))) (xsb_c (List.Mem.head _) xsb_n))))))) (hK4 0)
      · refine jr_iload (e_107 rfl) rfl rfl ?_
        refine jr_callP (as := [xi a4]) (S1 := [xn]) (e_107 rfl) rfl rfl rfl rfl rfl rfl (jm_S_isSet a4 σ) rfl (fun v6 => ?_)
        refine jr_bri (c := v6 = 0) (pt := 31) (pn := 27) (e_107 rfl) rfl rfl (fun h7 => ?_) (fun h7 => ?_)
        · refine jr_iconst (e_107 rfl) rfl ?_
          exact jr_sub (show ([6, 0, 1, 2, 3, 4, 5] : List Nat).Nodup from by decide) (xsb_c (List.Mem.tail _ (List.Mem.head _)) (xsb_c (List.Mem.tail _ (List.Mem.tail _ (List.Mem.head _))) (xsb_c (List.Mem.tail _ (List.Mem.tail _ (List.Mem.tail _ (List.Mem.head _)))) (xsb_c (List.Mem.tail _ (List.Mem.tail _ (List.Mem.tail _ (List.Mem.tail _ (List.Mem.head _))))) (xsb_c (List.Mem.tail _ (List.Mem.tail _ (List.Mem.tail _ (List.Mem.tail _ (List.Mem.tail _ (List.Mem.head _)))))) (xsb_c (List.Mem.tail _ (List.Mem.tail _ (List.Mem.tail _ (List.Mem.tail _ (List.Mem.tail _ (List.Mem.tail _ (List.Mem.head _))))))) (xsb_c (List.Mem.head _) xsb_n))))))) (hK4 0)
        · refine jr_iconst (e_107 rfl) rfl ?_
          refine jr_goto (pc' := 32) (e_107 rfl) rfl ?_
          exact jr_sub (show ([6, 0, 1, 2, 3, 4, 5] : List Nat).Nodup from by decide) (xsb_c (List.Mem.tail _ (List.Mem.head _)) (xsb_c (List.Mem.tail _ (List.Mem.tail _ (List.Mem.head _))) (xsb_c (List.Mem.tail _ (List.Mem.tail _ (List.Mem.tail _ (List.Mem.head _)))) (xsb_c (List.Mem.tail _ (List.Mem.tail _ (List.Mem.tail _ (List.Mem.tail _ (List.Mem.head _))))) (xsb_c (List.Mem.tail _ (List.Mem.tail _ (List.Mem.tail _ (List.Mem.tail _ (List.Mem.tail _ (List.Mem.head _)))))) (xsb_c (List.Mem.tail _ (List.Mem.tail _ (List.Mem.tail _ (List.Mem.tail _ (List.Mem.tail _ (List.Mem.tail _ (List.Mem.head _))))))) (xsb_c (List.Mem.head _) xsb_n))))))) (hK4 1)
  · refine jr_iload_n (e_51 rfl) rfl rfl ?_
    refine jr_aload_n (e_51 rfl) rfl rfl ?_
    refine jr_getr (K2 := 24) (i2 := 0) (e_51 rfl) rfl rfl rfl ?_
    refine jr_alen (a := 4) (e_51 rfl) rfl (by decide +kernel) rfl ?_
    refine jr_bri (c := 4 ≤ a2) (pt := 22) (pn := 13) (e_51 rfl) rfl rfl (fun h1002 => ?_) (fun h1002 => ?_)
    · refine jr_null (e_51 rfl) rfl ?_
      refine jr_retC (e_51 rfl) ?_
      refine jr_astore (L' := [(6, xn), (0, xr 8 0), (1, xi a1), (2, xi a2), (3, xi a3), (4, xi a4), (5, xi a5)]) (e_107 rfl) rfl rfl rfl ?_
      refine jr_aload (e_107 rfl) rfl rfl ?_
      refine jr_iload_n (e_107 rfl) rfl rfl ?_
      refine jr_callP (as := [xi a3]) (S1 := [xn]) (e_107 rfl) rfl rfl rfl rfl rfl rfl (jm_S_isSet a3 σ) rfl (fun v8 => ?_)
      refine jr_j (fun K11 => ∀ (v10 : Int), J 107 32 [(0, xr 8 0), (1, xi a1), (2, xi a2), (3, xi a3), (4, xi a4), (5, xi a5), (6, xn)] [xi v10, xn] σ jqW (K11 v10)) (fun v10 => ?_) (fun K11 hK11 => ?_)
      · refine jr_inl (as := [xn, xi v10]) (S1 := []) (L' := [(0, xn), (1, xi v10)]) (e_107 rfl) rfl rfl rfl rfl rfl rfl rfl rfl ?_
        refine jr_aload_n (e_126 rfl) rfl rfl ?_
        refine jr_s (q := (4, [(0, xn), (1, xi v10)], [], σ)) (e_126 rfl) rfl rfl ?_
        refine jr_iconst (e_126 rfl) rfl ?_
        refine jr_retCi (e_126 rfl) rfl ?_
        refine jr_istore (L' := [(7, xi (-1)), (0, xr 8 0), (1, xi a1), (2, xi a2), (3, xi a3), (4, xi a4), (5, xi a5), (6, xn)]) (e_107 rfl) rfl rfl rfl ?_
        refine jr_aload (e_107 rfl) rfl rfl ?_
        refine jr_s (q := (47, [(7, xi (-1)), (0, xr 8 0), (1, xi a1), (2, xi a2), (3, xi a3), (4, xi a4), (5, xi a5), (6, xn)], [], σ)) (e_107 rfl) rfl rfl ?_
        refine jr_iload (e_107 rfl) rfl rfl ?_
        exact jr_retW (e_107 rfl) rfl
      · refine jr_bri (c := v8 = 0) (pt := 31) (pn := 19) (e_107 rfl) rfl rfl (fun h12 => ?_) (fun h12 => ?_)
        · refine jr_iconst (e_107 rfl) rfl ?_
          exact jr_sub (show ([6, 0, 1, 2, 3, 4, 5] : List Nat).Nodup from by decide) (xsb_c (List.Mem.tail _ (List.Mem.head _)) (xsb_c (List.Mem.tail _ (List.Mem.tail _ (List.Mem.head _))) (xsb_c (List.Mem.tail _ (List.Mem.tail _ (List.Mem.tail _ (List.Mem.head _)))) (xsb_c (List.Mem.tail _ (List.Mem.tail _ (List.Mem.tail _ (List.Mem.tail _ (List.Mem.head _))))) (xsb_c (List.Mem.tail _ (List.Mem.tail _ (List.Mem.tail _ (List.Mem.tail _ (List.Mem.tail _ (List.Mem.head _)))))) (xsb_c (List.Mem.tail _ (List.Mem.tail _ (List.Mem.tail _ (List.Mem.tail _ (List.Mem.tail _ (List.Mem.tail _ (List.Mem.head _))))))) (xsb_c (List.Mem.head _) xsb_n))))))) (hK11 0)
        · refine jr_iload (e_107 rfl) rfl rfl ?_
          refine jr_callP (as := [xi a4]) (S1 := [xn]) (e_107 rfl) rfl rfl rfl rfl rfl rfl (jm_S_isSet a4 σ) rfl (fun v13 => ?_)
          refine jr_bri (c := v13 = 0) (pt := 31) (pn := 27) (e_107 rfl) rfl rfl (fun h14 => ?_) (fun h14 => ?_)
          · refine jr_iconst (e_107 rfl) rfl ?_
            exact jr_sub (show ([6, 0, 1, 2, 3, 4, 5] : List Nat).Nodup from by decide) (xsb_c (List.Mem.tail _ (List.Mem.head _)) (xsb_c (List.Mem.tail _ (List.Mem.tail _ (List.Mem.head _))) (xsb_c (List.Mem.tail _ (List.Mem.tail _ (List.Mem.tail _ (List.Mem.head _)))) (xsb_c (List.Mem.tail _ (List.Mem.tail _ (List.Mem.tail _ (List.Mem.tail _ (List.Mem.head _))))) (xsb_c (List.Mem.tail _ (List.Mem.tail _ (List.Mem.tail _ (List.Mem.tail _ (List.Mem.tail _ (List.Mem.head _)))))) (xsb_c (List.Mem.tail _ (List.Mem.tail _ (List.Mem.tail _ (List.Mem.tail _ (List.Mem.tail _ (List.Mem.tail _ (List.Mem.head _))))))) (xsb_c (List.Mem.head _) xsb_n))))))) (hK11 0)
          · refine jr_iconst (e_107 rfl) rfl ?_
            refine jr_goto (pc' := 32) (e_107 rfl) rfl ?_
            exact jr_sub (show ([6, 0, 1, 2, 3, 4, 5] : List Nat).Nodup from by decide) (xsb_c (List.Mem.tail _ (List.Mem.head _)) (xsb_c (List.Mem.tail _ (List.Mem.tail _ (List.Mem.head _))) (xsb_c (List.Mem.tail _ (List.Mem.tail _ (List.Mem.tail _ (List.Mem.head _)))) (xsb_c (List.Mem.tail _ (List.Mem.tail _ (List.Mem.tail _ (List.Mem.tail _ (List.Mem.head _))))) (xsb_c (List.Mem.tail _ (List.Mem.tail _ (List.Mem.tail _ (List.Mem.tail _ (List.Mem.tail _ (List.Mem.head _)))))) (xsb_c (List.Mem.tail _ (List.Mem.tail _ (List.Mem.tail _ (List.Mem.tail _ (List.Mem.tail _ (List.Mem.tail _ (List.Mem.head _))))))) (xsb_c (List.Mem.head _) xsb_n))))))) (hK11 1)
    · refine jr_aload_n (e_51 rfl) rfl rfl ?_
      refine jr_getr (K2 := 24) (i2 := 0) (e_51 rfl) rfl rfl rfl ?_
      refine jr_iload_n (e_51 rfl) rfl rfl ?_
      refine jr_aald (n := 4) (K2 := 5) (i2 := (4 * 0 + a2.toNat)) (e_51 rfl) rfl (by decide +kernel) rfl rfl ?_
      refine jr_goto (pc' := 23) (e_51 rfl) rfl ?_
      refine jr_retC (e_51 rfl) ?_
      refine jr_astore (L' := [(6, xr 5 (4 * 0 + a2.toNat)), (0, xr 8 0), (1, xi a1), (2, xi a2), (3, xi a3), (4, xi a4), (5, xi a5)]) (e_107 rfl) rfl rfl rfl ?_
      refine jr_aload (e_107 rfl) rfl rfl ?_
      refine jr_iload_n (e_107 rfl) rfl rfl ?_
      refine jr_callP (as := [xi a3]) (S1 := [xr 5 (4 * 0 + a2.toNat)]) (e_107 rfl) rfl rfl rfl rfl rfl rfl (jm_S_isSet a3 σ) rfl (fun v15 => ?_)
      refine jr_j (fun K18 => ∀ (v17 : Int), J 107 32 [(0, xr 8 0), (1, xi a1), (2, xi a2), (3, xi a3), (4, xi a4), (5, xi a5), (6, xr 5 (4 * 0 + a2.toNat))] [xi v17, xr 5 (4 * 0 + a2.toNat)] σ jqW (K18 v17)) (fun v17 => ?_) (fun K18 hK18 => ?_)
      · refine jr_inl (as := [xr 5 (4 * 0 + a2.toNat), xi v17]) (S1 := []) (L' := [(0, xr 5 (4 * 0 + a2.toNat)), (1, xi v17)]) (e_107 rfl) rfl rfl rfl rfl rfl rfl rfl rfl ?_
        refine jr_aload_n (e_126 rfl) rfl rfl ?_
        refine jr_s (q := (6, [(0, xr 5 (4 * 0 + a2.toNat)), (1, xi v17)], [], σ)) (e_126 rfl) rfl rfl ?_
        refine jr_iload_n (e_126 rfl) rfl rfl ?_
        refine jr_brx (c := v17 = 0) (pt := 13) (pn := 10) (e_126 rfl) rfl rfl (fun h1022 => ?_) (fun h1022 => ?_)
        · refine jr_bipush (e_126 rfl) rfl ?_
          refine jr_retCi (e_126 rfl) rfl ?_
          refine jr_istore (L' := [(7, xi (-2)), (0, xr 8 0), (1, xi a1), (2, xi a2), (3, xi a3), (4, xi a4), (5, xi a5), (6, xr 5 (4 * 0 + a2.toNat))]) (e_107 rfl) rfl rfl rfl ?_
          refine jr_aload (e_107 rfl) rfl rfl ?_
          refine jr_s (q := (42, [(7, xi (-2)), (0, xr 8 0), (1, xi a1), (2, xi a2), (3, xi a3), (4, xi a4), (5, xi a5), (6, xr 5 (4 * 0 + a2.toNat))], [], σ)) (e_107 rfl) rfl rfl ?_
          refine jr_iload (e_107 rfl) rfl rfl ?_
          refine jr_bri (c := (-2) = 0) (pt := 50) (pn := 47) (e_107 rfl) rfl rfl (fun h22 => ?_) (fun h22 => ?_)
          · refine jr_aload_n (e_107 rfl) rfl rfl ?_
            refine jr_getr (K2 := 0) (i2 := 0) (e_107 rfl) rfl rfl rfl ?_
            refine jr_iload_n (e_107 rfl) rfl rfl ?_
            refine jr_iload_n (e_107 rfl) rfl rfl ?_
            refine jr_iload_n (e_107 rfl) rfl rfl ?_
            refine jr_iload (e_107 rfl) rfl rfl ?_
            refine jr_callX (as := [xr 0 0, xi a1, xi a2, xi a3, xi a4]) (S1 := []) (e_107 rfl) rfl rfl rfl rfl rfl rfl (jm_Answer_isNew a1 a2 a3 a4 σ) rfl (fun v23 s24 => ?_)
            refine jr_j (fun K27 => ∀ (s26 : xa_H), J 107 139 [(0, xr 8 0), (5, xi a5)] [] s26 jqW (K27 s26)) (fun s26 => ?_) (fun K27 hK27 => ?_)
            · refine jr_iload (e_107 rfl) rfl rfl ?_
              refine jr_iconst (e_107 rfl) rfl ?_
              refine jr_brx (c := a5 = (-1)) (pt := 155) (pn := 145) (e_107 rfl) rfl rfl (fun h37 => ?_) (fun h37 => ?_)
              · refine jr_aload_n (e_107 rfl) rfl rfl ?_
                refine jr_getr (K2 := 0) (i2 := 0) (e_107 rfl) rfl rfl rfl ?_
                refine jr_geti (e_107 rfl) rfl (by decide +kernel) ?_
                refine jr_goto (pc' := 164) (e_107 rfl) rfl ?_
                exact jr_retW (e_107 rfl) rfl
              · refine jr_aload_n (e_107 rfl) rfl rfl ?_
                refine jr_getr (K2 := 0) (i2 := 0) (e_107 rfl) rfl rfl rfl ?_
                refine jr_iload (e_107 rfl) rfl rfl ?_
                refine jr_callP (as := [xr 0 0, xi a5]) (S1 := []) (e_107 rfl) rfl rfl rfl rfl rfl rfl (jm_Answer_at a5 s26) rfl (fun v38 => ?_)
                exact jr_retW (e_107 rfl) rfl
            · refine jr_bri (c := v23 = 0) (pt := 139) (pn := 65) (e_107 rfl) rfl rfl (fun h28 => ?_) (fun h28 => ?_)
              · exact jr_sub (show ([7, 0, 1, 2, 3, 4, 5, 6] : List Nat).Nodup from by decide) (xsb_c (List.Mem.tail _ (List.Mem.head _)) (xsb_c (List.Mem.tail _ (List.Mem.tail _ (List.Mem.tail _ (List.Mem.tail _ (List.Mem.tail _ (List.Mem.tail _ (List.Mem.head _))))))) xsb_n)) (hK27 s24)
              · refine jr_aload_n (e_107 rfl) rfl rfl ?_
                refine jr_getr (K2 := 3) (i2 := 0) (e_107 rfl) rfl rfl rfl ?_
                refine jr_aload (e_107 rfl) rfl rfl ?_
                refine jr_callV (as := [xr 3 0, xr 5 (4 * 0 + a2.toNat)]) (S1 := []) (e_107 rfl) rfl rfl rfl rfl rfl rfl (jm_Search_about (4 * 0 + a2.toNat) s24) rfl (fun s29 => ?_)
                refine jr_aload_n (e_107 rfl) rfl rfl ?_
                refine jr_getr (K2 := 3) (i2 := 0) (e_107 rfl) rfl rfl rfl ?_
                refine jr_iload_n (e_107 rfl) rfl rfl ?_
                refine jr_iload (e_107 rfl) rfl rfl ?_
                refine jr_callV (as := [xr 3 0, xi a3, xi a4]) (S1 := []) (e_107 rfl) rfl rfl rfl rfl rfl rfl (jm_Search_off a3 a4 s29) rfl (fun s30 => ?_)
                refine jr_iload_n (e_107 rfl) rfl rfl ?_
                refine jr_iconst (e_107 rfl) rfl ?_
                refine jr_brx (c := a1 = 1) (pt := 98) (pn := 89) (e_107 rfl) rfl rfl (fun h31 => ?_) (fun h31 => ?_)
                · refine jr_aload_n (e_107 rfl) rfl rfl ?_
                  refine jr_aload (e_107 rfl) rfl rfl ?_
                  refine jr_callV (as := [xr 8 0, xr 5 (4 * 0 + a2.toNat)]) (S1 := []) (e_107 rfl) rfl rfl rfl rfl rfl rfl (jm_S_findGoes (4 * 0 + a2.toNat) s30) rfl (fun s32 => ?_)
                  refine jr_goto (pc' := 139) (e_107 rfl) rfl ?_
                  exact jr_sub (show ([7, 0, 1, 2, 3, 4, 5, 6] : List Nat).Nodup from by decide) (xsb_c (List.Mem.tail _ (List.Mem.head _)) (xsb_c (List.Mem.tail _ (List.Mem.tail _ (List.Mem.tail _ (List.Mem.tail _ (List.Mem.tail _ (List.Mem.tail _ (List.Mem.head _))))))) xsb_n)) (hK27 s32)
                · refine jr_aload_n (e_107 rfl) rfl rfl ?_
                  refine jr_getr (K2 := 1) (i2 := 0) (e_107 rfl) rfl rfl rfl ?_
                  refine jr_aload_n (e_107 rfl) rfl rfl ?_
                  refine jr_getr (K2 := 4) (i2 := 0) (e_107 rfl) rfl rfl rfl ?_
                  refine jr_getr (K2 := 26) (i2 := 0) (e_107 rfl) rfl rfl rfl ?_
                  refine jr_aload (e_107 rfl) rfl rfl ?_
                  refine jr_iload_n (e_107 rfl) rfl rfl ?_
                  refine jr_callP (as := [xr 5 (4 * 0 + a2.toNat), xi a3]) (S1 := [xr 26 0, xr 1 0]) (e_107 rfl) rfl rfl rfl rfl rfl rfl (jm_Thing_cubesOn (4 * 0 + a2.toNat) a3 s30) rfl (fun v33 => ?_)
                  refine jr_callV (as := [xr 1 0, xr 26 0, xi v33]) (S1 := []) (e_107 rfl) rfl rfl rfl rfl rfl rfl (jm_Cheapest_weigh 26 0 v33 s30 rfl rfl) rfl (fun s34 => ?_)
                  refine jr_aload_n (e_107 rfl) rfl rfl ?_
                  refine jr_getr (K2 := 1) (i2 := 0) (e_107 rfl) rfl rfl rfl ?_
                  refine jr_aload (e_107 rfl) rfl rfl ?_
                  refine jr_callP (as := [xr 5 (4 * 0 + a2.toNat)]) (S1 := [xr 1 0]) (e_107 rfl) rfl rfl rfl rfl rfl rfl (jm_Thing_stand (4 * 0 + a2.toNat) s34) rfl (fun v35 => ?_)
                  refine jr_aload (e_107 rfl) rfl rfl ?_
                  refine jr_geti (e_107 rfl) rfl (by decide +kernel) ?_
                  refine jr_aload_n (e_107 rfl) rfl rfl ?_
                  refine jr_getr (K2 := 0) (i2 := 0) (e_107 rfl) rfl rfl rfl ?_
                  refine jr_callV (as := [xr 1 0, xi v35, xi (s34 5 (4 * 0 + a2.toNat) 3), xr 0 0]) (S1 := []) (e_107 rfl) rfl rfl rfl rfl rfl rfl (jm_Cheapest_find v35 (s34 5 (4 * 0 + a2.toNat) 3) s34) rfl (fun s36 => ?_)
                  exact jr_sub (show ([7, 0, 1, 2, 3, 4, 5, 6] : List Nat).Nodup from by decide) (xsb_c (List.Mem.tail _ (List.Mem.head _)) (xsb_c (List.Mem.tail _ (List.Mem.tail _ (List.Mem.tail _ (List.Mem.tail _ (List.Mem.tail _ (List.Mem.tail _ (List.Mem.head _))))))) xsb_n)) (hK27 s36)
          · refine jr_iload (e_107 rfl) rfl rfl ?_
            exact jr_retW (e_107 rfl) rfl
        · refine jr_aload_n (e_126 rfl) rfl rfl ?_
          refine jr_geti (e_126 rfl) rfl (by decide +kernel) ?_
          refine jr_bri (c := 0 ≤ (σ 5 (4 * 0 + a2.toNat) 1)) (pt := 25) (pn := 20) (e_126 rfl) rfl rfl (fun h1023 => ?_) (fun h1023 => ?_)
          · refine jr_iconst (e_126 rfl) rfl ?_
            refine jr_retCi (e_126 rfl) rfl ?_
            refine jr_istore (L' := [(7, xi 0), (0, xr 8 0), (1, xi a1), (2, xi a2), (3, xi a3), (4, xi a4), (5, xi a5), (6, xr 5 (4 * 0 + a2.toNat))]) (e_107 rfl) rfl rfl rfl ?_
            refine jr_aload (e_107 rfl) rfl rfl ?_
            refine jr_s (q := (42, [(7, xi 0), (0, xr 8 0), (1, xi a1), (2, xi a2), (3, xi a3), (4, xi a4), (5, xi a5), (6, xr 5 (4 * 0 + a2.toNat))], [], σ)) (e_107 rfl) rfl rfl ?_
            refine jr_iload (e_107 rfl) rfl rfl ?_
            refine jr_bri (c := 0 = 0) (pt := 50) (pn := 47) (e_107 rfl) rfl rfl (fun h39 => ?_) (fun h39 => ?_)
            · refine jr_aload_n (e_107 rfl) rfl rfl ?_
              refine jr_getr (K2 := 0) (i2 := 0) (e_107 rfl) rfl rfl rfl ?_
              refine jr_iload_n (e_107 rfl) rfl rfl ?_
              refine jr_iload_n (e_107 rfl) rfl rfl ?_
              refine jr_iload_n (e_107 rfl) rfl rfl ?_
              refine jr_iload (e_107 rfl) rfl rfl ?_
              refine jr_callX (as := [xr 0 0, xi a1, xi a2, xi a3, xi a4]) (S1 := []) (e_107 rfl) rfl rfl rfl rfl rfl rfl (jm_Answer_isNew a1 a2 a3 a4 σ) rfl (fun v40 s41 => ?_)
              refine jr_j (fun K44 => ∀ (s43 : xa_H), J 107 139 [(0, xr 8 0), (5, xi a5)] [] s43 jqW (K44 s43)) (fun s43 => ?_) (fun K44 hK44 => ?_)
              · refine jr_iload (e_107 rfl) rfl rfl ?_
                refine jr_iconst (e_107 rfl) rfl ?_
                refine jr_brx (c := a5 = (-1)) (pt := 155) (pn := 145) (e_107 rfl) rfl rfl (fun h54 => ?_) (fun h54 => ?_)
                · refine jr_aload_n (e_107 rfl) rfl rfl ?_
                  refine jr_getr (K2 := 0) (i2 := 0) (e_107 rfl) rfl rfl rfl ?_
                  refine jr_geti (e_107 rfl) rfl (by decide +kernel) ?_
                  refine jr_goto (pc' := 164) (e_107 rfl) rfl ?_
                  exact jr_retW (e_107 rfl) rfl
                · refine jr_aload_n (e_107 rfl) rfl rfl ?_
                  refine jr_getr (K2 := 0) (i2 := 0) (e_107 rfl) rfl rfl rfl ?_
                  refine jr_iload (e_107 rfl) rfl rfl ?_
                  refine jr_callP (as := [xr 0 0, xi a5]) (S1 := []) (e_107 rfl) rfl rfl rfl rfl rfl rfl (jm_Answer_at a5 s43) rfl (fun v55 => ?_)
                  exact jr_retW (e_107 rfl) rfl
              · refine jr_bri (c := v40 = 0) (pt := 139) (pn := 65) (e_107 rfl) rfl rfl (fun h45 => ?_) (fun h45 => ?_)
                · exact jr_sub (show ([7, 0, 1, 2, 3, 4, 5, 6] : List Nat).Nodup from by decide) (xsb_c (List.Mem.tail _ (List.Mem.head _)) (xsb_c (List.Mem.tail _ (List.Mem.tail _ (List.Mem.tail _ (List.Mem.tail _ (List.Mem.tail _ (List.Mem.tail _ (List.Mem.head _))))))) xsb_n)) (hK44 s41)
                · refine jr_aload_n (e_107 rfl) rfl rfl ?_
                  refine jr_getr (K2 := 3) (i2 := 0) (e_107 rfl) rfl rfl rfl ?_
                  refine jr_aload (e_107 rfl) rfl rfl ?_
                  refine jr_callV (as := [xr 3 0, xr 5 (4 * 0 + a2.toNat)]) (S1 := []) (e_107 rfl) rfl rfl rfl rfl rfl rfl (jm_Search_about (4 * 0 + a2.toNat) s41) rfl (fun s46 => ?_)
                  refine jr_aload_n (e_107 rfl) rfl rfl ?_
                  refine jr_getr (K2 := 3) (i2 := 0) (e_107 rfl) rfl rfl rfl ?_
                  refine jr_iload_n (e_107 rfl) rfl rfl ?_
                  refine jr_iload (e_107 rfl) rfl rfl ?_
                  refine jr_callV (as := [xr 3 0, xi a3, xi a4]) (S1 := []) (e_107 rfl) rfl rfl rfl rfl rfl rfl (jm_Search_off a3 a4 s46) rfl (fun s47 => ?_)
                  refine jr_iload_n (e_107 rfl) rfl rfl ?_
                  refine jr_iconst (e_107 rfl) rfl ?_
                  refine jr_brx (c := a1 = 1) (pt := 98) (pn := 89) (e_107 rfl) rfl rfl (fun h48 => ?_) (fun h48 => ?_)
                  · refine jr_aload_n (e_107 rfl) rfl rfl ?_
                    refine jr_aload (e_107 rfl) rfl rfl ?_
                    refine jr_callV (as := [xr 8 0, xr 5 (4 * 0 + a2.toNat)]) (S1 := []) (e_107 rfl) rfl rfl rfl rfl rfl rfl (jm_S_findGoes (4 * 0 + a2.toNat) s47) rfl (fun s49 => ?_)
                    refine jr_goto (pc' := 139) (e_107 rfl) rfl ?_
                    exact jr_sub (show ([7, 0, 1, 2, 3, 4, 5, 6] : List Nat).Nodup from by decide) (xsb_c (List.Mem.tail _ (List.Mem.head _)) (xsb_c (List.Mem.tail _ (List.Mem.tail _ (List.Mem.tail _ (List.Mem.tail _ (List.Mem.tail _ (List.Mem.tail _ (List.Mem.head _))))))) xsb_n)) (hK44 s49)
                  · refine jr_aload_n (e_107 rfl) rfl rfl ?_
                    refine jr_getr (K2 := 1) (i2 := 0) (e_107 rfl) rfl rfl rfl ?_
                    refine jr_aload_n (e_107 rfl) rfl rfl ?_
                    refine jr_getr (K2 := 4) (i2 := 0) (e_107 rfl) rfl rfl rfl ?_
                    refine jr_getr (K2 := 26) (i2 := 0) (e_107 rfl) rfl rfl rfl ?_
                    refine jr_aload (e_107 rfl) rfl rfl ?_
                    refine jr_iload_n (e_107 rfl) rfl rfl ?_
                    refine jr_callP (as := [xr 5 (4 * 0 + a2.toNat), xi a3]) (S1 := [xr 26 0, xr 1 0]) (e_107 rfl) rfl rfl rfl rfl rfl rfl (jm_Thing_cubesOn (4 * 0 + a2.toNat) a3 s47) rfl (fun v50 => ?_)
                    refine jr_callV (as := [xr 1 0, xr 26 0, xi v50]) (S1 := []) (e_107 rfl) rfl rfl rfl rfl rfl rfl (jm_Cheapest_weigh 26 0 v50 s47 rfl rfl) rfl (fun s51 => ?_)
                    refine jr_aload_n (e_107 rfl) rfl rfl ?_
                    refine jr_getr (K2 := 1) (i2 := 0) (e_107 rfl) rfl rfl rfl ?_
                    refine jr_aload (e_107 rfl) rfl rfl ?_
                    refine jr_callP (as := [xr 5 (4 * 0 + a2.toNat)]) (S1 := [xr 1 0]) (e_107 rfl) rfl rfl rfl rfl rfl rfl (jm_Thing_stand (4 * 0 + a2.toNat) s51) rfl (fun v52 => ?_)
                    refine jr_aload (e_107 rfl) rfl rfl ?_
                    refine jr_geti (e_107 rfl) rfl (by decide +kernel) ?_
                    refine jr_aload_n (e_107 rfl) rfl rfl ?_
                    refine jr_getr (K2 := 0) (i2 := 0) (e_107 rfl) rfl rfl rfl ?_
                    refine jr_callV (as := [xr 1 0, xi v52, xi (s51 5 (4 * 0 + a2.toNat) 3), xr 0 0]) (S1 := []) (e_107 rfl) rfl rfl rfl rfl rfl rfl (jm_Cheapest_find v52 (s51 5 (4 * 0 + a2.toNat) 3) s51) rfl (fun s53 => ?_)
                    exact jr_sub (show ([7, 0, 1, 2, 3, 4, 5, 6] : List Nat).Nodup from by decide) (xsb_c (List.Mem.tail _ (List.Mem.head _)) (xsb_c (List.Mem.tail _ (List.Mem.tail _ (List.Mem.tail _ (List.Mem.tail _ (List.Mem.tail _ (List.Mem.tail _ (List.Mem.head _))))))) xsb_n)) (hK44 s53)
            · refine jr_iload (e_107 rfl) rfl rfl ?_
              exact jr_retW (e_107 rfl) rfl
          · refine jr_bipush (e_126 rfl) rfl ?_
            refine jr_goto (pc' := 26) (e_126 rfl) rfl ?_
            refine jr_retCi (e_126 rfl) rfl ?_
            refine jr_istore (L' := [(7, xi (-3)), (0, xr 8 0), (1, xi a1), (2, xi a2), (3, xi a3), (4, xi a4), (5, xi a5), (6, xr 5 (4 * 0 + a2.toNat))]) (e_107 rfl) rfl rfl rfl ?_
            refine jr_aload (e_107 rfl) rfl rfl ?_
            refine jr_s (q := (42, [(7, xi (-3)), (0, xr 8 0), (1, xi a1), (2, xi a2), (3, xi a3), (4, xi a4), (5, xi a5), (6, xr 5 (4 * 0 + a2.toNat))], [], σ)) (e_107 rfl) rfl rfl ?_
            refine jr_iload (e_107 rfl) rfl rfl ?_
            refine jr_bri (c := (-3) = 0) (pt := 50) (pn := 47) (e_107 rfl) rfl rfl (fun h56 => ?_) (fun h56 => ?_)
            · refine jr_aload_n (e_107 rfl) rfl rfl ?_
              refine jr_getr (K2 := 0) (i2 := 0) (e_107 rfl) rfl rfl rfl ?_
              refine jr_iload_n (e_107 rfl) rfl rfl ?_
              refine jr_iload_n (e_107 rfl) rfl rfl ?_
              refine jr_iload_n (e_107 rfl) rfl rfl ?_
              refine jr_iload (e_107 rfl) rfl rfl ?_
              refine jr_callX (as := [xr 0 0, xi a1, xi a2, xi a3, xi a4]) (S1 := []) (e_107 rfl) rfl rfl rfl rfl rfl rfl (jm_Answer_isNew a1 a2 a3 a4 σ) rfl (fun v57 s58 => ?_)
              refine jr_j (fun K61 => ∀ (s60 : xa_H), J 107 139 [(0, xr 8 0), (5, xi a5)] [] s60 jqW (K61 s60)) (fun s60 => ?_) (fun K61 hK61 => ?_)
              · refine jr_iload (e_107 rfl) rfl rfl ?_
                refine jr_iconst (e_107 rfl) rfl ?_
                refine jr_brx (c := a5 = (-1)) (pt := 155) (pn := 145) (e_107 rfl) rfl rfl (fun h71 => ?_) (fun h71 => ?_)
                · refine jr_aload_n (e_107 rfl) rfl rfl ?_
                  refine jr_getr (K2 := 0) (i2 := 0) (e_107 rfl) rfl rfl rfl ?_
                  refine jr_geti (e_107 rfl) rfl (by decide +kernel) ?_
                  refine jr_goto (pc' := 164) (e_107 rfl) rfl ?_
                  exact jr_retW (e_107 rfl) rfl
                · refine jr_aload_n (e_107 rfl) rfl rfl ?_
                  refine jr_getr (K2 := 0) (i2 := 0) (e_107 rfl) rfl rfl rfl ?_
                  refine jr_iload (e_107 rfl) rfl rfl ?_
                  refine jr_callP (as := [xr 0 0, xi a5]) (S1 := []) (e_107 rfl) rfl rfl rfl rfl rfl rfl (jm_Answer_at a5 s60) rfl (fun v72 => ?_)
                  exact jr_retW (e_107 rfl) rfl
              · refine jr_bri (c := v57 = 0) (pt := 139) (pn := 65) (e_107 rfl) rfl rfl (fun h62 => ?_) (fun h62 => ?_)
                · exact jr_sub (show ([7, 0, 1, 2, 3, 4, 5, 6] : List Nat).Nodup from by decide) (xsb_c (List.Mem.tail _ (List.Mem.head _)) (xsb_c (List.Mem.tail _ (List.Mem.tail _ (List.Mem.tail _ (List.Mem.tail _ (List.Mem.tail _ (List.Mem.tail _ (List.Mem.head _))))))) xsb_n)) (hK61 s58)
                · refine jr_aload_n (e_107 rfl) rfl rfl ?_
                  refine jr_getr (K2 := 3) (i2 := 0) (e_107 rfl) rfl rfl rfl ?_
                  refine jr_aload (e_107 rfl) rfl rfl ?_
                  refine jr_callV (as := [xr 3 0, xr 5 (4 * 0 + a2.toNat)]) (S1 := []) (e_107 rfl) rfl rfl rfl rfl rfl rfl (jm_Search_about (4 * 0 + a2.toNat) s58) rfl (fun s63 => ?_)
                  refine jr_aload_n (e_107 rfl) rfl rfl ?_
                  refine jr_getr (K2 := 3) (i2 := 0) (e_107 rfl) rfl rfl rfl ?_
                  refine jr_iload_n (e_107 rfl) rfl rfl ?_
                  refine jr_iload (e_107 rfl) rfl rfl ?_
                  refine jr_callV (as := [xr 3 0, xi a3, xi a4]) (S1 := []) (e_107 rfl) rfl rfl rfl rfl rfl rfl (jm_Search_off a3 a4 s63) rfl (fun s64 => ?_)
                  refine jr_iload_n (e_107 rfl) rfl rfl ?_
                  refine jr_iconst (e_107 rfl) rfl ?_
                  refine jr_brx (c := a1 = 1) (pt := 98) (pn := 89) (e_107 rfl) rfl rfl (fun h65 => ?_) (fun h65 => ?_)
                  · refine jr_aload_n (e_107 rfl) rfl rfl ?_
                    refine jr_aload (e_107 rfl) rfl rfl ?_
                    refine jr_callV (as := [xr 8 0, xr 5 (4 * 0 + a2.toNat)]) (S1 := []) (e_107 rfl) rfl rfl rfl rfl rfl rfl (jm_S_findGoes (4 * 0 + a2.toNat) s64) rfl (fun s66 => ?_)
                    refine jr_goto (pc' := 139) (e_107 rfl) rfl ?_
                    exact jr_sub (show ([7, 0, 1, 2, 3, 4, 5, 6] : List Nat).Nodup from by decide) (xsb_c (List.Mem.tail _ (List.Mem.head _)) (xsb_c (List.Mem.tail _ (List.Mem.tail _ (List.Mem.tail _ (List.Mem.tail _ (List.Mem.tail _ (List.Mem.tail _ (List.Mem.head _))))))) xsb_n)) (hK61 s66)
                  · refine jr_aload_n (e_107 rfl) rfl rfl ?_
                    refine jr_getr (K2 := 1) (i2 := 0) (e_107 rfl) rfl rfl rfl ?_
                    refine jr_aload_n (e_107 rfl) rfl rfl ?_
                    refine jr_getr (K2 := 4) (i2 := 0) (e_107 rfl) rfl rfl rfl ?_
                    refine jr_getr (K2 := 26) (i2 := 0) (e_107 rfl) rfl rfl rfl ?_
                    refine jr_aload (e_107 rfl) rfl rfl ?_
                    refine jr_iload_n (e_107 rfl) rfl rfl ?_
                    refine jr_callP (as := [xr 5 (4 * 0 + a2.toNat), xi a3]) (S1 := [xr 26 0, xr 1 0]) (e_107 rfl) rfl rfl rfl rfl rfl rfl (jm_Thing_cubesOn (4 * 0 + a2.toNat) a3 s64) rfl (fun v67 => ?_)
                    refine jr_callV (as := [xr 1 0, xr 26 0, xi v67]) (S1 := []) (e_107 rfl) rfl rfl rfl rfl rfl rfl (jm_Cheapest_weigh 26 0 v67 s64 rfl rfl) rfl (fun s68 => ?_)
                    refine jr_aload_n (e_107 rfl) rfl rfl ?_
                    refine jr_getr (K2 := 1) (i2 := 0) (e_107 rfl) rfl rfl rfl ?_
                    refine jr_aload (e_107 rfl) rfl rfl ?_
                    refine jr_callP (as := [xr 5 (4 * 0 + a2.toNat)]) (S1 := [xr 1 0]) (e_107 rfl) rfl rfl rfl rfl rfl rfl (jm_Thing_stand (4 * 0 + a2.toNat) s68) rfl (fun v69 => ?_)
                    refine jr_aload (e_107 rfl) rfl rfl ?_
                    refine jr_geti (e_107 rfl) rfl (by decide +kernel) ?_
                    refine jr_aload_n (e_107 rfl) rfl rfl ?_
                    refine jr_getr (K2 := 0) (i2 := 0) (e_107 rfl) rfl rfl rfl ?_
                    refine jr_callV (as := [xr 1 0, xi v69, xi (s68 5 (4 * 0 + a2.toNat) 3), xr 0 0]) (S1 := []) (e_107 rfl) rfl rfl rfl rfl rfl rfl (jm_Cheapest_find v69 (s68 5 (4 * 0 + a2.toNat) 3) s68) rfl (fun s70 => ?_)
                    exact jr_sub (show ([7, 0, 1, 2, 3, 4, 5, 6] : List Nat).Nodup from by decide) (xsb_c (List.Mem.tail _ (List.Mem.head _)) (xsb_c (List.Mem.tail _ (List.Mem.tail _ (List.Mem.tail _ (List.Mem.tail _ (List.Mem.tail _ (List.Mem.tail _ (List.Mem.head _))))))) xsb_n)) (hK61 s70)
            · refine jr_iload (e_107 rfl) rfl rfl ?_
              exact jr_retW (e_107 rfl) rfl
      · refine jr_bri (c := v15 = 0) (pt := 31) (pn := 19) (e_107 rfl) rfl rfl (fun h19 => ?_) (fun h19 => ?_)
        · refine jr_iconst (e_107 rfl) rfl ?_
          exact jr_sub (show ([6, 0, 1, 2, 3, 4, 5] : List Nat).Nodup from by decide) (xsb_c (List.Mem.tail _ (List.Mem.head _)) (xsb_c (List.Mem.tail _ (List.Mem.tail _ (List.Mem.head _))) (xsb_c (List.Mem.tail _ (List.Mem.tail _ (List.Mem.tail _ (List.Mem.head _)))) (xsb_c (List.Mem.tail _ (List.Mem.tail _ (List.Mem.tail _ (List.Mem.tail _ (List.Mem.head _))))) (xsb_c (List.Mem.tail _ (List.Mem.tail _ (List.Mem.tail _ (List.Mem.tail _ (List.Mem.tail _ (List.Mem.head _)))))) (xsb_c (List.Mem.tail _ (List.Mem.tail _ (List.Mem.tail _ (List.Mem.tail _ (List.Mem.tail _ (List.Mem.tail _ (List.Mem.head _))))))) (xsb_c (List.Mem.head _) xsb_n))))))) (hK18 0)
        · refine jr_iload (e_107 rfl) rfl rfl ?_
          refine jr_callP (as := [xi a4]) (S1 := [xr 5 (4 * 0 + a2.toNat)]) (e_107 rfl) rfl rfl rfl rfl rfl rfl (jm_S_isSet a4 σ) rfl (fun v20 => ?_)
          refine jr_bri (c := v20 = 0) (pt := 31) (pn := 27) (e_107 rfl) rfl rfl (fun h21 => ?_) (fun h21 => ?_)
          · refine jr_iconst (e_107 rfl) rfl ?_
            exact jr_sub (show ([6, 0, 1, 2, 3, 4, 5] : List Nat).Nodup from by decide) (xsb_c (List.Mem.tail _ (List.Mem.head _)) (xsb_c (List.Mem.tail _ (List.Mem.tail _ (List.Mem.head _))) (xsb_c (List.Mem.tail _ (List.Mem.tail _ (List.Mem.tail _ (List.Mem.head _)))) (xsb_c (List.Mem.tail _ (List.Mem.tail _ (List.Mem.tail _ (List.Mem.tail _ (List.Mem.head _))))) (xsb_c (List.Mem.tail _ (List.Mem.tail _ (List.Mem.tail _ (List.Mem.tail _ (List.Mem.tail _ (List.Mem.head _)))))) (xsb_c (List.Mem.tail _ (List.Mem.tail _ (List.Mem.tail _ (List.Mem.tail _ (List.Mem.tail _ (List.Mem.tail _ (List.Mem.head _))))))) (xsb_c (List.Mem.head _) xsb_n))))))) (hK18 0)
          · refine jr_iconst (e_107 rfl) rfl ?_
            refine jr_goto (pc' := 32) (e_107 rfl) rfl ?_
            exact jr_sub (show ([6, 0, 1, 2, 3, 4, 5] : List Nat).Nodup from by decide) (xsb_c (List.Mem.tail _ (List.Mem.head _)) (xsb_c (List.Mem.tail _ (List.Mem.tail _ (List.Mem.head _))) (xsb_c (List.Mem.tail _ (List.Mem.tail _ (List.Mem.tail _ (List.Mem.head _)))) (xsb_c (List.Mem.tail _ (List.Mem.tail _ (List.Mem.tail _ (List.Mem.tail _ (List.Mem.head _))))) (xsb_c (List.Mem.tail _ (List.Mem.tail _ (List.Mem.tail _ (List.Mem.tail _ (List.Mem.tail _ (List.Mem.head _)))))) (xsb_c (List.Mem.tail _ (List.Mem.tail _ (List.Mem.tail _ (List.Mem.tail _ (List.Mem.tail _ (List.Mem.tail _ (List.Mem.head _))))))) (xsb_c (List.Mem.head _) xsb_n))))))) (hK18 1)

theorem e_95 {pc : Nat} {en : xa_I} (h : xlk pc xc_95 = some en) : xcd 95 pc = some en := h
noncomputable def fm_S_goes (a1 : Int) (a2 : Int) (a3 : Int) (a4 : Int) (σ : xa_H) : Option (Int × xa_H) :=
  xb2 (fm_S_rowAnswer 1 a1 a2 a3 a4 σ) fun v1 s2 =>
  some (v1, s2)
theorem jm_S_goes (a1 : Int) (a2 : Int) (a3 : Int) (a4 : Int) (σ : xa_H) : J 95 0 [(0, xr 8 0), (1, xi a1), (2, xi a2), (3, xi a3), (4, xi a4)] [] σ jqW (fm_S_goes a1 a2 a3 a4 σ) := by
  unfold fm_S_goes
  refine jr_aload_n (e_95 rfl) rfl rfl ?_
  refine jr_iconst (e_95 rfl) rfl ?_
  refine jr_iload_n (e_95 rfl) rfl rfl ?_
  refine jr_iload_n (e_95 rfl) rfl rfl ?_
  refine jr_iload_n (e_95 rfl) rfl rfl ?_
  refine jr_iload (e_95 rfl) rfl rfl ?_
  refine jr_callX (as := [xr 8 0, xi 1, xi a1, xi a2, xi a3, xi a4]) (S1 := []) (e_95 rfl) rfl rfl rfl rfl rfl rfl (jm_S_rowAnswer 1 a1 a2 a3 a4 σ) rfl (fun v1 s2 => ?_)
  exact jr_retW (e_95 rfl) rfl

theorem e_96 {pc : Nat} {en : xa_I} (h : xlk pc xc_96 = some en) : xcd 96 pc = some en := h
noncomputable def fm_S_effort (a1 : Int) (a2 : Int) (a3 : Int) (a4 : Int) (σ : xa_H) : Option (Int × xa_H) :=
  xb2 (fm_S_rowAnswer 2 a1 a2 a3 a4 σ) fun v1 s2 =>
  some (v1, s2)
theorem jm_S_effort (a1 : Int) (a2 : Int) (a3 : Int) (a4 : Int) (σ : xa_H) : J 96 0 [(0, xr 8 0), (1, xi a1), (2, xi a2), (3, xi a3), (4, xi a4)] [] σ jqW (fm_S_effort a1 a2 a3 a4 σ) := by
  unfold fm_S_effort
  refine jr_aload_n (e_96 rfl) rfl rfl ?_
  refine jr_iconst (e_96 rfl) rfl ?_
  refine jr_iload_n (e_96 rfl) rfl rfl ?_
  refine jr_iload_n (e_96 rfl) rfl rfl ?_
  refine jr_iload_n (e_96 rfl) rfl rfl ?_
  refine jr_iload (e_96 rfl) rfl rfl ?_
  refine jr_callX (as := [xr 8 0, xi 2, xi a1, xi a2, xi a3, xi a4]) (S1 := []) (e_96 rfl) rfl rfl rfl rfl rfl rfl (jm_S_rowAnswer 2 a1 a2 a3 a4 σ) rfl (fun v1 s2 => ?_)
  exact jr_retW (e_96 rfl) rfl

theorem e_110 {pc : Nat} {en : xa_I} (h : xlk pc xc_110 = some en) : xcd 110 pc = some en := h
noncomputable def fm_S_scrapesAt_3 (i1 : Nat) (f2 : Int) (f3 : Int) (f4 : Int) (σ : xa_H) (K : Option (Int)) : Nat → Int → Option (Int)
  | 0, _ => none
  | n + 1, x5 =>
    if (σ 5 i1 0) ≤ x5 then
      K
    else
      (fm_S_xOf (σ 5 i1 1)).bind fun v2 =>
      (fm_Thing_along i1 (σ 5 i1 2) x5 0 σ).bind fun v3 =>
      if f2 = (w32 (v2 + v3)) then
        (fm_S_yOf (σ 5 i1 1)).bind fun v5 =>
        (fm_Thing_along i1 (σ 5 i1 2) x5 1 σ).bind fun v6 =>
        if f3 = (w32 (v5 + v6)) then
          (fm_S_zOf (σ 5 i1 1)).bind fun v8 =>
          (fm_Thing_along i1 (σ 5 i1 2) x5 2 σ).bind fun v9 =>
          if f4 = (w32 (v8 + v9)) then
            some 0
          else
            xnm (w32 (x5 + 1) : Int) fun v11 =>
            fm_S_scrapesAt_3 i1 f2 f3 f4 σ K n v11
        else
          xnm (w32 (x5 + 1) : Int) fun v12 =>
          fm_S_scrapesAt_3 i1 f2 f3 f4 σ K n v12
      else
        xnm (w32 (x5 + 1) : Int) fun v13 =>
        fm_S_scrapesAt_3 i1 f2 f3 f4 σ K n v13
theorem jl_S_scrapesAt_3 (i1 : Nat) (f2 : Int) (f3 : Int) (f4 : Int) (σ : xa_H)  (K : Option (Int)) (hK3 : J 110 102 [(0, xr 8 0), (2, xi f2), (3, xi f3), (4, xi f4)] [] σ (jqP σ) (K)) : ∀ (n : Nat) (x5 : Int), J 110 3 [(0, xr 8 0), (1, xr 5 i1), (2, xi f2), (3, xi f3), (4, xi f4), (5, xi x5)] [] σ (jqP σ) (fm_S_scrapesAt_3 i1 f2 f3 f4 σ K n x5) := by
  intro n
  induction n with
  | zero => intro x5; exact jr_none
  | succ n ih3 =>
    intro x5
    rw [fm_S_scrapesAt_3]
    refine jr_iload (e_110 rfl) rfl rfl ?_
    refine jr_aload_n (e_110 rfl) rfl rfl ?_
    refine jr_geti (e_110 rfl) rfl (by decide +kernel) ?_
    refine jr_bri (c := (σ 5 i1 0) ≤ x5) (pt := 102) (pn := 12) (e_110 rfl) rfl rfl (fun h1 => ?_) (fun h1 => ?_)
    · exact jr_sub (show ([0, 1, 2, 3, 4, 5] : List Nat).Nodup from by decide) (xsb_c (List.Mem.head _) (xsb_c (List.Mem.tail _ (List.Mem.tail _ (List.Mem.head _))) (xsb_c (List.Mem.tail _ (List.Mem.tail _ (List.Mem.tail _ (List.Mem.head _)))) (xsb_c (List.Mem.tail _ (List.Mem.tail _ (List.Mem.tail _ (List.Mem.tail _ (List.Mem.head _))))) xsb_n)))) (hK3)
    · refine jr_iload_n (e_110 rfl) rfl rfl ?_
      refine jr_aload_n (e_110 rfl) rfl rfl ?_
      refine jr_geti (e_110 rfl) rfl (by decide +kernel) ?_
      refine jr_callP (as := [xi (σ 5 i1 1)]) (S1 := [xi f2]) (e_110 rfl) rfl rfl rfl rfl rfl rfl (jm_S_xOf (σ 5 i1 1) σ) rfl (fun v2 => ?_)
      refine jr_aload_n (e_110 rfl) rfl rfl ?_
      refine jr_aload_n (e_110 rfl) rfl rfl ?_
      refine jr_getr (K2 := 6) (i2 := 0) (e_110 rfl) rfl rfl rfl ?_
      refine jr_aload_n (e_110 rfl) rfl rfl ?_
      refine jr_geti (e_110 rfl) rfl (by decide +kernel) ?_
      refine jr_iload (e_110 rfl) rfl rfl ?_
      refine jr_iconst (e_110 rfl) rfl ?_
      refine jr_callP (as := [xr 5 i1, xr 6 0, xi (σ 5 i1 2), xi x5, xi 0]) (S1 := [xi v2, xi f2]) (e_110 rfl) rfl rfl rfl rfl rfl rfl (jm_Thing_along i1 (σ 5 i1 2) x5 0 σ) rfl (fun v3 => ?_)
      refine jr_iadd (e_110 rfl) rfl ?_
      refine jr_brx (c := f2 = (w32 (v2 + v3))) (pt := 96) (pn := 39) (e_110 rfl) rfl rfl (fun h4 => ?_) (fun h4 => ?_)
      · refine jr_iload_n (e_110 rfl) rfl rfl ?_
        refine jr_aload_n (e_110 rfl) rfl rfl ?_
        refine jr_geti (e_110 rfl) rfl (by decide +kernel) ?_
        refine jr_callP (as := [xi (σ 5 i1 1)]) (S1 := [xi f3]) (e_110 rfl) rfl rfl rfl rfl rfl rfl (jm_S_yOf (σ 5 i1 1) σ) rfl (fun v5 => ?_)
        refine jr_aload_n (e_110 rfl) rfl rfl ?_
        refine jr_aload_n (e_110 rfl) rfl rfl ?_
        refine jr_getr (K2 := 6) (i2 := 0) (e_110 rfl) rfl rfl rfl ?_
        refine jr_aload_n (e_110 rfl) rfl rfl ?_
        refine jr_geti (e_110 rfl) rfl (by decide +kernel) ?_
        refine jr_iload (e_110 rfl) rfl rfl ?_
        refine jr_iconst (e_110 rfl) rfl ?_
        refine jr_callP (as := [xr 5 i1, xr 6 0, xi (σ 5 i1 2), xi x5, xi 1]) (S1 := [xi v5, xi f3]) (e_110 rfl) rfl rfl rfl rfl rfl rfl (jm_Thing_along i1 (σ 5 i1 2) x5 1 σ) rfl (fun v6 => ?_)
        refine jr_iadd (e_110 rfl) rfl ?_
        refine jr_brx (c := f3 = (w32 (v5 + v6))) (pt := 96) (pn := 66) (e_110 rfl) rfl rfl (fun h7 => ?_) (fun h7 => ?_)
        · refine jr_iload (e_110 rfl) rfl rfl ?_
          refine jr_aload_n (e_110 rfl) rfl rfl ?_
          refine jr_geti (e_110 rfl) rfl (by decide +kernel) ?_
          refine jr_callP (as := [xi (σ 5 i1 1)]) (S1 := [xi f4]) (e_110 rfl) rfl rfl rfl rfl rfl rfl (jm_S_zOf (σ 5 i1 1) σ) rfl (fun v8 => ?_)
          refine jr_aload_n (e_110 rfl) rfl rfl ?_
          refine jr_aload_n (e_110 rfl) rfl rfl ?_
          refine jr_getr (K2 := 6) (i2 := 0) (e_110 rfl) rfl rfl rfl ?_
          refine jr_aload_n (e_110 rfl) rfl rfl ?_
          refine jr_geti (e_110 rfl) rfl (by decide +kernel) ?_
          refine jr_iload (e_110 rfl) rfl rfl ?_
          refine jr_iconst (e_110 rfl) rfl ?_
          refine jr_callP (as := [xr 5 i1, xr 6 0, xi (σ 5 i1 2), xi x5, xi 2]) (S1 := [xi v8, xi f4]) (e_110 rfl) rfl rfl rfl rfl rfl rfl (jm_Thing_along i1 (σ 5 i1 2) x5 2 σ) rfl (fun v9 => ?_)
          refine jr_iadd (e_110 rfl) rfl ?_
          refine jr_brx (c := f4 = (w32 (v8 + v9))) (pt := 96) (pn := 94) (e_110 rfl) rfl rfl (fun h10 => ?_) (fun h10 => ?_)
          · refine jr_iconst (e_110 rfl) rfl ?_
            exact jr_retP (e_110 rfl) rfl
          · refine jr_iinc (L2 := fun c => [(5, xi c), (0, xr 8 0), (1, xr 5 i1), (2, xi f2), (3, xi f3), (4, xi f4)]) (e_110 rfl) rfl rfl rfl (fun _ => rfl) (fun v11 => ?_)
            refine jr_goto (pc' := 3) (e_110 rfl) rfl ?_
            exact jr_sub (show ([5, 0, 1, 2, 3, 4] : List Nat).Nodup from by decide) (xsb_c (List.Mem.tail _ (List.Mem.head _)) (xsb_c (List.Mem.tail _ (List.Mem.tail _ (List.Mem.head _))) (xsb_c (List.Mem.tail _ (List.Mem.tail _ (List.Mem.tail _ (List.Mem.head _)))) (xsb_c (List.Mem.tail _ (List.Mem.tail _ (List.Mem.tail _ (List.Mem.tail _ (List.Mem.head _))))) (xsb_c (List.Mem.tail _ (List.Mem.tail _ (List.Mem.tail _ (List.Mem.tail _ (List.Mem.tail _ (List.Mem.head _)))))) (xsb_c (List.Mem.head _) xsb_n)))))) (ih3 v11)
        · refine jr_iinc (L2 := fun c => [(5, xi c), (0, xr 8 0), (1, xr 5 i1), (2, xi f2), (3, xi f3), (4, xi f4)]) (e_110 rfl) rfl rfl rfl (fun _ => rfl) (fun v12 => ?_)
          refine jr_goto (pc' := 3) (e_110 rfl) rfl ?_
          exact jr_sub (show ([5, 0, 1, 2, 3, 4] : List Nat).Nodup from by decide) (xsb_c (List.Mem.tail _ (List.Mem.head _)) (xsb_c (List.Mem.tail _ (List.Mem.tail _ (List.Mem.head _))) (xsb_c (List.Mem.tail _ (List.Mem.tail _ (List.Mem.tail _ (List.Mem.head _)))) (xsb_c (List.Mem.tail _ (List.Mem.tail _ (List.Mem.tail _ (List.Mem.tail _ (List.Mem.head _))))) (xsb_c (List.Mem.tail _ (List.Mem.tail _ (List.Mem.tail _ (List.Mem.tail _ (List.Mem.tail _ (List.Mem.head _)))))) (xsb_c (List.Mem.head _) xsb_n)))))) (ih3 v12)
      · refine jr_iinc (L2 := fun c => [(5, xi c), (0, xr 8 0), (1, xr 5 i1), (2, xi f2), (3, xi f3), (4, xi f4)]) (e_110 rfl) rfl rfl rfl (fun _ => rfl) (fun v13 => ?_)
        refine jr_goto (pc' := 3) (e_110 rfl) rfl ?_
        exact jr_sub (show ([5, 0, 1, 2, 3, 4] : List Nat).Nodup from by decide) (xsb_c (List.Mem.tail _ (List.Mem.head _)) (xsb_c (List.Mem.tail _ (List.Mem.tail _ (List.Mem.head _))) (xsb_c (List.Mem.tail _ (List.Mem.tail _ (List.Mem.tail _ (List.Mem.head _)))) (xsb_c (List.Mem.tail _ (List.Mem.tail _ (List.Mem.tail _ (List.Mem.tail _ (List.Mem.head _))))) (xsb_c (List.Mem.tail _ (List.Mem.tail _ (List.Mem.tail _ (List.Mem.tail _ (List.Mem.tail _ (List.Mem.head _)))))) (xsb_c (List.Mem.head _) xsb_n)))))) (ih3 v13)
noncomputable def fm_S_scrapesAt (i1 : Nat) (a2 : Int) (a3 : Int) (a4 : Int) (σ : xa_H) : Option (Int) :=
  fm_S_scrapesAt_3 i1 a2 a3 a4 σ (
    (fm_Way_placeAt 0 a2 a3 a4 σ).bind fun v14 =>
    if v14 < 0 then
      some 1
    else
      (fm_Way_kindAt 0 v14 σ).bind fun v16 =>
      if v16 = 0 then
        some 0
      else
        some 1) xFU 0
theorem jm_S_scrapesAt (i1 : Nat) (a2 : Int) (a3 : Int) (a4 : Int) (σ : xa_H) : J 110 0 [(0, xr 8 0), (1, xr 5 i1), (2, xi a2), (3, xi a3), (4, xi a4)] [] σ (jqP σ) (fm_S_scrapesAt i1 a2 a3 a4 σ) := by
  unfold fm_S_scrapesAt
  refine jr_iconst (e_110 rfl) rfl ?_
  refine jr_istore (L' := [(5, xi 0), (0, xr 8 0), (1, xr 5 i1), (2, xi a2), (3, xi a3), (4, xi a4)]) (e_110 rfl) rfl rfl rfl ?_
  refine jr_sub (show ([5, 0, 1, 2, 3, 4] : List Nat).Nodup from by decide) (xsb_c (List.Mem.tail _ (List.Mem.head _)) (xsb_c (List.Mem.tail _ (List.Mem.tail _ (List.Mem.head _))) (xsb_c (List.Mem.tail _ (List.Mem.tail _ (List.Mem.tail _ (List.Mem.head _)))) (xsb_c (List.Mem.tail _ (List.Mem.tail _ (List.Mem.tail _ (List.Mem.tail _ (List.Mem.head _))))) (xsb_c (List.Mem.tail _ (List.Mem.tail _ (List.Mem.tail _ (List.Mem.tail _ (List.Mem.tail _ (List.Mem.head _)))))) (xsb_c (List.Mem.head _) xsb_n)))))) (jl_S_scrapesAt_3 i1 a2 a3 a4 σ _ ?_ xFU 0)
  refine jr_aload_n (e_110 rfl) rfl rfl ?_
  refine jr_getr (K2 := 4) (i2 := 0) (e_110 rfl) rfl rfl rfl ?_
  refine jr_getr (K2 := 7) (i2 := 0) (e_110 rfl) rfl rfl rfl ?_
  refine jr_iload_n (e_110 rfl) rfl rfl ?_
  refine jr_iload_n (e_110 rfl) rfl rfl ?_
  refine jr_iload (e_110 rfl) rfl rfl ?_
  refine jr_callP (as := [xr 7 0, xi a2, xi a3, xi a4]) (S1 := []) (e_110 rfl) rfl rfl rfl rfl rfl rfl (jm_Way_placeAt 0 a2 a3 a4 σ) rfl (fun v14 => ?_)
  refine jr_istore (L' := [(5, xi v14), (0, xr 8 0), (2, xi a2), (3, xi a3), (4, xi a4)]) (e_110 rfl) rfl rfl rfl ?_
  refine jr_iload (e_110 rfl) rfl rfl ?_
  refine jr_bri (c := v14 < 0) (pt := 138) (pn := 123) (e_110 rfl) rfl rfl (fun h15 => ?_) (fun h15 => ?_)
  · refine jr_iconst (e_110 rfl) rfl ?_
    refine jr_goto (pc' := 143) (e_110 rfl) rfl ?_
    exact jr_retP (e_110 rfl) rfl
  · refine jr_aload_n (e_110 rfl) rfl rfl ?_
    refine jr_getr (K2 := 4) (i2 := 0) (e_110 rfl) rfl rfl rfl ?_
    refine jr_getr (K2 := 7) (i2 := 0) (e_110 rfl) rfl rfl rfl ?_
    refine jr_iload (e_110 rfl) rfl rfl ?_
    refine jr_callP (as := [xr 7 0, xi v14]) (S1 := []) (e_110 rfl) rfl rfl rfl rfl rfl rfl (jm_Way_kindAt 0 v14 σ) rfl (fun v16 => ?_)
    refine jr_bri (c := v16 = 0) (pt := 142) (pn := 138) (e_110 rfl) rfl rfl (fun h17 => ?_) (fun h17 => ?_)
    · refine jr_iconst (e_110 rfl) rfl ?_
      exact jr_retP (e_110 rfl) rfl
    · refine jr_iconst (e_110 rfl) rfl ?_
      refine jr_goto (pc' := 143) (e_110 rfl) rfl ?_
      exact jr_retP (e_110 rfl) rfl

theorem e_109 {pc : Nat} {en : xa_I} (h : xlk pc xc_109 = some en) : xcd 109 pc = some en := h
noncomputable def fm_S_scrapes_4 (i1 : Nat) (σ : xa_H) (K : Int → Option (Int)) : Nat → Int → Int → Option (Int)
  | 0, _, _ => none
  | n + 1, x2, x3 =>
    if (σ 5 i1 0) ≤ x3 then
      K x2
    else
      (fm_S_xOf (σ 5 i1 1)).bind fun v2 =>
      (fm_Thing_along i1 (σ 5 i1 2) x3 0 σ).bind fun v3 =>
      xnm ((w32 (v2 + v3)) : Int) fun v4 =>
      (fm_S_yOf (σ 5 i1 1)).bind fun v5 =>
      (fm_Thing_along i1 (σ 5 i1 2) x3 1 σ).bind fun v6 =>
      xnm ((w32 (v5 + v6)) : Int) fun v7 =>
      (fm_S_zOf (σ 5 i1 1)).bind fun v8 =>
      (fm_Thing_along i1 (σ 5 i1 2) x3 2 σ).bind fun v9 =>
      xnm ((w32 (v8 + v9)) : Int) fun v10 =>
      (fm_S_scrapesAt i1 (w32 (v4 - 1)) v7 v10 σ).bind fun v11 =>
      (fm_S_scrapesAt i1 (w32 (v4 + 1)) v7 v10 σ).bind fun v12 =>
      xnm ((w32 (x2 + (w32 (v11 + v12)))) : Int) fun v13 =>
      (fm_S_scrapesAt i1 v4 (w32 (v7 - 1)) v10 σ).bind fun v14 =>
      (fm_S_scrapesAt i1 v4 (w32 (v7 + 1)) v10 σ).bind fun v15 =>
      xnm ((w32 (v13 + (w32 (v14 + v15)))) : Int) fun v16 =>
      (fm_S_scrapesAt i1 v4 v7 (w32 (v10 + 1)) σ).bind fun v17 =>
      xnm ((w32 (v16 + v17)) : Int) fun v18 =>
      xnm (w32 (x3 + 1) : Int) fun v19 =>
      fm_S_scrapes_4 i1 σ K n v18 v19
theorem jl_S_scrapes_4 (i1 : Nat) (σ : xa_H)  (K : Int → Option (Int)) (hK4 : ∀ (z0 : Int), J 109 166 [(2, xi z0)] [] σ (jqP σ) (K z0)) : ∀ (n : Nat) (x2 : Int) (x3 : Int), J 109 4 [(0, xr 8 0), (1, xr 5 i1), (2, xi x2), (3, xi x3)] [] σ (jqP σ) (fm_S_scrapes_4 i1 σ K n x2 x3) := by
  intro n
  induction n with
  | zero => intro x2 x3; exact jr_none
  | succ n ih4 =>
    intro x2 x3
    rw [fm_S_scrapes_4]
    refine jr_iload_n (e_109 rfl) rfl rfl ?_
    refine jr_aload_n (e_109 rfl) rfl rfl ?_
    refine jr_geti (e_109 rfl) rfl (by decide +kernel) ?_
    refine jr_bri (c := (σ 5 i1 0) ≤ x3) (pt := 166) (pn := 12) (e_109 rfl) rfl rfl (fun h1 => ?_) (fun h1 => ?_)
    · exact jr_sub (show ([0, 1, 2, 3] : List Nat).Nodup from by decide) (xsb_c (List.Mem.tail _ (List.Mem.tail _ (List.Mem.head _))) xsb_n) (hK4 x2)
    · refine jr_aload_n (e_109 rfl) rfl rfl ?_
      refine jr_geti (e_109 rfl) rfl (by decide +kernel) ?_
      refine jr_callP (as := [xi (σ 5 i1 1)]) (S1 := []) (e_109 rfl) rfl rfl rfl rfl rfl rfl (jm_S_xOf (σ 5 i1 1) σ) rfl (fun v2 => ?_)
      refine jr_aload_n (e_109 rfl) rfl rfl ?_
      refine jr_aload_n (e_109 rfl) rfl rfl ?_
      refine jr_getr (K2 := 6) (i2 := 0) (e_109 rfl) rfl rfl rfl ?_
      refine jr_aload_n (e_109 rfl) rfl rfl ?_
      refine jr_geti (e_109 rfl) rfl (by decide +kernel) ?_
      refine jr_iload_n (e_109 rfl) rfl rfl ?_
      refine jr_iconst (e_109 rfl) rfl ?_
      refine jr_callP (as := [xr 5 i1, xr 6 0, xi (σ 5 i1 2), xi x3, xi 0]) (S1 := [xi v2]) (e_109 rfl) rfl rfl rfl rfl rfl rfl (jm_Thing_along i1 (σ 5 i1 2) x3 0 σ) rfl (fun v3 => ?_)
      refine jr_iadd (e_109 rfl) rfl ?_
      refine jr_nm (fun v4 => ?_)
      refine jr_istore (L' := [(4, xi v4), (0, xr 8 0), (1, xr 5 i1), (2, xi x2), (3, xi x3)]) (e_109 rfl) rfl rfl rfl ?_
      refine jr_aload_n (e_109 rfl) rfl rfl ?_
      refine jr_geti (e_109 rfl) rfl (by decide +kernel) ?_
      refine jr_callP (as := [xi (σ 5 i1 1)]) (S1 := []) (e_109 rfl) rfl rfl rfl rfl rfl rfl (jm_S_yOf (σ 5 i1 1) σ) rfl (fun v5 => ?_)
      refine jr_aload_n (e_109 rfl) rfl rfl ?_
      refine jr_aload_n (e_109 rfl) rfl rfl ?_
      refine jr_getr (K2 := 6) (i2 := 0) (e_109 rfl) rfl rfl rfl ?_
      refine jr_aload_n (e_109 rfl) rfl rfl ?_
      refine jr_geti (e_109 rfl) rfl (by decide +kernel) ?_
      refine jr_iload_n (e_109 rfl) rfl rfl ?_
      refine jr_iconst (e_109 rfl) rfl ?_
      refine jr_callP (as := [xr 5 i1, xr 6 0, xi (σ 5 i1 2), xi x3, xi 1]) (S1 := [xi v5]) (e_109 rfl) rfl rfl rfl rfl rfl rfl (jm_Thing_along i1 (σ 5 i1 2) x3 1 σ) rfl (fun v6 => ?_)
      refine jr_iadd (e_109 rfl) rfl ?_
      refine jr_nm (fun v7 => ?_)
      refine jr_istore (L' := [(5, xi v7), (4, xi v4), (0, xr 8 0), (1, xr 5 i1), (2, xi x2), (3, xi x3)]) (e_109 rfl) rfl rfl rfl ?_
      refine jr_aload_n (e_109 rfl) rfl rfl ?_
      refine jr_geti (e_109 rfl) rfl (by decide +kernel) ?_
      refine jr_callP (as := [xi (σ 5 i1 1)]) (S1 := []) (e_109 rfl) rfl rfl rfl rfl rfl rfl (jm_S_zOf (σ 5 i1 1) σ) rfl (fun v8 => ?_)
      refine jr_aload_n (e_109 rfl) rfl rfl ?_
      refine jr_aload_n (e_109 rfl) rfl rfl ?_
      refine jr_getr (K2 := 6) (i2 := 0) (e_109 rfl) rfl rfl rfl ?_
      refine jr_aload_n (e_109 rfl) rfl rfl ?_
      refine jr_geti (e_109 rfl) rfl (by decide +kernel) ?_
      refine jr_iload_n (e_109 rfl) rfl rfl ?_
      refine jr_iconst (e_109 rfl) rfl ?_
      refine jr_callP (as := [xr 5 i1, xr 6 0, xi (σ 5 i1 2), xi x3, xi 2]) (S1 := [xi v8]) (e_109 rfl) rfl rfl rfl rfl rfl rfl (jm_Thing_along i1 (σ 5 i1 2) x3 2 σ) rfl (fun v9 => ?_)
      refine jr_iadd (e_109 rfl) rfl ?_
      refine jr_nm (fun v10 => ?_)
      refine jr_istore (L' := [(6, xi v10), (5, xi v7), (4, xi v4), (0, xr 8 0), (1, xr 5 i1), (2, xi x2), (3, xi x3)]) (e_109 rfl) rfl rfl rfl ?_
      refine jr_iload_n (e_109 rfl) rfl rfl ?_
      refine jr_aload_n (e_109 rfl) rfl rfl ?_
      refine jr_aload_n (e_109 rfl) rfl rfl ?_
      refine jr_iload (e_109 rfl) rfl rfl ?_
      refine jr_iconst (e_109 rfl) rfl ?_
      refine jr_isub (e_109 rfl) rfl ?_
      refine jr_iload (e_109 rfl) rfl rfl ?_
      refine jr_iload (e_109 rfl) rfl rfl ?_
      refine jr_callP (as := [xr 8 0, xr 5 i1, xi (w32 (v4 - 1)), xi v7, xi v10]) (S1 := [xi x2]) (e_109 rfl) rfl rfl rfl rfl rfl rfl (jm_S_scrapesAt i1 (w32 (v4 - 1)) v7 v10 σ) rfl (fun v11 => ?_)
      refine jr_aload_n (e_109 rfl) rfl rfl ?_
      refine jr_aload_n (e_109 rfl) rfl rfl ?_
      refine jr_iload (e_109 rfl) rfl rfl ?_
      refine jr_iconst (e_109 rfl) rfl ?_
      refine jr_iadd (e_109 rfl) rfl ?_
      refine jr_iload (e_109 rfl) rfl rfl ?_
      refine jr_iload (e_109 rfl) rfl rfl ?_
      refine jr_callP (as := [xr 8 0, xr 5 i1, xi (w32 (v4 + 1)), xi v7, xi v10]) (S1 := [xi v11, xi x2]) (e_109 rfl) rfl rfl rfl rfl rfl rfl (jm_S_scrapesAt i1 (w32 (v4 + 1)) v7 v10 σ) rfl (fun v12 => ?_)
      refine jr_iadd (e_109 rfl) rfl ?_
      refine jr_iadd (e_109 rfl) rfl ?_
      refine jr_nm (fun v13 => ?_)
      refine jr_istore_n (L' := [(2, xi v13), (6, xi v10), (5, xi v7), (4, xi v4), (0, xr 8 0), (1, xr 5 i1), (3, xi x3)]) (e_109 rfl) rfl rfl rfl ?_
      refine jr_iload_n (e_109 rfl) rfl rfl ?_
      refine jr_aload_n (e_109 rfl) rfl rfl ?_
      refine jr_aload_n (e_109 rfl) rfl rfl ?_
      refine jr_iload (e_109 rfl) rfl rfl ?_
      refine jr_iload (e_109 rfl) rfl rfl ?_
      refine jr_iconst (e_109 rfl) rfl ?_
      refine jr_isub (e_109 rfl) rfl ?_
      refine jr_iload (e_109 rfl) rfl rfl ?_
      refine jr_callP (as := [xr 8 0, xr 5 i1, xi v4, xi (w32 (v7 - 1)), xi v10]) (S1 := [xi v13]) (e_109 rfl) rfl rfl rfl rfl rfl rfl (jm_S_scrapesAt i1 v4 (w32 (v7 - 1)) v10 σ) rfl (fun v14 => ?_)
      refine jr_aload_n (e_109 rfl) rfl rfl ?_
      refine jr_aload_n (e_109 rfl) rfl rfl ?_
      refine jr_iload (e_109 rfl) rfl rfl ?_
      refine jr_iload (e_109 rfl) rfl rfl ?_
      refine jr_iconst (e_109 rfl) rfl ?_
      refine jr_iadd (e_109 rfl) rfl ?_
      refine jr_iload (e_109 rfl) rfl rfl ?_
      refine jr_callP (as := [xr 8 0, xr 5 i1, xi v4, xi (w32 (v7 + 1)), xi v10]) (S1 := [xi v14, xi v13]) (e_109 rfl) rfl rfl rfl rfl rfl rfl (jm_S_scrapesAt i1 v4 (w32 (v7 + 1)) v10 σ) rfl (fun v15 => ?_)
      refine jr_iadd (e_109 rfl) rfl ?_
      refine jr_iadd (e_109 rfl) rfl ?_
      refine jr_nm (fun v16 => ?_)
      refine jr_istore_n (L' := [(2, xi v16), (6, xi v10), (5, xi v7), (4, xi v4), (0, xr 8 0), (1, xr 5 i1), (3, xi x3)]) (e_109 rfl) rfl rfl rfl ?_
      refine jr_iload_n (e_109 rfl) rfl rfl ?_
      refine jr_aload_n (e_109 rfl) rfl rfl ?_
      refine jr_aload_n (e_109 rfl) rfl rfl ?_
      refine jr_iload (e_109 rfl) rfl rfl ?_
      refine jr_iload (e_109 rfl) rfl rfl ?_
      refine jr_iload (e_109 rfl) rfl rfl ?_
      refine jr_iconst (e_109 rfl) rfl ?_
      refine jr_iadd (e_109 rfl) rfl ?_
      refine jr_callP (as := [xr 8 0, xr 5 i1, xi v4, xi v7, xi (w32 (v10 + 1))]) (S1 := [xi v16]) (e_109 rfl) rfl rfl rfl rfl rfl rfl (jm_S_scrapesAt i1 v4 v7 (w32 (v10 + 1)) σ) rfl (fun v17 => ?_)
      refine jr_iadd (e_109 rfl) rfl ?_
      refine jr_nm (fun v18 => ?_)
      refine jr_istore_n (L' := [(2, xi v18), (6, xi v10), (5, xi v7), (4, xi v4), (0, xr 8 0), (1, xr 5 i1), (3, xi x3)]) (e_109 rfl) rfl rfl rfl ?_
      refine jr_iinc (L2 := fun c => [(3, xi c), (2, xi v18), (6, xi v10), (5, xi v7), (4, xi v4), (0, xr 8 0), (1, xr 5 i1)]) (e_109 rfl) rfl rfl rfl (fun _ => rfl) (fun v19 => ?_)
      refine jr_goto (pc' := 4) (e_109 rfl) rfl ?_
      exact jr_sub (show ([3, 2, 6, 5, 4, 0, 1] : List Nat).Nodup from by decide) (xsb_c (List.Mem.tail _ (List.Mem.tail _ (List.Mem.tail _ (List.Mem.tail _ (List.Mem.tail _ (List.Mem.head _)))))) (xsb_c (List.Mem.tail _ (List.Mem.tail _ (List.Mem.tail _ (List.Mem.tail _ (List.Mem.tail _ (List.Mem.tail _ (List.Mem.head _))))))) (xsb_c (List.Mem.tail _ (List.Mem.head _)) (xsb_c (List.Mem.head _) xsb_n)))) (ih4 v18 v19)
noncomputable def fm_S_scrapes (i1 : Nat) (σ : xa_H) : Option (Int) :=
  fm_S_scrapes_4 i1 σ (fun (v20 : Int) =>
    some v20) xFU 0 0
theorem jm_S_scrapes (i1 : Nat) (σ : xa_H) : J 109 0 [(0, xr 8 0), (1, xr 5 i1)] [] σ (jqP σ) (fm_S_scrapes i1 σ) := by
  unfold fm_S_scrapes
  refine jr_iconst (e_109 rfl) rfl ?_
  refine jr_istore_n (L' := [(2, xi 0), (0, xr 8 0), (1, xr 5 i1)]) (e_109 rfl) rfl rfl rfl ?_
  refine jr_iconst (e_109 rfl) rfl ?_
  refine jr_istore_n (L' := [(3, xi 0), (2, xi 0), (0, xr 8 0), (1, xr 5 i1)]) (e_109 rfl) rfl rfl rfl ?_
  refine jr_sub (show ([3, 2, 0, 1] : List Nat).Nodup from by decide) (xsb_c (List.Mem.tail _ (List.Mem.tail _ (List.Mem.head _))) (xsb_c (List.Mem.tail _ (List.Mem.tail _ (List.Mem.tail _ (List.Mem.head _)))) (xsb_c (List.Mem.tail _ (List.Mem.head _)) (xsb_c (List.Mem.head _) xsb_n)))) (jl_S_scrapes_4 i1 σ _ (fun v20 => ?_) xFU 0 0)
  refine jr_iload_n (e_109 rfl) rfl rfl ?_
  exact jr_retP (e_109 rfl) rfl
