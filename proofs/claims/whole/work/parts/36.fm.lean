/-! methods as functions, printed by wip/whole/gen/gen5.py -/
theorem e_230 {pc : Nat} {en : xa_I} (h : xlk pc xc_230 = some en) : xcd 230 pc = some en := h
noncomputable def fm_M_whyNot_22 (f1 : Int) (f2 : Int) (f3 : Int) (f4 : Int) (σ : xa_H) (K : Int → Option (Int)) : Nat → Int → Int → Option (Int)
  | 0, _, _ => none
  | n + 1, x5, x6 =>
    if 0 ≤ f1 ∧ f1 < 5 then
      if (σ 54 0 f1.toNat) ≤ x6 then
        K x5
      else
        if x5 = 1 then
          K x5
        else
          (fm_M_isOn f1 x6 σ).bind fun v3 =>
          if v3 = 0 then
            xnm (w32 (x6 + 1) : Int) fun v5 =>
            fm_M_whyNot_22 f1 f2 f3 f4 σ K n x5 v5
          else
            if 0 ≤ x6 ∧ x6 < 10 then
              if 0 ≤ x6 ∧ x6 < 10 then
                if 0 ≤ x6 ∧ x6 < 10 then
                  (fm_M_isCell (w32 (f2 + (σ 66 0 x6.toNat))) (w32 (f3 + (σ 67 0 x6.toNat))) (w32 (f4 + (σ 68 0 x6.toNat))) σ).bind fun v6 =>
                  if v6 = 0 then
                    xnm (w32 (x6 + 1) : Int) fun v8 =>
                    fm_M_whyNot_22 f1 f2 f3 f4 σ K n 1 v8
                  else
                    if 0 ≤ x6 ∧ x6 < 10 then
                      if 0 ≤ x6 ∧ x6 < 10 then
                        if 0 ≤ x6 ∧ x6 < 10 then
                          (fm_M_at (w32 (f2 + (σ 66 0 x6.toNat))) (w32 (f3 + (σ 67 0 x6.toNat))) (w32 (f4 + (σ 68 0 x6.toNat)))).bind fun v9 =>
                          (fm_M_isOpen v9 σ).bind fun v10 =>
                          if v10 = 0 then
                            xnm (w32 (x6 + 1) : Int) fun v12 =>
                            fm_M_whyNot_22 f1 f2 f3 f4 σ K n 2 v12
                          else
                            xnm (w32 (x6 + 1) : Int) fun v13 =>
                            fm_M_whyNot_22 f1 f2 f3 f4 σ K n x5 v13
                        else none
                      else none
                    else none
                else none
              else none
            else none
    else none
theorem jl_M_whyNot_22 (f1 : Int) (f2 : Int) (f3 : Int) (f4 : Int) (σ : xa_H)  (K : Int → Option (Int)) (hK22 : ∀ (z0 : Int), J 230 144 [(5, xi z0)] [] σ (jqP σ) (K z0)) : ∀ (n : Nat) (x5 : Int) (x6 : Int), J 230 22 [(0, xr 9 0), (1, xi f1), (2, xi f2), (3, xi f3), (4, xi f4), (5, xi x5), (6, xi x6)] [] σ (jqP σ) (fm_M_whyNot_22 f1 f2 f3 f4 σ K n x5 x6) := by
  intro n
  induction n with
  | zero => intro x5 x6; exact jr_none
  | succ n ih22 =>
    intro x5 x6
    rw [fm_M_whyNot_22]
    refine jr_iload (e_230 rfl) rfl rfl ?_
    refine jr_aload_n (e_230 rfl) rfl rfl ?_
    refine jr_getr (K2 := 54) (i2 := 0) (e_230 rfl) rfl rfl rfl ?_
    refine jr_iload_n (e_230 rfl) rfl rfl ?_
    refine jr_ald (n := 5) (e_230 rfl) rfl rfl rfl ?_
    refine jr_bri (c := (σ 54 0 f1.toNat) ≤ x6) (pt := 144) (pn := 33) (e_230 rfl) rfl rfl (fun h1 => ?_) (fun h1 => ?_)
    · exact jr_sub (show ([0, 1, 2, 3, 4, 5, 6] : List Nat).Nodup from by decide) (xsb_c (List.Mem.tail _ (List.Mem.tail _ (List.Mem.tail _ (List.Mem.tail _ (List.Mem.tail _ (List.Mem.head _)))))) xsb_n) (hK22 x5)
    · refine jr_iload (e_230 rfl) rfl rfl ?_
      refine jr_iconst (e_230 rfl) rfl ?_
      refine jr_bri (c := x5 = 1) (pt := 144) (pn := 39) (e_230 rfl) rfl rfl (fun h2 => ?_) (fun h2 => ?_)
      · exact jr_sub (show ([0, 1, 2, 3, 4, 5, 6] : List Nat).Nodup from by decide) (xsb_c (List.Mem.tail _ (List.Mem.tail _ (List.Mem.tail _ (List.Mem.tail _ (List.Mem.tail _ (List.Mem.head _)))))) xsb_n) (hK22 x5)
      · refine jr_aload_n (e_230 rfl) rfl rfl ?_
        refine jr_iload_n (e_230 rfl) rfl rfl ?_
        refine jr_iload (e_230 rfl) rfl rfl ?_
        refine jr_callP (as := [xr 9 0, xi f1, xi x6]) (S1 := []) (e_230 rfl) rfl rfl rfl rfl rfl rfl (jm_M_isOn f1 x6 σ) rfl (fun v3 => ?_)
        refine jr_bri (c := v3 = 0) (pt := 138) (pn := 49) (e_230 rfl) rfl rfl (fun h4 => ?_) (fun h4 => ?_)
        · refine jr_iinc (L2 := fun c => [(6, xi c), (0, xr 9 0), (1, xi f1), (2, xi f2), (3, xi f3), (4, xi f4), (5, xi x5)]) (e_230 rfl) rfl rfl rfl (fun _ => rfl) (fun v5 => ?_)
          refine jr_goto (pc' := 22) (e_230 rfl) rfl ?_
          exact jr_sub (show ([6, 0, 1, 2, 3, 4, 5] : List Nat).Nodup from by decide) (xsb_c (List.Mem.tail _ (List.Mem.head _)) (xsb_c (List.Mem.tail _ (List.Mem.tail _ (List.Mem.head _))) (xsb_c (List.Mem.tail _ (List.Mem.tail _ (List.Mem.tail _ (List.Mem.head _)))) (xsb_c (List.Mem.tail _ (List.Mem.tail _ (List.Mem.tail _ (List.Mem.tail _ (List.Mem.head _))))) (xsb_c (List.Mem.tail _ (List.Mem.tail _ (List.Mem.tail _ (List.Mem.tail _ (List.Mem.tail _ (List.Mem.head _)))))) (xsb_c (List.Mem.tail _ (List.Mem.tail _ (List.Mem.tail _ (List.Mem.tail _ (List.Mem.tail _ (List.Mem.tail _ (List.Mem.head _))))))) (xsb_c (List.Mem.head _) xsb_n))))))) (ih22 x5 v5)
        · refine jr_aload_n (e_230 rfl) rfl rfl ?_
          refine jr_iload_n (e_230 rfl) rfl rfl ?_
          refine jr_aload_n (e_230 rfl) rfl rfl ?_
          refine jr_getr (K2 := 66) (i2 := 0) (e_230 rfl) rfl rfl rfl ?_
          refine jr_iload (e_230 rfl) rfl rfl ?_
          refine jr_ald (n := 10) (e_230 rfl) rfl rfl rfl ?_
          refine jr_iadd (e_230 rfl) rfl ?_
          refine jr_iload_n (e_230 rfl) rfl rfl ?_
          refine jr_aload_n (e_230 rfl) rfl rfl ?_
          refine jr_getr (K2 := 67) (i2 := 0) (e_230 rfl) rfl rfl rfl ?_
          refine jr_iload (e_230 rfl) rfl rfl ?_
          refine jr_ald (n := 10) (e_230 rfl) rfl rfl rfl ?_
          refine jr_iadd (e_230 rfl) rfl ?_
          refine jr_iload (e_230 rfl) rfl rfl ?_
          refine jr_aload_n (e_230 rfl) rfl rfl ?_
          refine jr_getr (K2 := 68) (i2 := 0) (e_230 rfl) rfl rfl rfl ?_
          refine jr_iload (e_230 rfl) rfl rfl ?_
          refine jr_ald (n := 10) (e_230 rfl) rfl rfl rfl ?_
          refine jr_iadd (e_230 rfl) rfl ?_
          refine jr_callP (as := [xr 9 0, xi (w32 (f2 + (σ 66 0 x6.toNat))), xi (w32 (f3 + (σ 67 0 x6.toNat))), xi (w32 (f4 + (σ 68 0 x6.toNat)))]) (S1 := []) (e_230 rfl) rfl rfl rfl rfl rfl rfl (jm_M_isCell (w32 (f2 + (σ 66 0 x6.toNat))) (w32 (f3 + (σ 67 0 x6.toNat))) (w32 (f4 + (σ 68 0 x6.toNat))) σ) rfl (fun v6 => ?_)
          refine jr_istore (L' := [(7, xi v6), (0, xr 9 0), (1, xi f1), (2, xi f2), (3, xi f3), (4, xi f4), (5, xi x5), (6, xi x6)]) (e_230 rfl) rfl rfl rfl ?_
          refine jr_iload (e_230 rfl) rfl rfl ?_
          refine jr_brx (c := v6 = 0) (pt := 92) (pn := 88) (e_230 rfl) rfl rfl (fun h7 => ?_) (fun h7 => ?_)
          · refine jr_iconst (e_230 rfl) rfl ?_
            refine jr_goto (pc' := 136) (e_230 rfl) rfl ?_
            refine jr_istore (L' := [(5, xi 1), (7, xi v6), (0, xr 9 0), (1, xi f1), (2, xi f2), (3, xi f3), (4, xi f4), (6, xi x6)]) (e_230 rfl) rfl rfl rfl ?_
            refine jr_iinc (L2 := fun c => [(6, xi c), (5, xi 1), (7, xi v6), (0, xr 9 0), (1, xi f1), (2, xi f2), (3, xi f3), (4, xi f4)]) (e_230 rfl) rfl rfl rfl (fun _ => rfl) (fun v8 => ?_)
            refine jr_goto (pc' := 22) (e_230 rfl) rfl ?_
            exact jr_sub (show ([6, 5, 7, 0, 1, 2, 3, 4] : List Nat).Nodup from by decide) (xsb_c (List.Mem.tail _ (List.Mem.tail _ (List.Mem.tail _ (List.Mem.head _)))) (xsb_c (List.Mem.tail _ (List.Mem.tail _ (List.Mem.tail _ (List.Mem.tail _ (List.Mem.head _))))) (xsb_c (List.Mem.tail _ (List.Mem.tail _ (List.Mem.tail _ (List.Mem.tail _ (List.Mem.tail _ (List.Mem.head _)))))) (xsb_c (List.Mem.tail _ (List.Mem.tail _ (List.Mem.tail _ (List.Mem.tail _ (List.Mem.tail _ (List.Mem.tail _ (List.Mem.head _))))))) (xsb_c (List.Mem.tail _ (List.Mem.tail _ (List.Mem.tail _ (List.Mem.tail _ (List.Mem.tail _ (List.Mem.tail _ (List.Mem.tail _ (List.Mem.head _)))))))) (xsb_c (List.Mem.tail _ (List.Mem.head _)) (xsb_c (List.Mem.head _) xsb_n))))))) (ih22 1 v8)
          · refine jr_aload_n (e_230 rfl) rfl rfl ?_
            refine jr_iload_n (e_230 rfl) rfl rfl ?_
            refine jr_aload_n (e_230 rfl) rfl rfl ?_
            refine jr_getr (K2 := 66) (i2 := 0) (e_230 rfl) rfl rfl rfl ?_
            refine jr_iload (e_230 rfl) rfl rfl ?_
            refine jr_ald (n := 10) (e_230 rfl) rfl rfl rfl ?_
            refine jr_iadd (e_230 rfl) rfl ?_
            refine jr_iload_n (e_230 rfl) rfl rfl ?_
            refine jr_aload_n (e_230 rfl) rfl rfl ?_
            refine jr_getr (K2 := 67) (i2 := 0) (e_230 rfl) rfl rfl rfl ?_
            refine jr_iload (e_230 rfl) rfl rfl ?_
            refine jr_ald (n := 10) (e_230 rfl) rfl rfl rfl ?_
            refine jr_iadd (e_230 rfl) rfl ?_
            refine jr_iload (e_230 rfl) rfl rfl ?_
            refine jr_aload_n (e_230 rfl) rfl rfl ?_
            refine jr_getr (K2 := 68) (i2 := 0) (e_230 rfl) rfl rfl rfl ?_
            refine jr_iload (e_230 rfl) rfl rfl ?_
            refine jr_ald (n := 10) (e_230 rfl) rfl rfl rfl ?_
            refine jr_iadd (e_230 rfl) rfl ?_
            refine jr_callP (as := [xi (w32 (f2 + (σ 66 0 x6.toNat))), xi (w32 (f3 + (σ 67 0 x6.toNat))), xi (w32 (f4 + (σ 68 0 x6.toNat)))]) (S1 := [xr 9 0]) (e_230 rfl) rfl rfl rfl rfl rfl rfl (jm_M_at (w32 (f2 + (σ 66 0 x6.toNat))) (w32 (f3 + (σ 67 0 x6.toNat))) (w32 (f4 + (σ 68 0 x6.toNat))) σ) rfl (fun v9 => ?_)
            refine jr_callP (as := [xr 9 0, xi v9]) (S1 := []) (e_230 rfl) rfl rfl rfl rfl rfl rfl (jm_M_isOpen v9 σ) rfl (fun v10 => ?_)
            refine jr_brx (c := v10 = 0) (pt := 134) (pn := 130) (e_230 rfl) rfl rfl (fun h11 => ?_) (fun h11 => ?_)
            · refine jr_iconst (e_230 rfl) rfl ?_
              refine jr_goto (pc' := 136) (e_230 rfl) rfl ?_
              refine jr_istore (L' := [(5, xi 2), (7, xi v6), (0, xr 9 0), (1, xi f1), (2, xi f2), (3, xi f3), (4, xi f4), (6, xi x6)]) (e_230 rfl) rfl rfl rfl ?_
              refine jr_iinc (L2 := fun c => [(6, xi c), (5, xi 2), (7, xi v6), (0, xr 9 0), (1, xi f1), (2, xi f2), (3, xi f3), (4, xi f4)]) (e_230 rfl) rfl rfl rfl (fun _ => rfl) (fun v12 => ?_)
              refine jr_goto (pc' := 22) (e_230 rfl) rfl ?_
              exact jr_sub (show ([6, 5, 7, 0, 1, 2, 3, 4] : List Nat).Nodup from by decide) (xsb_c (List.Mem.tail _ (List.Mem.tail _ (List.Mem.tail _ (List.Mem.head _)))) (xsb_c (List.Mem.tail _ (List.Mem.tail _ (List.Mem.tail _ (List.Mem.tail _ (List.Mem.head _))))) (xsb_c (List.Mem.tail _ (List.Mem.tail _ (List.Mem.tail _ (List.Mem.tail _ (List.Mem.tail _ (List.Mem.head _)))))) (xsb_c (List.Mem.tail _ (List.Mem.tail _ (List.Mem.tail _ (List.Mem.tail _ (List.Mem.tail _ (List.Mem.tail _ (List.Mem.head _))))))) (xsb_c (List.Mem.tail _ (List.Mem.tail _ (List.Mem.tail _ (List.Mem.tail _ (List.Mem.tail _ (List.Mem.tail _ (List.Mem.tail _ (List.Mem.head _)))))))) (xsb_c (List.Mem.tail _ (List.Mem.head _)) (xsb_c (List.Mem.head _) xsb_n))))))) (ih22 2 v12)
            · refine jr_iload (e_230 rfl) rfl rfl ?_
              refine jr_istore (L' := [(5, xi x5), (7, xi v6), (0, xr 9 0), (1, xi f1), (2, xi f2), (3, xi f3), (4, xi f4), (6, xi x6)]) (e_230 rfl) rfl rfl rfl ?_
              refine jr_iinc (L2 := fun c => [(6, xi c), (5, xi x5), (7, xi v6), (0, xr 9 0), (1, xi f1), (2, xi f2), (3, xi f3), (4, xi f4)]) (e_230 rfl) rfl rfl rfl (fun _ => rfl) (fun v13 => ?_)
              refine jr_goto (pc' := 22) (e_230 rfl) rfl ?_
              exact jr_sub (show ([6, 5, 7, 0, 1, 2, 3, 4] : List Nat).Nodup from by decide) (xsb_c (List.Mem.tail _ (List.Mem.tail _ (List.Mem.tail _ (List.Mem.head _)))) (xsb_c (List.Mem.tail _ (List.Mem.tail _ (List.Mem.tail _ (List.Mem.tail _ (List.Mem.head _))))) (xsb_c (List.Mem.tail _ (List.Mem.tail _ (List.Mem.tail _ (List.Mem.tail _ (List.Mem.tail _ (List.Mem.head _)))))) (xsb_c (List.Mem.tail _ (List.Mem.tail _ (List.Mem.tail _ (List.Mem.tail _ (List.Mem.tail _ (List.Mem.tail _ (List.Mem.head _))))))) (xsb_c (List.Mem.tail _ (List.Mem.tail _ (List.Mem.tail _ (List.Mem.tail _ (List.Mem.tail _ (List.Mem.tail _ (List.Mem.tail _ (List.Mem.head _)))))))) (xsb_c (List.Mem.tail _ (List.Mem.head _)) (xsb_c (List.Mem.head _) xsb_n))))))) (ih22 x5 v13)
noncomputable def fm_M_whyNot (a1 : Int) (a2 : Int) (a3 : Int) (a4 : Int) (σ : xa_H) : Option (Int) :=
  (fm_M_isCell a2 a3 a4 σ).bind fun v1 =>
  xnm ((if v1 = 0 then 1 else (-6)) : Int) fun v3 =>
  fm_M_whyNot_22 a1 a2 a3 a4 σ (fun (v14 : Int) =>
    some v14) xFU v3 0
theorem jm_M_whyNot (a1 : Int) (a2 : Int) (a3 : Int) (a4 : Int) (σ : xa_H) : J 230 0 [(0, xr 9 0), (1, xi a1), (2, xi a2), (3, xi a3), (4, xi a4)] [] σ (jqP σ) (fm_M_whyNot a1 a2 a3 a4 σ) := by
  unfold fm_M_whyNot
  refine jr_aload_n (e_230 rfl) rfl rfl ?_
  refine jr_iload_n (e_230 rfl) rfl rfl ?_
  refine jr_iload_n (e_230 rfl) rfl rfl ?_
  refine jr_iload (e_230 rfl) rfl rfl ?_
  refine jr_callP (as := [xr 9 0, xi a2, xi a3, xi a4]) (S1 := []) (e_230 rfl) rfl rfl rfl rfl rfl rfl (jm_M_isCell a2 a3 a4 σ) rfl (fun v1 => ?_)
  refine jr_pm1 (fun T => ∀ v3 : Int, J 230 17 [(0, xr 9 0), (1, xi a1), (2, xi a2), (3, xi a3), (4, xi a4)] [xi v3] σ (jqP σ) (T v3)) (fun v3 => ?_) (fun T hT => ?_)
  · refine jr_istore (L' := [(5, xi v3), (0, xr 9 0), (1, xi a1), (2, xi a2), (3, xi a3), (4, xi a4)]) (e_230 rfl) rfl rfl rfl ?_
    refine jr_iconst (e_230 rfl) rfl ?_
    refine jr_istore (L' := [(6, xi 0), (5, xi v3), (0, xr 9 0), (1, xi a1), (2, xi a2), (3, xi a3), (4, xi a4)]) (e_230 rfl) rfl rfl rfl ?_
    refine jr_sub (show ([6, 5, 0, 1, 2, 3, 4] : List Nat).Nodup from by decide) (xsb_c (List.Mem.tail _ (List.Mem.tail _ (List.Mem.head _))) (xsb_c (List.Mem.tail _ (List.Mem.tail _ (List.Mem.tail _ (List.Mem.head _)))) (xsb_c (List.Mem.tail _ (List.Mem.tail _ (List.Mem.tail _ (List.Mem.tail _ (List.Mem.head _))))) (xsb_c (List.Mem.tail _ (List.Mem.tail _ (List.Mem.tail _ (List.Mem.tail _ (List.Mem.tail _ (List.Mem.head _)))))) (xsb_c (List.Mem.tail _ (List.Mem.tail _ (List.Mem.tail _ (List.Mem.tail _ (List.Mem.tail _ (List.Mem.tail _ (List.Mem.head _))))))) (xsb_c (List.Mem.tail _ (List.Mem.head _)) (xsb_c (List.Mem.head _) xsb_n))))))) (jl_M_whyNot_22 a1 a2 a3 a4 σ _ (fun v14 => ?_) xFU v3 0)
    refine jr_iload (e_230 rfl) rfl rfl ?_
    exact jr_retP (e_230 rfl) rfl
  · refine jr_br (c := v1 = 0) (pt := 16) (pn := 11) (e_230 rfl) rfl rfl (fun h4 => ?_) (fun h4 => ?_)
    · refine jr_iconst (e_230 rfl) rfl ?_
      exact (jr_nme (if_pos h4) (jr_sub (show ([0, 1, 2, 3, 4] : List Nat).Nodup from by decide) (xsb_c (List.Mem.head _) (xsb_c (List.Mem.tail _ (List.Mem.head _)) (xsb_c (List.Mem.tail _ (List.Mem.tail _ (List.Mem.head _))) (xsb_c (List.Mem.tail _ (List.Mem.tail _ (List.Mem.tail _ (List.Mem.head _)))) (xsb_c (List.Mem.tail _ (List.Mem.tail _ (List.Mem.tail _ (List.Mem.tail _ (List.Mem.head _))))) xsb_n))))) (hT 1)))
    · refine jr_bipush (e_230 rfl) rfl ?_
      refine jr_goto (pc' := 17) (e_230 rfl) rfl ?_
      exact (jr_nme (if_neg h4) (jr_sub (show ([0, 1, 2, 3, 4] : List Nat).Nodup from by decide) (xsb_c (List.Mem.head _) (xsb_c (List.Mem.tail _ (List.Mem.head _)) (xsb_c (List.Mem.tail _ (List.Mem.tail _ (List.Mem.head _))) (xsb_c (List.Mem.tail _ (List.Mem.tail _ (List.Mem.tail _ (List.Mem.head _)))) (xsb_c (List.Mem.tail _ (List.Mem.tail _ (List.Mem.tail _ (List.Mem.tail _ (List.Mem.head _))))) xsb_n))))) (hT (-6))))

theorem e_231 {pc : Nat} {en : xa_I} (h : xlk pc xc_231 = some en) : xcd 231 pc = some en := h
noncomputable def fm_M_whyAt (a1 : Int) (a2 : Int) (a3 : Int) (a4 : Int) (a5 : Int) (σ : xa_H) : Option (Int × xa_H) :=
  (fm_M_layCubes a1 a2 σ).bind fun s1 =>
  (fm_M_whyNot a1 a3 a4 a5 s1).bind fun v2 =>
  some (v2, s1)
theorem jm_M_whyAt (a1 : Int) (a2 : Int) (a3 : Int) (a4 : Int) (a5 : Int) (σ : xa_H) : J 231 0 [(0, xr 9 0), (1, xi a1), (2, xi a2), (3, xi a3), (4, xi a4), (5, xi a5)] [] σ jqW (fm_M_whyAt a1 a2 a3 a4 a5 σ) := by
  unfold fm_M_whyAt
  refine jr_aload_n (e_231 rfl) rfl rfl ?_
  refine jr_iload_n (e_231 rfl) rfl rfl ?_
  refine jr_iload_n (e_231 rfl) rfl rfl ?_
  refine jr_callV (as := [xr 9 0, xi a1, xi a2]) (S1 := []) (e_231 rfl) rfl rfl rfl rfl rfl rfl (jm_M_layCubes a1 a2 σ) rfl (fun s1 => ?_)
  refine jr_aload_n (e_231 rfl) rfl rfl ?_
  refine jr_iload_n (e_231 rfl) rfl rfl ?_
  refine jr_iload_n (e_231 rfl) rfl rfl ?_
  refine jr_iload (e_231 rfl) rfl rfl ?_
  refine jr_iload (e_231 rfl) rfl rfl ?_
  refine jr_callP (as := [xr 9 0, xi a1, xi a3, xi a4, xi a5]) (S1 := []) (e_231 rfl) rfl rfl rfl rfl rfl rfl (jm_M_whyNot a1 a3 a4 a5 s1) rfl (fun v2 => ?_)
  exact jr_retW (e_231 rfl) rfl

theorem e_232 {pc : Nat} {en : xa_I} (h : xlk pc xc_232 = some en) : xcd 232 pc = some en := h
noncomputable def fm_M_rowFault_7 (f1 : Int) (σ : xa_H) (K : Int → Option (Int)) : Nat → Int → Int → Option (Int)
  | 0, _, _ => none
  | n + 1, x2, x3 =>
    if (σ 9 0 19) ≤ x3 then
      K x2
    else
      if f1 = 0 then
        K x2
      else
        if 0 ≤ x2 then
          K x2
        else
          if 0 ≤ x3 ∧ x3 < 60 then
            (fm_M_moveOf (σ 65 0 x3.toNat)).bind fun v4 =>
            if 6 ≤ v4 then
              xnm (w32 (x3 + 1) : Int) fun v6 =>
              fm_M_rowFault_7 f1 σ K n x2 v6
            else
              xnm (w32 (x3 + 1) : Int) fun v7 =>
              fm_M_rowFault_7 f1 σ K n x3 v7
          else none
theorem jl_M_rowFault_7 (f1 : Int) (σ : xa_H)  (K : Int → Option (Int)) (hK7 : ∀ (z0 : Int), J 232 49 [(2, xi z0)] [] σ (jqP σ) (K z0)) : ∀ (n : Nat) (x2 : Int) (x3 : Int), J 232 7 [(0, xr 9 0), (1, xi f1), (2, xi x2), (3, xi x3)] [] σ (jqP σ) (fm_M_rowFault_7 f1 σ K n x2 x3) := by
  intro n
  induction n with
  | zero => intro x2 x3; exact jr_none
  | succ n ih7 =>
    intro x2 x3
    rw [fm_M_rowFault_7]
    refine jr_iload_n (e_232 rfl) rfl rfl ?_
    refine jr_aload_n (e_232 rfl) rfl rfl ?_
    refine jr_geti (e_232 rfl) rfl (by decide +kernel) ?_
    refine jr_bri (c := (σ 9 0 19) ≤ x3) (pt := 49) (pn := 15) (e_232 rfl) rfl rfl (fun h1 => ?_) (fun h1 => ?_)
    · exact jr_sub (show ([0, 1, 2, 3] : List Nat).Nodup from by decide) (xsb_c (List.Mem.tail _ (List.Mem.tail _ (List.Mem.head _))) xsb_n) (hK7 x2)
    · refine jr_iload_n (e_232 rfl) rfl rfl ?_
      refine jr_bri (c := f1 = 0) (pt := 49) (pn := 19) (e_232 rfl) rfl rfl (fun h2 => ?_) (fun h2 => ?_)
      · exact jr_sub (show ([0, 1, 2, 3] : List Nat).Nodup from by decide) (xsb_c (List.Mem.tail _ (List.Mem.tail _ (List.Mem.head _))) xsb_n) (hK7 x2)
      · refine jr_iload_n (e_232 rfl) rfl rfl ?_
        refine jr_bri (c := 0 ≤ x2) (pt := 49) (pn := 23) (e_232 rfl) rfl rfl (fun h3 => ?_) (fun h3 => ?_)
        · exact jr_sub (show ([0, 1, 2, 3] : List Nat).Nodup from by decide) (xsb_c (List.Mem.tail _ (List.Mem.tail _ (List.Mem.head _))) xsb_n) (hK7 x2)
        · refine jr_aload_n (e_232 rfl) rfl rfl ?_
          refine jr_getr (K2 := 65) (i2 := 0) (e_232 rfl) rfl rfl rfl ?_
          refine jr_iload_n (e_232 rfl) rfl rfl ?_
          refine jr_ald (n := 60) (e_232 rfl) rfl rfl rfl ?_
          refine jr_callP (as := [xi (σ 65 0 x3.toNat)]) (S1 := []) (e_232 rfl) rfl rfl rfl rfl rfl rfl (jm_M_moveOf (σ 65 0 x3.toNat) σ) rfl (fun v4 => ?_)
          refine jr_bipush (e_232 rfl) rfl ?_
          refine jr_bri (c := 6 ≤ v4) (pt := 41) (pn := 37) (e_232 rfl) rfl rfl (fun h5 => ?_) (fun h5 => ?_)
          · refine jr_iload_n (e_232 rfl) rfl rfl ?_
            refine jr_istore_n (L' := [(2, xi x2), (0, xr 9 0), (1, xi f1), (3, xi x3)]) (e_232 rfl) rfl rfl rfl ?_
            refine jr_iinc (L2 := fun c => [(3, xi c), (2, xi x2), (0, xr 9 0), (1, xi f1)]) (e_232 rfl) rfl rfl rfl (fun _ => rfl) (fun v6 => ?_)
            refine jr_goto (pc' := 7) (e_232 rfl) rfl ?_
            exact jr_sub (show ([3, 2, 0, 1] : List Nat).Nodup from by decide) (xsb_c (List.Mem.tail _ (List.Mem.tail _ (List.Mem.head _))) (xsb_c (List.Mem.tail _ (List.Mem.tail _ (List.Mem.tail _ (List.Mem.head _)))) (xsb_c (List.Mem.tail _ (List.Mem.head _)) (xsb_c (List.Mem.head _) xsb_n)))) (ih7 x2 v6)
          · refine jr_iload_n (e_232 rfl) rfl rfl ?_
            refine jr_goto (pc' := 42) (e_232 rfl) rfl ?_
            refine jr_istore_n (L' := [(2, xi x3), (0, xr 9 0), (1, xi f1), (3, xi x3)]) (e_232 rfl) rfl rfl rfl ?_
            refine jr_iinc (L2 := fun c => [(3, xi c), (2, xi x3), (0, xr 9 0), (1, xi f1)]) (e_232 rfl) rfl rfl rfl (fun _ => rfl) (fun v7 => ?_)
            refine jr_goto (pc' := 7) (e_232 rfl) rfl ?_
            exact jr_sub (show ([3, 2, 0, 1] : List Nat).Nodup from by decide) (xsb_c (List.Mem.tail _ (List.Mem.tail _ (List.Mem.head _))) (xsb_c (List.Mem.tail _ (List.Mem.tail _ (List.Mem.tail _ (List.Mem.head _)))) (xsb_c (List.Mem.tail _ (List.Mem.head _)) (xsb_c (List.Mem.head _) xsb_n)))) (ih7 x3 v7)
noncomputable def fm_M_rowFault (a1 : Int) (σ : xa_H) : Option (Int) :=
  (fm_M_faultOfRow σ).bind fun v1 =>
  fm_M_rowFault_7 a1 σ (fun (v8 : Int) =>
    some v8) xFU v1 0
theorem jm_M_rowFault (a1 : Int) (σ : xa_H) : J 232 0 [(0, xr 9 0), (1, xi a1)] [] σ (jqP σ) (fm_M_rowFault a1 σ) := by
  unfold fm_M_rowFault
  refine jr_aload_n (e_232 rfl) rfl rfl ?_
  refine jr_callP (as := [xr 9 0]) (S1 := []) (e_232 rfl) rfl rfl rfl rfl rfl rfl (jm_M_faultOfRow σ) rfl (fun v1 => ?_)
  refine jr_istore_n (L' := [(2, xi v1), (0, xr 9 0), (1, xi a1)]) (e_232 rfl) rfl rfl rfl ?_
  refine jr_iconst (e_232 rfl) rfl ?_
  refine jr_istore_n (L' := [(3, xi 0), (2, xi v1), (0, xr 9 0), (1, xi a1)]) (e_232 rfl) rfl rfl rfl ?_
  refine jr_sub (show ([3, 2, 0, 1] : List Nat).Nodup from by decide) (xsb_c (List.Mem.tail _ (List.Mem.tail _ (List.Mem.head _))) (xsb_c (List.Mem.tail _ (List.Mem.tail _ (List.Mem.tail _ (List.Mem.head _)))) (xsb_c (List.Mem.tail _ (List.Mem.head _)) (xsb_c (List.Mem.head _) xsb_n)))) (jl_M_rowFault_7 a1 σ _ (fun v8 => ?_) xFU v1 0)
  refine jr_iload_n (e_232 rfl) rfl rfl ?_
  exact jr_retP (e_232 rfl) rfl

theorem e_233 {pc : Nat} {en : xa_I} (h : xlk pc xc_233 = some en) : xcd 233 pc = some en := h
noncomputable def fm_M_lay_45 (f1 : Int) (f2 : Int) (σ : xa_H) (K : Int → Option (Int × xa_H)) : Nat → Int → Int → Option (Int × xa_H)
  | 0, _, _ => none
  | n + 1, x3, x4 =>
    if (σ 9 0 19) ≤ x4 then
      K x3
    else
      if 0 ≤ x4 ∧ x4 < 60 then
        (fm_M_moveOf (σ 65 0 x4.toNat)).bind fun v2 =>
        if 0 ≤ (w32 ((w32 ((w32 (6 * x3)) + v2)) - 6)) ∧ (w32 ((w32 ((w32 (6 * x3)) + v2)) - 6)) < 144 then
          xnm ((σ 51 0 ((w32 ((w32 ((w32 (6 * x3)) + v2)) - 6)).toNat)) : Int) fun v3 =>
          xnm (w32 (x4 + 1) : Int) fun v4 =>
          fm_M_lay_45 f1 f2 σ K n v3 v4
        else none
      else none
theorem jl_M_lay_45 (f1 : Int) (f2 : Int) (σ : xa_H)  (K : Int → Option (Int × xa_H)) (hK45 : ∀ (z0 : Int), J 233 84 [(0, xr 9 0), (1, xi f1), (2, xi f2), (3, xi z0)] [] σ jqW (K z0)) : ∀ (n : Nat) (x3 : Int) (x4 : Int), J 233 45 [(0, xr 9 0), (1, xi f1), (2, xi f2), (3, xi x3), (4, xi x4)] [] σ jqW (fm_M_lay_45 f1 f2 σ K n x3 x4) := by
  intro n
  induction n with
  | zero => intro x3 x4; exact jr_none
  | succ n ih45 =>
    intro x3 x4
    rw [fm_M_lay_45]
    refine jr_iload (e_233 rfl) rfl rfl ?_
    refine jr_aload_n (e_233 rfl) rfl rfl ?_
    refine jr_geti (e_233 rfl) rfl (by decide +kernel) ?_
    refine jr_bri (c := (σ 9 0 19) ≤ x4) (pt := 84) (pn := 54) (e_233 rfl) rfl rfl (fun h1 => ?_) (fun h1 => ?_)
    · exact jr_sub (show ([0, 1, 2, 3, 4] : List Nat).Nodup from by decide) (xsb_c (List.Mem.head _) (xsb_c (List.Mem.tail _ (List.Mem.head _)) (xsb_c (List.Mem.tail _ (List.Mem.tail _ (List.Mem.head _))) (xsb_c (List.Mem.tail _ (List.Mem.tail _ (List.Mem.tail _ (List.Mem.head _)))) xsb_n)))) (hK45 x3)
    · refine jr_aload_n (e_233 rfl) rfl rfl ?_
      refine jr_getr (K2 := 51) (i2 := 0) (e_233 rfl) rfl rfl rfl ?_
      refine jr_bipush (e_233 rfl) rfl ?_
      refine jr_iload_n (e_233 rfl) rfl rfl ?_
      refine jr_imul (e_233 rfl) rfl ?_
      refine jr_aload_n (e_233 rfl) rfl rfl ?_
      refine jr_getr (K2 := 65) (i2 := 0) (e_233 rfl) rfl rfl rfl ?_
      refine jr_iload (e_233 rfl) rfl rfl ?_
      refine jr_ald (n := 60) (e_233 rfl) rfl rfl rfl ?_
      refine jr_callP (as := [xi (σ 65 0 x4.toNat)]) (S1 := [xi (w32 (6 * x3)), xr 51 0]) (e_233 rfl) rfl rfl rfl rfl rfl rfl (jm_M_moveOf (σ 65 0 x4.toNat) σ) rfl (fun v2 => ?_)
      refine jr_iadd (e_233 rfl) rfl ?_
      refine jr_bipush (e_233 rfl) rfl ?_
      refine jr_isub (e_233 rfl) rfl ?_
      refine jr_ald (n := 144) (e_233 rfl) rfl rfl rfl ?_
      refine jr_nm (fun v3 => ?_)
      refine jr_istore_n (L' := [(3, xi v3), (0, xr 9 0), (1, xi f1), (2, xi f2), (4, xi x4)]) (e_233 rfl) rfl rfl rfl ?_
      refine jr_iinc (L2 := fun c => [(4, xi c), (3, xi v3), (0, xr 9 0), (1, xi f1), (2, xi f2)]) (e_233 rfl) rfl rfl rfl (fun _ => rfl) (fun v4 => ?_)
      refine jr_goto (pc' := 45) (e_233 rfl) rfl ?_
      exact jr_sub (show ([4, 3, 0, 1, 2] : List Nat).Nodup from by decide) (xsb_c (List.Mem.tail _ (List.Mem.tail _ (List.Mem.head _))) (xsb_c (List.Mem.tail _ (List.Mem.tail _ (List.Mem.tail _ (List.Mem.head _)))) (xsb_c (List.Mem.tail _ (List.Mem.tail _ (List.Mem.tail _ (List.Mem.tail _ (List.Mem.head _))))) (xsb_c (List.Mem.tail _ (List.Mem.head _)) (xsb_c (List.Mem.head _) xsb_n))))) (ih45 v3 v4)
noncomputable def fm_M_lay (a1 : Int) (a2 : Int) (σ : xa_H) : Option (Int × xa_H) :=
  (fm_M_isThing a1).bind fun v1 =>
  if v1 = 0 then
    some ((-1), σ)
  else
    (fm_M_isCellNumber a2 σ).bind fun v3 =>
    if v3 = 0 then
      some ((-1), σ)
    else
      if 0 ≤ a1 ∧ a1 < 5 then
        if (σ 54 0 a1.toNat) = 0 then
          some ((-3), σ)
        else
          (fm_M_rowFault 1 σ).bind fun v6 =>
          if v6 < 0 then
            fm_M_lay_45 a1 a2 σ (fun (v8 : Int) =>
              (fm_M_takeOff 0 0 σ).bind fun s9 =>
              xb2 (fm_M_whyAt a1 v8 (xdiv a2 100) (xrem (xdiv a2 10) 10) (xrem a2 10) s9) fun v10 s11 =>
              if v10 < 0 then
                (fm_M_placeOf a2).bind fun v13 =>
                if 0 ≤ a1 ∧ a1 < 5 then
                  xnm (xup s11 62 0 a1.toNat v13) fun s14 =>
                  if 0 ≤ a1 ∧ a1 < 5 then
                    xnm (xup s14 63 0 a1.toNat v8) fun s15 =>
                    xnm (xup s15 9 0 19 0) fun s16 =>
                    some (1, s16)
                  else none
                else none
              else
                some ((-5), s11)) xFU 0 0
          else
            some ((-5), σ)
      else none
theorem jm_M_lay (a1 : Int) (a2 : Int) (σ : xa_H) : J 233 0 [(0, xr 9 0), (1, xi a1), (2, xi a2)] [] σ jqW (fm_M_lay a1 a2 σ) := by
  unfold fm_M_lay
  refine jr_iload_n (e_233 rfl) rfl rfl ?_
  refine jr_callP (as := [xi a1]) (S1 := []) (e_233 rfl) rfl rfl rfl rfl rfl rfl (jm_M_isThing a1 σ) rfl (fun v1 => ?_)
  refine jr_bri (c := v1 = 0) (pt := 15) (pn := 7) (e_233 rfl) rfl rfl (fun h2 => ?_) (fun h2 => ?_)
  · refine jr_iconst (e_233 rfl) rfl ?_
    exact jr_retW (e_233 rfl) rfl
  · refine jr_aload_n (e_233 rfl) rfl rfl ?_
    refine jr_iload_n (e_233 rfl) rfl rfl ?_
    refine jr_callP (as := [xr 9 0, xi a2]) (S1 := []) (e_233 rfl) rfl rfl rfl rfl rfl rfl (jm_M_isCellNumber a2 σ) rfl (fun v3 => ?_)
    refine jr_brx (c := v3 = 0) (pt := 17) (pn := 15) (e_233 rfl) rfl rfl (fun h4 => ?_) (fun h4 => ?_)
    · refine jr_iconst (e_233 rfl) rfl ?_
      exact jr_retW (e_233 rfl) rfl
    · refine jr_aload_n (e_233 rfl) rfl rfl ?_
      refine jr_getr (K2 := 54) (i2 := 0) (e_233 rfl) rfl rfl rfl ?_
      refine jr_iload_n (e_233 rfl) rfl rfl ?_
      refine jr_ald (n := 5) (e_233 rfl) rfl rfl rfl ?_
      refine jr_brx (c := (σ 54 0 a1.toNat) = 0) (pt := 29) (pn := 26) (e_233 rfl) rfl rfl (fun h5 => ?_) (fun h5 => ?_)
      · refine jr_bipush (e_233 rfl) rfl ?_
        exact jr_retW (e_233 rfl) rfl
      · refine jr_aload_n (e_233 rfl) rfl rfl ?_
        refine jr_iconst (e_233 rfl) rfl ?_
        refine jr_callP (as := [xr 9 0, xi 1]) (S1 := []) (e_233 rfl) rfl rfl rfl rfl rfl rfl (jm_M_rowFault 1 σ) rfl (fun v6 => ?_)
        refine jr_bri (c := v6 < 0) (pt := 40) (pn := 37) (e_233 rfl) rfl rfl (fun h7 => ?_) (fun h7 => ?_)
        · refine jr_iconst (e_233 rfl) rfl ?_
          refine jr_istore_n (L' := [(3, xi 0), (0, xr 9 0), (1, xi a1), (2, xi a2)]) (e_233 rfl) rfl rfl rfl ?_
          refine jr_iconst (e_233 rfl) rfl ?_
          refine jr_istore (L' := [(4, xi 0), (3, xi 0), (0, xr 9 0), (1, xi a1), (2, xi a2)]) (e_233 rfl) rfl rfl rfl ?_
          refine jr_sub (show ([4, 3, 0, 1, 2] : List Nat).Nodup from by decide) (xsb_c (List.Mem.tail _ (List.Mem.tail _ (List.Mem.head _))) (xsb_c (List.Mem.tail _ (List.Mem.tail _ (List.Mem.tail _ (List.Mem.head _)))) (xsb_c (List.Mem.tail _ (List.Mem.tail _ (List.Mem.tail _ (List.Mem.tail _ (List.Mem.head _))))) (xsb_c (List.Mem.tail _ (List.Mem.head _)) (xsb_c (List.Mem.head _) xsb_n))))) (jl_M_lay_45 a1 a2 σ _ (fun v8 => ?_) xFU 0 0)
          refine jr_aload_n (e_233 rfl) rfl rfl ?_
          refine jr_iconst (e_233 rfl) rfl ?_
          refine jr_iconst (e_233 rfl) rfl ?_
          refine jr_callV (as := [xr 9 0, xi 0, xi 0]) (S1 := []) (e_233 rfl) rfl rfl rfl rfl rfl rfl (jm_M_takeOff 0 0 σ) rfl (fun s9 => ?_)
          refine jr_aload_n (e_233 rfl) rfl rfl ?_
          refine jr_iload_n (e_233 rfl) rfl rfl ?_
          refine jr_iload_n (e_233 rfl) rfl rfl ?_
          refine jr_iload_n (e_233 rfl) rfl rfl ?_
          refine jr_bipush (e_233 rfl) rfl ?_
          refine jr_idiv (e_233 rfl) rfl (by decide) ?_
          refine jr_iload_n (e_233 rfl) rfl rfl ?_
          refine jr_bipush (e_233 rfl) rfl ?_
          refine jr_idiv (e_233 rfl) rfl (by decide) ?_
          refine jr_bipush (e_233 rfl) rfl ?_
          refine jr_irem (e_233 rfl) rfl (by decide) ?_
          refine jr_iload_n (e_233 rfl) rfl rfl ?_
          refine jr_bipush (e_233 rfl) rfl ?_
          refine jr_irem (e_233 rfl) rfl (by decide) ?_
          refine jr_callX (as := [xr 9 0, xi a1, xi v8, xi (xdiv a2 100), xi (xrem (xdiv a2 10) 10), xi (xrem a2 10)]) (S1 := []) (e_233 rfl) rfl rfl rfl rfl rfl rfl (jm_M_whyAt a1 v8 (xdiv a2 100) (xrem (xdiv a2 10) 10) (xrem a2 10) s9) rfl (fun v10 s11 => ?_)
          refine jr_bri (c := v10 < 0) (pt := 117) (pn := 114) (e_233 rfl) rfl rfl (fun h12 => ?_) (fun h12 => ?_)
          · refine jr_aload_n (e_233 rfl) rfl rfl ?_
            refine jr_getr (K2 := 62) (i2 := 0) (e_233 rfl) rfl rfl rfl ?_
            refine jr_iload_n (e_233 rfl) rfl rfl ?_
            refine jr_iload_n (e_233 rfl) rfl rfl ?_
            refine jr_callP (as := [xi a2]) (S1 := [xi a1, xr 62 0]) (e_233 rfl) rfl rfl rfl rfl rfl rfl (jm_M_placeOf a2 s11) rfl (fun v13 => ?_)
            refine jr_ast (n := 5) (e_233 rfl) rfl rfl rfl rfl ?_
            refine jr_nms (fun s14 => ?_)
            refine jr_aload_n (e_233 rfl) rfl rfl ?_
            refine jr_getr (K2 := 63) (i2 := 0) (e_233 rfl) rfl rfl rfl ?_
            refine jr_iload_n (e_233 rfl) rfl rfl ?_
            refine jr_iload_n (e_233 rfl) rfl rfl ?_
            refine jr_ast (n := 5) (e_233 rfl) rfl rfl rfl rfl ?_
            refine jr_nms (fun s15 => ?_)
            refine jr_aload_n (e_233 rfl) rfl rfl ?_
            refine jr_iconst (e_233 rfl) rfl ?_
            refine jr_put (e_233 rfl) rfl rfl rfl ?_
            refine jr_nms (fun s16 => ?_)
            refine jr_iconst (e_233 rfl) rfl ?_
            exact jr_retW (e_233 rfl) rfl
          · refine jr_bipush (e_233 rfl) rfl ?_
            exact jr_retW (e_233 rfl) rfl
        · refine jr_bipush (e_233 rfl) rfl ?_
          exact jr_retW (e_233 rfl) rfl

theorem e_234 {pc : Nat} {en : xa_I} (h : xlk pc xc_234 = some en) : xcd 234 pc = some en := h
noncomputable def fm_M_goal (a1 : Int) (a2 : Int) (σ : xa_H) : Option (Int × xa_H) :=
  (fm_M_isThing a1).bind fun v1 =>
  if v1 = 0 then
    some ((-1), σ)
  else
    (fm_M_isCellNumber a2 σ).bind fun v3 =>
    if v3 = 0 then
      some ((-1), σ)
    else
      if 0 ≤ a1 ∧ a1 < 5 then
        (fm_M_numberOf (σ 64 0 a1.toNat)).bind fun v5 =>
        (fm_M_placeOf a2).bind fun v6 =>
        if 0 ≤ a1 ∧ a1 < 5 then
          xnm (xup σ 64 0 a1.toNat v6) fun s7 =>
          some (v5, s7)
        else none
      else none
theorem jm_M_goal (a1 : Int) (a2 : Int) (σ : xa_H) : J 234 0 [(0, xr 9 0), (1, xi a1), (2, xi a2)] [] σ jqW (fm_M_goal a1 a2 σ) := by
  unfold fm_M_goal
  refine jr_iload_n (e_234 rfl) rfl rfl ?_
  refine jr_callP (as := [xi a1]) (S1 := []) (e_234 rfl) rfl rfl rfl rfl rfl rfl (jm_M_isThing a1 σ) rfl (fun v1 => ?_)
  refine jr_bri (c := v1 = 0) (pt := 15) (pn := 7) (e_234 rfl) rfl rfl (fun h2 => ?_) (fun h2 => ?_)
  · refine jr_iconst (e_234 rfl) rfl ?_
    exact jr_retW (e_234 rfl) rfl
  · refine jr_aload_n (e_234 rfl) rfl rfl ?_
    refine jr_iload_n (e_234 rfl) rfl rfl ?_
    refine jr_callP (as := [xr 9 0, xi a2]) (S1 := []) (e_234 rfl) rfl rfl rfl rfl rfl rfl (jm_M_isCellNumber a2 σ) rfl (fun v3 => ?_)
    refine jr_brx (c := v3 = 0) (pt := 17) (pn := 15) (e_234 rfl) rfl rfl (fun h4 => ?_) (fun h4 => ?_)
    · refine jr_iconst (e_234 rfl) rfl ?_
      exact jr_retW (e_234 rfl) rfl
    · refine jr_aload_n (e_234 rfl) rfl rfl ?_
      refine jr_getr (K2 := 64) (i2 := 0) (e_234 rfl) rfl rfl rfl ?_
      refine jr_iload_n (e_234 rfl) rfl rfl ?_
      refine jr_ald (n := 5) (e_234 rfl) rfl rfl rfl ?_
      refine jr_callP (as := [xi (σ 64 0 a1.toNat)]) (S1 := []) (e_234 rfl) rfl rfl rfl rfl rfl rfl (jm_M_numberOf (σ 64 0 a1.toNat) σ) rfl (fun v5 => ?_)
      refine jr_istore_n (L' := [(3, xi v5), (0, xr 9 0), (1, xi a1), (2, xi a2)]) (e_234 rfl) rfl rfl rfl ?_
      refine jr_aload_n (e_234 rfl) rfl rfl ?_
      refine jr_getr (K2 := 64) (i2 := 0) (e_234 rfl) rfl rfl rfl ?_
      refine jr_iload_n (e_234 rfl) rfl rfl ?_
      refine jr_iload_n (e_234 rfl) rfl rfl ?_
      refine jr_callP (as := [xi a2]) (S1 := [xi a1, xr 64 0]) (e_234 rfl) rfl rfl rfl rfl rfl rfl (jm_M_placeOf a2 σ) rfl (fun v6 => ?_)
      refine jr_ast (n := 5) (e_234 rfl) rfl rfl rfl rfl ?_
      refine jr_nms (fun s7 => ?_)
      refine jr_iload_n (e_234 rfl) rfl rfl ?_
      exact jr_retW (e_234 rfl) rfl

theorem e_235 {pc : Nat} {en : xa_I} (h : xlk pc xc_235 = some en) : xcd 235 pc = some en := h
noncomputable def fm_M_step (a1 : Int) (σ : xa_H) : Option (xa_H) :=
  xnm ((if a1 = 0 then (-1) else (if a1 = 1 then 1 else 0)) : Int) fun v2 =>
  xnm (xup σ 9 0 27 (w32 ((σ 9 0 27) + v2))) fun s5 =>
  xnm ((if a1 = 2 then (-1) else (if a1 = 3 then 1 else 0)) : Int) fun v7 =>
  xnm (xup s5 9 0 26 (w32 ((s5 9 0 26) + v7))) fun s10 =>
  xnm ((if a1 = 4 then 1 else (if a1 = 5 then (-1) else 0)) : Int) fun v12 =>
  xnm (xup s10 9 0 28 (w32 ((s10 9 0 28) + v12))) fun s15 =>
  xj (fun (v17 : Int) =>
    xnm (xup s15 9 0 29 v17) fun s20 =>
    some s20) fun K18 =>
  if a1 ≤ 5 then
    K18 (s15 9 0 29)
  else
    if 0 ≤ (w32 ((w32 ((w32 (6 * (s15 9 0 29))) + a1)) - 6)) ∧ (w32 ((w32 ((w32 (6 * (s15 9 0 29))) + a1)) - 6)) < 144 then
      K18 (s15 51 0 ((w32 ((w32 ((w32 (6 * (s15 9 0 29))) + a1)) - 6)).toNat))
    else none
theorem jm_M_step (a1 : Int) (σ : xa_H) : J 235 0 [(0, xr 9 0), (1, xi a1)] [] σ jqV (fm_M_step a1 σ) := by
  unfold fm_M_step
  refine jr_aload_n (e_235 rfl) rfl rfl ?_
  refine jr_dup (e_235 rfl) rfl rfl ?_
  refine jr_geti (e_235 rfl) rfl (by decide +kernel) ?_
  refine jr_iload_n (e_235 rfl) rfl rfl ?_
  refine jr_pm1 (fun T => ∀ v2 : Int, J 235 23 [(0, xr 9 0), (1, xi a1)] [xi v2, xi (σ 9 0 27), xr 9 0] σ jqV (T v2)) (fun v2 => ?_) (fun T hT => ?_)
  · refine jr_iadd (e_235 rfl) rfl ?_
    refine jr_put (e_235 rfl) rfl rfl rfl ?_
    refine jr_nms (fun s5 => ?_)
    refine jr_aload_n (e_235 rfl) rfl rfl ?_
    refine jr_dup (e_235 rfl) rfl rfl ?_
    refine jr_geti (e_235 rfl) rfl (by decide +kernel) ?_
    refine jr_iload_n (e_235 rfl) rfl rfl ?_
    refine jr_iconst (e_235 rfl) rfl ?_
    refine jr_pm1 (fun T => ∀ v7 : Int, J 235 51 [(0, xr 9 0), (1, xi a1)] [xi v7, xi (s5 9 0 26), xr 9 0] s5 jqV (T v7)) (fun v7 => ?_) (fun T hT => ?_)
    · refine jr_iadd (e_235 rfl) rfl ?_
      refine jr_put (e_235 rfl) rfl rfl rfl ?_
      refine jr_nms (fun s10 => ?_)
      refine jr_aload_n (e_235 rfl) rfl rfl ?_
      refine jr_dup (e_235 rfl) rfl rfl ?_
      refine jr_geti (e_235 rfl) rfl (by decide +kernel) ?_
      refine jr_iload_n (e_235 rfl) rfl rfl ?_
      refine jr_iconst (e_235 rfl) rfl ?_
      refine jr_pm1 (fun T => ∀ v12 : Int, J 235 79 [(0, xr 9 0), (1, xi a1)] [xi v12, xi (s10 9 0 28), xr 9 0] s10 jqV (T v12)) (fun v12 => ?_) (fun T hT => ?_)
      · refine jr_iadd (e_235 rfl) rfl ?_
        refine jr_put (e_235 rfl) rfl rfl rfl ?_
        refine jr_nms (fun s15 => ?_)
        refine jr_aload_n (e_235 rfl) rfl rfl ?_
        refine jr_iload_n (e_235 rfl) rfl rfl ?_
        refine jr_iconst (e_235 rfl) rfl ?_
        refine jr_j (fun K18 => ∀ (v17 : Int), J 235 113 [] [xi v17, xr 9 0] s15 jqV (K18 v17)) (fun v17 => ?_) (fun K18 hK18 => ?_)
        · refine jr_put (e_235 rfl) rfl rfl rfl ?_
          refine jr_nms (fun s20 => ?_)
          exact jr_retV (e_235 rfl)
        · refine jr_bri (c := a1 ≤ 5) (pt := 109) (pn := 89) (e_235 rfl) rfl rfl (fun h19 => ?_) (fun h19 => ?_)
          · refine jr_aload_n (e_235 rfl) rfl rfl ?_
            refine jr_geti (e_235 rfl) rfl (by decide +kernel) ?_
            exact jr_sub (show ([0, 1] : List Nat).Nodup from by decide) xsb_n (hK18 (s15 9 0 29))
          · refine jr_aload_n (e_235 rfl) rfl rfl ?_
            refine jr_getr (K2 := 51) (i2 := 0) (e_235 rfl) rfl rfl rfl ?_
            refine jr_bipush (e_235 rfl) rfl ?_
            refine jr_aload_n (e_235 rfl) rfl rfl ?_
            refine jr_geti (e_235 rfl) rfl (by decide +kernel) ?_
            refine jr_imul (e_235 rfl) rfl ?_
            refine jr_iload_n (e_235 rfl) rfl rfl ?_
            refine jr_iadd (e_235 rfl) rfl ?_
            refine jr_bipush (e_235 rfl) rfl ?_
            refine jr_isub (e_235 rfl) rfl ?_
            refine jr_ald (n := 144) (e_235 rfl) rfl rfl rfl ?_
            refine jr_goto (pc' := 113) (e_235 rfl) rfl ?_
            exact jr_sub (show ([0, 1] : List Nat).Nodup from by decide) xsb_n (hK18 (s15 51 0 ((w32 ((w32 ((w32 (6 * (s15 9 0 29))) + a1)) - 6)).toNat)))
      · refine jr_bx (c := a1 = 4) (pt := 69) (pn := 65) (e_235 rfl) rfl rfl (fun h13 => ?_) (fun h13 => ?_)
        · refine jr_iconst (e_235 rfl) rfl ?_
          refine jr_goto (pc' := 79) (e_235 rfl) rfl ?_
          exact (jr_nme (if_pos h13) (jr_sub (show ([0, 1] : List Nat).Nodup from by decide) (xsb_c (List.Mem.head _) (xsb_c (List.Mem.tail _ (List.Mem.head _)) xsb_n)) (hT 1)))
        · refine jr_iload_n (e_235 rfl) rfl rfl ?_
          refine jr_iconst (e_235 rfl) rfl ?_
          refine jr_bx (c := a1 = 5) (pt := 78) (pn := 74) (e_235 rfl) rfl rfl (fun h14 => ?_) (fun h14 => ?_)
          · refine jr_iconst (e_235 rfl) rfl ?_
            refine jr_goto (pc' := 79) (e_235 rfl) rfl ?_
            exact (jr_nme ((if_neg h13).trans (if_pos h14)) (jr_sub (show ([0, 1] : List Nat).Nodup from by decide) (xsb_c (List.Mem.head _) (xsb_c (List.Mem.tail _ (List.Mem.head _)) xsb_n)) (hT (-1))))
          · refine jr_iconst (e_235 rfl) rfl ?_
            exact (jr_nme ((if_neg h13).trans (if_neg h14)) (jr_sub (show ([0, 1] : List Nat).Nodup from by decide) (xsb_c (List.Mem.head _) (xsb_c (List.Mem.tail _ (List.Mem.head _)) xsb_n)) (hT 0)))
    · refine jr_bx (c := a1 = 2) (pt := 41) (pn := 37) (e_235 rfl) rfl rfl (fun h8 => ?_) (fun h8 => ?_)
      · refine jr_iconst (e_235 rfl) rfl ?_
        refine jr_goto (pc' := 51) (e_235 rfl) rfl ?_
        exact (jr_nme (if_pos h8) (jr_sub (show ([0, 1] : List Nat).Nodup from by decide) (xsb_c (List.Mem.head _) (xsb_c (List.Mem.tail _ (List.Mem.head _)) xsb_n)) (hT (-1))))
      · refine jr_iload_n (e_235 rfl) rfl rfl ?_
        refine jr_iconst (e_235 rfl) rfl ?_
        refine jr_bx (c := a1 = 3) (pt := 50) (pn := 46) (e_235 rfl) rfl rfl (fun h9 => ?_) (fun h9 => ?_)
        · refine jr_iconst (e_235 rfl) rfl ?_
          refine jr_goto (pc' := 51) (e_235 rfl) rfl ?_
          exact (jr_nme ((if_neg h8).trans (if_pos h9)) (jr_sub (show ([0, 1] : List Nat).Nodup from by decide) (xsb_c (List.Mem.head _) (xsb_c (List.Mem.tail _ (List.Mem.head _)) xsb_n)) (hT 1)))
        · refine jr_iconst (e_235 rfl) rfl ?_
          exact (jr_nme ((if_neg h8).trans (if_neg h9)) (jr_sub (show ([0, 1] : List Nat).Nodup from by decide) (xsb_c (List.Mem.head _) (xsb_c (List.Mem.tail _ (List.Mem.head _)) xsb_n)) (hT 0)))
  · refine jr_bx (c := a1 = 0) (pt := 13) (pn := 9) (e_235 rfl) rfl rfl (fun h3 => ?_) (fun h3 => ?_)
    · refine jr_iconst (e_235 rfl) rfl ?_
      refine jr_goto (pc' := 23) (e_235 rfl) rfl ?_
      exact (jr_nme (if_pos h3) (jr_sub (show ([0, 1] : List Nat).Nodup from by decide) (xsb_c (List.Mem.head _) (xsb_c (List.Mem.tail _ (List.Mem.head _)) xsb_n)) (hT (-1))))
    · refine jr_iload_n (e_235 rfl) rfl rfl ?_
      refine jr_iconst (e_235 rfl) rfl ?_
      refine jr_bx (c := a1 = 1) (pt := 22) (pn := 18) (e_235 rfl) rfl rfl (fun h4 => ?_) (fun h4 => ?_)
      · refine jr_iconst (e_235 rfl) rfl ?_
        refine jr_goto (pc' := 23) (e_235 rfl) rfl ?_
        exact (jr_nme ((if_neg h3).trans (if_pos h4)) (jr_sub (show ([0, 1] : List Nat).Nodup from by decide) (xsb_c (List.Mem.head _) (xsb_c (List.Mem.tail _ (List.Mem.head _)) xsb_n)) (hT 1)))
      · refine jr_iconst (e_235 rfl) rfl ?_
        exact (jr_nme ((if_neg h3).trans (if_neg h4)) (jr_sub (show ([0, 1] : List Nat).Nodup from by decide) (xsb_c (List.Mem.head _) (xsb_c (List.Mem.tail _ (List.Mem.head _)) xsb_n)) (hT 0)))

theorem e_236 {pc : Nat} {en : xa_I} (h : xlk pc xc_236 = some en) : xcd 236 pc = some en := h
noncomputable def fm_M_goRow_70 (f1 : Int) (K : xa_H → Option (Int × xa_H)) : Nat → Int → xa_H → Option (Int × xa_H)
  | 0, _, _ => none
  | n + 1, x2, sh =>
    if (sh 9 0 19) ≤ x2 then
      K sh
    else
      if 0 ≤ x2 ∧ x2 < 60 then
        (fm_M_moveOf (sh 65 0 x2.toNat)).bind fun v2 =>
        (fm_M_step v2 sh).bind fun s3 =>
        xb2 (fm_M_whyAt f1 (s3 9 0 29) (s3 9 0 26) (s3 9 0 27) (s3 9 0 28) s3) fun v4 s5 =>
        if v4 < 0 then
          xnm (w32 (x2 + 1) : Int) fun v7 =>
          fm_M_goRow_70 f1 K n v7 s5
        else
          xnm (xup s5 9 0 30 x2) fun s8 =>
          xnm (xup s8 9 0 31 v4) fun s9 =>
          some (0, s9)
      else none
theorem jl_M_goRow_70 (f1 : Int) (σ : xa_H)  (K : xa_H → Option (Int × xa_H)) (hK70 : ∀ (sz : xa_H), J 236 135 [] [] sz jqW (K sz)) : ∀ (n : Nat) (x2 : Int) (sh : xa_H), J 236 70 [(0, xr 9 0), (1, xi f1), (2, xi x2)] [] sh jqW (fm_M_goRow_70 f1 K n x2 sh) := by
  intro n
  induction n with
  | zero => intro x2 sh; exact jr_none
  | succ n ih70 =>
    intro x2 sh
    rw [fm_M_goRow_70]
    refine jr_iload_n (e_236 rfl) rfl rfl ?_
    refine jr_aload_n (e_236 rfl) rfl rfl ?_
    refine jr_geti (e_236 rfl) rfl (by decide +kernel) ?_
    refine jr_bri (c := (sh 9 0 19) ≤ x2) (pt := 135) (pn := 78) (e_236 rfl) rfl rfl (fun h1 => ?_) (fun h1 => ?_)
    · exact jr_sub (show ([0, 1, 2] : List Nat).Nodup from by decide) xsb_n (hK70 sh)
    · refine jr_aload_n (e_236 rfl) rfl rfl ?_
      refine jr_aload_n (e_236 rfl) rfl rfl ?_
      refine jr_getr (K2 := 65) (i2 := 0) (e_236 rfl) rfl rfl rfl ?_
      refine jr_iload_n (e_236 rfl) rfl rfl ?_
      refine jr_ald (n := 60) (e_236 rfl) rfl rfl rfl ?_
      refine jr_callP (as := [xi (sh 65 0 x2.toNat)]) (S1 := [xr 9 0]) (e_236 rfl) rfl rfl rfl rfl rfl rfl (jm_M_moveOf (sh 65 0 x2.toNat) sh) rfl (fun v2 => ?_)
      refine jr_callV (as := [xr 9 0, xi v2]) (S1 := []) (e_236 rfl) rfl rfl rfl rfl rfl rfl (jm_M_step v2 sh) rfl (fun s3 => ?_)
      refine jr_aload_n (e_236 rfl) rfl rfl ?_
      refine jr_iload_n (e_236 rfl) rfl rfl ?_
      refine jr_aload_n (e_236 rfl) rfl rfl ?_
      refine jr_geti (e_236 rfl) rfl (by decide +kernel) ?_
      refine jr_aload_n (e_236 rfl) rfl rfl ?_
      refine jr_geti (e_236 rfl) rfl (by decide +kernel) ?_
      refine jr_aload_n (e_236 rfl) rfl rfl ?_
      refine jr_geti (e_236 rfl) rfl (by decide +kernel) ?_
      refine jr_aload_n (e_236 rfl) rfl rfl ?_
      refine jr_geti (e_236 rfl) rfl (by decide +kernel) ?_
      refine jr_callX (as := [xr 9 0, xi f1, xi (s3 9 0 29), xi (s3 9 0 26), xi (s3 9 0 27), xi (s3 9 0 28)]) (S1 := []) (e_236 rfl) rfl rfl rfl rfl rfl rfl (jm_M_whyAt f1 (s3 9 0 29) (s3 9 0 26) (s3 9 0 27) (s3 9 0 28) s3) rfl (fun v4 s5 => ?_)
      refine jr_istore_n (L' := [(3, xi v4), (0, xr 9 0), (1, xi f1), (2, xi x2)]) (e_236 rfl) rfl rfl rfl ?_
      refine jr_iload_n (e_236 rfl) rfl rfl ?_
      refine jr_bri (c := v4 < 0) (pt := 129) (pn := 117) (e_236 rfl) rfl rfl (fun h6 => ?_) (fun h6 => ?_)
      · refine jr_iinc (L2 := fun c => [(2, xi c), (3, xi v4), (0, xr 9 0), (1, xi f1)]) (e_236 rfl) rfl rfl rfl (fun _ => rfl) (fun v7 => ?_)
        refine jr_goto (pc' := 70) (e_236 rfl) rfl ?_
        exact jr_sub (show ([2, 3, 0, 1] : List Nat).Nodup from by decide) (xsb_c (List.Mem.tail _ (List.Mem.tail _ (List.Mem.head _))) (xsb_c (List.Mem.tail _ (List.Mem.tail _ (List.Mem.tail _ (List.Mem.head _)))) (xsb_c (List.Mem.head _) xsb_n))) (ih70 v7 s5)
      · refine jr_aload_n (e_236 rfl) rfl rfl ?_
        refine jr_iload_n (e_236 rfl) rfl rfl ?_
        refine jr_put (e_236 rfl) rfl rfl rfl ?_
        refine jr_nms (fun s8 => ?_)
        refine jr_aload_n (e_236 rfl) rfl rfl ?_
        refine jr_iload_n (e_236 rfl) rfl rfl ?_
        refine jr_put (e_236 rfl) rfl rfl rfl ?_
        refine jr_nms (fun s9 => ?_)
        refine jr_iconst (e_236 rfl) rfl ?_
        exact jr_retWz (e_236 rfl) rfl rfl
noncomputable def fm_M_goRow (a1 : Int) (σ : xa_H) : Option (Int × xa_H) :=
  (fm_M_takeOff 0 0 σ).bind fun s1 =>
  if 0 ≤ a1 ∧ a1 < 5 then
    xnm (xup s1 9 0 26 (xdiv (s1 62 0 a1.toNat) 24)) fun s2 =>
    if 0 ≤ a1 ∧ a1 < 5 then
      xnm (xup s2 9 0 27 (xrem (xdiv (s2 62 0 a1.toNat) 4) 6)) fun s3 =>
      if 0 ≤ a1 ∧ a1 < 5 then
        xnm (xup s3 9 0 28 (xrem (s3 62 0 a1.toNat) 4)) fun s4 =>
        if 0 ≤ a1 ∧ a1 < 5 then
          xnm (xup s4 9 0 29 (s4 63 0 a1.toNat)) fun s5 =>
          xnm (xup s5 9 0 30 (-6)) fun s6 =>
          xnm (xup s6 9 0 31 (-6)) fun s7 =>
          fm_M_goRow_70 a1 (fun (s10 : xa_H) =>
            some (1, s10)) xFU 0 s7
        else none
      else none
    else none
  else none
theorem jm_M_goRow (a1 : Int) (σ : xa_H) : J 236 0 [(0, xr 9 0), (1, xi a1)] [] σ jqW (fm_M_goRow a1 σ) := by
  unfold fm_M_goRow
  refine jr_aload_n (e_236 rfl) rfl rfl ?_
  refine jr_iconst (e_236 rfl) rfl ?_
  refine jr_iconst (e_236 rfl) rfl ?_
  refine jr_callV (as := [xr 9 0, xi 0, xi 0]) (S1 := []) (e_236 rfl) rfl rfl rfl rfl rfl rfl (jm_M_takeOff 0 0 σ) rfl (fun s1 => ?_)
  refine jr_aload_n (e_236 rfl) rfl rfl ?_
  refine jr_aload_n (e_236 rfl) rfl rfl ?_
  refine jr_getr (K2 := 62) (i2 := 0) (e_236 rfl) rfl rfl rfl ?_
  refine jr_iload_n (e_236 rfl) rfl rfl ?_
  refine jr_ald (n := 5) (e_236 rfl) rfl rfl rfl ?_
  refine jr_bipush (e_236 rfl) rfl ?_
  refine jr_idiv (e_236 rfl) rfl (by decide) ?_
  refine jr_put (e_236 rfl) rfl rfl rfl ?_
  refine jr_nms (fun s2 => ?_)
  refine jr_aload_n (e_236 rfl) rfl rfl ?_
  refine jr_aload_n (e_236 rfl) rfl rfl ?_
  refine jr_getr (K2 := 62) (i2 := 0) (e_236 rfl) rfl rfl rfl ?_
  refine jr_iload_n (e_236 rfl) rfl rfl ?_
  refine jr_ald (n := 5) (e_236 rfl) rfl rfl rfl ?_
  refine jr_iconst (e_236 rfl) rfl ?_
  refine jr_idiv (e_236 rfl) rfl (by decide) ?_
  refine jr_bipush (e_236 rfl) rfl ?_
  refine jr_irem (e_236 rfl) rfl (by decide) ?_
  refine jr_put (e_236 rfl) rfl rfl rfl ?_
  refine jr_nms (fun s3 => ?_)
  refine jr_aload_n (e_236 rfl) rfl rfl ?_
  refine jr_aload_n (e_236 rfl) rfl rfl ?_
  refine jr_getr (K2 := 62) (i2 := 0) (e_236 rfl) rfl rfl rfl ?_
  refine jr_iload_n (e_236 rfl) rfl rfl ?_
  refine jr_ald (n := 5) (e_236 rfl) rfl rfl rfl ?_
  refine jr_iconst (e_236 rfl) rfl ?_
  refine jr_irem (e_236 rfl) rfl (by decide) ?_
  refine jr_put (e_236 rfl) rfl rfl rfl ?_
  refine jr_nms (fun s4 => ?_)
  refine jr_aload_n (e_236 rfl) rfl rfl ?_
  refine jr_aload_n (e_236 rfl) rfl rfl ?_
  refine jr_getr (K2 := 63) (i2 := 0) (e_236 rfl) rfl rfl rfl ?_
  refine jr_iload_n (e_236 rfl) rfl rfl ?_
  refine jr_ald (n := 5) (e_236 rfl) rfl rfl rfl ?_
  refine jr_put (e_236 rfl) rfl rfl rfl ?_
  refine jr_nms (fun s5 => ?_)
  refine jr_aload_n (e_236 rfl) rfl rfl ?_
  refine jr_bipush (e_236 rfl) rfl ?_
  refine jr_put (e_236 rfl) rfl rfl rfl ?_
  refine jr_nms (fun s6 => ?_)
  refine jr_aload_n (e_236 rfl) rfl rfl ?_
  refine jr_bipush (e_236 rfl) rfl ?_
  refine jr_put (e_236 rfl) rfl rfl rfl ?_
  refine jr_nms (fun s7 => ?_)
  refine jr_iconst (e_236 rfl) rfl ?_
  refine jr_istore_n (L' := [(2, xi 0), (0, xr 9 0), (1, xi a1)]) (e_236 rfl) rfl rfl rfl ?_
  refine jr_sub (show ([2, 0, 1] : List Nat).Nodup from by decide) (xsb_c (List.Mem.tail _ (List.Mem.head _)) (xsb_c (List.Mem.tail _ (List.Mem.tail _ (List.Mem.head _))) (xsb_c (List.Mem.head _) xsb_n))) (jl_M_goRow_70 a1 σ _ (fun s10 => ?_) xFU 0 s7)
  refine jr_iconst (e_236 rfl) rfl ?_
  exact jr_retWz (e_236 rfl) rfl rfl

theorem e_237 {pc : Nat} {en : xa_I} (h : xlk pc xc_237 = some en) : xcd 237 pc = some en := h
noncomputable def fm_M_judge (a1 : Int) (a2 : Int) (σ : xa_H) : Option (Int × xa_H) :=
  (fm_M_isThing a1).bind fun v1 =>
  if v1 = 0 then
    some ((-1), σ)
  else
    (fm_M_in a2 0 1).bind fun v3 =>
    if v3 = 0 then
      some ((-2), σ)
    else
      if 0 ≤ a1 ∧ a1 < 5 then
        if 0 ≤ (σ 62 0 a1.toNat) then
          (fm_M_faultOfRow σ).bind fun v6 =>
          if v6 < 0 then
            xb2 (fm_M_goRow a1 σ) fun v8 s9 =>
            if a2 = 0 then
              some ((s9 9 0 30), s9)
            else
              some ((s9 9 0 31), s9)
          else
            some ((-5), σ)
        else
          some ((-3), σ)
      else none
theorem jm_M_judge (a1 : Int) (a2 : Int) (σ : xa_H) : J 237 0 [(0, xr 9 0), (1, xi a1), (2, xi a2)] [] σ jqW (fm_M_judge a1 a2 σ) := by
  unfold fm_M_judge
  refine jr_iload_n (e_237 rfl) rfl rfl ?_
  refine jr_callP (as := [xi a1]) (S1 := []) (e_237 rfl) rfl rfl rfl rfl rfl rfl (jm_M_isThing a1 σ) rfl (fun v1 => ?_)
  refine jr_brx (c := v1 = 0) (pt := 9) (pn := 7) (e_237 rfl) rfl rfl (fun h2 => ?_) (fun h2 => ?_)
  · refine jr_iconst (e_237 rfl) rfl ?_
    exact jr_retW (e_237 rfl) rfl
  · refine jr_iload_n (e_237 rfl) rfl rfl ?_
    refine jr_i2l (e_237 rfl) rfl ?_
    refine jr_lconst (a := 0) (e_237 rfl) rfl rfl ?_
    refine jr_lconst (a := 1) (e_237 rfl) rfl rfl ?_
    refine jr_callP (as := [xl a2, xl 0, xl 1]) (S1 := []) (e_237 rfl) rfl rfl rfl rfl rfl rfl (jm_M_in a2 0 1 σ) rfl (fun v3 => ?_)
    refine jr_brx (c := v3 = 0) (pt := 22) (pn := 19) (e_237 rfl) rfl rfl (fun h4 => ?_) (fun h4 => ?_)
    · refine jr_bipush (e_237 rfl) rfl ?_
      exact jr_retW (e_237 rfl) rfl
    · refine jr_aload_n (e_237 rfl) rfl rfl ?_
      refine jr_getr (K2 := 62) (i2 := 0) (e_237 rfl) rfl rfl rfl ?_
      refine jr_iload_n (e_237 rfl) rfl rfl ?_
      refine jr_ald (n := 5) (e_237 rfl) rfl rfl rfl ?_
      refine jr_bri (c := 0 ≤ (σ 62 0 a1.toNat)) (pt := 34) (pn := 31) (e_237 rfl) rfl rfl (fun h5 => ?_) (fun h5 => ?_)
      · refine jr_aload_n (e_237 rfl) rfl rfl ?_
        refine jr_callP (as := [xr 9 0]) (S1 := []) (e_237 rfl) rfl rfl rfl rfl rfl rfl (jm_M_faultOfRow σ) rfl (fun v6 => ?_)
        refine jr_bri (c := v6 < 0) (pt := 44) (pn := 41) (e_237 rfl) rfl rfl (fun h7 => ?_) (fun h7 => ?_)
        · refine jr_aload_n (e_237 rfl) rfl rfl ?_
          refine jr_iload_n (e_237 rfl) rfl rfl ?_
          refine jr_callX (as := [xr 9 0, xi a1]) (S1 := []) (e_237 rfl) rfl rfl rfl rfl rfl rfl (jm_M_goRow a1 σ) rfl (fun v8 s9 => ?_)
          refine jr_pop (e_237 rfl) rfl rfl ?_
          refine jr_iload_n (e_237 rfl) rfl rfl ?_
          refine jr_brx (c := a2 = 0) (pt := 61) (pn := 54) (e_237 rfl) rfl rfl (fun h10 => ?_) (fun h10 => ?_)
          · refine jr_aload_n (e_237 rfl) rfl rfl ?_
            refine jr_geti (e_237 rfl) rfl (by decide +kernel) ?_
            refine jr_goto (pc' := 65) (e_237 rfl) rfl ?_
            exact jr_retW (e_237 rfl) rfl
          · refine jr_aload_n (e_237 rfl) rfl rfl ?_
            refine jr_geti (e_237 rfl) rfl (by decide +kernel) ?_
            exact jr_retW (e_237 rfl) rfl
        · refine jr_bipush (e_237 rfl) rfl ?_
          exact jr_retW (e_237 rfl) rfl
      · refine jr_bipush (e_237 rfl) rfl ?_
        exact jr_retW (e_237 rfl) rfl

theorem e_238 {pc : Nat} {en : xa_I} (h : xlk pc xc_238 = some en) : xcd 238 pc = some en := h
noncomputable def fm_M_move (a1 : Int) (σ : xa_H) : Option (Int × xa_H) :=
  (fm_M_isThing a1).bind fun v1 =>
  if v1 = 0 then
    some ((-1), σ)
  else
    if 0 ≤ a1 ∧ a1 < 5 then
      if 0 ≤ (σ 62 0 a1.toNat) then
        (fm_M_faultOfRow σ).bind fun v4 =>
        if 0 ≤ v4 then
          some ((-5), σ)
        else
          xb2 (fm_M_goRow a1 σ) fun v6 s7 =>
          if v6 = 0 then
            some ((-5), s7)
          else
            (fm_M_at (s7 9 0 26) (s7 9 0 27) (s7 9 0 28)).bind fun v9 =>
            if 0 ≤ a1 ∧ a1 < 5 then
              xnm (xup s7 62 0 a1.toNat v9) fun s10 =>
              if 0 ≤ a1 ∧ a1 < 5 then
                xnm (xup s10 63 0 a1.toNat (s10 9 0 29)) fun s11 =>
                xnm (xup s11 9 0 19 0) fun s12 =>
                if 0 ≤ a1 ∧ a1 < 5 then
                  (fm_M_numberOf (s12 62 0 a1.toNat)).bind fun v13 =>
                  some (v13, s12)
                else none
              else none
            else none
      else
        some ((-3), σ)
    else none
theorem jm_M_move (a1 : Int) (σ : xa_H) : J 238 0 [(0, xr 9 0), (1, xi a1)] [] σ jqW (fm_M_move a1 σ) := by
  unfold fm_M_move
  refine jr_iload_n (e_238 rfl) rfl rfl ?_
  refine jr_callP (as := [xi a1]) (S1 := []) (e_238 rfl) rfl rfl rfl rfl rfl rfl (jm_M_isThing a1 σ) rfl (fun v1 => ?_)
  refine jr_brx (c := v1 = 0) (pt := 9) (pn := 7) (e_238 rfl) rfl rfl (fun h2 => ?_) (fun h2 => ?_)
  · refine jr_iconst (e_238 rfl) rfl ?_
    exact jr_retW (e_238 rfl) rfl
  · refine jr_aload_n (e_238 rfl) rfl rfl ?_
    refine jr_getr (K2 := 62) (i2 := 0) (e_238 rfl) rfl rfl rfl ?_
    refine jr_iload_n (e_238 rfl) rfl rfl ?_
    refine jr_ald (n := 5) (e_238 rfl) rfl rfl rfl ?_
    refine jr_bri (c := 0 ≤ (σ 62 0 a1.toNat)) (pt := 21) (pn := 18) (e_238 rfl) rfl rfl (fun h3 => ?_) (fun h3 => ?_)
    · refine jr_aload_n (e_238 rfl) rfl rfl ?_
      refine jr_callP (as := [xr 9 0]) (S1 := []) (e_238 rfl) rfl rfl rfl rfl rfl rfl (jm_M_faultOfRow σ) rfl (fun v4 => ?_)
      refine jr_bri (c := 0 ≤ v4) (pt := 36) (pn := 28) (e_238 rfl) rfl rfl (fun h5 => ?_) (fun h5 => ?_)
      · refine jr_bipush (e_238 rfl) rfl ?_
        exact jr_retW (e_238 rfl) rfl
      · refine jr_aload_n (e_238 rfl) rfl rfl ?_
        refine jr_iload_n (e_238 rfl) rfl rfl ?_
        refine jr_callX (as := [xr 9 0, xi a1]) (S1 := []) (e_238 rfl) rfl rfl rfl rfl rfl rfl (jm_M_goRow a1 σ) rfl (fun v6 s7 => ?_)
        refine jr_brx (c := v6 = 0) (pt := 39) (pn := 36) (e_238 rfl) rfl rfl (fun h8 => ?_) (fun h8 => ?_)
        · refine jr_bipush (e_238 rfl) rfl ?_
          exact jr_retW (e_238 rfl) rfl
        · refine jr_aload_n (e_238 rfl) rfl rfl ?_
          refine jr_getr (K2 := 62) (i2 := 0) (e_238 rfl) rfl rfl rfl ?_
          refine jr_iload_n (e_238 rfl) rfl rfl ?_
          refine jr_aload_n (e_238 rfl) rfl rfl ?_
          refine jr_geti (e_238 rfl) rfl (by decide +kernel) ?_
          refine jr_aload_n (e_238 rfl) rfl rfl ?_
          refine jr_geti (e_238 rfl) rfl (by decide +kernel) ?_
          refine jr_aload_n (e_238 rfl) rfl rfl ?_
          refine jr_geti (e_238 rfl) rfl (by decide +kernel) ?_
          refine jr_callP (as := [xi (s7 9 0 26), xi (s7 9 0 27), xi (s7 9 0 28)]) (S1 := [xi a1, xr 62 0]) (e_238 rfl) rfl rfl rfl rfl rfl rfl (jm_M_at (s7 9 0 26) (s7 9 0 27) (s7 9 0 28) s7) rfl (fun v9 => ?_)
          refine jr_ast (n := 5) (e_238 rfl) rfl rfl rfl rfl ?_
          refine jr_nms (fun s10 => ?_)
          refine jr_aload_n (e_238 rfl) rfl rfl ?_
          refine jr_getr (K2 := 63) (i2 := 0) (e_238 rfl) rfl rfl rfl ?_
          refine jr_iload_n (e_238 rfl) rfl rfl ?_
          refine jr_aload_n (e_238 rfl) rfl rfl ?_
          refine jr_geti (e_238 rfl) rfl (by decide +kernel) ?_
          refine jr_ast (n := 5) (e_238 rfl) rfl rfl rfl rfl ?_
          refine jr_nms (fun s11 => ?_)
          refine jr_aload_n (e_238 rfl) rfl rfl ?_
          refine jr_iconst (e_238 rfl) rfl ?_
          refine jr_put (e_238 rfl) rfl rfl rfl ?_
          refine jr_nms (fun s12 => ?_)
          refine jr_aload_n (e_238 rfl) rfl rfl ?_
          refine jr_getr (K2 := 62) (i2 := 0) (e_238 rfl) rfl rfl rfl ?_
          refine jr_iload_n (e_238 rfl) rfl rfl ?_
          refine jr_ald (n := 5) (e_238 rfl) rfl rfl rfl ?_
          refine jr_callP (as := [xi (s12 62 0 a1.toNat)]) (S1 := []) (e_238 rfl) rfl rfl rfl rfl rfl rfl (jm_M_numberOf (s12 62 0 a1.toNat) s12) rfl (fun v13 => ?_)
          exact jr_retW (e_238 rfl) rfl
    · refine jr_bipush (e_238 rfl) rfl ?_
      exact jr_retW (e_238 rfl) rfl

theorem e_239 {pc : Nat} {en : xa_I} (h : xlk pc xc_239 = some en) : xcd 239 pc = some en := h
noncomputable def fm_M_findFits_16 (f1 : Int) (f2 : Int) (K : xa_H → Option (xa_H)) : Nat → Int → xa_H → Option (xa_H)
  | 0, _, _ => none
  | n + 1, x3, sh =>
    if 144 ≤ x3 then
      K sh
    else
      (fm_M_whyNot f1 (xdiv x3 24) (xrem (xdiv x3 4) 6) (xrem x3 4) sh).bind fun v2 =>
      if 0 ≤ v2 then
        if 0 ≤ (w32 ((w32 (144 * f2)) + x3)) ∧ (w32 ((w32 (144 * f2)) + x3)) < 3456 then
          xnm (xup sh 70 0 ((w32 ((w32 (144 * f2)) + x3)).toNat) (0 % 2)) fun s4 =>
          xnm (w32 (x3 + 1) : Int) fun v5 =>
          fm_M_findFits_16 f1 f2 K n v5 s4
        else none
      else
        if 0 ≤ (w32 ((w32 (144 * f2)) + x3)) ∧ (w32 ((w32 (144 * f2)) + x3)) < 3456 then
          xnm (xup sh 70 0 ((w32 ((w32 (144 * f2)) + x3)).toNat) (1 % 2)) fun s6 =>
          xnm (w32 (x3 + 1) : Int) fun v7 =>
          fm_M_findFits_16 f1 f2 K n v7 s6
        else none
theorem jl_M_findFits_16 (f1 : Int) (f2 : Int) (σ : xa_H)  (K : xa_H → Option (xa_H)) (hK16 : ∀ (sz : xa_H), J 239 67 [(0, xr 9 0), (1, xi f1), (2, xi f2)] [] sz jqV (K sz)) : ∀ (n : Nat) (x3 : Int) (sh : xa_H), J 239 16 [(0, xr 9 0), (1, xi f1), (2, xi f2), (3, xi x3)] [] sh jqV (fm_M_findFits_16 f1 f2 K n x3 sh) := by
  intro n
  induction n with
  | zero => intro x3 sh; exact jr_none
  | succ n ih16 =>
    intro x3 sh
    rw [fm_M_findFits_16]
    refine jr_iload_n (e_239 rfl) rfl rfl ?_
    refine jr_sipush (e_239 rfl) rfl ?_
    refine jr_bri (c := 144 ≤ x3) (pt := 67) (pn := 23) (e_239 rfl) rfl rfl (fun h1 => ?_) (fun h1 => ?_)
    · exact jr_sub (show ([0, 1, 2, 3] : List Nat).Nodup from by decide) (xsb_c (List.Mem.head _) (xsb_c (List.Mem.tail _ (List.Mem.head _)) (xsb_c (List.Mem.tail _ (List.Mem.tail _ (List.Mem.head _))) xsb_n))) (hK16 sh)
    · refine jr_aload_n (e_239 rfl) rfl rfl ?_
      refine jr_getr (K2 := 70) (i2 := 0) (e_239 rfl) rfl rfl rfl ?_
      refine jr_sipush (e_239 rfl) rfl ?_
      refine jr_iload_n (e_239 rfl) rfl rfl ?_
      refine jr_imul (e_239 rfl) rfl ?_
      refine jr_iload_n (e_239 rfl) rfl rfl ?_
      refine jr_iadd (e_239 rfl) rfl ?_
      refine jr_aload_n (e_239 rfl) rfl rfl ?_
      refine jr_iload_n (e_239 rfl) rfl rfl ?_
      refine jr_iload_n (e_239 rfl) rfl rfl ?_
      refine jr_bipush (e_239 rfl) rfl ?_
      refine jr_idiv (e_239 rfl) rfl (by decide) ?_
      refine jr_iload_n (e_239 rfl) rfl rfl ?_
      refine jr_iconst (e_239 rfl) rfl ?_
      refine jr_idiv (e_239 rfl) rfl (by decide) ?_
      refine jr_bipush (e_239 rfl) rfl ?_
      refine jr_irem (e_239 rfl) rfl (by decide) ?_
      refine jr_iload_n (e_239 rfl) rfl rfl ?_
      refine jr_iconst (e_239 rfl) rfl ?_
      refine jr_irem (e_239 rfl) rfl (by decide) ?_
      refine jr_callP (as := [xr 9 0, xi f1, xi (xdiv x3 24), xi (xrem (xdiv x3 4) 6), xi (xrem x3 4)]) (S1 := [xi (w32 ((w32 (144 * f2)) + x3)), xr 70 0]) (e_239 rfl) rfl rfl rfl rfl rfl rfl (jm_M_whyNot f1 (xdiv x3 24) (xrem (xdiv x3 4) 6) (xrem x3 4) sh) rfl (fun v2 => ?_)
      refine jr_bri (c := 0 ≤ v2) (pt := 59) (pn := 55) (e_239 rfl) rfl rfl (fun h3 => ?_) (fun h3 => ?_)
      · refine jr_iconst (e_239 rfl) rfl ?_
        refine jr_bast (n := 3456) (e_239 rfl) rfl rfl rfl rfl ?_
        refine jr_nms (fun s4 => ?_)
        refine jr_iinc (L2 := fun c => [(3, xi c), (0, xr 9 0), (1, xi f1), (2, xi f2)]) (e_239 rfl) rfl rfl rfl (fun _ => rfl) (fun v5 => ?_)
        refine jr_goto (pc' := 16) (e_239 rfl) rfl ?_
        exact jr_sub (show ([3, 0, 1, 2] : List Nat).Nodup from by decide) (xsb_c (List.Mem.tail _ (List.Mem.head _)) (xsb_c (List.Mem.tail _ (List.Mem.tail _ (List.Mem.head _))) (xsb_c (List.Mem.tail _ (List.Mem.tail _ (List.Mem.tail _ (List.Mem.head _)))) (xsb_c (List.Mem.head _) xsb_n)))) (ih16 v5 s4)
      · refine jr_iconst (e_239 rfl) rfl ?_
        refine jr_goto (pc' := 60) (e_239 rfl) rfl ?_
        refine jr_bast (n := 3456) (e_239 rfl) rfl rfl rfl rfl ?_
        refine jr_nms (fun s6 => ?_)
        refine jr_iinc (L2 := fun c => [(3, xi c), (0, xr 9 0), (1, xi f1), (2, xi f2)]) (e_239 rfl) rfl rfl rfl (fun _ => rfl) (fun v7 => ?_)
        refine jr_goto (pc' := 16) (e_239 rfl) rfl ?_
        exact jr_sub (show ([3, 0, 1, 2] : List Nat).Nodup from by decide) (xsb_c (List.Mem.tail _ (List.Mem.head _)) (xsb_c (List.Mem.tail _ (List.Mem.tail _ (List.Mem.head _))) (xsb_c (List.Mem.tail _ (List.Mem.tail _ (List.Mem.tail _ (List.Mem.head _)))) (xsb_c (List.Mem.head _) xsb_n)))) (ih16 v7 s6)
noncomputable def fm_M_findFits_2 (f1 : Int) (K : xa_H → Option (xa_H)) : Nat → Int → xa_H → Option (xa_H)
  | 0, _, _ => none
  | n + 1, x2, sh =>
    if 24 ≤ x2 then
      K sh
    else
      (fm_M_layCubes f1 x2 sh).bind fun s2 =>
      fm_M_findFits_16 f1 x2 (fun (s8 : xa_H) =>
        xnm (w32 (x2 + 1) : Int) fun v9 =>
        fm_M_findFits_2 f1 K n v9 s8) xFU 0 s2
theorem jl_M_findFits_2 (f1 : Int) (σ : xa_H)  (K : xa_H → Option (xa_H)) (hK2 : ∀ (sz : xa_H), J 239 73 [] [] sz jqV (K sz)) : ∀ (n : Nat) (x2 : Int) (sh : xa_H), J 239 2 [(0, xr 9 0), (1, xi f1), (2, xi x2)] [] sh jqV (fm_M_findFits_2 f1 K n x2 sh) := by
  intro n
  induction n with
  | zero => intro x2 sh; exact jr_none
  | succ n ih2 =>
    intro x2 sh
    rw [fm_M_findFits_2]
    refine jr_iload_n (e_239 rfl) rfl rfl ?_
    refine jr_bipush (e_239 rfl) rfl ?_
    refine jr_bri (c := 24 ≤ x2) (pt := 73) (pn := 8) (e_239 rfl) rfl rfl (fun h1 => ?_) (fun h1 => ?_)
    · exact jr_sub (show ([0, 1, 2] : List Nat).Nodup from by decide) xsb_n (hK2 sh)
    · refine jr_aload_n (e_239 rfl) rfl rfl ?_
      refine jr_iload_n (e_239 rfl) rfl rfl ?_
      refine jr_iload_n (e_239 rfl) rfl rfl ?_
      refine jr_callV (as := [xr 9 0, xi f1, xi x2]) (S1 := []) (e_239 rfl) rfl rfl rfl rfl rfl rfl (jm_M_layCubes f1 x2 sh) rfl (fun s2 => ?_)
      refine jr_iconst (e_239 rfl) rfl ?_
      refine jr_istore_n (L' := [(3, xi 0), (0, xr 9 0), (1, xi f1), (2, xi x2)]) (e_239 rfl) rfl rfl rfl ?_
      refine jr_sub (show ([3, 0, 1, 2] : List Nat).Nodup from by decide) (xsb_c (List.Mem.tail _ (List.Mem.head _)) (xsb_c (List.Mem.tail _ (List.Mem.tail _ (List.Mem.head _))) (xsb_c (List.Mem.tail _ (List.Mem.tail _ (List.Mem.tail _ (List.Mem.head _)))) (xsb_c (List.Mem.head _) xsb_n)))) (jl_M_findFits_16 f1 x2 σ _ (fun s8 => ?_) xFU 0 s2)
      refine jr_iinc (L2 := fun c => [(2, xi c), (0, xr 9 0), (1, xi f1)]) (e_239 rfl) rfl rfl rfl (fun _ => rfl) (fun v9 => ?_)
      refine jr_goto (pc' := 2) (e_239 rfl) rfl ?_
      exact jr_sub (show ([2, 0, 1] : List Nat).Nodup from by decide) (xsb_c (List.Mem.tail _ (List.Mem.head _)) (xsb_c (List.Mem.tail _ (List.Mem.tail _ (List.Mem.head _))) (xsb_c (List.Mem.head _) xsb_n))) (ih2 v9 s8)
noncomputable def fm_M_findFits (a1 : Int) (σ : xa_H) : Option (xa_H) :=
  fm_M_findFits_2 a1 (fun (s10 : xa_H) =>
    some s10) xFU 0 σ
theorem jm_M_findFits (a1 : Int) (σ : xa_H) : J 239 0 [(0, xr 9 0), (1, xi a1)] [] σ jqV (fm_M_findFits a1 σ) := by
  unfold fm_M_findFits
  refine jr_iconst (e_239 rfl) rfl ?_
  refine jr_istore_n (L' := [(2, xi 0), (0, xr 9 0), (1, xi a1)]) (e_239 rfl) rfl rfl rfl ?_
  refine jr_sub (show ([2, 0, 1] : List Nat).Nodup from by decide) (xsb_c (List.Mem.tail _ (List.Mem.head _)) (xsb_c (List.Mem.tail _ (List.Mem.tail _ (List.Mem.head _))) (xsb_c (List.Mem.head _) xsb_n))) (jl_M_findFits_2 a1 σ _ (fun s10 => ?_) xFU 0 σ)
  exact jr_retV (e_239 rfl)

theorem e_240 {pc : Nat} {en : xa_I} (h : xlk pc xc_240 = some en) : xcd 240 pc = some en := h
noncomputable def fm_M_next (a1 : Int) (a2 : Int) (σ : xa_H) : Option (Int × xa_H) :=
  xnm (xup σ 9 0 26 (xdiv (xrem a1 144) 24)) fun s1 =>
  xnm (xup s1 9 0 27 (xrem (xdiv (xrem a1 144) 4) 6)) fun s2 =>
  xnm (xup s2 9 0 28 (xrem a1 4)) fun s3 =>
  xnm (xup s3 9 0 29 (xdiv a1 144)) fun s4 =>
  (fm_M_step a2 s4).bind fun s5 =>
  (fm_M_isCell (s5 9 0 26) (s5 9 0 27) (s5 9 0 28) s5).bind fun v6 =>
  if v6 = 0 then
    some ((-6), s5)
  else
    (fm_M_at (s5 9 0 26) (s5 9 0 27) (s5 9 0 28)).bind fun v8 =>
    xnm ((w32 ((w32 (144 * (s5 9 0 29))) + v8)) : Int) fun v9 =>
    if 0 ≤ v9 ∧ v9 < 3456 then
      if (s5 70 0 v9.toNat) = 0 then
        some ((-6), s5)
      else
        some (v9, s5)
    else none
theorem jm_M_next (a1 : Int) (a2 : Int) (σ : xa_H) : J 240 0 [(0, xr 9 0), (1, xi a1), (2, xi a2)] [] σ jqW (fm_M_next a1 a2 σ) := by
  unfold fm_M_next
  refine jr_aload_n (e_240 rfl) rfl rfl ?_
  refine jr_iload_n (e_240 rfl) rfl rfl ?_
  refine jr_sipush (e_240 rfl) rfl ?_
  refine jr_irem (e_240 rfl) rfl (by decide) ?_
  refine jr_bipush (e_240 rfl) rfl ?_
  refine jr_idiv (e_240 rfl) rfl (by decide) ?_
  refine jr_put (e_240 rfl) rfl rfl rfl ?_
  refine jr_nms (fun s1 => ?_)
  refine jr_aload_n (e_240 rfl) rfl rfl ?_
  refine jr_iload_n (e_240 rfl) rfl rfl ?_
  refine jr_sipush (e_240 rfl) rfl ?_
  refine jr_irem (e_240 rfl) rfl (by decide) ?_
  refine jr_iconst (e_240 rfl) rfl ?_
  refine jr_idiv (e_240 rfl) rfl (by decide) ?_
  refine jr_bipush (e_240 rfl) rfl ?_
  refine jr_irem (e_240 rfl) rfl (by decide) ?_
  refine jr_put (e_240 rfl) rfl rfl rfl ?_
  refine jr_nms (fun s2 => ?_)
  refine jr_aload_n (e_240 rfl) rfl rfl ?_
  refine jr_iload_n (e_240 rfl) rfl rfl ?_
  refine jr_iconst (e_240 rfl) rfl ?_
  refine jr_irem (e_240 rfl) rfl (by decide) ?_
  refine jr_put (e_240 rfl) rfl rfl rfl ?_
  refine jr_nms (fun s3 => ?_)
  refine jr_aload_n (e_240 rfl) rfl rfl ?_
  refine jr_iload_n (e_240 rfl) rfl rfl ?_
  refine jr_sipush (e_240 rfl) rfl ?_
  refine jr_idiv (e_240 rfl) rfl (by decide) ?_
  refine jr_put (e_240 rfl) rfl rfl rfl ?_
  refine jr_nms (fun s4 => ?_)
  refine jr_aload_n (e_240 rfl) rfl rfl ?_
  refine jr_iload_n (e_240 rfl) rfl rfl ?_
  refine jr_callV (as := [xr 9 0, xi a2]) (S1 := []) (e_240 rfl) rfl rfl rfl rfl rfl rfl (jm_M_step a2 s4) rfl (fun s5 => ?_)
  refine jr_aload_n (e_240 rfl) rfl rfl ?_
  refine jr_aload_n (e_240 rfl) rfl rfl ?_
  refine jr_geti (e_240 rfl) rfl (by decide +kernel) ?_
  refine jr_aload_n (e_240 rfl) rfl rfl ?_
  refine jr_geti (e_240 rfl) rfl (by decide +kernel) ?_
  refine jr_aload_n (e_240 rfl) rfl rfl ?_
  refine jr_geti (e_240 rfl) rfl (by decide +kernel) ?_
  refine jr_callP (as := [xr 9 0, xi (s5 9 0 26), xi (s5 9 0 27), xi (s5 9 0 28)]) (S1 := []) (e_240 rfl) rfl rfl rfl rfl rfl rfl (jm_M_isCell (s5 9 0 26) (s5 9 0 27) (s5 9 0 28) s5) rfl (fun v6 => ?_)
  refine jr_brx (c := v6 = 0) (pt := 69) (pn := 66) (e_240 rfl) rfl rfl (fun h7 => ?_) (fun h7 => ?_)
  · refine jr_bipush (e_240 rfl) rfl ?_
    exact jr_retW (e_240 rfl) rfl
  · refine jr_sipush (e_240 rfl) rfl ?_
    refine jr_aload_n (e_240 rfl) rfl rfl ?_
    refine jr_geti (e_240 rfl) rfl (by decide +kernel) ?_
    refine jr_imul (e_240 rfl) rfl ?_
    refine jr_aload_n (e_240 rfl) rfl rfl ?_
    refine jr_geti (e_240 rfl) rfl (by decide +kernel) ?_
    refine jr_aload_n (e_240 rfl) rfl rfl ?_
    refine jr_geti (e_240 rfl) rfl (by decide +kernel) ?_
    refine jr_aload_n (e_240 rfl) rfl rfl ?_
    refine jr_geti (e_240 rfl) rfl (by decide +kernel) ?_
    refine jr_callP (as := [xi (s5 9 0 26), xi (s5 9 0 27), xi (s5 9 0 28)]) (S1 := [xi (w32 (144 * (s5 9 0 29)))]) (e_240 rfl) rfl rfl rfl rfl rfl rfl (jm_M_at (s5 9 0 26) (s5 9 0 27) (s5 9 0 28) s5) rfl (fun v8 => ?_)
    refine jr_iadd (e_240 rfl) rfl ?_
    refine jr_nm (fun v9 => ?_)
    refine jr_istore_n (L' := [(3, xi v9), (0, xr 9 0), (1, xi a1), (2, xi a2)]) (e_240 rfl) rfl rfl rfl ?_
    refine jr_aload_n (e_240 rfl) rfl rfl ?_
    refine jr_getr (K2 := 70) (i2 := 0) (e_240 rfl) rfl rfl rfl ?_
    refine jr_iload_n (e_240 rfl) rfl rfl ?_
    refine jr_bald (n := 3456) (e_240 rfl) rfl rfl rfl ?_
    refine jr_bri (c := (s5 70 0 v9.toNat) = 0) (pt := 107) (pn := 103) (e_240 rfl) rfl rfl (fun h10 => ?_) (fun h10 => ?_)
    · refine jr_bipush (e_240 rfl) rfl ?_
      exact jr_retW (e_240 rfl) rfl
    · refine jr_iload_n (e_240 rfl) rfl rfl ?_
      refine jr_goto (pc' := 109) (e_240 rfl) rfl ?_
      exact jr_retW (e_240 rfl) rfl

theorem e_241 {pc : Nat} {en : xa_I} (h : xlk pc xc_241 = some en) : xcd 241 pc = some en := h
noncomputable def fm_M_undo (a0 : Int) : Option (Int) :=
  if 6 ≤ a0 then
    if 9 ≤ a0 then
      some (w32 (a0 - 3))
    else
      some (w32 (a0 + 3))
  else
    some (xxor a0 1)
theorem jm_M_undo (a0 : Int) (σ : xa_H) : J 241 0 [(0, xi a0)] [] σ (jqP σ) (fm_M_undo a0) := by
  unfold fm_M_undo
  refine jr_iload_n (e_241 rfl) rfl rfl ?_
  refine jr_bipush (e_241 rfl) rfl ?_
  refine jr_bri (c := 6 ≤ a0) (pt := 12) (pn := 6) (e_241 rfl) rfl rfl (fun h1 => ?_) (fun h1 => ?_)
  · refine jr_iload_n (e_241 rfl) rfl rfl ?_
    refine jr_bipush (e_241 rfl) rfl ?_
    refine jr_bri (c := 9 ≤ a0) (pt := 24) (pn := 18) (e_241 rfl) rfl rfl (fun h2 => ?_) (fun h2 => ?_)
    · refine jr_iload_n (e_241 rfl) rfl rfl ?_
      refine jr_iconst (e_241 rfl) rfl ?_
      refine jr_isub (e_241 rfl) rfl ?_
      exact jr_retP (e_241 rfl) rfl
    · refine jr_iload_n (e_241 rfl) rfl rfl ?_
      refine jr_iconst (e_241 rfl) rfl ?_
      refine jr_iadd (e_241 rfl) rfl ?_
      refine jr_goto (pc' := 27) (e_241 rfl) rfl ?_
      exact jr_retP (e_241 rfl) rfl
  · refine jr_iload_n (e_241 rfl) rfl rfl ?_
    refine jr_iconst (e_241 rfl) rfl ?_
    refine jr_ixor (e_241 rfl) rfl ?_
    refine jr_goto (pc' := 27) (e_241 rfl) rfl ?_
    exact jr_retP (e_241 rfl) rfl

theorem e_242 {pc : Nat} {en : xa_I} (h : xlk pc xc_242 = some en) : xcd 242 pc = some en := h
noncomputable def fm_M_cubesOn_4 (f1 : Int) (σ : xa_H) (K : Int → Option (Int)) : Nat → Int → Int → Option (Int)
  | 0, _, _ => none
  | n + 1, x2, x3 =>
    if 0 ≤ f1 ∧ f1 < 5 then
      if (σ 54 0 f1.toNat) ≤ x3 then
        K x2
      else
        (fm_M_isOn f1 x3 σ).bind fun v2 =>
        if v2 = 0 then
          xnm ((w32 (x2 + 0)) : Int) fun v4 =>
          xnm (w32 (x3 + 1) : Int) fun v5 =>
          fm_M_cubesOn_4 f1 σ K n v4 v5
        else
          xnm ((w32 (x2 + 1)) : Int) fun v6 =>
          xnm (w32 (x3 + 1) : Int) fun v7 =>
          fm_M_cubesOn_4 f1 σ K n v6 v7
    else none
theorem jl_M_cubesOn_4 (f1 : Int) (σ : xa_H)  (K : Int → Option (Int)) (hK4 : ∀ (z0 : Int), J 242 37 [(2, xi z0)] [] σ (jqP σ) (K z0)) : ∀ (n : Nat) (x2 : Int) (x3 : Int), J 242 4 [(0, xr 9 0), (1, xi f1), (2, xi x2), (3, xi x3)] [] σ (jqP σ) (fm_M_cubesOn_4 f1 σ K n x2 x3) := by
  intro n
  induction n with
  | zero => intro x2 x3; exact jr_none
  | succ n ih4 =>
    intro x2 x3
    rw [fm_M_cubesOn_4]
    refine jr_iload_n (e_242 rfl) rfl rfl ?_
    refine jr_aload_n (e_242 rfl) rfl rfl ?_
    refine jr_getr (K2 := 54) (i2 := 0) (e_242 rfl) rfl rfl rfl ?_
    refine jr_iload_n (e_242 rfl) rfl rfl ?_
    refine jr_ald (n := 5) (e_242 rfl) rfl rfl rfl ?_
    refine jr_bri (c := (σ 54 0 f1.toNat) ≤ x3) (pt := 37) (pn := 14) (e_242 rfl) rfl rfl (fun h1 => ?_) (fun h1 => ?_)
    · exact jr_sub (show ([0, 1, 2, 3] : List Nat).Nodup from by decide) (xsb_c (List.Mem.tail _ (List.Mem.tail _ (List.Mem.head _))) xsb_n) (hK4 x2)
    · refine jr_iload_n (e_242 rfl) rfl rfl ?_
      refine jr_aload_n (e_242 rfl) rfl rfl ?_
      refine jr_iload_n (e_242 rfl) rfl rfl ?_
      refine jr_iload_n (e_242 rfl) rfl rfl ?_
      refine jr_callP (as := [xr 9 0, xi f1, xi x3]) (S1 := [xi x2]) (e_242 rfl) rfl rfl rfl rfl rfl rfl (jm_M_isOn f1 x3 σ) rfl (fun v2 => ?_)
      refine jr_bri (c := v2 = 0) (pt := 28) (pn := 24) (e_242 rfl) rfl rfl (fun h3 => ?_) (fun h3 => ?_)
      · refine jr_iconst (e_242 rfl) rfl ?_
        refine jr_iadd (e_242 rfl) rfl ?_
        refine jr_nm (fun v4 => ?_)
        refine jr_istore_n (L' := [(2, xi v4), (0, xr 9 0), (1, xi f1), (3, xi x3)]) (e_242 rfl) rfl rfl rfl ?_
        refine jr_iinc (L2 := fun c => [(3, xi c), (2, xi v4), (0, xr 9 0), (1, xi f1)]) (e_242 rfl) rfl rfl rfl (fun _ => rfl) (fun v5 => ?_)
        refine jr_goto (pc' := 4) (e_242 rfl) rfl ?_
        exact jr_sub (show ([3, 2, 0, 1] : List Nat).Nodup from by decide) (xsb_c (List.Mem.tail _ (List.Mem.tail _ (List.Mem.head _))) (xsb_c (List.Mem.tail _ (List.Mem.tail _ (List.Mem.tail _ (List.Mem.head _)))) (xsb_c (List.Mem.tail _ (List.Mem.head _)) (xsb_c (List.Mem.head _) xsb_n)))) (ih4 v4 v5)
      · refine jr_iconst (e_242 rfl) rfl ?_
        refine jr_goto (pc' := 29) (e_242 rfl) rfl ?_
        refine jr_iadd (e_242 rfl) rfl ?_
        refine jr_nm (fun v6 => ?_)
        refine jr_istore_n (L' := [(2, xi v6), (0, xr 9 0), (1, xi f1), (3, xi x3)]) (e_242 rfl) rfl rfl rfl ?_
        refine jr_iinc (L2 := fun c => [(3, xi c), (2, xi v6), (0, xr 9 0), (1, xi f1)]) (e_242 rfl) rfl rfl rfl (fun _ => rfl) (fun v7 => ?_)
        refine jr_goto (pc' := 4) (e_242 rfl) rfl ?_
        exact jr_sub (show ([3, 2, 0, 1] : List Nat).Nodup from by decide) (xsb_c (List.Mem.tail _ (List.Mem.tail _ (List.Mem.head _))) (xsb_c (List.Mem.tail _ (List.Mem.tail _ (List.Mem.tail _ (List.Mem.head _)))) (xsb_c (List.Mem.tail _ (List.Mem.head _)) (xsb_c (List.Mem.head _) xsb_n)))) (ih4 v6 v7)
noncomputable def fm_M_cubesOn (a1 : Int) (σ : xa_H) : Option (Int) :=
  fm_M_cubesOn_4 a1 σ (fun (v8 : Int) =>
    some v8) xFU 0 0
theorem jm_M_cubesOn (a1 : Int) (σ : xa_H) : J 242 0 [(0, xr 9 0), (1, xi a1)] [] σ (jqP σ) (fm_M_cubesOn a1 σ) := by
  unfold fm_M_cubesOn
  refine jr_iconst (e_242 rfl) rfl ?_
  refine jr_istore_n (L' := [(2, xi 0), (0, xr 9 0), (1, xi a1)]) (e_242 rfl) rfl rfl rfl ?_
  refine jr_iconst (e_242 rfl) rfl ?_
  refine jr_istore_n (L' := [(3, xi 0), (2, xi 0), (0, xr 9 0), (1, xi a1)]) (e_242 rfl) rfl rfl rfl ?_
  refine jr_sub (show ([3, 2, 0, 1] : List Nat).Nodup from by decide) (xsb_c (List.Mem.tail _ (List.Mem.tail _ (List.Mem.head _))) (xsb_c (List.Mem.tail _ (List.Mem.tail _ (List.Mem.tail _ (List.Mem.head _)))) (xsb_c (List.Mem.tail _ (List.Mem.head _)) (xsb_c (List.Mem.head _) xsb_n)))) (jl_M_cubesOn_4 a1 σ _ (fun v8 => ?_) xFU 0 0)
  refine jr_iload_n (e_242 rfl) rfl rfl ?_
  exact jr_retP (e_242 rfl) rfl

theorem e_243 {pc : Nat} {en : xa_I} (h : xlk pc xc_243 = some en) : xcd 243 pc = some en := h
noncomputable def fm_M_costOf (a1 : Int) (σ : xa_H) : Option (Int) :=
  if (σ 9 0 37) = 0 then
    some 1
  else
    xnm ((if 4 ≤ a1 then (if a1 = 4 then (w32 ((σ 61 0 ((1 : Int).toNat)) * (σ 9 0 36))) else (if a1 = 5 then (σ 61 0 ((2 : Int).toNat)) else (σ 61 0 ((3 : Int).toNat)))) else (σ 61 0 ((0 : Int).toNat))) : Int) fun v3 =>
    some (w64 ((w64 (10000 * v3)) + 1))
theorem jm_M_costOf (a1 : Int) (σ : xa_H) : J 243 0 [(0, xr 9 0), (1, xi a1)] [] σ (jqL σ) (fm_M_costOf a1 σ) := by
  unfold fm_M_costOf
  refine jr_aload_n (e_243 rfl) rfl rfl ?_
  refine jr_geti (e_243 rfl) rfl (by decide +kernel) ?_
  refine jr_brx (c := (σ 9 0 37) = 0) (pt := 9) (pn := 7) (e_243 rfl) rfl rfl (fun h1 => ?_) (fun h1 => ?_)
  · refine jr_lconst (a := 1) (e_243 rfl) rfl rfl ?_
    exact jr_retL (e_243 rfl)
  · refine jr_iload_n (e_243 rfl) rfl rfl ?_
    refine jr_iconst (e_243 rfl) rfl ?_
    refine jr_pm1 (fun T => ∀ v3 : Int, J 243 62 [] [xi v3] σ (jqL σ) (T v3)) (fun v3 => ?_) (fun T hT => ?_)
    · refine jr_istore_n (L' := [(2, xi v3)]) (e_243 rfl) rfl rfl rfl ?_
      refine jr_ldc2 (a := 10000) (e_243 rfl) rfl rfl ?_
      refine jr_iload_n (e_243 rfl) rfl rfl ?_
      refine jr_i2l (e_243 rfl) rfl ?_
      refine jr_lmul (e_243 rfl) rfl ?_
      refine jr_lconst (a := 1) (e_243 rfl) rfl rfl ?_
      refine jr_ladd (e_243 rfl) rfl ?_
      exact jr_retL (e_243 rfl)
    · refine jr_br (c := 4 ≤ a1) (pt := 23) (pn := 14) (e_243 rfl) rfl rfl (fun h4 => ?_) (fun h4 => ?_)
      · refine jr_iload_n (e_243 rfl) rfl rfl ?_
        refine jr_iconst (e_243 rfl) rfl ?_
        refine jr_bx (c := a1 = 4) (pt := 42) (pn := 28) (e_243 rfl) rfl rfl (fun h5 => ?_) (fun h5 => ?_)
        · refine jr_aload_n (e_243 rfl) rfl rfl ?_
          refine jr_getr (K2 := 61) (i2 := 0) (e_243 rfl) rfl rfl rfl ?_
          refine jr_iconst (e_243 rfl) rfl ?_
          refine jr_ald' (n := 4) (e_243 rfl) rfl rfl rfl (by decide) ?_
          refine jr_aload_n (e_243 rfl) rfl rfl ?_
          refine jr_geti (e_243 rfl) rfl (by decide +kernel) ?_
          refine jr_imul (e_243 rfl) rfl ?_
          refine jr_goto (pc' := 62) (e_243 rfl) rfl ?_
          exact (jr_nme ((if_pos h4).trans (if_pos h5)) (jr_sub (show ([0, 1] : List Nat).Nodup from by decide) xsb_n (hT (w32 ((σ 61 0 ((1 : Int).toNat)) * (σ 9 0 36))))))
        · refine jr_iload_n (e_243 rfl) rfl rfl ?_
          refine jr_iconst (e_243 rfl) rfl ?_
          refine jr_bx (c := a1 = 5) (pt := 56) (pn := 47) (e_243 rfl) rfl rfl (fun h6 => ?_) (fun h6 => ?_)
          · refine jr_aload_n (e_243 rfl) rfl rfl ?_
            refine jr_getr (K2 := 61) (i2 := 0) (e_243 rfl) rfl rfl rfl ?_
            refine jr_iconst (e_243 rfl) rfl ?_
            refine jr_ald' (n := 4) (e_243 rfl) rfl rfl rfl (by decide) ?_
            refine jr_goto (pc' := 62) (e_243 rfl) rfl ?_
            exact (jr_nme ((if_pos h4).trans ((if_neg h5).trans (if_pos h6))) (jr_sub (show ([0, 1] : List Nat).Nodup from by decide) xsb_n (hT (σ 61 0 ((2 : Int).toNat)))))
          · refine jr_aload_n (e_243 rfl) rfl rfl ?_
            refine jr_getr (K2 := 61) (i2 := 0) (e_243 rfl) rfl rfl rfl ?_
            refine jr_iconst (e_243 rfl) rfl ?_
            refine jr_ald' (n := 4) (e_243 rfl) rfl rfl rfl (by decide) ?_
            exact (jr_nme ((if_pos h4).trans ((if_neg h5).trans (if_neg h6))) (jr_sub (show ([0, 1] : List Nat).Nodup from by decide) xsb_n (hT (σ 61 0 ((3 : Int).toNat)))))
      · refine jr_aload_n (e_243 rfl) rfl rfl ?_
        refine jr_getr (K2 := 61) (i2 := 0) (e_243 rfl) rfl rfl rfl ?_
        refine jr_iconst (e_243 rfl) rfl ?_
        refine jr_ald' (n := 4) (e_243 rfl) rfl rfl rfl (by decide) ?_
        refine jr_goto (pc' := 62) (e_243 rfl) rfl ?_
        exact (jr_nme (if_neg h4) (jr_sub (show ([0, 1] : List Nat).Nodup from by decide) xsb_n (hT (σ 61 0 ((0 : Int).toNat)))))

theorem e_244 {pc : Nat} {en : xa_I} (h : xlk pc xc_244 = some en) : xcd 244 pc = some en := h
noncomputable def fm_M_findOff_22 (f2 : Int) (K : Int → xa_H → Option (xa_H)) : Nat → Int → Int → xa_H → Option (xa_H)
  | 0, _, _, _ => none
  | n + 1, x3, x5, sh =>
    if 3456 ≤ x5 then
      K x3 sh
    else
      xj (fun (v3 : Int) =>
        xnm ((if v3 = 0 then 1000000000000000 else 0) : Int) fun v8 =>
        if 0 ≤ x5 ∧ x5 < 3456 then
          xnm (xup sh 71 0 x5.toNat v8) fun s10 =>
          if 0 ≤ x5 ∧ x5 < 3456 then
            xnm (xup s10 73 0 x5.toNat (v3 % 2)) fun s11 =>
            if v3 = 0 then
              xnm (w32 (x5 + 1) : Int) fun v13 =>
              fm_M_findOff_22 f2 K n x3 v13 s11
            else
              if 0 ≤ x3 ∧ x3 < 3456 then
                xnm (xup s11 72 0 x3.toNat x5) fun s14 =>
                xnm (w32 (x3 + 1) : Int) fun v15 =>
                xnm (w32 (x5 + 1) : Int) fun v16 =>
                fm_M_findOff_22 f2 K n v15 v16 s14
              else none
          else none
        else none) fun K4 =>
      if (xrem x5 144) = f2 then
        if 0 ≤ x5 ∧ x5 < 3456 then
          if (sh 70 0 x5.toNat) = 0 then
            K4 0
          else
            K4 1
        else none
      else
        K4 0
theorem jl_M_findOff_22 (f2 : Int) (σ : xa_H)  (K : Int → xa_H → Option (xa_H)) (hK22 : ∀ (z0 : Int) (sz : xa_H), J 244 107 [(0, xr 9 0), (3, xi z0), (4, xi 0)] [] sz jqV (K z0 sz)) : ∀ (n : Nat) (x3 : Int) (x5 : Int) (sh : xa_H), J 244 22 [(0, xr 9 0), (2, xi f2), (3, xi x3), (4, xi 0), (5, xi x5)] [] sh jqV (fm_M_findOff_22 f2 K n x3 x5 sh) := by
  intro n
  induction n with
  | zero => intro x3 x5 sh; exact jr_none
  | succ n ih22 =>
    intro x3 x5 sh
    rw [fm_M_findOff_22]
    refine jr_iload (e_244 rfl) rfl rfl ?_
    refine jr_sipush (e_244 rfl) rfl ?_
    refine jr_bri (c := 3456 ≤ x5) (pt := 107) (pn := 30) (e_244 rfl) rfl rfl (fun h1 => ?_) (fun h1 => ?_)
    · exact jr_sub (show ([0, 2, 3, 4, 5] : List Nat).Nodup from by decide) (xsb_c (List.Mem.head _) (xsb_c (List.Mem.tail _ (List.Mem.tail _ (List.Mem.head _))) (xsb_c (List.Mem.tail _ (List.Mem.tail _ (List.Mem.tail _ (List.Mem.head _)))) xsb_n))) (hK22 x3 sh)
    · refine jr_iload (e_244 rfl) rfl rfl ?_
      refine jr_sipush (e_244 rfl) rfl ?_
      refine jr_irem (e_244 rfl) rfl (by decide) ?_
      refine jr_iload_n (e_244 rfl) rfl rfl ?_
      refine jr_j (fun K4 => ∀ (v3 : Int), J 244 55 [(0, xr 9 0), (2, xi f2), (3, xi x3), (4, xi 0), (5, xi x5)] [xi v3] sh jqV (K4 v3)) (fun v3 => ?_) (fun K4 hK4 => ?_)
      · refine jr_istore (L' := [(6, xi v3), (0, xr 9 0), (2, xi f2), (3, xi x3), (4, xi 0), (5, xi x5)]) (e_244 rfl) rfl rfl rfl ?_
        refine jr_aload_n (e_244 rfl) rfl rfl ?_
        refine jr_getr (K2 := 71) (i2 := 0) (e_244 rfl) rfl rfl rfl ?_
        refine jr_iload (e_244 rfl) rfl rfl ?_
        refine jr_iload (e_244 rfl) rfl rfl ?_
        refine jr_pm1 (fun T => ∀ v8 : Int, J 244 75 [(0, xr 9 0), (2, xi f2), (3, xi x3), (4, xi 0), (5, xi x5), (6, xi v3)] [xl v8, xi x5, xr 71 0] sh jqV (T v8)) (fun v8 => ?_) (fun T hT => ?_)
        · refine jr_last (n := 3456) (e_244 rfl) rfl rfl rfl rfl ?_
          refine jr_nms (fun s10 => ?_)
          refine jr_aload_n (e_244 rfl) rfl rfl ?_
          refine jr_getr (K2 := 73) (i2 := 0) (e_244 rfl) rfl rfl rfl ?_
          refine jr_iload (e_244 rfl) rfl rfl ?_
          refine jr_iload (e_244 rfl) rfl rfl ?_
          refine jr_bast (n := 3456) (e_244 rfl) rfl rfl rfl rfl ?_
          refine jr_nms (fun s11 => ?_)
          refine jr_iload (e_244 rfl) rfl rfl ?_
          refine jr_bri (c := v3 = 0) (pt := 101) (pn := 90) (e_244 rfl) rfl rfl (fun h12 => ?_) (fun h12 => ?_)
          · refine jr_iinc (L2 := fun c => [(5, xi c), (0, xr 9 0), (2, xi f2), (3, xi x3), (4, xi 0), (6, xi v3)]) (e_244 rfl) rfl rfl rfl (fun _ => rfl) (fun v13 => ?_)
            refine jr_goto (pc' := 22) (e_244 rfl) rfl ?_
            exact jr_sub (show ([5, 0, 2, 3, 4, 6] : List Nat).Nodup from by decide) (xsb_c (List.Mem.tail _ (List.Mem.head _)) (xsb_c (List.Mem.tail _ (List.Mem.tail _ (List.Mem.head _))) (xsb_c (List.Mem.tail _ (List.Mem.tail _ (List.Mem.tail _ (List.Mem.head _)))) (xsb_c (List.Mem.tail _ (List.Mem.tail _ (List.Mem.tail _ (List.Mem.tail _ (List.Mem.head _))))) (xsb_c (List.Mem.head _) xsb_n))))) (ih22 x3 v13 s11)
          · refine jr_aload_n (e_244 rfl) rfl rfl ?_
            refine jr_getr (K2 := 72) (i2 := 0) (e_244 rfl) rfl rfl rfl ?_
            refine jr_iload_n (e_244 rfl) rfl rfl ?_
            refine jr_iload (e_244 rfl) rfl rfl ?_
            refine jr_ast (n := 3456) (e_244 rfl) rfl rfl rfl rfl ?_
            refine jr_nms (fun s14 => ?_)
            refine jr_iinc (L2 := fun c => [(3, xi c), (0, xr 9 0), (2, xi f2), (4, xi 0), (5, xi x5), (6, xi v3)]) (e_244 rfl) rfl rfl rfl (fun _ => rfl) (fun v15 => ?_)
            refine jr_iinc (L2 := fun c => [(5, xi c), (3, xi v15), (0, xr 9 0), (2, xi f2), (4, xi 0), (6, xi v3)]) (e_244 rfl) rfl rfl rfl (fun _ => rfl) (fun v16 => ?_)
            refine jr_goto (pc' := 22) (e_244 rfl) rfl ?_
            exact jr_sub (show ([5, 3, 0, 2, 4, 6] : List Nat).Nodup from by decide) (xsb_c (List.Mem.tail _ (List.Mem.tail _ (List.Mem.head _))) (xsb_c (List.Mem.tail _ (List.Mem.tail _ (List.Mem.tail _ (List.Mem.head _)))) (xsb_c (List.Mem.tail _ (List.Mem.head _)) (xsb_c (List.Mem.tail _ (List.Mem.tail _ (List.Mem.tail _ (List.Mem.tail _ (List.Mem.head _))))) (xsb_c (List.Mem.head _) xsb_n))))) (ih22 v15 v16 s14)
        · refine jr_br (c := v3 = 0) (pt := 72) (pn := 68) (e_244 rfl) rfl rfl (fun h9 => ?_) (fun h9 => ?_)
          · refine jr_ldc2 (a := 1000000000000000) (e_244 rfl) rfl rfl ?_
            exact (jr_nme (if_pos h9) (jr_sub (show ([6, 0, 2, 3, 4, 5] : List Nat).Nodup from by decide) (xsb_c (List.Mem.tail _ (List.Mem.head _)) (xsb_c (List.Mem.tail _ (List.Mem.tail _ (List.Mem.head _))) (xsb_c (List.Mem.tail _ (List.Mem.tail _ (List.Mem.tail _ (List.Mem.head _)))) (xsb_c (List.Mem.tail _ (List.Mem.tail _ (List.Mem.tail _ (List.Mem.tail _ (List.Mem.head _))))) (xsb_c (List.Mem.tail _ (List.Mem.tail _ (List.Mem.tail _ (List.Mem.tail _ (List.Mem.tail _ (List.Mem.head _)))))) (xsb_c (List.Mem.head _) xsb_n)))))) (hT 1000000000000000)))
          · refine jr_lconst (a := 0) (e_244 rfl) rfl rfl ?_
            refine jr_goto (pc' := 75) (e_244 rfl) rfl ?_
            exact (jr_nme (if_neg h9) (jr_sub (show ([6, 0, 2, 3, 4, 5] : List Nat).Nodup from by decide) (xsb_c (List.Mem.tail _ (List.Mem.head _)) (xsb_c (List.Mem.tail _ (List.Mem.tail _ (List.Mem.head _))) (xsb_c (List.Mem.tail _ (List.Mem.tail _ (List.Mem.tail _ (List.Mem.head _)))) (xsb_c (List.Mem.tail _ (List.Mem.tail _ (List.Mem.tail _ (List.Mem.tail _ (List.Mem.head _))))) (xsb_c (List.Mem.tail _ (List.Mem.tail _ (List.Mem.tail _ (List.Mem.tail _ (List.Mem.tail _ (List.Mem.head _)))))) (xsb_c (List.Mem.head _) xsb_n)))))) (hT 0)))
      · refine jr_brx (c := (xrem x5 144) = f2) (pt := 54) (pn := 40) (e_244 rfl) rfl rfl (fun h5 => ?_) (fun h5 => ?_)
        · refine jr_aload_n (e_244 rfl) rfl rfl ?_
          refine jr_getr (K2 := 70) (i2 := 0) (e_244 rfl) rfl rfl rfl ?_
          refine jr_iload (e_244 rfl) rfl rfl ?_
          refine jr_bald (n := 3456) (e_244 rfl) rfl rfl rfl ?_
          refine jr_bri (c := (sh 70 0 x5.toNat) = 0) (pt := 54) (pn := 50) (e_244 rfl) rfl rfl (fun h6 => ?_) (fun h6 => ?_)
          · refine jr_iconst (e_244 rfl) rfl ?_
            exact jr_sub (show ([0, 2, 3, 4, 5] : List Nat).Nodup from by decide) (xsb_c (List.Mem.head _) (xsb_c (List.Mem.tail _ (List.Mem.head _)) (xsb_c (List.Mem.tail _ (List.Mem.tail _ (List.Mem.head _))) (xsb_c (List.Mem.tail _ (List.Mem.tail _ (List.Mem.tail _ (List.Mem.head _)))) (xsb_c (List.Mem.tail _ (List.Mem.tail _ (List.Mem.tail _ (List.Mem.tail _ (List.Mem.head _))))) xsb_n))))) (hK4 0)
          · refine jr_iconst (e_244 rfl) rfl ?_
            refine jr_goto (pc' := 55) (e_244 rfl) rfl ?_
            exact jr_sub (show ([0, 2, 3, 4, 5] : List Nat).Nodup from by decide) (xsb_c (List.Mem.head _) (xsb_c (List.Mem.tail _ (List.Mem.head _)) (xsb_c (List.Mem.tail _ (List.Mem.tail _ (List.Mem.head _))) (xsb_c (List.Mem.tail _ (List.Mem.tail _ (List.Mem.tail _ (List.Mem.head _)))) (xsb_c (List.Mem.tail _ (List.Mem.tail _ (List.Mem.tail _ (List.Mem.tail _ (List.Mem.head _))))) xsb_n))))) (hK4 1)
        · refine jr_iconst (e_244 rfl) rfl ?_
          exact jr_sub (show ([0, 2, 3, 4, 5] : List Nat).Nodup from by decide) (xsb_c (List.Mem.head _) (xsb_c (List.Mem.tail _ (List.Mem.head _)) (xsb_c (List.Mem.tail _ (List.Mem.tail _ (List.Mem.head _))) (xsb_c (List.Mem.tail _ (List.Mem.tail _ (List.Mem.tail _ (List.Mem.head _)))) (xsb_c (List.Mem.tail _ (List.Mem.tail _ (List.Mem.tail _ (List.Mem.tail _ (List.Mem.head _))))) xsb_n))))) (hK4 0)
noncomputable def fm_M_findOff_144 (f4 : Int) (f5 : Int) (K : Int → xa_H → Option (xa_H)) : Nat → Int → Int → xa_H → Option (xa_H)
  | 0, _, _, _ => none
  | n + 1, x3, x6, sh =>
    if 12 ≤ x6 then
      K x3 sh
    else
      (fm_M_undo x6).bind fun v2 =>
      xb2 (fm_M_next f5 v2 sh) fun v3 s4 =>
      if v3 < 0 then
        xnm (w32 (x6 + 1) : Int) fun v6 =>
        fm_M_findOff_144 f4 f5 K n x3 v6 s4
      else
        if 0 ≤ f5 ∧ f5 < 3456 then
          (fm_M_costOf x6 s4).bind fun v7 =>
          if 0 ≤ v3 ∧ v3 < 3456 then
            if 0 ≤ (xcmp (w64 ((s4 71 0 f5.toNat) + v7)) (s4 71 0 v3.toNat)) then
              xnm (w32 (x6 + 1) : Int) fun v9 =>
              fm_M_findOff_144 f4 f5 K n x3 v9 s4
            else
              if 0 ≤ f5 ∧ f5 < 3456 then
                (fm_M_costOf x6 s4).bind fun v10 =>
                if 0 ≤ v3 ∧ v3 < 3456 then
                  xnm (xup s4 71 0 v3.toNat (w64 ((s4 71 0 f5.toNat) + v10))) fun s11 =>
                  if 0 ≤ v3 ∧ v3 < 3456 then
                    if (s11 73 0 v3.toNat) = 0 then
                      if 0 ≤ v3 ∧ v3 < 3456 then
                        xnm (xup s11 73 0 v3.toNat (1 % 2)) fun s13 =>
                        if 0 ≤ (xrem (w32 (f4 + x3)) 3456) ∧ (xrem (w32 (f4 + x3)) 3456) < 3456 then
                          xnm (xup s13 72 0 ((xrem (w32 (f4 + x3)) 3456).toNat) v3) fun s14 =>
                          xnm (w32 (x3 + 1) : Int) fun v15 =>
                          xnm (w32 (x6 + 1) : Int) fun v16 =>
                          fm_M_findOff_144 f4 f5 K n v15 v16 s14
                        else none
                      else none
                    else
                      xnm (w32 (x6 + 1) : Int) fun v17 =>
                      fm_M_findOff_144 f4 f5 K n x3 v17 s11
                  else none
                else none
              else none
          else none
        else none
theorem jl_M_findOff_144 (f4 : Int) (f5 : Int) (σ : xa_H)  (K : Int → xa_H → Option (xa_H)) (hK144 : ∀ (z0 : Int) (sz : xa_H), J 244 257 [(0, xr 9 0), (3, xi z0), (4, xi f4)] [] sz jqV (K z0 sz)) : ∀ (n : Nat) (x3 : Int) (x6 : Int) (sh : xa_H), J 244 144 [(0, xr 9 0), (3, xi x3), (4, xi f4), (5, xi f5), (6, xi x6)] [] sh jqV (fm_M_findOff_144 f4 f5 K n x3 x6 sh) := by
  intro n
  induction n with
  | zero => intro x3 x6 sh; exact jr_none
  | succ n ih144 =>
    intro x3 x6 sh
    rw [fm_M_findOff_144]
    refine jr_iload (e_244 rfl) rfl rfl ?_
    refine jr_bipush (e_244 rfl) rfl ?_
    refine jr_bri (c := 12 ≤ x6) (pt := 257) (pn := 151) (e_244 rfl) rfl rfl (fun h1 => ?_) (fun h1 => ?_)
    · exact jr_sub (show ([0, 3, 4, 5, 6] : List Nat).Nodup from by decide) (xsb_c (List.Mem.head _) (xsb_c (List.Mem.tail _ (List.Mem.head _)) (xsb_c (List.Mem.tail _ (List.Mem.tail _ (List.Mem.head _))) xsb_n))) (hK144 x3 sh)
    · refine jr_aload_n (e_244 rfl) rfl rfl ?_
      refine jr_iload (e_244 rfl) rfl rfl ?_
      refine jr_iload (e_244 rfl) rfl rfl ?_
      refine jr_callP (as := [xi x6]) (S1 := [xi f5, xr 9 0]) (e_244 rfl) rfl rfl rfl rfl rfl rfl (jm_M_undo x6 sh) rfl (fun v2 => ?_)
      refine jr_callX (as := [xr 9 0, xi f5, xi v2]) (S1 := []) (e_244 rfl) rfl rfl rfl rfl rfl rfl (jm_M_next f5 v2 sh) rfl (fun v3 s4 => ?_)
      refine jr_istore (L' := [(7, xi v3), (0, xr 9 0), (3, xi x3), (4, xi f4), (5, xi f5), (6, xi x6)]) (e_244 rfl) rfl rfl rfl ?_
      refine jr_iload (e_244 rfl) rfl rfl ?_
      refine jr_bri (c := v3 < 0) (pt := 251) (pn := 169) (e_244 rfl) rfl rfl (fun h5 => ?_) (fun h5 => ?_)
      · refine jr_iinc (L2 := fun c => [(6, xi c), (7, xi v3), (0, xr 9 0), (3, xi x3), (4, xi f4), (5, xi f5)]) (e_244 rfl) rfl rfl rfl (fun _ => rfl) (fun v6 => ?_)
        refine jr_goto (pc' := 144) (e_244 rfl) rfl ?_
        exact jr_sub (show ([6, 7, 0, 3, 4, 5] : List Nat).Nodup from by decide) (xsb_c (List.Mem.tail _ (List.Mem.tail _ (List.Mem.head _))) (xsb_c (List.Mem.tail _ (List.Mem.tail _ (List.Mem.tail _ (List.Mem.head _)))) (xsb_c (List.Mem.tail _ (List.Mem.tail _ (List.Mem.tail _ (List.Mem.tail _ (List.Mem.head _))))) (xsb_c (List.Mem.tail _ (List.Mem.tail _ (List.Mem.tail _ (List.Mem.tail _ (List.Mem.tail _ (List.Mem.head _)))))) (xsb_c (List.Mem.head _) xsb_n))))) (ih144 x3 v6 s4)
      · refine jr_aload_n (e_244 rfl) rfl rfl ?_
        refine jr_getr (K2 := 71) (i2 := 0) (e_244 rfl) rfl rfl rfl ?_
        refine jr_iload (e_244 rfl) rfl rfl ?_
        refine jr_lald (n := 3456) (e_244 rfl) rfl rfl rfl ?_
        refine jr_aload_n (e_244 rfl) rfl rfl ?_
        refine jr_iload (e_244 rfl) rfl rfl ?_
        refine jr_callL (as := [xr 9 0, xi x6]) (S1 := [xl (s4 71 0 f5.toNat)]) (e_244 rfl) rfl rfl rfl rfl rfl rfl (jm_M_costOf x6 s4) rfl (fun v7 => ?_)
        refine jr_ladd (e_244 rfl) rfl ?_
        refine jr_aload_n (e_244 rfl) rfl rfl ?_
        refine jr_getr (K2 := 71) (i2 := 0) (e_244 rfl) rfl rfl rfl ?_
        refine jr_iload (e_244 rfl) rfl rfl ?_
        refine jr_lald (n := 3456) (e_244 rfl) rfl rfl rfl ?_
        refine jr_lcmp (e_244 rfl) rfl ?_
        refine jr_bri (c := 0 ≤ (xcmp (w64 ((s4 71 0 f5.toNat) + v7)) (s4 71 0 v3.toNat))) (pt := 251) (pn := 194) (e_244 rfl) rfl rfl (fun h8 => ?_) (fun h8 => ?_)
        · refine jr_iinc (L2 := fun c => [(6, xi c), (7, xi v3), (0, xr 9 0), (3, xi x3), (4, xi f4), (5, xi f5)]) (e_244 rfl) rfl rfl rfl (fun _ => rfl) (fun v9 => ?_)
          refine jr_goto (pc' := 144) (e_244 rfl) rfl ?_
          exact jr_sub (show ([6, 7, 0, 3, 4, 5] : List Nat).Nodup from by decide) (xsb_c (List.Mem.tail _ (List.Mem.tail _ (List.Mem.head _))) (xsb_c (List.Mem.tail _ (List.Mem.tail _ (List.Mem.tail _ (List.Mem.head _)))) (xsb_c (List.Mem.tail _ (List.Mem.tail _ (List.Mem.tail _ (List.Mem.tail _ (List.Mem.head _))))) (xsb_c (List.Mem.tail _ (List.Mem.tail _ (List.Mem.tail _ (List.Mem.tail _ (List.Mem.tail _ (List.Mem.head _)))))) (xsb_c (List.Mem.head _) xsb_n))))) (ih144 x3 v9 s4)
        · refine jr_aload_n (e_244 rfl) rfl rfl ?_
          refine jr_getr (K2 := 71) (i2 := 0) (e_244 rfl) rfl rfl rfl ?_
          refine jr_iload (e_244 rfl) rfl rfl ?_
          refine jr_aload_n (e_244 rfl) rfl rfl ?_
          refine jr_getr (K2 := 71) (i2 := 0) (e_244 rfl) rfl rfl rfl ?_
          refine jr_iload (e_244 rfl) rfl rfl ?_
          refine jr_lald (n := 3456) (e_244 rfl) rfl rfl rfl ?_
          refine jr_aload_n (e_244 rfl) rfl rfl ?_
          refine jr_iload (e_244 rfl) rfl rfl ?_
          refine jr_callL (as := [xr 9 0, xi x6]) (S1 := [xl (s4 71 0 f5.toNat), xi v3, xr 71 0]) (e_244 rfl) rfl rfl rfl rfl rfl rfl (jm_M_costOf x6 s4) rfl (fun v10 => ?_)
          refine jr_ladd (e_244 rfl) rfl ?_
          refine jr_last (n := 3456) (e_244 rfl) rfl rfl rfl rfl ?_
          refine jr_nms (fun s11 => ?_)
          refine jr_aload_n (e_244 rfl) rfl rfl ?_
          refine jr_getr (K2 := 73) (i2 := 0) (e_244 rfl) rfl rfl rfl ?_
          refine jr_iload (e_244 rfl) rfl rfl ?_
          refine jr_bald (n := 3456) (e_244 rfl) rfl rfl rfl ?_
          refine jr_brx (c := (s11 73 0 v3.toNat) = 0) (pt := 251) (pn := 225) (e_244 rfl) rfl rfl (fun h12 => ?_) (fun h12 => ?_)
          · refine jr_aload_n (e_244 rfl) rfl rfl ?_
            refine jr_getr (K2 := 73) (i2 := 0) (e_244 rfl) rfl rfl rfl ?_
            refine jr_iload (e_244 rfl) rfl rfl ?_
            refine jr_iconst (e_244 rfl) rfl ?_
            refine jr_bast (n := 3456) (e_244 rfl) rfl rfl rfl rfl ?_
            refine jr_nms (fun s13 => ?_)
            refine jr_aload_n (e_244 rfl) rfl rfl ?_
            refine jr_getr (K2 := 72) (i2 := 0) (e_244 rfl) rfl rfl rfl ?_
            refine jr_iload (e_244 rfl) rfl rfl ?_
            refine jr_iload_n (e_244 rfl) rfl rfl ?_
            refine jr_iadd (e_244 rfl) rfl ?_
            refine jr_sipush (e_244 rfl) rfl ?_
            refine jr_irem (e_244 rfl) rfl (by decide) ?_
            refine jr_iload (e_244 rfl) rfl rfl ?_
            refine jr_ast (n := 3456) (e_244 rfl) rfl rfl rfl rfl ?_
            refine jr_nms (fun s14 => ?_)
            refine jr_iinc (L2 := fun c => [(3, xi c), (7, xi v3), (0, xr 9 0), (4, xi f4), (5, xi f5), (6, xi x6)]) (e_244 rfl) rfl rfl rfl (fun _ => rfl) (fun v15 => ?_)
            refine jr_iinc (L2 := fun c => [(6, xi c), (3, xi v15), (7, xi v3), (0, xr 9 0), (4, xi f4), (5, xi f5)]) (e_244 rfl) rfl rfl rfl (fun _ => rfl) (fun v16 => ?_)
            refine jr_goto (pc' := 144) (e_244 rfl) rfl ?_
            exact jr_sub (show ([6, 3, 7, 0, 4, 5] : List Nat).Nodup from by decide) (xsb_c (List.Mem.tail _ (List.Mem.tail _ (List.Mem.tail _ (List.Mem.head _)))) (xsb_c (List.Mem.tail _ (List.Mem.head _)) (xsb_c (List.Mem.tail _ (List.Mem.tail _ (List.Mem.tail _ (List.Mem.tail _ (List.Mem.head _))))) (xsb_c (List.Mem.tail _ (List.Mem.tail _ (List.Mem.tail _ (List.Mem.tail _ (List.Mem.tail _ (List.Mem.head _)))))) (xsb_c (List.Mem.head _) xsb_n))))) (ih144 v15 v16 s14)
          · refine jr_iinc (L2 := fun c => [(6, xi c), (7, xi v3), (0, xr 9 0), (3, xi x3), (4, xi f4), (5, xi f5)]) (e_244 rfl) rfl rfl rfl (fun _ => rfl) (fun v17 => ?_)
            refine jr_goto (pc' := 144) (e_244 rfl) rfl ?_
            exact jr_sub (show ([6, 7, 0, 3, 4, 5] : List Nat).Nodup from by decide) (xsb_c (List.Mem.tail _ (List.Mem.tail _ (List.Mem.head _))) (xsb_c (List.Mem.tail _ (List.Mem.tail _ (List.Mem.tail _ (List.Mem.head _)))) (xsb_c (List.Mem.tail _ (List.Mem.tail _ (List.Mem.tail _ (List.Mem.tail _ (List.Mem.head _))))) (xsb_c (List.Mem.tail _ (List.Mem.tail _ (List.Mem.tail _ (List.Mem.tail _ (List.Mem.tail _ (List.Mem.head _)))))) (xsb_c (List.Mem.head _) xsb_n))))) (ih144 x3 v17 s11)
noncomputable def fm_M_findOff_107  (K : xa_H → Option (xa_H)) : Nat → Int → Int → xa_H → Option (xa_H)
  | 0, _, _, _ => none
  | n + 1, x3, x4, sh =>
    if x3 ≤ 0 then
      K sh
    else
      if 0 ≤ x4 ∧ x4 < 3456 then
        xnm ((sh 72 0 x4.toNat) : Int) fun v2 =>
        xnm ((xrem (w32 (x4 + 1)) 3456) : Int) fun v3 =>
        xnm (w32 (x3 + (-1)) : Int) fun v4 =>
        if 0 ≤ v2 ∧ v2 < 3456 then
          xnm (xup sh 73 0 v2.toNat (0 % 2)) fun s5 =>
          fm_M_findOff_144 v3 v2 (fun (v18 : Int) (s19 : xa_H) =>
            fm_M_findOff_107 K n v18 v3 s19) xFU v4 0 s5
        else none
      else none
theorem jl_M_findOff_107  (σ : xa_H)  (K : xa_H → Option (xa_H)) (hK107 : ∀ (sz : xa_H), J 244 260 [] [] sz jqV (K sz)) : ∀ (n : Nat) (x3 : Int) (x4 : Int) (sh : xa_H), J 244 107 [(0, xr 9 0), (3, xi x3), (4, xi x4)] [] sh jqV (fm_M_findOff_107 K n x3 x4 sh) := by
  intro n
  induction n with
  | zero => intro x3 x4 sh; exact jr_none
  | succ n ih107 =>
    intro x3 x4 sh
    rw [fm_M_findOff_107]
    refine jr_iload_n (e_244 rfl) rfl rfl ?_
    refine jr_bri (c := x3 ≤ 0) (pt := 260) (pn := 111) (e_244 rfl) rfl rfl (fun h1 => ?_) (fun h1 => ?_)
    · exact jr_sub (show ([0, 3, 4] : List Nat).Nodup from by decide) xsb_n (hK107 sh)
    · refine jr_aload_n (e_244 rfl) rfl rfl ?_
      refine jr_getr (K2 := 72) (i2 := 0) (e_244 rfl) rfl rfl rfl ?_
      refine jr_iload (e_244 rfl) rfl rfl ?_
      refine jr_ald (n := 3456) (e_244 rfl) rfl rfl rfl ?_
      refine jr_nm (fun v2 => ?_)
      refine jr_istore (L' := [(5, xi v2), (0, xr 9 0), (3, xi x3), (4, xi x4)]) (e_244 rfl) rfl rfl rfl ?_
      refine jr_iload (e_244 rfl) rfl rfl ?_
      refine jr_iconst (e_244 rfl) rfl ?_
      refine jr_iadd (e_244 rfl) rfl ?_
      refine jr_sipush (e_244 rfl) rfl ?_
      refine jr_irem (e_244 rfl) rfl (by decide) ?_
      refine jr_nm (fun v3 => ?_)
      refine jr_istore (L' := [(4, xi v3), (5, xi v2), (0, xr 9 0), (3, xi x3)]) (e_244 rfl) rfl rfl rfl ?_
      refine jr_iinc (L2 := fun c => [(3, xi c), (4, xi v3), (5, xi v2), (0, xr 9 0)]) (e_244 rfl) rfl rfl rfl (fun _ => rfl) (fun v4 => ?_)
      refine jr_aload_n (e_244 rfl) rfl rfl ?_
      refine jr_getr (K2 := 73) (i2 := 0) (e_244 rfl) rfl rfl rfl ?_
      refine jr_iload (e_244 rfl) rfl rfl ?_
      refine jr_iconst (e_244 rfl) rfl ?_
      refine jr_bast (n := 3456) (e_244 rfl) rfl rfl rfl rfl ?_
      refine jr_nms (fun s5 => ?_)
      refine jr_iconst (e_244 rfl) rfl ?_
      refine jr_istore (L' := [(6, xi 0), (3, xi v4), (4, xi v3), (5, xi v2), (0, xr 9 0)]) (e_244 rfl) rfl rfl rfl ?_
      refine jr_sub (show ([6, 3, 4, 5, 0] : List Nat).Nodup from by decide) (xsb_c (List.Mem.tail _ (List.Mem.tail _ (List.Mem.tail _ (List.Mem.tail _ (List.Mem.head _))))) (xsb_c (List.Mem.tail _ (List.Mem.head _)) (xsb_c (List.Mem.tail _ (List.Mem.tail _ (List.Mem.head _))) (xsb_c (List.Mem.tail _ (List.Mem.tail _ (List.Mem.tail _ (List.Mem.head _)))) (xsb_c (List.Mem.head _) xsb_n))))) (jl_M_findOff_144 v3 v2 σ _ (fun v18 s19 => ?_) xFU v4 0 s5)
      refine jr_goto (pc' := 107) (e_244 rfl) rfl ?_
      exact jr_sub (show ([0, 3, 4] : List Nat).Nodup from by decide) (xsb_c (List.Mem.head _) (xsb_c (List.Mem.tail _ (List.Mem.head _)) (xsb_c (List.Mem.tail _ (List.Mem.tail _ (List.Mem.head _))) xsb_n))) (ih107 v18 v3 s19)
noncomputable def fm_M_findOff (a1 : Int) (a2 : Int) (σ : xa_H) : Option (xa_H) :=
  (fm_M_findFits a1 σ).bind fun s1 =>
  (fm_M_cubesOn a1 s1).bind fun v2 =>
  xnm (xup s1 9 0 36 v2) fun s3 =>
  fm_M_findOff_22 a2 (fun (v17 : Int) (s18 : xa_H) =>
    fm_M_findOff_107 (fun (s20 : xa_H) =>
      some s20) xFU v17 0 s18) xFU 0 0 s3
theorem jm_M_findOff (a1 : Int) (a2 : Int) (σ : xa_H) : J 244 0 [(0, xr 9 0), (1, xi a1), (2, xi a2)] [] σ jqV (fm_M_findOff a1 a2 σ) := by
  unfold fm_M_findOff
  refine jr_aload_n (e_244 rfl) rfl rfl ?_
  refine jr_iload_n (e_244 rfl) rfl rfl ?_
  refine jr_callV (as := [xr 9 0, xi a1]) (S1 := []) (e_244 rfl) rfl rfl rfl rfl rfl rfl (jm_M_findFits a1 σ) rfl (fun s1 => ?_)
  refine jr_aload_n (e_244 rfl) rfl rfl ?_
  refine jr_aload_n (e_244 rfl) rfl rfl ?_
  refine jr_iload_n (e_244 rfl) rfl rfl ?_
  refine jr_callP (as := [xr 9 0, xi a1]) (S1 := [xr 9 0]) (e_244 rfl) rfl rfl rfl rfl rfl rfl (jm_M_cubesOn a1 s1) rfl (fun v2 => ?_)
  refine jr_put (e_244 rfl) rfl rfl rfl ?_
  refine jr_nms (fun s3 => ?_)
  refine jr_iconst (e_244 rfl) rfl ?_
  refine jr_istore_n (L' := [(3, xi 0), (0, xr 9 0), (1, xi a1), (2, xi a2)]) (e_244 rfl) rfl rfl rfl ?_
  refine jr_iconst (e_244 rfl) rfl ?_
  refine jr_istore (L' := [(4, xi 0), (3, xi 0), (0, xr 9 0), (1, xi a1), (2, xi a2)]) (e_244 rfl) rfl rfl rfl ?_
  refine jr_iconst (e_244 rfl) rfl ?_
  refine jr_istore (L' := [(5, xi 0), (4, xi 0), (3, xi 0), (0, xr 9 0), (1, xi a1), (2, xi a2)]) (e_244 rfl) rfl rfl rfl ?_
  refine jr_sub (show ([5, 4, 3, 0, 1, 2] : List Nat).Nodup from by decide) (xsb_c (List.Mem.tail _ (List.Mem.tail _ (List.Mem.tail _ (List.Mem.head _)))) (xsb_c (List.Mem.tail _ (List.Mem.tail _ (List.Mem.tail _ (List.Mem.tail _ (List.Mem.tail _ (List.Mem.head _)))))) (xsb_c (List.Mem.tail _ (List.Mem.tail _ (List.Mem.head _))) (xsb_c (List.Mem.tail _ (List.Mem.head _)) (xsb_c (List.Mem.head _) xsb_n))))) (jl_M_findOff_22 a2 σ _ (fun v17 s18 => ?_) xFU 0 0 s3)
  refine jr_sub (show ([0, 3, 4] : List Nat).Nodup from by decide) (xsb_c (List.Mem.head _) (xsb_c (List.Mem.tail _ (List.Mem.head _)) (xsb_c (List.Mem.tail _ (List.Mem.tail _ (List.Mem.head _))) xsb_n))) (jl_M_findOff_107 σ _ (fun s20 => ?_) xFU v17 0 s18)
  exact jr_retV (e_244 rfl)

theorem e_245 {pc : Nat} {en : xa_I} (h : xlk pc xc_245 = some en) : xcd 245 pc = some en := h
noncomputable def fm_M_standOf (a1 : Int) (σ : xa_H) : Option (Int) :=
  if 0 ≤ a1 ∧ a1 < 5 then
    if 0 ≤ a1 ∧ a1 < 5 then
      some (w32 ((w32 (144 * (σ 63 0 a1.toNat))) + (σ 62 0 a1.toNat)))
    else none
  else none
theorem jm_M_standOf (a1 : Int) (σ : xa_H) : J 245 0 [(0, xr 9 0), (1, xi a1)] [] σ (jqP σ) (fm_M_standOf a1 σ) := by
  unfold fm_M_standOf
  refine jr_sipush (e_245 rfl) rfl ?_
  refine jr_aload_n (e_245 rfl) rfl rfl ?_
  refine jr_getr (K2 := 63) (i2 := 0) (e_245 rfl) rfl rfl rfl ?_
  refine jr_iload_n (e_245 rfl) rfl rfl ?_
  refine jr_ald (n := 5) (e_245 rfl) rfl rfl rfl ?_
  refine jr_imul (e_245 rfl) rfl ?_
  refine jr_aload_n (e_245 rfl) rfl rfl ?_
  refine jr_getr (K2 := 62) (i2 := 0) (e_245 rfl) rfl rfl rfl ?_
  refine jr_iload_n (e_245 rfl) rfl rfl ?_
  refine jr_ald (n := 5) (e_245 rfl) rfl rfl rfl ?_
  refine jr_iadd (e_245 rfl) rfl ?_
  exact jr_retP (e_245 rfl) rfl

theorem e_246 {pc : Nat} {en : xa_I} (h : xlk pc xc_246 = some en) : xcd 246 pc = some en := h
noncomputable def fm_M_bestMove_9 (f1 : Int) (K : Int → xa_H → Option (Int × xa_H)) : Nat → Int → Int → xa_H → Option (Int × xa_H)
  | 0, _, _, _ => none
  | n + 1, x2, x3, sh =>
    xj (fun (v2 : Int) (v3 : Int) (s4 : xa_H) =>
      if 0 ≤ v3 ∧ v3 < 3456 then
        (fm_M_costOf v2 s4).bind fun v10 =>
        if 0 ≤ f1 ∧ f1 < 3456 then
          if (xcmp (w64 ((s4 71 0 v3.toNat) + v10)) (s4 71 0 f1.toNat)) = 0 then
            K v2 s4
          else
            xnm (w32 (v2 + 1) : Int) fun v12 =>
            xb2 (fm_M_next f1 v12 s4) fun v13 s14 =>
            fm_M_bestMove_9 f1 K n v12 v13 s14
        else none
      else none) fun K5 =>
    if x3 < 0 then
      xnm (w32 (x2 + 1) : Int) fun v7 =>
      xb2 (fm_M_next f1 v7 sh) fun v8 s9 =>
      fm_M_bestMove_9 f1 K n v7 v8 s9
    else
      K5 x2 x3 sh
theorem jl_M_bestMove_9 (f1 : Int) (σ : xa_H)  (K : Int → xa_H → Option (Int × xa_H)) (hK9 : ∀ (z0 : Int) (sz : xa_H), J 246 48 [(2, xi z0)] [] sz jqW (K z0 sz)) : ∀ (n : Nat) (x2 : Int) (x3 : Int) (sh : xa_H), J 246 9 [(0, xr 9 0), (1, xi f1), (2, xi x2), (3, xi x3)] [] sh jqW (fm_M_bestMove_9 f1 K n x2 x3 sh) := by
  intro n
  induction n with
  | zero => intro x2 x3 sh; exact jr_none
  | succ n ih9 =>
    intro x2 x3 sh
    rw [fm_M_bestMove_9]
    refine jr_iload_n (e_246 rfl) rfl rfl ?_
    refine jr_j (fun K5 => ∀ (v2 : Int) (v3 : Int) (s4 : xa_H), J 246 13 [(0, xr 9 0), (1, xi f1), (2, xi v2), (3, xi v3)] [] s4 jqW (K5 v2 v3 s4)) (fun v2 v3 s4 => ?_) (fun K5 hK5 => ?_)
    · refine jr_aload_n (e_246 rfl) rfl rfl ?_
      refine jr_getr (K2 := 71) (i2 := 0) (e_246 rfl) rfl rfl rfl ?_
      refine jr_iload_n (e_246 rfl) rfl rfl ?_
      refine jr_lald (n := 3456) (e_246 rfl) rfl rfl rfl ?_
      refine jr_aload_n (e_246 rfl) rfl rfl ?_
      refine jr_iload_n (e_246 rfl) rfl rfl ?_
      refine jr_callL (as := [xr 9 0, xi v2]) (S1 := [xl (s4 71 0 v3.toNat)]) (e_246 rfl) rfl rfl rfl rfl rfl rfl (jm_M_costOf v2 s4) rfl (fun v10 => ?_)
      refine jr_ladd (e_246 rfl) rfl ?_
      refine jr_aload_n (e_246 rfl) rfl rfl ?_
      refine jr_getr (K2 := 71) (i2 := 0) (e_246 rfl) rfl rfl rfl ?_
      refine jr_iload_n (e_246 rfl) rfl rfl ?_
      refine jr_lald (n := 3456) (e_246 rfl) rfl rfl rfl ?_
      refine jr_lcmp (e_246 rfl) rfl ?_
      refine jr_bri (c := (xcmp (w64 ((s4 71 0 v3.toNat) + v10)) (s4 71 0 f1.toNat)) = 0) (pt := 48) (pn := 35) (e_246 rfl) rfl rfl (fun h11 => ?_) (fun h11 => ?_)
      · exact jr_sub (show ([0, 1, 2, 3] : List Nat).Nodup from by decide) (xsb_c (List.Mem.tail _ (List.Mem.tail _ (List.Mem.head _))) xsb_n) (hK9 v2 s4)
      · refine jr_iinc (L2 := fun c => [(2, xi c), (0, xr 9 0), (1, xi f1), (3, xi v3)]) (e_246 rfl) rfl rfl rfl (fun _ => rfl) (fun v12 => ?_)
        refine jr_aload_n (e_246 rfl) rfl rfl ?_
        refine jr_iload_n (e_246 rfl) rfl rfl ?_
        refine jr_iload_n (e_246 rfl) rfl rfl ?_
        refine jr_callX (as := [xr 9 0, xi f1, xi v12]) (S1 := []) (e_246 rfl) rfl rfl rfl rfl rfl rfl (jm_M_next f1 v12 s4) rfl (fun v13 s14 => ?_)
        refine jr_istore_n (L' := [(3, xi v13), (2, xi v12), (0, xr 9 0), (1, xi f1)]) (e_246 rfl) rfl rfl rfl ?_
        refine jr_goto (pc' := 9) (e_246 rfl) rfl ?_
        exact jr_sub (show ([3, 2, 0, 1] : List Nat).Nodup from by decide) (xsb_c (List.Mem.tail _ (List.Mem.tail _ (List.Mem.head _))) (xsb_c (List.Mem.tail _ (List.Mem.tail _ (List.Mem.tail _ (List.Mem.head _)))) (xsb_c (List.Mem.tail _ (List.Mem.head _)) (xsb_c (List.Mem.head _) xsb_n)))) (ih9 v12 v13 s14)
    · refine jr_bri (c := x3 < 0) (pt := 35) (pn := 13) (e_246 rfl) rfl rfl (fun h6 => ?_) (fun h6 => ?_)
      · refine jr_iinc (L2 := fun c => [(2, xi c), (0, xr 9 0), (1, xi f1), (3, xi x3)]) (e_246 rfl) rfl rfl rfl (fun _ => rfl) (fun v7 => ?_)
        refine jr_aload_n (e_246 rfl) rfl rfl ?_
        refine jr_iload_n (e_246 rfl) rfl rfl ?_
        refine jr_iload_n (e_246 rfl) rfl rfl ?_
        refine jr_callX (as := [xr 9 0, xi f1, xi v7]) (S1 := []) (e_246 rfl) rfl rfl rfl rfl rfl rfl (jm_M_next f1 v7 sh) rfl (fun v8 s9 => ?_)
        refine jr_istore_n (L' := [(3, xi v8), (2, xi v7), (0, xr 9 0), (1, xi f1)]) (e_246 rfl) rfl rfl rfl ?_
        refine jr_goto (pc' := 9) (e_246 rfl) rfl ?_
        exact jr_sub (show ([3, 2, 0, 1] : List Nat).Nodup from by decide) (xsb_c (List.Mem.tail _ (List.Mem.tail _ (List.Mem.head _))) (xsb_c (List.Mem.tail _ (List.Mem.tail _ (List.Mem.tail _ (List.Mem.head _)))) (xsb_c (List.Mem.tail _ (List.Mem.head _)) (xsb_c (List.Mem.head _) xsb_n)))) (ih9 v7 v8 s9)
      · exact jr_sub (show ([0, 1, 2, 3] : List Nat).Nodup from by decide) (xsb_c (List.Mem.head _) (xsb_c (List.Mem.tail _ (List.Mem.head _)) (xsb_c (List.Mem.tail _ (List.Mem.tail _ (List.Mem.head _))) (xsb_c (List.Mem.tail _ (List.Mem.tail _ (List.Mem.tail _ (List.Mem.head _)))) xsb_n)))) (hK5 x2 x3 sh)
noncomputable def fm_M_bestMove (a1 : Int) (σ : xa_H) : Option (Int × xa_H) :=
  xb2 (fm_M_next a1 0 σ) fun v1 s2 =>
  fm_M_bestMove_9 a1 (fun (v15 : Int) (s16 : xa_H) =>
    some (v15, s16)) xFU 0 v1 s2
theorem jm_M_bestMove (a1 : Int) (σ : xa_H) : J 246 0 [(0, xr 9 0), (1, xi a1)] [] σ jqW (fm_M_bestMove a1 σ) := by
  unfold fm_M_bestMove
  refine jr_iconst (e_246 rfl) rfl ?_
  refine jr_istore_n (L' := [(2, xi 0), (0, xr 9 0), (1, xi a1)]) (e_246 rfl) rfl rfl rfl ?_
  refine jr_aload_n (e_246 rfl) rfl rfl ?_
  refine jr_iload_n (e_246 rfl) rfl rfl ?_
  refine jr_iload_n (e_246 rfl) rfl rfl ?_
  refine jr_callX (as := [xr 9 0, xi a1, xi 0]) (S1 := []) (e_246 rfl) rfl rfl rfl rfl rfl rfl (jm_M_next a1 0 σ) rfl (fun v1 s2 => ?_)
  refine jr_istore_n (L' := [(3, xi v1), (2, xi 0), (0, xr 9 0), (1, xi a1)]) (e_246 rfl) rfl rfl rfl ?_
  refine jr_sub (show ([3, 2, 0, 1] : List Nat).Nodup from by decide) (xsb_c (List.Mem.tail _ (List.Mem.tail _ (List.Mem.head _))) (xsb_c (List.Mem.tail _ (List.Mem.tail _ (List.Mem.tail _ (List.Mem.head _)))) (xsb_c (List.Mem.tail _ (List.Mem.head _)) (xsb_c (List.Mem.head _) xsb_n)))) (jl_M_bestMove_9 a1 σ _ (fun v15 s16 => ?_) xFU 0 v1 s2)
  refine jr_iload_n (e_246 rfl) rfl rfl ?_
  exact jr_retW (e_246 rfl) rfl

theorem e_247 {pc : Nat} {en : xa_I} (h : xlk pc xc_247 = some en) : xcd 247 pc = some en := h
noncomputable def fm_M_moveAt_9 (f2 : Int) (K : xa_H → Option (Int × xa_H)) : Nat → Int → Int → xa_H → Option (Int × xa_H)
  | 0, _, _, _ => none
  | n + 1, x3, x4, sh =>
    if f2 < x4 then
      K sh
    else
      if 0 ≤ x3 ∧ x3 < 3456 then
        if (xcmp (sh 71 0 x3.toNat) 0) = 0 then
          some ((-6), sh)
        else
          xb2 (fm_M_bestMove x3 sh) fun v3 s4 =>
          if x4 = f2 then
            (fm_M_signOf v3).bind fun v6 =>
            some (v6, s4)
          else
            xb2 (fm_M_next x3 v3 s4) fun v7 s8 =>
            xnm (w32 (x4 + 1) : Int) fun v9 =>
            fm_M_moveAt_9 f2 K n v7 v9 s8
      else none
theorem jl_M_moveAt_9 (f2 : Int) (σ : xa_H)  (K : xa_H → Option (Int × xa_H)) (hK9 : ∀ (sz : xa_H), J 247 62 [] [] sz jqW (K sz)) : ∀ (n : Nat) (x3 : Int) (x4 : Int) (sh : xa_H), J 247 9 [(0, xr 9 0), (2, xi f2), (3, xi x3), (4, xi x4)] [] sh jqW (fm_M_moveAt_9 f2 K n x3 x4 sh) := by
  intro n
  induction n with
  | zero => intro x3 x4 sh; exact jr_none
  | succ n ih9 =>
    intro x3 x4 sh
    rw [fm_M_moveAt_9]
    refine jr_iload (e_247 rfl) rfl rfl ?_
    refine jr_iload_n (e_247 rfl) rfl rfl ?_
    refine jr_bri (c := f2 < x4) (pt := 62) (pn := 15) (e_247 rfl) rfl rfl (fun h1 => ?_) (fun h1 => ?_)
    · exact jr_sub (show ([0, 2, 3, 4] : List Nat).Nodup from by decide) xsb_n (hK9 sh)
    · refine jr_aload_n (e_247 rfl) rfl rfl ?_
      refine jr_getr (K2 := 71) (i2 := 0) (e_247 rfl) rfl rfl rfl ?_
      refine jr_iload_n (e_247 rfl) rfl rfl ?_
      refine jr_lald (n := 3456) (e_247 rfl) rfl rfl rfl ?_
      refine jr_lconst (a := 0) (e_247 rfl) rfl rfl ?_
      refine jr_lcmp (e_247 rfl) rfl ?_
      refine jr_brx (c := (xcmp (sh 71 0 x3.toNat) 0) = 0) (pt := 29) (pn := 26) (e_247 rfl) rfl rfl (fun h2 => ?_) (fun h2 => ?_)
      · refine jr_bipush (e_247 rfl) rfl ?_
        exact jr_retW (e_247 rfl) rfl
      · refine jr_aload_n (e_247 rfl) rfl rfl ?_
        refine jr_iload_n (e_247 rfl) rfl rfl ?_
        refine jr_callX (as := [xr 9 0, xi x3]) (S1 := []) (e_247 rfl) rfl rfl rfl rfl rfl rfl (jm_M_bestMove x3 sh) rfl (fun v3 s4 => ?_)
        refine jr_istore (L' := [(5, xi v3), (0, xr 9 0), (2, xi f2), (3, xi x3), (4, xi x4)]) (e_247 rfl) rfl rfl rfl ?_
        refine jr_iload (e_247 rfl) rfl rfl ?_
        refine jr_iload_n (e_247 rfl) rfl rfl ?_
        refine jr_brx (c := x4 = f2) (pt := 48) (pn := 42) (e_247 rfl) rfl rfl (fun h5 => ?_) (fun h5 => ?_)
        · refine jr_iload (e_247 rfl) rfl rfl ?_
          refine jr_callP (as := [xi v3]) (S1 := []) (e_247 rfl) rfl rfl rfl rfl rfl rfl (jm_M_signOf v3 s4) rfl (fun v6 => ?_)
          exact jr_retW (e_247 rfl) rfl
        · refine jr_aload_n (e_247 rfl) rfl rfl ?_
          refine jr_iload_n (e_247 rfl) rfl rfl ?_
          refine jr_iload (e_247 rfl) rfl rfl ?_
          refine jr_callX (as := [xr 9 0, xi x3, xi v3]) (S1 := []) (e_247 rfl) rfl rfl rfl rfl rfl rfl (jm_M_next x3 v3 s4) rfl (fun v7 s8 => ?_)
          refine jr_istore_n (L' := [(3, xi v7), (5, xi v3), (0, xr 9 0), (2, xi f2), (4, xi x4)]) (e_247 rfl) rfl rfl rfl ?_
          refine jr_iinc (L2 := fun c => [(4, xi c), (3, xi v7), (5, xi v3), (0, xr 9 0), (2, xi f2)]) (e_247 rfl) rfl rfl rfl (fun _ => rfl) (fun v9 => ?_)
          refine jr_goto (pc' := 9) (e_247 rfl) rfl ?_
          exact jr_sub (show ([4, 3, 5, 0, 2] : List Nat).Nodup from by decide) (xsb_c (List.Mem.tail _ (List.Mem.tail _ (List.Mem.tail _ (List.Mem.head _)))) (xsb_c (List.Mem.tail _ (List.Mem.tail _ (List.Mem.tail _ (List.Mem.tail _ (List.Mem.head _))))) (xsb_c (List.Mem.tail _ (List.Mem.head _)) (xsb_c (List.Mem.head _) xsb_n)))) (ih9 v7 v9 s8)
noncomputable def fm_M_moveAt (a1 : Int) (a2 : Int) (σ : xa_H) : Option (Int × xa_H) :=
  (fm_M_standOf a1 σ).bind fun v1 =>
  fm_M_moveAt_9 a2 (fun (s10 : xa_H) =>
    some ((-6), s10)) xFU v1 0 σ
theorem jm_M_moveAt (a1 : Int) (a2 : Int) (σ : xa_H) : J 247 0 [(0, xr 9 0), (1, xi a1), (2, xi a2)] [] σ jqW (fm_M_moveAt a1 a2 σ) := by
  unfold fm_M_moveAt
  refine jr_aload_n (e_247 rfl) rfl rfl ?_
  refine jr_iload_n (e_247 rfl) rfl rfl ?_
  refine jr_callP (as := [xr 9 0, xi a1]) (S1 := []) (e_247 rfl) rfl rfl rfl rfl rfl rfl (jm_M_standOf a1 σ) rfl (fun v1 => ?_)
  refine jr_istore_n (L' := [(3, xi v1), (0, xr 9 0), (1, xi a1), (2, xi a2)]) (e_247 rfl) rfl rfl rfl ?_
  refine jr_iconst (e_247 rfl) rfl ?_
  refine jr_istore (L' := [(4, xi 0), (3, xi v1), (0, xr 9 0), (1, xi a1), (2, xi a2)]) (e_247 rfl) rfl rfl rfl ?_
  refine jr_sub (show ([4, 3, 0, 1, 2] : List Nat).Nodup from by decide) (xsb_c (List.Mem.tail _ (List.Mem.tail _ (List.Mem.head _))) (xsb_c (List.Mem.tail _ (List.Mem.tail _ (List.Mem.tail _ (List.Mem.tail _ (List.Mem.head _))))) (xsb_c (List.Mem.tail _ (List.Mem.head _)) (xsb_c (List.Mem.head _) xsb_n)))) (jl_M_moveAt_9 a2 σ _ (fun s10 => ?_) xFU v1 0 σ)
  refine jr_bipush (e_247 rfl) rfl ?_
  exact jr_retW (e_247 rfl) rfl

theorem e_248 {pc : Nat} {en : xa_I} (h : xlk pc xc_248 = some en) : xcd 248 pc = some en := h
noncomputable def fm_M_isSet (a0 : Int) : Option (Int) :=
  (fm_M_in a0 0 15).bind fun v1 =>
  some (v1 % 2)
theorem jm_M_isSet (a0 : Int) (σ : xa_H) : J 248 0 [(0, xi a0)] [] σ (jqP σ) (fm_M_isSet a0) := by
  unfold fm_M_isSet
  refine jr_iload_n (e_248 rfl) rfl rfl ?_
  refine jr_i2l (e_248 rfl) rfl ?_
  refine jr_lconst (a := 0) (e_248 rfl) rfl rfl ?_
  refine jr_ldc2 (a := 15) (e_248 rfl) rfl rfl ?_
  refine jr_callP (as := [xl a0, xl 0, xl 15]) (S1 := []) (e_248 rfl) rfl rfl rfl rfl rfl rfl (jm_M_in a0 0 15 σ) rfl (fun v1 => ?_)
  exact jr_retPz (e_248 rfl) rfl rfl

theorem e_249 {pc : Nat} {en : xa_I} (h : xlk pc xc_249 = some en) : xcd 249 pc = some en := h
noncomputable def fm_M_goes (a1 : Int) (a2 : Int) (a3 : Int) (a4 : Int) (σ : xa_H) : Option (Int × xa_H) :=
  (fm_M_isThing a1).bind fun v1 =>
  if v1 = 0 then
    some ((-1), σ)
  else
    (fm_M_isSet a2).bind fun v3 =>
    if v3 = 0 then
      some ((-2), σ)
    else
      (fm_M_isSet a3).bind fun v5 =>
      if v5 = 0 then
        some ((-2), σ)
      else
        if 0 ≤ a1 ∧ a1 < 5 then
          if 0 ≤ (σ 62 0 a1.toNat) then
            (fm_M_takeOff a2 a3 σ).bind fun s8 =>
            xnm (xup s8 9 0 37 0) fun s9 =>
            if 0 ≤ a1 ∧ a1 < 5 then
              (fm_M_findOff a1 (s9 64 0 a1.toNat) s9).bind fun s10 =>
              (fm_M_standOf a1 s10).bind fun v11 =>
              if 0 ≤ v11 ∧ v11 < 3456 then
                xnm ((s10 71 0 v11.toNat) : Int) fun v12 =>
                if (xcmp v12 1000000000000000) = 0 then
                  some ((-6), s10)
                else
                  if a4 = (-1) then
                    some ((w32 v12), s10)
                  else
                    xb2 (fm_M_moveAt a1 a4 s10) fun v15 s16 =>
                    some (v15, s16)
              else none
            else none
          else
            some ((-3), σ)
        else none
theorem jm_M_goes (a1 : Int) (a2 : Int) (a3 : Int) (a4 : Int) (σ : xa_H) : J 249 0 [(0, xr 9 0), (1, xi a1), (2, xi a2), (3, xi a3), (4, xi a4)] [] σ jqW (fm_M_goes a1 a2 a3 a4 σ) := by
  unfold fm_M_goes
  refine jr_iload_n (e_249 rfl) rfl rfl ?_
  refine jr_callP (as := [xi a1]) (S1 := []) (e_249 rfl) rfl rfl rfl rfl rfl rfl (jm_M_isThing a1 σ) rfl (fun v1 => ?_)
  refine jr_brx (c := v1 = 0) (pt := 9) (pn := 7) (e_249 rfl) rfl rfl (fun h2 => ?_) (fun h2 => ?_)
  · refine jr_iconst (e_249 rfl) rfl ?_
    exact jr_retW (e_249 rfl) rfl
  · refine jr_iload_n (e_249 rfl) rfl rfl ?_
    refine jr_callP (as := [xi a2]) (S1 := []) (e_249 rfl) rfl rfl rfl rfl rfl rfl (jm_M_isSet a2 σ) rfl (fun v3 => ?_)
    refine jr_bri (c := v3 = 0) (pt := 23) (pn := 16) (e_249 rfl) rfl rfl (fun h4 => ?_) (fun h4 => ?_)
    · refine jr_bipush (e_249 rfl) rfl ?_
      exact jr_retW (e_249 rfl) rfl
    · refine jr_iload_n (e_249 rfl) rfl rfl ?_
      refine jr_callP (as := [xi a3]) (S1 := []) (e_249 rfl) rfl rfl rfl rfl rfl rfl (jm_M_isSet a3 σ) rfl (fun v5 => ?_)
      refine jr_brx (c := v5 = 0) (pt := 26) (pn := 23) (e_249 rfl) rfl rfl (fun h6 => ?_) (fun h6 => ?_)
      · refine jr_bipush (e_249 rfl) rfl ?_
        exact jr_retW (e_249 rfl) rfl
      · refine jr_aload_n (e_249 rfl) rfl rfl ?_
        refine jr_getr (K2 := 62) (i2 := 0) (e_249 rfl) rfl rfl rfl ?_
        refine jr_iload_n (e_249 rfl) rfl rfl ?_
        refine jr_ald (n := 5) (e_249 rfl) rfl rfl rfl ?_
        refine jr_bri (c := 0 ≤ (σ 62 0 a1.toNat)) (pt := 38) (pn := 35) (e_249 rfl) rfl rfl (fun h7 => ?_) (fun h7 => ?_)
        · refine jr_aload_n (e_249 rfl) rfl rfl ?_
          refine jr_iload_n (e_249 rfl) rfl rfl ?_
          refine jr_iload_n (e_249 rfl) rfl rfl ?_
          refine jr_callV (as := [xr 9 0, xi a2, xi a3]) (S1 := []) (e_249 rfl) rfl rfl rfl rfl rfl rfl (jm_M_takeOff a2 a3 σ) rfl (fun s8 => ?_)
          refine jr_aload_n (e_249 rfl) rfl rfl ?_
          refine jr_iconst (e_249 rfl) rfl ?_
          refine jr_putz (e_249 rfl) rfl rfl rfl (by decide) ?_
          refine jr_nms (fun s9 => ?_)
          refine jr_aload_n (e_249 rfl) rfl rfl ?_
          refine jr_iload_n (e_249 rfl) rfl rfl ?_
          refine jr_aload_n (e_249 rfl) rfl rfl ?_
          refine jr_getr (K2 := 64) (i2 := 0) (e_249 rfl) rfl rfl rfl ?_
          refine jr_iload_n (e_249 rfl) rfl rfl ?_
          refine jr_ald (n := 5) (e_249 rfl) rfl rfl rfl ?_
          refine jr_callV (as := [xr 9 0, xi a1, xi (s9 64 0 a1.toNat)]) (S1 := []) (e_249 rfl) rfl rfl rfl rfl rfl rfl (jm_M_findOff a1 (s9 64 0 a1.toNat) s9) rfl (fun s10 => ?_)
          refine jr_aload_n (e_249 rfl) rfl rfl ?_
          refine jr_getr (K2 := 71) (i2 := 0) (e_249 rfl) rfl rfl rfl ?_
          refine jr_aload_n (e_249 rfl) rfl rfl ?_
          refine jr_iload_n (e_249 rfl) rfl rfl ?_
          refine jr_callP (as := [xr 9 0, xi a1]) (S1 := [xr 71 0]) (e_249 rfl) rfl rfl rfl rfl rfl rfl (jm_M_standOf a1 s10) rfl (fun v11 => ?_)
          refine jr_lald (n := 3456) (e_249 rfl) rfl rfl rfl ?_
          refine jr_nml (fun v12 => ?_)
          refine jr_lstore (L' := [(5, xl v12), (0, xr 9 0), (1, xi a1), (2, xi a2), (3, xi a3), (4, xi a4)]) (e_249 rfl) rfl rfl rfl ?_
          refine jr_lload (e_249 rfl) rfl rfl ?_
          refine jr_ldc2 (a := 1000000000000000) (e_249 rfl) rfl rfl ?_
          refine jr_lcmp (e_249 rfl) rfl ?_
          refine jr_brx (c := (xcmp v12 1000000000000000) = 0) (pt := 86) (pn := 81) (e_249 rfl) rfl rfl (fun h13 => ?_) (fun h13 => ?_)
          · refine jr_bipush (e_249 rfl) rfl ?_
            refine jr_goto (pc' := 105) (e_249 rfl) rfl ?_
            exact jr_retW (e_249 rfl) rfl
          · refine jr_iload (e_249 rfl) rfl rfl ?_
            refine jr_iconst (e_249 rfl) rfl ?_
            refine jr_brx (c := a4 = (-1)) (pt := 98) (pn := 92) (e_249 rfl) rfl rfl (fun h14 => ?_) (fun h14 => ?_)
            · refine jr_lload (e_249 rfl) rfl rfl ?_
              refine jr_l2i (e_249 rfl) rfl ?_
              refine jr_goto (pc' := 105) (e_249 rfl) rfl ?_
              exact jr_retW (e_249 rfl) rfl
            · refine jr_aload_n (e_249 rfl) rfl rfl ?_
              refine jr_iload_n (e_249 rfl) rfl rfl ?_
              refine jr_iload (e_249 rfl) rfl rfl ?_
              refine jr_callX (as := [xr 9 0, xi a1, xi a4]) (S1 := []) (e_249 rfl) rfl rfl rfl rfl rfl rfl (jm_M_moveAt a1 a4 s10) rfl (fun v15 s16 => ?_)
              exact jr_retW (e_249 rfl) rfl
        · refine jr_bipush (e_249 rfl) rfl ?_
          exact jr_retW (e_249 rfl) rfl

theorem e_250 {pc : Nat} {en : xa_I} (h : xlk pc xc_250 = some en) : xcd 250 pc = some en := h
noncomputable def fm_M_effort (a1 : Int) (a2 : Int) (a3 : Int) (a4 : Int) (σ : xa_H) : Option (Int × xa_H) :=
  (fm_M_isThing a1).bind fun v1 =>
  if v1 = 0 then
    some ((-1), σ)
  else
    (fm_M_isSet a2).bind fun v3 =>
    if v3 = 0 then
      some ((-2), σ)
    else
      (fm_M_isSet a3).bind fun v5 =>
      if v5 = 0 then
        some ((-2), σ)
      else
        if 0 ≤ a1 ∧ a1 < 5 then
          if 0 ≤ (σ 62 0 a1.toNat) then
            (fm_M_takeOff a2 a3 σ).bind fun s8 =>
            xnm (xup s8 9 0 37 1) fun s9 =>
            if 0 ≤ a1 ∧ a1 < 5 then
              (fm_M_findOff a1 (s9 64 0 a1.toNat) s9).bind fun s10 =>
              (fm_M_standOf a1 s10).bind fun v11 =>
              if 0 ≤ v11 ∧ v11 < 3456 then
                xnm ((s10 71 0 v11.toNat) : Int) fun v12 =>
                if (xcmp v12 1000000000000000) = 0 then
                  some ((-6), s10)
                else
                  if a4 = (-1) then
                    some ((w32 (xdiv v12 10000)), s10)
                  else
                    xb2 (fm_M_moveAt a1 a4 s10) fun v15 s16 =>
                    some (v15, s16)
              else none
            else none
          else
            some ((-3), σ)
        else none
theorem jm_M_effort (a1 : Int) (a2 : Int) (a3 : Int) (a4 : Int) (σ : xa_H) : J 250 0 [(0, xr 9 0), (1, xi a1), (2, xi a2), (3, xi a3), (4, xi a4)] [] σ jqW (fm_M_effort a1 a2 a3 a4 σ) := by
  unfold fm_M_effort
  refine jr_iload_n (e_250 rfl) rfl rfl ?_
  refine jr_callP (as := [xi a1]) (S1 := []) (e_250 rfl) rfl rfl rfl rfl rfl rfl (jm_M_isThing a1 σ) rfl (fun v1 => ?_)
  refine jr_brx (c := v1 = 0) (pt := 9) (pn := 7) (e_250 rfl) rfl rfl (fun h2 => ?_) (fun h2 => ?_)
  · refine jr_iconst (e_250 rfl) rfl ?_
    exact jr_retW (e_250 rfl) rfl
  · refine jr_iload_n (e_250 rfl) rfl rfl ?_
    refine jr_callP (as := [xi a2]) (S1 := []) (e_250 rfl) rfl rfl rfl rfl rfl rfl (jm_M_isSet a2 σ) rfl (fun v3 => ?_)
    refine jr_bri (c := v3 = 0) (pt := 23) (pn := 16) (e_250 rfl) rfl rfl (fun h4 => ?_) (fun h4 => ?_)
    · refine jr_bipush (e_250 rfl) rfl ?_
      exact jr_retW (e_250 rfl) rfl
    · refine jr_iload_n (e_250 rfl) rfl rfl ?_
      refine jr_callP (as := [xi a3]) (S1 := []) (e_250 rfl) rfl rfl rfl rfl rfl rfl (jm_M_isSet a3 σ) rfl (fun v5 => ?_)
      refine jr_brx (c := v5 = 0) (pt := 26) (pn := 23) (e_250 rfl) rfl rfl (fun h6 => ?_) (fun h6 => ?_)
      · refine jr_bipush (e_250 rfl) rfl ?_
        exact jr_retW (e_250 rfl) rfl
      · refine jr_aload_n (e_250 rfl) rfl rfl ?_
        refine jr_getr (K2 := 62) (i2 := 0) (e_250 rfl) rfl rfl rfl ?_
        refine jr_iload_n (e_250 rfl) rfl rfl ?_
        refine jr_ald (n := 5) (e_250 rfl) rfl rfl rfl ?_
        refine jr_bri (c := 0 ≤ (σ 62 0 a1.toNat)) (pt := 38) (pn := 35) (e_250 rfl) rfl rfl (fun h7 => ?_) (fun h7 => ?_)
        · refine jr_aload_n (e_250 rfl) rfl rfl ?_
          refine jr_iload_n (e_250 rfl) rfl rfl ?_
          refine jr_iload_n (e_250 rfl) rfl rfl ?_
          refine jr_callV (as := [xr 9 0, xi a2, xi a3]) (S1 := []) (e_250 rfl) rfl rfl rfl rfl rfl rfl (jm_M_takeOff a2 a3 σ) rfl (fun s8 => ?_)
          refine jr_aload_n (e_250 rfl) rfl rfl ?_
          refine jr_iconst (e_250 rfl) rfl ?_
          refine jr_putz (e_250 rfl) rfl rfl rfl (by decide) ?_
          refine jr_nms (fun s9 => ?_)
          refine jr_aload_n (e_250 rfl) rfl rfl ?_
          refine jr_iload_n (e_250 rfl) rfl rfl ?_
          refine jr_aload_n (e_250 rfl) rfl rfl ?_
          refine jr_getr (K2 := 64) (i2 := 0) (e_250 rfl) rfl rfl rfl ?_
          refine jr_iload_n (e_250 rfl) rfl rfl ?_
          refine jr_ald (n := 5) (e_250 rfl) rfl rfl rfl ?_
          refine jr_callV (as := [xr 9 0, xi a1, xi (s9 64 0 a1.toNat)]) (S1 := []) (e_250 rfl) rfl rfl rfl rfl rfl rfl (jm_M_findOff a1 (s9 64 0 a1.toNat) s9) rfl (fun s10 => ?_)
          refine jr_aload_n (e_250 rfl) rfl rfl ?_
          refine jr_getr (K2 := 71) (i2 := 0) (e_250 rfl) rfl rfl rfl ?_
          refine jr_aload_n (e_250 rfl) rfl rfl ?_
          refine jr_iload_n (e_250 rfl) rfl rfl ?_
          refine jr_callP (as := [xr 9 0, xi a1]) (S1 := [xr 71 0]) (e_250 rfl) rfl rfl rfl rfl rfl rfl (jm_M_standOf a1 s10) rfl (fun v11 => ?_)
          refine jr_lald (n := 3456) (e_250 rfl) rfl rfl rfl ?_
          refine jr_nml (fun v12 => ?_)
          refine jr_lstore (L' := [(5, xl v12), (0, xr 9 0), (1, xi a1), (2, xi a2), (3, xi a3), (4, xi a4)]) (e_250 rfl) rfl rfl rfl ?_
          refine jr_lload (e_250 rfl) rfl rfl ?_
          refine jr_ldc2 (a := 1000000000000000) (e_250 rfl) rfl rfl ?_
          refine jr_lcmp (e_250 rfl) rfl ?_
          refine jr_brx (c := (xcmp v12 1000000000000000) = 0) (pt := 86) (pn := 81) (e_250 rfl) rfl rfl (fun h13 => ?_) (fun h13 => ?_)
          · refine jr_bipush (e_250 rfl) rfl ?_
            refine jr_goto (pc' := 109) (e_250 rfl) rfl ?_
            exact jr_retW (e_250 rfl) rfl
          · refine jr_iload (e_250 rfl) rfl rfl ?_
            refine jr_iconst (e_250 rfl) rfl ?_
            refine jr_brx (c := a4 = (-1)) (pt := 102) (pn := 92) (e_250 rfl) rfl rfl (fun h14 => ?_) (fun h14 => ?_)
            · refine jr_lload (e_250 rfl) rfl rfl ?_
              refine jr_ldc2 (a := 10000) (e_250 rfl) rfl rfl ?_
              refine jr_ldiv (e_250 rfl) rfl (by decide) ?_
              refine jr_l2i (e_250 rfl) rfl ?_
              refine jr_goto (pc' := 109) (e_250 rfl) rfl ?_
              exact jr_retW (e_250 rfl) rfl
            · refine jr_aload_n (e_250 rfl) rfl rfl ?_
              refine jr_iload_n (e_250 rfl) rfl rfl ?_
              refine jr_iload (e_250 rfl) rfl rfl ?_
              refine jr_callX (as := [xr 9 0, xi a1, xi a4]) (S1 := []) (e_250 rfl) rfl rfl rfl rfl rfl rfl (jm_M_moveAt a1 a4 s10) rfl (fun v15 s16 => ?_)
              exact jr_retW (e_250 rfl) rfl
        · refine jr_bipush (e_250 rfl) rfl ?_
          exact jr_retW (e_250 rfl) rfl

theorem e_251 {pc : Nat} {en : xa_I} (h : xlk pc xc_251 = some en) : xcd 251 pc = some en := h
noncomputable def fm_M_comesTo_30 (f2 : Int) (K : xa_H → Option (Int × xa_H)) : Nat → Int → xa_H → Option (Int × xa_H)
  | 0, _, _ => none
  | n + 1, x3, sh =>
    if 3456 ≤ x3 then
      K sh
    else
      if x3 = f2 then
        if 0 ≤ x3 ∧ x3 < 3456 then
          xnm (xup sh 73 0 x3.toNat (1 % 2)) fun s3 =>
          xnm (w32 (x3 + 1) : Int) fun v4 =>
          fm_M_comesTo_30 f2 K n v4 s3
        else none
      else
        if 0 ≤ x3 ∧ x3 < 3456 then
          xnm (xup sh 73 0 x3.toNat (0 % 2)) fun s5 =>
          xnm (w32 (x3 + 1) : Int) fun v6 =>
          fm_M_comesTo_30 f2 K n v6 s5
        else none
theorem jl_M_comesTo_30 (f2 : Int) (σ : xa_H)  (K : xa_H → Option (Int × xa_H)) (hK30 : ∀ (sz : xa_H), J 251 59 [(0, xr 9 0), (2, xi f2)] [] sz jqW (K sz)) : ∀ (n : Nat) (x3 : Int) (sh : xa_H), J 251 30 [(0, xr 9 0), (2, xi f2), (3, xi x3)] [] sh jqW (fm_M_comesTo_30 f2 K n x3 sh) := by
  intro n
  induction n with
  | zero => intro x3 sh; exact jr_none
  | succ n ih30 =>
    intro x3 sh
    rw [fm_M_comesTo_30]
    refine jr_iload_n (e_251 rfl) rfl rfl ?_
    refine jr_sipush (e_251 rfl) rfl ?_
    refine jr_bri (c := 3456 ≤ x3) (pt := 59) (pn := 37) (e_251 rfl) rfl rfl (fun h1 => ?_) (fun h1 => ?_)
    · exact jr_sub (show ([0, 2, 3] : List Nat).Nodup from by decide) (xsb_c (List.Mem.head _) (xsb_c (List.Mem.tail _ (List.Mem.head _)) xsb_n)) (hK30 sh)
    · refine jr_aload_n (e_251 rfl) rfl rfl ?_
      refine jr_getr (K2 := 73) (i2 := 0) (e_251 rfl) rfl rfl rfl ?_
      refine jr_iload_n (e_251 rfl) rfl rfl ?_
      refine jr_iload_n (e_251 rfl) rfl rfl ?_
      refine jr_iload_n (e_251 rfl) rfl rfl ?_
      refine jr_brx (c := x3 = f2) (pt := 51) (pn := 47) (e_251 rfl) rfl rfl (fun h2 => ?_) (fun h2 => ?_)
      · refine jr_iconst (e_251 rfl) rfl ?_
        refine jr_goto (pc' := 52) (e_251 rfl) rfl ?_
        refine jr_bast (n := 3456) (e_251 rfl) rfl rfl rfl rfl ?_
        refine jr_nms (fun s3 => ?_)
        refine jr_iinc (L2 := fun c => [(3, xi c), (0, xr 9 0), (2, xi f2)]) (e_251 rfl) rfl rfl rfl (fun _ => rfl) (fun v4 => ?_)
        refine jr_goto (pc' := 30) (e_251 rfl) rfl ?_
        exact jr_sub (show ([3, 0, 2] : List Nat).Nodup from by decide) (xsb_c (List.Mem.tail _ (List.Mem.head _)) (xsb_c (List.Mem.tail _ (List.Mem.tail _ (List.Mem.head _))) (xsb_c (List.Mem.head _) xsb_n))) (ih30 v4 s3)
      · refine jr_iconst (e_251 rfl) rfl ?_
        refine jr_bast (n := 3456) (e_251 rfl) rfl rfl rfl rfl ?_
        refine jr_nms (fun s5 => ?_)
        refine jr_iinc (L2 := fun c => [(3, xi c), (0, xr 9 0), (2, xi f2)]) (e_251 rfl) rfl rfl rfl (fun _ => rfl) (fun v6 => ?_)
        refine jr_goto (pc' := 30) (e_251 rfl) rfl ?_
        exact jr_sub (show ([3, 0, 2] : List Nat).Nodup from by decide) (xsb_c (List.Mem.tail _ (List.Mem.head _)) (xsb_c (List.Mem.tail _ (List.Mem.tail _ (List.Mem.head _))) (xsb_c (List.Mem.head _) xsb_n))) (ih30 v6 s5)
noncomputable def fm_M_comesTo_80 (f4 : Int) (K : Int → xa_H → Option (Int × xa_H)) : Nat → Int → Int → xa_H → Option (Int × xa_H)
  | 0, _, _, _ => none
  | n + 1, x3, x5, sh =>
    if 12 ≤ x5 then
      K x3 sh
    else
      if 0 ≤ f4 ∧ f4 < 3456 then
        xb2 (fm_M_next (sh 72 0 f4.toNat) x5 sh) fun v2 s3 =>
        if v2 < 0 then
          xnm (w32 (x5 + 1) : Int) fun v5 =>
          fm_M_comesTo_80 f4 K n x3 v5 s3
        else
          if 0 ≤ v2 ∧ v2 < 3456 then
            if (s3 73 0 v2.toNat) = 0 then
              if 0 ≤ v2 ∧ v2 < 3456 then
                xnm (xup s3 73 0 v2.toNat (1 % 2)) fun s7 =>
                if 0 ≤ x3 ∧ x3 < 3456 then
                  xnm (xup s7 72 0 x3.toNat v2) fun s8 =>
                  xnm (w32 (x3 + 1) : Int) fun v9 =>
                  xnm (w32 (x5 + 1) : Int) fun v10 =>
                  fm_M_comesTo_80 f4 K n v9 v10 s8
                else none
              else none
            else
              xnm (w32 (x5 + 1) : Int) fun v11 =>
              fm_M_comesTo_80 f4 K n x3 v11 s3
          else none
      else none
theorem jl_M_comesTo_80 (f4 : Int) (σ : xa_H)  (K : Int → xa_H → Option (Int × xa_H)) (hK80 : ∀ (z0 : Int) (sz : xa_H), J 251 142 [(0, xr 9 0), (3, xi z0), (4, xi f4)] [] sz jqW (K z0 sz)) : ∀ (n : Nat) (x3 : Int) (x5 : Int) (sh : xa_H), J 251 80 [(0, xr 9 0), (3, xi x3), (4, xi f4), (5, xi x5)] [] sh jqW (fm_M_comesTo_80 f4 K n x3 x5 sh) := by
  intro n
  induction n with
  | zero => intro x3 x5 sh; exact jr_none
  | succ n ih80 =>
    intro x3 x5 sh
    rw [fm_M_comesTo_80]
    refine jr_iload (e_251 rfl) rfl rfl ?_
    refine jr_bipush (e_251 rfl) rfl ?_
    refine jr_bri (c := 12 ≤ x5) (pt := 142) (pn := 87) (e_251 rfl) rfl rfl (fun h1 => ?_) (fun h1 => ?_)
    · exact jr_sub (show ([0, 3, 4, 5] : List Nat).Nodup from by decide) (xsb_c (List.Mem.head _) (xsb_c (List.Mem.tail _ (List.Mem.head _)) (xsb_c (List.Mem.tail _ (List.Mem.tail _ (List.Mem.head _))) xsb_n))) (hK80 x3 sh)
    · refine jr_aload_n (e_251 rfl) rfl rfl ?_
      refine jr_aload_n (e_251 rfl) rfl rfl ?_
      refine jr_getr (K2 := 72) (i2 := 0) (e_251 rfl) rfl rfl rfl ?_
      refine jr_iload (e_251 rfl) rfl rfl ?_
      refine jr_ald (n := 3456) (e_251 rfl) rfl rfl rfl ?_
      refine jr_iload (e_251 rfl) rfl rfl ?_
      refine jr_callX (as := [xr 9 0, xi (sh 72 0 f4.toNat), xi x5]) (S1 := []) (e_251 rfl) rfl rfl rfl rfl rfl rfl (jm_M_next (sh 72 0 f4.toNat) x5 sh) rfl (fun v2 s3 => ?_)
      refine jr_istore (L' := [(6, xi v2), (0, xr 9 0), (3, xi x3), (4, xi f4), (5, xi x5)]) (e_251 rfl) rfl rfl rfl ?_
      refine jr_iload (e_251 rfl) rfl rfl ?_
      refine jr_bri (c := v2 < 0) (pt := 136) (pn := 107) (e_251 rfl) rfl rfl (fun h4 => ?_) (fun h4 => ?_)
      · refine jr_iinc (L2 := fun c => [(5, xi c), (6, xi v2), (0, xr 9 0), (3, xi x3), (4, xi f4)]) (e_251 rfl) rfl rfl rfl (fun _ => rfl) (fun v5 => ?_)
        refine jr_goto (pc' := 80) (e_251 rfl) rfl ?_
        exact jr_sub (show ([5, 6, 0, 3, 4] : List Nat).Nodup from by decide) (xsb_c (List.Mem.tail _ (List.Mem.tail _ (List.Mem.head _))) (xsb_c (List.Mem.tail _ (List.Mem.tail _ (List.Mem.tail _ (List.Mem.head _)))) (xsb_c (List.Mem.tail _ (List.Mem.tail _ (List.Mem.tail _ (List.Mem.tail _ (List.Mem.head _))))) (xsb_c (List.Mem.head _) xsb_n)))) (ih80 x3 v5 s3)
      · refine jr_aload_n (e_251 rfl) rfl rfl ?_
        refine jr_getr (K2 := 73) (i2 := 0) (e_251 rfl) rfl rfl rfl ?_
        refine jr_iload (e_251 rfl) rfl rfl ?_
        refine jr_bald (n := 3456) (e_251 rfl) rfl rfl rfl ?_
        refine jr_brx (c := (s3 73 0 v2.toNat) = 0) (pt := 136) (pn := 117) (e_251 rfl) rfl rfl (fun h6 => ?_) (fun h6 => ?_)
        · refine jr_aload_n (e_251 rfl) rfl rfl ?_
          refine jr_getr (K2 := 73) (i2 := 0) (e_251 rfl) rfl rfl rfl ?_
          refine jr_iload (e_251 rfl) rfl rfl ?_
          refine jr_iconst (e_251 rfl) rfl ?_
          refine jr_bast (n := 3456) (e_251 rfl) rfl rfl rfl rfl ?_
          refine jr_nms (fun s7 => ?_)
          refine jr_aload_n (e_251 rfl) rfl rfl ?_
          refine jr_getr (K2 := 72) (i2 := 0) (e_251 rfl) rfl rfl rfl ?_
          refine jr_iload_n (e_251 rfl) rfl rfl ?_
          refine jr_iload (e_251 rfl) rfl rfl ?_
          refine jr_ast (n := 3456) (e_251 rfl) rfl rfl rfl rfl ?_
          refine jr_nms (fun s8 => ?_)
          refine jr_iinc (L2 := fun c => [(3, xi c), (6, xi v2), (0, xr 9 0), (4, xi f4), (5, xi x5)]) (e_251 rfl) rfl rfl rfl (fun _ => rfl) (fun v9 => ?_)
          refine jr_iinc (L2 := fun c => [(5, xi c), (3, xi v9), (6, xi v2), (0, xr 9 0), (4, xi f4)]) (e_251 rfl) rfl rfl rfl (fun _ => rfl) (fun v10 => ?_)
          refine jr_goto (pc' := 80) (e_251 rfl) rfl ?_
          exact jr_sub (show ([5, 3, 6, 0, 4] : List Nat).Nodup from by decide) (xsb_c (List.Mem.tail _ (List.Mem.tail _ (List.Mem.tail _ (List.Mem.head _)))) (xsb_c (List.Mem.tail _ (List.Mem.head _)) (xsb_c (List.Mem.tail _ (List.Mem.tail _ (List.Mem.tail _ (List.Mem.tail _ (List.Mem.head _))))) (xsb_c (List.Mem.head _) xsb_n)))) (ih80 v9 v10 s8)
        · refine jr_iinc (L2 := fun c => [(5, xi c), (6, xi v2), (0, xr 9 0), (3, xi x3), (4, xi f4)]) (e_251 rfl) rfl rfl rfl (fun _ => rfl) (fun v11 => ?_)
          refine jr_goto (pc' := 80) (e_251 rfl) rfl ?_
          exact jr_sub (show ([5, 6, 0, 3, 4] : List Nat).Nodup from by decide) (xsb_c (List.Mem.tail _ (List.Mem.tail _ (List.Mem.head _))) (xsb_c (List.Mem.tail _ (List.Mem.tail _ (List.Mem.tail _ (List.Mem.head _)))) (xsb_c (List.Mem.tail _ (List.Mem.tail _ (List.Mem.tail _ (List.Mem.tail _ (List.Mem.head _))))) (xsb_c (List.Mem.head _) xsb_n)))) (ih80 x3 v11 s3)
noncomputable def fm_M_comesTo_71  (K : Int → xa_H → Option (Int × xa_H)) : Nat → Int → Int → xa_H → Option (Int × xa_H)
  | 0, _, _, _ => none
  | n + 1, x3, x4, sh =>
    if x3 ≤ x4 then
      K x3 sh
    else
      fm_M_comesTo_80 x4 (fun (v12 : Int) (s13 : xa_H) =>
        xnm (w32 (x4 + 1) : Int) fun v14 =>
        fm_M_comesTo_71 K n v12 v14 s13) xFU x3 0 sh
theorem jl_M_comesTo_71  (σ : xa_H)  (K : Int → xa_H → Option (Int × xa_H)) (hK71 : ∀ (z0 : Int) (sz : xa_H), J 251 148 [(3, xi z0)] [] sz jqW (K z0 sz)) : ∀ (n : Nat) (x3 : Int) (x4 : Int) (sh : xa_H), J 251 71 [(0, xr 9 0), (3, xi x3), (4, xi x4)] [] sh jqW (fm_M_comesTo_71 K n x3 x4 sh) := by
  intro n
  induction n with
  | zero => intro x3 x4 sh; exact jr_none
  | succ n ih71 =>
    intro x3 x4 sh
    rw [fm_M_comesTo_71]
    refine jr_iload (e_251 rfl) rfl rfl ?_
    refine jr_iload_n (e_251 rfl) rfl rfl ?_
    refine jr_bri (c := x3 ≤ x4) (pt := 148) (pn := 77) (e_251 rfl) rfl rfl (fun h1 => ?_) (fun h1 => ?_)
    · exact jr_sub (show ([0, 3, 4] : List Nat).Nodup from by decide) (xsb_c (List.Mem.tail _ (List.Mem.head _)) xsb_n) (hK71 x3 sh)
    · refine jr_iconst (e_251 rfl) rfl ?_
      refine jr_istore (L' := [(5, xi 0), (0, xr 9 0), (3, xi x3), (4, xi x4)]) (e_251 rfl) rfl rfl rfl ?_
      refine jr_sub (show ([5, 0, 3, 4] : List Nat).Nodup from by decide) (xsb_c (List.Mem.tail _ (List.Mem.head _)) (xsb_c (List.Mem.tail _ (List.Mem.tail _ (List.Mem.head _))) (xsb_c (List.Mem.tail _ (List.Mem.tail _ (List.Mem.tail _ (List.Mem.head _)))) (xsb_c (List.Mem.head _) xsb_n)))) (jl_M_comesTo_80 x4 σ _ (fun v12 s13 => ?_) xFU x3 0 sh)
      refine jr_iinc (L2 := fun c => [(4, xi c), (0, xr 9 0), (3, xi v12)]) (e_251 rfl) rfl rfl rfl (fun _ => rfl) (fun v14 => ?_)
      refine jr_goto (pc' := 71) (e_251 rfl) rfl ?_
      exact jr_sub (show ([4, 0, 3] : List Nat).Nodup from by decide) (xsb_c (List.Mem.tail _ (List.Mem.head _)) (xsb_c (List.Mem.tail _ (List.Mem.tail _ (List.Mem.head _))) (xsb_c (List.Mem.head _) xsb_n))) (ih71 v12 v14 s13)
noncomputable def fm_M_comesTo (a1 : Int) (σ : xa_H) : Option (Int × xa_H) :=
  (fm_M_takeOff 0 0 σ).bind fun s1 =>
  (fm_M_findFits a1 s1).bind fun s2 =>
  (fm_M_standOf a1 s2).bind fun v3 =>
  if 0 ≤ v3 ∧ v3 < 3456 then
    if (s2 70 0 v3.toNat) = 0 then
      some (0, s2)
    else
      fm_M_comesTo_30 v3 (fun (s7 : xa_H) =>
        xnm (xup s7 72 0 ((0 : Int).toNat) v3) fun s8 =>
        fm_M_comesTo_71 (fun (v15 : Int) (s16 : xa_H) =>
          some (v15, s16)) xFU 1 0 s8) xFU 0 s2
  else none
theorem jm_M_comesTo (a1 : Int) (σ : xa_H) : J 251 0 [(0, xr 9 0), (1, xi a1)] [] σ jqW (fm_M_comesTo a1 σ) := by
  unfold fm_M_comesTo
  refine jr_aload_n (e_251 rfl) rfl rfl ?_
  refine jr_iconst (e_251 rfl) rfl ?_
  refine jr_iconst (e_251 rfl) rfl ?_
  refine jr_callV (as := [xr 9 0, xi 0, xi 0]) (S1 := []) (e_251 rfl) rfl rfl rfl rfl rfl rfl (jm_M_takeOff 0 0 σ) rfl (fun s1 => ?_)
  refine jr_aload_n (e_251 rfl) rfl rfl ?_
  refine jr_iload_n (e_251 rfl) rfl rfl ?_
  refine jr_callV (as := [xr 9 0, xi a1]) (S1 := []) (e_251 rfl) rfl rfl rfl rfl rfl rfl (jm_M_findFits a1 s1) rfl (fun s2 => ?_)
  refine jr_aload_n (e_251 rfl) rfl rfl ?_
  refine jr_iload_n (e_251 rfl) rfl rfl ?_
  refine jr_callP (as := [xr 9 0, xi a1]) (S1 := []) (e_251 rfl) rfl rfl rfl rfl rfl rfl (jm_M_standOf a1 s2) rfl (fun v3 => ?_)
  refine jr_istore_n (L' := [(2, xi v3), (0, xr 9 0), (1, xi a1)]) (e_251 rfl) rfl rfl rfl ?_
  refine jr_aload_n (e_251 rfl) rfl rfl ?_
  refine jr_getr (K2 := 70) (i2 := 0) (e_251 rfl) rfl rfl rfl ?_
  refine jr_iload_n (e_251 rfl) rfl rfl ?_
  refine jr_bald (n := 3456) (e_251 rfl) rfl rfl rfl ?_
  refine jr_brx (c := (s2 70 0 v3.toNat) = 0) (pt := 28) (pn := 26) (e_251 rfl) rfl rfl (fun h4 => ?_) (fun h4 => ?_)
  · refine jr_iconst (e_251 rfl) rfl ?_
    exact jr_retW (e_251 rfl) rfl
  · refine jr_iconst (e_251 rfl) rfl ?_
    refine jr_istore_n (L' := [(3, xi 0), (2, xi v3), (0, xr 9 0), (1, xi a1)]) (e_251 rfl) rfl rfl rfl ?_
    refine jr_sub (show ([3, 2, 0, 1] : List Nat).Nodup from by decide) (xsb_c (List.Mem.tail _ (List.Mem.tail _ (List.Mem.head _))) (xsb_c (List.Mem.tail _ (List.Mem.head _)) (xsb_c (List.Mem.head _) xsb_n))) (jl_M_comesTo_30 v3 σ _ (fun s7 => ?_) xFU 0 s2)
    refine jr_aload_n (e_251 rfl) rfl rfl ?_
    refine jr_getr (K2 := 72) (i2 := 0) (e_251 rfl) rfl rfl rfl ?_
    refine jr_iconst (e_251 rfl) rfl ?_
    refine jr_iload_n (e_251 rfl) rfl rfl ?_
    refine jr_ast' (n := 3456) (e_251 rfl) rfl rfl rfl rfl (by decide) ?_
    refine jr_nms (fun s8 => ?_)
    refine jr_iconst (e_251 rfl) rfl ?_
    refine jr_istore_n (L' := [(3, xi 1), (0, xr 9 0), (2, xi v3)]) (e_251 rfl) rfl rfl rfl ?_
    refine jr_iconst (e_251 rfl) rfl ?_
    refine jr_istore (L' := [(4, xi 0), (3, xi 1), (0, xr 9 0), (2, xi v3)]) (e_251 rfl) rfl rfl rfl ?_
    refine jr_sub (show ([4, 3, 0, 2] : List Nat).Nodup from by decide) (xsb_c (List.Mem.tail _ (List.Mem.tail _ (List.Mem.head _))) (xsb_c (List.Mem.tail _ (List.Mem.head _)) (xsb_c (List.Mem.head _) xsb_n))) (jl_M_comesTo_71 σ _ (fun v15 s16 => ?_) xFU 1 0 s8)
    refine jr_iload_n (e_251 rfl) rfl rfl ?_
    exact jr_retW (e_251 rfl) rfl

theorem e_252 {pc : Nat} {en : xa_I} (h : xlk pc xc_252 = some en) : xcd 252 pc = some en := h
noncomputable def fm_M_against (a1 : Int) (a2 : Int) (a3 : Int) (σ : xa_H) : Option (Int) :=
  (fm_M_isCell a1 a2 a3 σ).bind fun v1 =>
  if v1 = 0 then
    some 1
  else
    (fm_M_at a1 a2 a3).bind fun v3 =>
    if 0 ≤ v3 ∧ v3 < 144 then
      if (σ 53 0 v3.toNat) = 0 then
        some 0
      else
        some 1
    else none
theorem jm_M_against (a1 : Int) (a2 : Int) (a3 : Int) (σ : xa_H) : J 252 0 [(0, xr 9 0), (1, xi a1), (2, xi a2), (3, xi a3)] [] σ (jqP σ) (fm_M_against a1 a2 a3 σ) := by
  unfold fm_M_against
  refine jr_aload_n (e_252 rfl) rfl rfl ?_
  refine jr_iload_n (e_252 rfl) rfl rfl ?_
  refine jr_iload_n (e_252 rfl) rfl rfl ?_
  refine jr_iload_n (e_252 rfl) rfl rfl ?_
  refine jr_callP (as := [xr 9 0, xi a1, xi a2, xi a3]) (S1 := []) (e_252 rfl) rfl rfl rfl rfl rfl rfl (jm_M_isCell a1 a2 a3 σ) rfl (fun v1 => ?_)
  refine jr_bri (c := v1 = 0) (pt := 24) (pn := 10) (e_252 rfl) rfl rfl (fun h2 => ?_) (fun h2 => ?_)
  · refine jr_iconst (e_252 rfl) rfl ?_
    refine jr_goto (pc' := 29) (e_252 rfl) rfl ?_
    exact jr_retP (e_252 rfl) rfl
  · refine jr_aload_n (e_252 rfl) rfl rfl ?_
    refine jr_getr (K2 := 53) (i2 := 0) (e_252 rfl) rfl rfl rfl ?_
    refine jr_iload_n (e_252 rfl) rfl rfl ?_
    refine jr_iload_n (e_252 rfl) rfl rfl ?_
    refine jr_iload_n (e_252 rfl) rfl rfl ?_
    refine jr_callP (as := [xi a1, xi a2, xi a3]) (S1 := [xr 53 0]) (e_252 rfl) rfl rfl rfl rfl rfl rfl (jm_M_at a1 a2 a3 σ) rfl (fun v3 => ?_)
    refine jr_ald (n := 144) (e_252 rfl) rfl rfl rfl ?_
    refine jr_bri (c := (σ 53 0 v3.toNat) = 0) (pt := 28) (pn := 24) (e_252 rfl) rfl rfl (fun h4 => ?_) (fun h4 => ?_)
    · refine jr_iconst (e_252 rfl) rfl ?_
      exact jr_retP (e_252 rfl) rfl
    · refine jr_iconst (e_252 rfl) rfl ?_
      refine jr_goto (pc' := 29) (e_252 rfl) rfl ?_
      exact jr_retP (e_252 rfl) rfl

theorem e_253 {pc : Nat} {en : xa_I} (h : xlk pc xc_253 = some en) : xcd 253 pc = some en := h
noncomputable def fm_M_isOwn_6 (f1 : Int) (f2 : Int) (f3 : Int) (f4 : Int) (σ : xa_H) (K : Int → Option (Int)) : Nat → Int → Int → Option (Int)
  | 0, _, _ => none
  | n + 1, x5, x6 =>
    if 0 ≤ f1 ∧ f1 < 5 then
      if (σ 54 0 f1.toNat) ≤ x6 then
        K x5
      else
        if x5 = 0 then
          if 0 ≤ x6 ∧ x6 < 10 then
            if (σ 66 0 x6.toNat) = f2 then
              if 0 ≤ x6 ∧ x6 < 10 then
                if (σ 67 0 x6.toNat) = f3 then
                  if 0 ≤ x6 ∧ x6 < 10 then
                    if (σ 68 0 x6.toNat) = f4 then
                      xnm (w32 (x6 + 1) : Int) fun v6 =>
                      fm_M_isOwn_6 f1 f2 f3 f4 σ K n 1 v6
                    else
                      xnm (w32 (x6 + 1) : Int) fun v7 =>
                      fm_M_isOwn_6 f1 f2 f3 f4 σ K n 0 v7
                  else none
                else
                  xnm (w32 (x6 + 1) : Int) fun v8 =>
                  fm_M_isOwn_6 f1 f2 f3 f4 σ K n 0 v8
              else none
            else
              xnm (w32 (x6 + 1) : Int) fun v9 =>
              fm_M_isOwn_6 f1 f2 f3 f4 σ K n 0 v9
          else none
        else
          xnm (w32 (x6 + 1) : Int) fun v10 =>
          fm_M_isOwn_6 f1 f2 f3 f4 σ K n 1 v10
    else none
theorem jl_M_isOwn_6 (f1 : Int) (f2 : Int) (f3 : Int) (f4 : Int) (σ : xa_H)  (K : Int → Option (Int)) (hK6 : ∀ (z0 : Int), J 253 69 [(5, xi z0)] [] σ (jqP σ) (K z0)) : ∀ (n : Nat) (x5 : Int) (x6 : Int), J 253 6 [(0, xr 9 0), (1, xi f1), (2, xi f2), (3, xi f3), (4, xi f4), (5, xi x5), (6, xi x6)] [] σ (jqP σ) (fm_M_isOwn_6 f1 f2 f3 f4 σ K n x5 x6) := by
  intro n
  induction n with
  | zero => intro x5 x6; exact jr_none
  | succ n ih6 =>
    intro x5 x6
    rw [fm_M_isOwn_6]
    refine jr_iload (e_253 rfl) rfl rfl ?_
    refine jr_aload_n (e_253 rfl) rfl rfl ?_
    refine jr_getr (K2 := 54) (i2 := 0) (e_253 rfl) rfl rfl rfl ?_
    refine jr_iload_n (e_253 rfl) rfl rfl ?_
    refine jr_ald (n := 5) (e_253 rfl) rfl rfl rfl ?_
    refine jr_bri (c := (σ 54 0 f1.toNat) ≤ x6) (pt := 69) (pn := 17) (e_253 rfl) rfl rfl (fun h1 => ?_) (fun h1 => ?_)
    · exact jr_sub (show ([0, 1, 2, 3, 4, 5, 6] : List Nat).Nodup from by decide) (xsb_c (List.Mem.tail _ (List.Mem.tail _ (List.Mem.tail _ (List.Mem.tail _ (List.Mem.tail _ (List.Mem.head _)))))) xsb_n) (hK6 x5)
    · refine jr_iload (e_253 rfl) rfl rfl ?_
      refine jr_brx (c := x5 = 0) (pt := 56) (pn := 22) (e_253 rfl) rfl rfl (fun h2 => ?_) (fun h2 => ?_)
      · refine jr_aload_n (e_253 rfl) rfl rfl ?_
        refine jr_getr (K2 := 66) (i2 := 0) (e_253 rfl) rfl rfl rfl ?_
        refine jr_iload (e_253 rfl) rfl rfl ?_
        refine jr_ald (n := 10) (e_253 rfl) rfl rfl rfl ?_
        refine jr_iload_n (e_253 rfl) rfl rfl ?_
        refine jr_brx (c := (σ 66 0 x6.toNat) = f2) (pt := 60) (pn := 33) (e_253 rfl) rfl rfl (fun h3 => ?_) (fun h3 => ?_)
        · refine jr_aload_n (e_253 rfl) rfl rfl ?_
          refine jr_getr (K2 := 67) (i2 := 0) (e_253 rfl) rfl rfl rfl ?_
          refine jr_iload (e_253 rfl) rfl rfl ?_
          refine jr_ald (n := 10) (e_253 rfl) rfl rfl rfl ?_
          refine jr_iload_n (e_253 rfl) rfl rfl ?_
          refine jr_brx (c := (σ 67 0 x6.toNat) = f3) (pt := 60) (pn := 44) (e_253 rfl) rfl rfl (fun h4 => ?_) (fun h4 => ?_)
          · refine jr_aload_n (e_253 rfl) rfl rfl ?_
            refine jr_getr (K2 := 68) (i2 := 0) (e_253 rfl) rfl rfl rfl ?_
            refine jr_iload (e_253 rfl) rfl rfl ?_
            refine jr_ald (n := 10) (e_253 rfl) rfl rfl rfl ?_
            refine jr_iload (e_253 rfl) rfl rfl ?_
            refine jr_brx (c := (σ 68 0 x6.toNat) = f4) (pt := 60) (pn := 56) (e_253 rfl) rfl rfl (fun h5 => ?_) (fun h5 => ?_)
            · refine jr_iconst (e_253 rfl) rfl ?_
              refine jr_goto (pc' := 61) (e_253 rfl) rfl ?_
              refine jr_istore (L' := [(5, xi 1), (0, xr 9 0), (1, xi f1), (2, xi f2), (3, xi f3), (4, xi f4), (6, xi x6)]) (e_253 rfl) rfl rfl rfl ?_
              refine jr_iinc (L2 := fun c => [(6, xi c), (5, xi 1), (0, xr 9 0), (1, xi f1), (2, xi f2), (3, xi f3), (4, xi f4)]) (e_253 rfl) rfl rfl rfl (fun _ => rfl) (fun v6 => ?_)
              refine jr_goto (pc' := 6) (e_253 rfl) rfl ?_
              exact jr_sub (show ([6, 5, 0, 1, 2, 3, 4] : List Nat).Nodup from by decide) (xsb_c (List.Mem.tail _ (List.Mem.tail _ (List.Mem.head _))) (xsb_c (List.Mem.tail _ (List.Mem.tail _ (List.Mem.tail _ (List.Mem.head _)))) (xsb_c (List.Mem.tail _ (List.Mem.tail _ (List.Mem.tail _ (List.Mem.tail _ (List.Mem.head _))))) (xsb_c (List.Mem.tail _ (List.Mem.tail _ (List.Mem.tail _ (List.Mem.tail _ (List.Mem.tail _ (List.Mem.head _)))))) (xsb_c (List.Mem.tail _ (List.Mem.tail _ (List.Mem.tail _ (List.Mem.tail _ (List.Mem.tail _ (List.Mem.tail _ (List.Mem.head _))))))) (xsb_c (List.Mem.tail _ (List.Mem.head _)) (xsb_c (List.Mem.head _) xsb_n))))))) (ih6 1 v6)
            · refine jr_iconst (e_253 rfl) rfl ?_
              refine jr_istore (L' := [(5, xi 0), (0, xr 9 0), (1, xi f1), (2, xi f2), (3, xi f3), (4, xi f4), (6, xi x6)]) (e_253 rfl) rfl rfl rfl ?_
              refine jr_iinc (L2 := fun c => [(6, xi c), (5, xi 0), (0, xr 9 0), (1, xi f1), (2, xi f2), (3, xi f3), (4, xi f4)]) (e_253 rfl) rfl rfl rfl (fun _ => rfl) (fun v7 => ?_)
              refine jr_goto (pc' := 6) (e_253 rfl) rfl ?_
              exact jr_sub (show ([6, 5, 0, 1, 2, 3, 4] : List Nat).Nodup from by decide) (xsb_c (List.Mem.tail _ (List.Mem.tail _ (List.Mem.head _))) (xsb_c (List.Mem.tail _ (List.Mem.tail _ (List.Mem.tail _ (List.Mem.head _)))) (xsb_c (List.Mem.tail _ (List.Mem.tail _ (List.Mem.tail _ (List.Mem.tail _ (List.Mem.head _))))) (xsb_c (List.Mem.tail _ (List.Mem.tail _ (List.Mem.tail _ (List.Mem.tail _ (List.Mem.tail _ (List.Mem.head _)))))) (xsb_c (List.Mem.tail _ (List.Mem.tail _ (List.Mem.tail _ (List.Mem.tail _ (List.Mem.tail _ (List.Mem.tail _ (List.Mem.head _))))))) (xsb_c (List.Mem.tail _ (List.Mem.head _)) (xsb_c (List.Mem.head _) xsb_n))))))) (ih6 0 v7)
          · refine jr_iconst (e_253 rfl) rfl ?_
            refine jr_istore (L' := [(5, xi 0), (0, xr 9 0), (1, xi f1), (2, xi f2), (3, xi f3), (4, xi f4), (6, xi x6)]) (e_253 rfl) rfl rfl rfl ?_
            refine jr_iinc (L2 := fun c => [(6, xi c), (5, xi 0), (0, xr 9 0), (1, xi f1), (2, xi f2), (3, xi f3), (4, xi f4)]) (e_253 rfl) rfl rfl rfl (fun _ => rfl) (fun v8 => ?_)
            refine jr_goto (pc' := 6) (e_253 rfl) rfl ?_
            exact jr_sub (show ([6, 5, 0, 1, 2, 3, 4] : List Nat).Nodup from by decide) (xsb_c (List.Mem.tail _ (List.Mem.tail _ (List.Mem.head _))) (xsb_c (List.Mem.tail _ (List.Mem.tail _ (List.Mem.tail _ (List.Mem.head _)))) (xsb_c (List.Mem.tail _ (List.Mem.tail _ (List.Mem.tail _ (List.Mem.tail _ (List.Mem.head _))))) (xsb_c (List.Mem.tail _ (List.Mem.tail _ (List.Mem.tail _ (List.Mem.tail _ (List.Mem.tail _ (List.Mem.head _)))))) (xsb_c (List.Mem.tail _ (List.Mem.tail _ (List.Mem.tail _ (List.Mem.tail _ (List.Mem.tail _ (List.Mem.tail _ (List.Mem.head _))))))) (xsb_c (List.Mem.tail _ (List.Mem.head _)) (xsb_c (List.Mem.head _) xsb_n))))))) (ih6 0 v8)
        · refine jr_iconst (e_253 rfl) rfl ?_
          refine jr_istore (L' := [(5, xi 0), (0, xr 9 0), (1, xi f1), (2, xi f2), (3, xi f3), (4, xi f4), (6, xi x6)]) (e_253 rfl) rfl rfl rfl ?_
          refine jr_iinc (L2 := fun c => [(6, xi c), (5, xi 0), (0, xr 9 0), (1, xi f1), (2, xi f2), (3, xi f3), (4, xi f4)]) (e_253 rfl) rfl rfl rfl (fun _ => rfl) (fun v9 => ?_)
          refine jr_goto (pc' := 6) (e_253 rfl) rfl ?_
          exact jr_sub (show ([6, 5, 0, 1, 2, 3, 4] : List Nat).Nodup from by decide) (xsb_c (List.Mem.tail _ (List.Mem.tail _ (List.Mem.head _))) (xsb_c (List.Mem.tail _ (List.Mem.tail _ (List.Mem.tail _ (List.Mem.head _)))) (xsb_c (List.Mem.tail _ (List.Mem.tail _ (List.Mem.tail _ (List.Mem.tail _ (List.Mem.head _))))) (xsb_c (List.Mem.tail _ (List.Mem.tail _ (List.Mem.tail _ (List.Mem.tail _ (List.Mem.tail _ (List.Mem.head _)))))) (xsb_c (List.Mem.tail _ (List.Mem.tail _ (List.Mem.tail _ (List.Mem.tail _ (List.Mem.tail _ (List.Mem.tail _ (List.Mem.head _))))))) (xsb_c (List.Mem.tail _ (List.Mem.head _)) (xsb_c (List.Mem.head _) xsb_n))))))) (ih6 0 v9)
      · refine jr_iconst (e_253 rfl) rfl ?_
        refine jr_goto (pc' := 61) (e_253 rfl) rfl ?_
        refine jr_istore (L' := [(5, xi 1), (0, xr 9 0), (1, xi f1), (2, xi f2), (3, xi f3), (4, xi f4), (6, xi x6)]) (e_253 rfl) rfl rfl rfl ?_
        refine jr_iinc (L2 := fun c => [(6, xi c), (5, xi 1), (0, xr 9 0), (1, xi f1), (2, xi f2), (3, xi f3), (4, xi f4)]) (e_253 rfl) rfl rfl rfl (fun _ => rfl) (fun v10 => ?_)
        refine jr_goto (pc' := 6) (e_253 rfl) rfl ?_
        exact jr_sub (show ([6, 5, 0, 1, 2, 3, 4] : List Nat).Nodup from by decide) (xsb_c (List.Mem.tail _ (List.Mem.tail _ (List.Mem.head _))) (xsb_c (List.Mem.tail _ (List.Mem.tail _ (List.Mem.tail _ (List.Mem.head _)))) (xsb_c (List.Mem.tail _ (List.Mem.tail _ (List.Mem.tail _ (List.Mem.tail _ (List.Mem.head _))))) (xsb_c (List.Mem.tail _ (List.Mem.tail _ (List.Mem.tail _ (List.Mem.tail _ (List.Mem.tail _ (List.Mem.head _)))))) (xsb_c (List.Mem.tail _ (List.Mem.tail _ (List.Mem.tail _ (List.Mem.tail _ (List.Mem.tail _ (List.Mem.tail _ (List.Mem.head _))))))) (xsb_c (List.Mem.tail _ (List.Mem.head _)) (xsb_c (List.Mem.head _) xsb_n))))))) (ih6 1 v10)
noncomputable def fm_M_isOwn (a1 : Int) (a2 : Int) (a3 : Int) (a4 : Int) (σ : xa_H) : Option (Int) :=
  fm_M_isOwn_6 a1 a2 a3 a4 σ (fun (v11 : Int) =>
    some (v11 % 2)) xFU 0 0
theorem jm_M_isOwn (a1 : Int) (a2 : Int) (a3 : Int) (a4 : Int) (σ : xa_H) : J 253 0 [(0, xr 9 0), (1, xi a1), (2, xi a2), (3, xi a3), (4, xi a4)] [] σ (jqP σ) (fm_M_isOwn a1 a2 a3 a4 σ) := by
  unfold fm_M_isOwn
  refine jr_iconst (e_253 rfl) rfl ?_
  refine jr_istore (L' := [(5, xi 0), (0, xr 9 0), (1, xi a1), (2, xi a2), (3, xi a3), (4, xi a4)]) (e_253 rfl) rfl rfl rfl ?_
  refine jr_iconst (e_253 rfl) rfl ?_
  refine jr_istore (L' := [(6, xi 0), (5, xi 0), (0, xr 9 0), (1, xi a1), (2, xi a2), (3, xi a3), (4, xi a4)]) (e_253 rfl) rfl rfl rfl ?_
  refine jr_sub (show ([6, 5, 0, 1, 2, 3, 4] : List Nat).Nodup from by decide) (xsb_c (List.Mem.tail _ (List.Mem.tail _ (List.Mem.head _))) (xsb_c (List.Mem.tail _ (List.Mem.tail _ (List.Mem.tail _ (List.Mem.head _)))) (xsb_c (List.Mem.tail _ (List.Mem.tail _ (List.Mem.tail _ (List.Mem.tail _ (List.Mem.head _))))) (xsb_c (List.Mem.tail _ (List.Mem.tail _ (List.Mem.tail _ (List.Mem.tail _ (List.Mem.tail _ (List.Mem.head _)))))) (xsb_c (List.Mem.tail _ (List.Mem.tail _ (List.Mem.tail _ (List.Mem.tail _ (List.Mem.tail _ (List.Mem.tail _ (List.Mem.head _))))))) (xsb_c (List.Mem.tail _ (List.Mem.head _)) (xsb_c (List.Mem.head _) xsb_n))))))) (jl_M_isOwn_6 a1 a2 a3 a4 σ _ (fun v11 => ?_) xFU 0 0)
  refine jr_iload (e_253 rfl) rfl rfl ?_
  exact jr_retPz (e_253 rfl) rfl rfl

theorem e_254 {pc : Nat} {en : xa_I} (h : xlk pc xc_254 = some en) : xcd 254 pc = some en := h
noncomputable def fm_M_scrapes_28 (f1 : Int) (f3 : Int) (σ : xa_H) (K : Int → Option (Int × xa_H)) : Nat → Int → Int → Option (Int × xa_H)
  | 0, _, _ => none
  | n + 1, x2, x4 =>
    if 5 ≤ x4 then
      K x2
    else
      if 0 ≤ f3 ∧ f3 < 10 then
        xnm ((if x4 = 0 then (-1) else (if x4 = 1 then 1 else 0)) : Int) fun v3 =>
        xnm ((w32 ((σ 66 0 f3.toNat) + v3)) : Int) fun v6 =>
        if 0 ≤ f3 ∧ f3 < 10 then
          xnm ((if x4 = 2 then (-1) else (if x4 = 3 then 1 else 0)) : Int) fun v8 =>
          xnm ((w32 ((σ 67 0 f3.toNat) + v8)) : Int) fun v11 =>
          if 0 ≤ f3 ∧ f3 < 10 then
            xnm ((if x4 = 4 then 1 else 0) : Int) fun v13 =>
            xnm ((w32 ((σ 68 0 f3.toNat) + v13)) : Int) fun v15 =>
            (fm_M_isOwn f1 v6 v11 v15 σ).bind fun v16 =>
            if v16 = 0 then
              if 0 ≤ f1 ∧ f1 < 5 then
                if 0 ≤ f1 ∧ f1 < 5 then
                  if 0 ≤ f1 ∧ f1 < 5 then
                    (fm_M_against (w32 ((xdiv (σ 62 0 f1.toNat) 24) + v6)) (w32 ((xrem (xdiv (σ 62 0 f1.toNat) 4) 6) + v11)) (w32 ((xrem (σ 62 0 f1.toNat) 4) + v15)) σ).bind fun v18 =>
                    xnm ((w32 (x2 + v18)) : Int) fun v19 =>
                    xnm (w32 (x4 + 1) : Int) fun v20 =>
                    fm_M_scrapes_28 f1 f3 σ K n v19 v20
                  else none
                else none
              else none
            else
              xnm ((w32 (x2 + 0)) : Int) fun v21 =>
              xnm (w32 (x4 + 1) : Int) fun v22 =>
              fm_M_scrapes_28 f1 f3 σ K n v21 v22
          else none
        else none
      else none
theorem jl_M_scrapes_28 (f1 : Int) (f3 : Int) (σ : xa_H)  (K : Int → Option (Int × xa_H)) (hK28 : ∀ (z0 : Int), J 254 181 [(0, xr 9 0), (1, xi f1), (2, xi z0), (3, xi f3)] [] σ jqW (K z0)) : ∀ (n : Nat) (x2 : Int) (x4 : Int), J 254 28 [(0, xr 9 0), (1, xi f1), (2, xi x2), (3, xi f3), (4, xi x4)] [] σ jqW (fm_M_scrapes_28 f1 f3 σ K n x2 x4) := by
  intro n
  induction n with
  | zero => intro x2 x4; exact jr_none
  | succ n ih28 =>
    intro x2 x4
    rw [fm_M_scrapes_28]
    refine jr_iload (e_254 rfl) rfl rfl ?_
    refine jr_iconst (e_254 rfl) rfl ?_
    refine jr_bri (c := 5 ≤ x4) (pt := 181) (pn := 34) (e_254 rfl) rfl rfl (fun h1 => ?_) (fun h1 => ?_)
    · exact jr_sub (show ([0, 1, 2, 3, 4] : List Nat).Nodup from by decide) (xsb_c (List.Mem.head _) (xsb_c (List.Mem.tail _ (List.Mem.head _)) (xsb_c (List.Mem.tail _ (List.Mem.tail _ (List.Mem.head _))) (xsb_c (List.Mem.tail _ (List.Mem.tail _ (List.Mem.tail _ (List.Mem.head _)))) xsb_n)))) (hK28 x2)
    · refine jr_aload_n (e_254 rfl) rfl rfl ?_
      refine jr_getr (K2 := 66) (i2 := 0) (e_254 rfl) rfl rfl rfl ?_
      refine jr_iload_n (e_254 rfl) rfl rfl ?_
      refine jr_ald (n := 10) (e_254 rfl) rfl rfl rfl ?_
      refine jr_iload (e_254 rfl) rfl rfl ?_
      refine jr_pm1 (fun T => ∀ v3 : Int, J 254 60 [(0, xr 9 0), (1, xi f1), (2, xi x2), (3, xi f3), (4, xi x4)] [xi v3, xi (σ 66 0 f3.toNat)] σ jqW (T v3)) (fun v3 => ?_) (fun T hT => ?_)
      · refine jr_iadd (e_254 rfl) rfl ?_
        refine jr_nm (fun v6 => ?_)
        refine jr_istore (L' := [(5, xi v6), (0, xr 9 0), (1, xi f1), (2, xi x2), (3, xi f3), (4, xi x4)]) (e_254 rfl) rfl rfl rfl ?_
        refine jr_aload_n (e_254 rfl) rfl rfl ?_
        refine jr_getr (K2 := 67) (i2 := 0) (e_254 rfl) rfl rfl rfl ?_
        refine jr_iload_n (e_254 rfl) rfl rfl ?_
        refine jr_ald (n := 10) (e_254 rfl) rfl rfl rfl ?_
        refine jr_iload (e_254 rfl) rfl rfl ?_
        refine jr_iconst (e_254 rfl) rfl ?_
        refine jr_pm1 (fun T => ∀ v8 : Int, J 254 90 [(0, xr 9 0), (1, xi f1), (2, xi x2), (3, xi f3), (4, xi x4), (5, xi v6)] [xi v8, xi (σ 67 0 f3.toNat)] σ jqW (T v8)) (fun v8 => ?_) (fun T hT => ?_)
        · refine jr_iadd (e_254 rfl) rfl ?_
          refine jr_nm (fun v11 => ?_)
          refine jr_istore (L' := [(6, xi v11), (0, xr 9 0), (1, xi f1), (2, xi x2), (3, xi f3), (4, xi x4), (5, xi v6)]) (e_254 rfl) rfl rfl rfl ?_
          refine jr_aload_n (e_254 rfl) rfl rfl ?_
          refine jr_getr (K2 := 68) (i2 := 0) (e_254 rfl) rfl rfl rfl ?_
          refine jr_iload_n (e_254 rfl) rfl rfl ?_
          refine jr_ald (n := 10) (e_254 rfl) rfl rfl rfl ?_
          refine jr_iload (e_254 rfl) rfl rfl ?_
          refine jr_iconst (e_254 rfl) rfl ?_
          refine jr_pm1 (fun T => ∀ v13 : Int, J 254 110 [(0, xr 9 0), (1, xi f1), (2, xi x2), (3, xi f3), (4, xi x4), (5, xi v6), (6, xi v11)] [xi v13, xi (σ 68 0 f3.toNat)] σ jqW (T v13)) (fun v13 => ?_) (fun T hT => ?_)
          · refine jr_iadd (e_254 rfl) rfl ?_
            refine jr_nm (fun v15 => ?_)
            refine jr_istore (L' := [(7, xi v15), (0, xr 9 0), (1, xi f1), (2, xi x2), (3, xi f3), (4, xi x4), (5, xi v6), (6, xi v11)]) (e_254 rfl) rfl rfl rfl ?_
            refine jr_iload_n (e_254 rfl) rfl rfl ?_
            refine jr_aload_n (e_254 rfl) rfl rfl ?_
            refine jr_iload_n (e_254 rfl) rfl rfl ?_
            refine jr_iload (e_254 rfl) rfl rfl ?_
            refine jr_iload (e_254 rfl) rfl rfl ?_
            refine jr_iload (e_254 rfl) rfl rfl ?_
            refine jr_callP (as := [xr 9 0, xi f1, xi v6, xi v11, xi v15]) (S1 := [xi x2]) (e_254 rfl) rfl rfl rfl rfl rfl rfl (jm_M_isOwn f1 v6 v11 v15 σ) rfl (fun v16 => ?_)
            refine jr_bri (c := v16 = 0) (pt := 132) (pn := 128) (e_254 rfl) rfl rfl (fun h17 => ?_) (fun h17 => ?_)
            · refine jr_aload_n (e_254 rfl) rfl rfl ?_
              refine jr_aload_n (e_254 rfl) rfl rfl ?_
              refine jr_getr (K2 := 62) (i2 := 0) (e_254 rfl) rfl rfl rfl ?_
              refine jr_iload_n (e_254 rfl) rfl rfl ?_
              refine jr_ald (n := 5) (e_254 rfl) rfl rfl rfl ?_
              refine jr_bipush (e_254 rfl) rfl ?_
              refine jr_idiv (e_254 rfl) rfl (by decide) ?_
              refine jr_iload (e_254 rfl) rfl rfl ?_
              refine jr_iadd (e_254 rfl) rfl ?_
              refine jr_aload_n (e_254 rfl) rfl rfl ?_
              refine jr_getr (K2 := 62) (i2 := 0) (e_254 rfl) rfl rfl rfl ?_
              refine jr_iload_n (e_254 rfl) rfl rfl ?_
              refine jr_ald (n := 5) (e_254 rfl) rfl rfl rfl ?_
              refine jr_iconst (e_254 rfl) rfl ?_
              refine jr_idiv (e_254 rfl) rfl (by decide) ?_
              refine jr_bipush (e_254 rfl) rfl ?_
              refine jr_irem (e_254 rfl) rfl (by decide) ?_
              refine jr_iload (e_254 rfl) rfl rfl ?_
              refine jr_iadd (e_254 rfl) rfl ?_
              refine jr_aload_n (e_254 rfl) rfl rfl ?_
              refine jr_getr (K2 := 62) (i2 := 0) (e_254 rfl) rfl rfl rfl ?_
              refine jr_iload_n (e_254 rfl) rfl rfl ?_
              refine jr_ald (n := 5) (e_254 rfl) rfl rfl rfl ?_
              refine jr_iconst (e_254 rfl) rfl ?_
              refine jr_irem (e_254 rfl) rfl (by decide) ?_
              refine jr_iload (e_254 rfl) rfl rfl ?_
              refine jr_iadd (e_254 rfl) rfl ?_
              refine jr_callP (as := [xr 9 0, xi (w32 ((xdiv (σ 62 0 f1.toNat) 24) + v6)), xi (w32 ((xrem (xdiv (σ 62 0 f1.toNat) 4) 6) + v11)), xi (w32 ((xrem (σ 62 0 f1.toNat) 4) + v15))]) (S1 := [xi x2]) (e_254 rfl) rfl rfl rfl rfl rfl rfl (jm_M_against (w32 ((xdiv (σ 62 0 f1.toNat) 24) + v6)) (w32 ((xrem (xdiv (σ 62 0 f1.toNat) 4) 6) + v11)) (w32 ((xrem (σ 62 0 f1.toNat) 4) + v15)) σ) rfl (fun v18 => ?_)
              refine jr_iadd (e_254 rfl) rfl ?_
              refine jr_nm (fun v19 => ?_)
              refine jr_istore_n (L' := [(2, xi v19), (7, xi v15), (0, xr 9 0), (1, xi f1), (3, xi f3), (4, xi x4), (5, xi v6), (6, xi v11)]) (e_254 rfl) rfl rfl rfl ?_
              refine jr_iinc (L2 := fun c => [(4, xi c), (2, xi v19), (7, xi v15), (0, xr 9 0), (1, xi f1), (3, xi f3), (5, xi v6), (6, xi v11)]) (e_254 rfl) rfl rfl rfl (fun _ => rfl) (fun v20 => ?_)
              refine jr_goto (pc' := 28) (e_254 rfl) rfl ?_
              exact jr_sub (show ([4, 2, 7, 0, 1, 3, 5, 6] : List Nat).Nodup from by decide) (xsb_c (List.Mem.tail _ (List.Mem.tail _ (List.Mem.tail _ (List.Mem.head _)))) (xsb_c (List.Mem.tail _ (List.Mem.tail _ (List.Mem.tail _ (List.Mem.tail _ (List.Mem.head _))))) (xsb_c (List.Mem.tail _ (List.Mem.head _)) (xsb_c (List.Mem.tail _ (List.Mem.tail _ (List.Mem.tail _ (List.Mem.tail _ (List.Mem.tail _ (List.Mem.head _)))))) (xsb_c (List.Mem.head _) xsb_n))))) (ih28 v19 v20)
            · refine jr_iconst (e_254 rfl) rfl ?_
              refine jr_goto (pc' := 173) (e_254 rfl) rfl ?_
              refine jr_iadd (e_254 rfl) rfl ?_
              refine jr_nm (fun v21 => ?_)
              refine jr_istore_n (L' := [(2, xi v21), (7, xi v15), (0, xr 9 0), (1, xi f1), (3, xi f3), (4, xi x4), (5, xi v6), (6, xi v11)]) (e_254 rfl) rfl rfl rfl ?_
              refine jr_iinc (L2 := fun c => [(4, xi c), (2, xi v21), (7, xi v15), (0, xr 9 0), (1, xi f1), (3, xi f3), (5, xi v6), (6, xi v11)]) (e_254 rfl) rfl rfl rfl (fun _ => rfl) (fun v22 => ?_)
              refine jr_goto (pc' := 28) (e_254 rfl) rfl ?_
              exact jr_sub (show ([4, 2, 7, 0, 1, 3, 5, 6] : List Nat).Nodup from by decide) (xsb_c (List.Mem.tail _ (List.Mem.tail _ (List.Mem.tail _ (List.Mem.head _)))) (xsb_c (List.Mem.tail _ (List.Mem.tail _ (List.Mem.tail _ (List.Mem.tail _ (List.Mem.head _))))) (xsb_c (List.Mem.tail _ (List.Mem.head _)) (xsb_c (List.Mem.tail _ (List.Mem.tail _ (List.Mem.tail _ (List.Mem.tail _ (List.Mem.tail _ (List.Mem.head _)))))) (xsb_c (List.Mem.head _) xsb_n))))) (ih28 v21 v22)
          · refine jr_bx (c := x4 = 4) (pt := 109) (pn := 105) (e_254 rfl) rfl rfl (fun h14 => ?_) (fun h14 => ?_)
            · refine jr_iconst (e_254 rfl) rfl ?_
              refine jr_goto (pc' := 110) (e_254 rfl) rfl ?_
              exact (jr_nme (if_pos h14) (jr_sub (show ([6, 0, 1, 2, 3, 4, 5] : List Nat).Nodup from by decide) (xsb_c (List.Mem.tail _ (List.Mem.head _)) (xsb_c (List.Mem.tail _ (List.Mem.tail _ (List.Mem.head _))) (xsb_c (List.Mem.tail _ (List.Mem.tail _ (List.Mem.tail _ (List.Mem.head _)))) (xsb_c (List.Mem.tail _ (List.Mem.tail _ (List.Mem.tail _ (List.Mem.tail _ (List.Mem.head _))))) (xsb_c (List.Mem.tail _ (List.Mem.tail _ (List.Mem.tail _ (List.Mem.tail _ (List.Mem.tail _ (List.Mem.head _)))))) (xsb_c (List.Mem.tail _ (List.Mem.tail _ (List.Mem.tail _ (List.Mem.tail _ (List.Mem.tail _ (List.Mem.tail _ (List.Mem.head _))))))) (xsb_c (List.Mem.head _) xsb_n))))))) (hT 1)))
            · refine jr_iconst (e_254 rfl) rfl ?_
              exact (jr_nme (if_neg h14) (jr_sub (show ([6, 0, 1, 2, 3, 4, 5] : List Nat).Nodup from by decide) (xsb_c (List.Mem.tail _ (List.Mem.head _)) (xsb_c (List.Mem.tail _ (List.Mem.tail _ (List.Mem.head _))) (xsb_c (List.Mem.tail _ (List.Mem.tail _ (List.Mem.tail _ (List.Mem.head _)))) (xsb_c (List.Mem.tail _ (List.Mem.tail _ (List.Mem.tail _ (List.Mem.tail _ (List.Mem.head _))))) (xsb_c (List.Mem.tail _ (List.Mem.tail _ (List.Mem.tail _ (List.Mem.tail _ (List.Mem.tail _ (List.Mem.head _)))))) (xsb_c (List.Mem.tail _ (List.Mem.tail _ (List.Mem.tail _ (List.Mem.tail _ (List.Mem.tail _ (List.Mem.tail _ (List.Mem.head _))))))) (xsb_c (List.Mem.head _) xsb_n))))))) (hT 0)))
        · refine jr_bx (c := x4 = 2) (pt := 79) (pn := 75) (e_254 rfl) rfl rfl (fun h9 => ?_) (fun h9 => ?_)
          · refine jr_iconst (e_254 rfl) rfl ?_
            refine jr_goto (pc' := 90) (e_254 rfl) rfl ?_
            exact (jr_nme (if_pos h9) (jr_sub (show ([5, 0, 1, 2, 3, 4] : List Nat).Nodup from by decide) (xsb_c (List.Mem.tail _ (List.Mem.head _)) (xsb_c (List.Mem.tail _ (List.Mem.tail _ (List.Mem.head _))) (xsb_c (List.Mem.tail _ (List.Mem.tail _ (List.Mem.tail _ (List.Mem.head _)))) (xsb_c (List.Mem.tail _ (List.Mem.tail _ (List.Mem.tail _ (List.Mem.tail _ (List.Mem.head _))))) (xsb_c (List.Mem.tail _ (List.Mem.tail _ (List.Mem.tail _ (List.Mem.tail _ (List.Mem.tail _ (List.Mem.head _)))))) (xsb_c (List.Mem.head _) xsb_n)))))) (hT (-1))))
          · refine jr_iload (e_254 rfl) rfl rfl ?_
            refine jr_iconst (e_254 rfl) rfl ?_
            refine jr_bx (c := x4 = 3) (pt := 89) (pn := 85) (e_254 rfl) rfl rfl (fun h10 => ?_) (fun h10 => ?_)
            · refine jr_iconst (e_254 rfl) rfl ?_
              refine jr_goto (pc' := 90) (e_254 rfl) rfl ?_
              exact (jr_nme ((if_neg h9).trans (if_pos h10)) (jr_sub (show ([5, 0, 1, 2, 3, 4] : List Nat).Nodup from by decide) (xsb_c (List.Mem.tail _ (List.Mem.head _)) (xsb_c (List.Mem.tail _ (List.Mem.tail _ (List.Mem.head _))) (xsb_c (List.Mem.tail _ (List.Mem.tail _ (List.Mem.tail _ (List.Mem.head _)))) (xsb_c (List.Mem.tail _ (List.Mem.tail _ (List.Mem.tail _ (List.Mem.tail _ (List.Mem.head _))))) (xsb_c (List.Mem.tail _ (List.Mem.tail _ (List.Mem.tail _ (List.Mem.tail _ (List.Mem.tail _ (List.Mem.head _)))))) (xsb_c (List.Mem.head _) xsb_n)))))) (hT 1)))
            · refine jr_iconst (e_254 rfl) rfl ?_
              exact (jr_nme ((if_neg h9).trans (if_neg h10)) (jr_sub (show ([5, 0, 1, 2, 3, 4] : List Nat).Nodup from by decide) (xsb_c (List.Mem.tail _ (List.Mem.head _)) (xsb_c (List.Mem.tail _ (List.Mem.tail _ (List.Mem.head _))) (xsb_c (List.Mem.tail _ (List.Mem.tail _ (List.Mem.tail _ (List.Mem.head _)))) (xsb_c (List.Mem.tail _ (List.Mem.tail _ (List.Mem.tail _ (List.Mem.tail _ (List.Mem.head _))))) (xsb_c (List.Mem.tail _ (List.Mem.tail _ (List.Mem.tail _ (List.Mem.tail _ (List.Mem.tail _ (List.Mem.head _)))))) (xsb_c (List.Mem.head _) xsb_n)))))) (hT 0)))
      · refine jr_bx (c := x4 = 0) (pt := 49) (pn := 45) (e_254 rfl) rfl rfl (fun h4 => ?_) (fun h4 => ?_)
        · refine jr_iconst (e_254 rfl) rfl ?_
          refine jr_goto (pc' := 60) (e_254 rfl) rfl ?_
          exact (jr_nme (if_pos h4) (jr_sub (show ([0, 1, 2, 3, 4] : List Nat).Nodup from by decide) (xsb_c (List.Mem.head _) (xsb_c (List.Mem.tail _ (List.Mem.head _)) (xsb_c (List.Mem.tail _ (List.Mem.tail _ (List.Mem.head _))) (xsb_c (List.Mem.tail _ (List.Mem.tail _ (List.Mem.tail _ (List.Mem.head _)))) (xsb_c (List.Mem.tail _ (List.Mem.tail _ (List.Mem.tail _ (List.Mem.tail _ (List.Mem.head _))))) xsb_n))))) (hT (-1))))
        · refine jr_iload (e_254 rfl) rfl rfl ?_
          refine jr_iconst (e_254 rfl) rfl ?_
          refine jr_bx (c := x4 = 1) (pt := 59) (pn := 55) (e_254 rfl) rfl rfl (fun h5 => ?_) (fun h5 => ?_)
          · refine jr_iconst (e_254 rfl) rfl ?_
            refine jr_goto (pc' := 60) (e_254 rfl) rfl ?_
            exact (jr_nme ((if_neg h4).trans (if_pos h5)) (jr_sub (show ([0, 1, 2, 3, 4] : List Nat).Nodup from by decide) (xsb_c (List.Mem.head _) (xsb_c (List.Mem.tail _ (List.Mem.head _)) (xsb_c (List.Mem.tail _ (List.Mem.tail _ (List.Mem.head _))) (xsb_c (List.Mem.tail _ (List.Mem.tail _ (List.Mem.tail _ (List.Mem.head _)))) (xsb_c (List.Mem.tail _ (List.Mem.tail _ (List.Mem.tail _ (List.Mem.tail _ (List.Mem.head _))))) xsb_n))))) (hT 1)))
          · refine jr_iconst (e_254 rfl) rfl ?_
            exact (jr_nme ((if_neg h4).trans (if_neg h5)) (jr_sub (show ([0, 1, 2, 3, 4] : List Nat).Nodup from by decide) (xsb_c (List.Mem.head _) (xsb_c (List.Mem.tail _ (List.Mem.head _)) (xsb_c (List.Mem.tail _ (List.Mem.tail _ (List.Mem.head _))) (xsb_c (List.Mem.tail _ (List.Mem.tail _ (List.Mem.tail _ (List.Mem.head _)))) (xsb_c (List.Mem.tail _ (List.Mem.tail _ (List.Mem.tail _ (List.Mem.tail _ (List.Mem.head _))))) xsb_n))))) (hT 0)))
noncomputable def fm_M_scrapes_15 (f1 : Int) (σ : xa_H) (K : Int → Option (Int × xa_H)) : Nat → Int → Int → Option (Int × xa_H)
  | 0, _, _ => none
  | n + 1, x2, x3 =>
    if 0 ≤ f1 ∧ f1 < 5 then
      if (σ 54 0 f1.toNat) ≤ x3 then
        K x2
      else
        fm_M_scrapes_28 f1 x3 σ (fun (v23 : Int) =>
          xnm (w32 (x3 + 1) : Int) fun v24 =>
          fm_M_scrapes_15 f1 σ K n v23 v24) xFU x2 0
    else none
theorem jl_M_scrapes_15 (f1 : Int) (σ : xa_H)  (K : Int → Option (Int × xa_H)) (hK15 : ∀ (z0 : Int), J 254 187 [(2, xi z0)] [] σ jqW (K z0)) : ∀ (n : Nat) (x2 : Int) (x3 : Int), J 254 15 [(0, xr 9 0), (1, xi f1), (2, xi x2), (3, xi x3)] [] σ jqW (fm_M_scrapes_15 f1 σ K n x2 x3) := by
  intro n
  induction n with
  | zero => intro x2 x3; exact jr_none
  | succ n ih15 =>
    intro x2 x3
    rw [fm_M_scrapes_15]
    refine jr_iload_n (e_254 rfl) rfl rfl ?_
    refine jr_aload_n (e_254 rfl) rfl rfl ?_
    refine jr_getr (K2 := 54) (i2 := 0) (e_254 rfl) rfl rfl rfl ?_
    refine jr_iload_n (e_254 rfl) rfl rfl ?_
    refine jr_ald (n := 5) (e_254 rfl) rfl rfl rfl ?_
    refine jr_bri (c := (σ 54 0 f1.toNat) ≤ x3) (pt := 187) (pn := 25) (e_254 rfl) rfl rfl (fun h1 => ?_) (fun h1 => ?_)
    · exact jr_sub (show ([0, 1, 2, 3] : List Nat).Nodup from by decide) (xsb_c (List.Mem.tail _ (List.Mem.tail _ (List.Mem.head _))) xsb_n) (hK15 x2)
    · refine jr_iconst (e_254 rfl) rfl ?_
      refine jr_istore (L' := [(4, xi 0), (0, xr 9 0), (1, xi f1), (2, xi x2), (3, xi x3)]) (e_254 rfl) rfl rfl rfl ?_
      refine jr_sub (show ([4, 0, 1, 2, 3] : List Nat).Nodup from by decide) (xsb_c (List.Mem.tail _ (List.Mem.head _)) (xsb_c (List.Mem.tail _ (List.Mem.tail _ (List.Mem.head _))) (xsb_c (List.Mem.tail _ (List.Mem.tail _ (List.Mem.tail _ (List.Mem.head _)))) (xsb_c (List.Mem.tail _ (List.Mem.tail _ (List.Mem.tail _ (List.Mem.tail _ (List.Mem.head _))))) (xsb_c (List.Mem.head _) xsb_n))))) (jl_M_scrapes_28 f1 x3 σ _ (fun v23 => ?_) xFU x2 0)
      refine jr_iinc (L2 := fun c => [(3, xi c), (0, xr 9 0), (1, xi f1), (2, xi v23)]) (e_254 rfl) rfl rfl rfl (fun _ => rfl) (fun v24 => ?_)
      refine jr_goto (pc' := 15) (e_254 rfl) rfl ?_
      exact jr_sub (show ([3, 0, 1, 2] : List Nat).Nodup from by decide) (xsb_c (List.Mem.tail _ (List.Mem.head _)) (xsb_c (List.Mem.tail _ (List.Mem.tail _ (List.Mem.head _))) (xsb_c (List.Mem.tail _ (List.Mem.tail _ (List.Mem.tail _ (List.Mem.head _)))) (xsb_c (List.Mem.head _) xsb_n)))) (ih15 v23 v24)
noncomputable def fm_M_scrapes (a1 : Int) (σ : xa_H) : Option (Int × xa_H) :=
  if 0 ≤ a1 ∧ a1 < 5 then
    (fm_M_layCubes a1 (σ 63 0 a1.toNat) σ).bind fun s1 =>
    fm_M_scrapes_15 a1 s1 (fun (v25 : Int) =>
      some (v25, s1)) xFU 0 0
  else none
theorem jm_M_scrapes (a1 : Int) (σ : xa_H) : J 254 0 [(0, xr 9 0), (1, xi a1)] [] σ jqW (fm_M_scrapes a1 σ) := by
  unfold fm_M_scrapes
  refine jr_aload_n (e_254 rfl) rfl rfl ?_
  refine jr_iload_n (e_254 rfl) rfl rfl ?_
  refine jr_aload_n (e_254 rfl) rfl rfl ?_
  refine jr_getr (K2 := 63) (i2 := 0) (e_254 rfl) rfl rfl rfl ?_
  refine jr_iload_n (e_254 rfl) rfl rfl ?_
  refine jr_ald (n := 5) (e_254 rfl) rfl rfl rfl ?_
  refine jr_callV (as := [xr 9 0, xi a1, xi (σ 63 0 a1.toNat)]) (S1 := []) (e_254 rfl) rfl rfl rfl rfl rfl rfl (jm_M_layCubes a1 (σ 63 0 a1.toNat) σ) rfl (fun s1 => ?_)
  refine jr_iconst (e_254 rfl) rfl ?_
  refine jr_istore_n (L' := [(2, xi 0), (0, xr 9 0), (1, xi a1)]) (e_254 rfl) rfl rfl rfl ?_
  refine jr_iconst (e_254 rfl) rfl ?_
  refine jr_istore_n (L' := [(3, xi 0), (2, xi 0), (0, xr 9 0), (1, xi a1)]) (e_254 rfl) rfl rfl rfl ?_
  refine jr_sub (show ([3, 2, 0, 1] : List Nat).Nodup from by decide) (xsb_c (List.Mem.tail _ (List.Mem.tail _ (List.Mem.head _))) (xsb_c (List.Mem.tail _ (List.Mem.tail _ (List.Mem.tail _ (List.Mem.head _)))) (xsb_c (List.Mem.tail _ (List.Mem.head _)) (xsb_c (List.Mem.head _) xsb_n)))) (jl_M_scrapes_15 a1 s1 _ (fun v25 => ?_) xFU 0 0)
  refine jr_iload_n (e_254 rfl) rfl rfl ?_
  exact jr_retW (e_254 rfl) rfl
