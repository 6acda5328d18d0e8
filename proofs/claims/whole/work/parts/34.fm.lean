/-! methods as functions, printed by wip/whole/gen/gen5.py -/
theorem e_112 {pc : Nat} {en : xa_I} (h : xlk pc xc_112 = some en) : xcd 112 pc = some en := h
noncomputable def fm_S_fitsAllRound_5 (f1 : Int) (K : xa_H → Option (Int × xa_H)) : Nat → Int → Int → xa_H → Option (Int × xa_H)
  | 0, _, _, _ => none
  | n + 1, x3, x4, sh =>
    if 4 ≤ x4 then
      K sh
    else
      xb2 (fm_Search_fits (w32 ((w32 (f1 * 24)) + x3)) sh) fun v2 s3 =>
      if v2 = 0 then
        some (0, s3)
      else
        (fm_Turns_after x3 2 s3).bind fun v5 =>
        xnm (w32 (x4 + 1) : Int) fun v6 =>
        fm_S_fitsAllRound_5 f1 K n v5 v6 s3
theorem jl_S_fitsAllRound_5 (f1 : Int) (σ : xa_H)  (K : xa_H → Option (Int × xa_H)) (hK5 : ∀ (sz : xa_H), J 112 45 [] [] sz jqW (K sz)) : ∀ (n : Nat) (x3 : Int) (x4 : Int) (sh : xa_H), J 112 5 [(0, xr 8 0), (1, xi f1), (3, xi x3), (4, xi x4)] [] sh jqW (fm_S_fitsAllRound_5 f1 K n x3 x4 sh) := by
  intro n
  induction n with
  | zero => intro x3 x4 sh; exact jr_none
  | succ n ih5 =>
    intro x3 x4 sh
    rw [fm_S_fitsAllRound_5]
    refine jr_iload (e_112 rfl) rfl rfl ?_
    refine jr_iconst (e_112 rfl) rfl ?_
    refine jr_bri (c := 4 ≤ x4) (pt := 45) (pn := 11) (e_112 rfl) rfl rfl (fun h1 => ?_) (fun h1 => ?_)
    · exact jr_sub (show ([0, 1, 3, 4] : List Nat).Nodup from by decide) xsb_n (hK5 sh)
    · refine jr_aload_n (e_112 rfl) rfl rfl ?_
      refine jr_getr (K2 := 3) (i2 := 0) (e_112 rfl) rfl rfl rfl ?_
      refine jr_iload_n (e_112 rfl) rfl rfl ?_
      refine jr_bipush (e_112 rfl) rfl ?_
      refine jr_imul (e_112 rfl) rfl ?_
      refine jr_iload_n (e_112 rfl) rfl rfl ?_
      refine jr_iadd (e_112 rfl) rfl ?_
      refine jr_callX (as := [xr 3 0, xi (w32 ((w32 (f1 * 24)) + x3))]) (S1 := []) (e_112 rfl) rfl rfl rfl rfl rfl rfl (jm_Search_fits (w32 ((w32 (f1 * 24)) + x3)) sh) rfl (fun v2 s3 => ?_)
      refine jr_brx (c := v2 = 0) (pt := 29) (pn := 27) (e_112 rfl) rfl rfl (fun h4 => ?_) (fun h4 => ?_)
      · refine jr_iconst (e_112 rfl) rfl ?_
        exact jr_retWz (e_112 rfl) rfl rfl
      · refine jr_aload_n (e_112 rfl) rfl rfl ?_
        refine jr_getr (K2 := 6) (i2 := 0) (e_112 rfl) rfl rfl rfl ?_
        refine jr_iload_n (e_112 rfl) rfl rfl ?_
        refine jr_iconst (e_112 rfl) rfl ?_
        refine jr_callP (as := [xr 6 0, xi x3, xi 2]) (S1 := []) (e_112 rfl) rfl rfl rfl rfl rfl rfl (jm_Turns_after x3 2 s3) rfl (fun v5 => ?_)
        refine jr_istore_n (L' := [(3, xi v5), (0, xr 8 0), (1, xi f1), (4, xi x4)]) (e_112 rfl) rfl rfl rfl ?_
        refine jr_iinc (L2 := fun c => [(4, xi c), (3, xi v5), (0, xr 8 0), (1, xi f1)]) (e_112 rfl) rfl rfl rfl (fun _ => rfl) (fun v6 => ?_)
        refine jr_goto (pc' := 5) (e_112 rfl) rfl ?_
        exact jr_sub (show ([4, 3, 0, 1] : List Nat).Nodup from by decide) (xsb_c (List.Mem.tail _ (List.Mem.tail _ (List.Mem.head _))) (xsb_c (List.Mem.tail _ (List.Mem.tail _ (List.Mem.tail _ (List.Mem.head _)))) (xsb_c (List.Mem.tail _ (List.Mem.head _)) (xsb_c (List.Mem.head _) xsb_n)))) (ih5 v5 v6 s3)
noncomputable def fm_S_fitsAllRound (a1 : Int) (a2 : Int) (σ : xa_H) : Option (Int × xa_H) :=
  fm_S_fitsAllRound_5 a1 (fun (s7 : xa_H) =>
    some (1, s7)) xFU a2 0 σ
theorem jm_S_fitsAllRound (a1 : Int) (a2 : Int) (σ : xa_H) : J 112 0 [(0, xr 8 0), (1, xi a1), (2, xi a2)] [] σ jqW (fm_S_fitsAllRound a1 a2 σ) := by
  unfold fm_S_fitsAllRound
  refine jr_iload_n (e_112 rfl) rfl rfl ?_
  refine jr_istore_n (L' := [(3, xi a2), (0, xr 8 0), (1, xi a1), (2, xi a2)]) (e_112 rfl) rfl rfl rfl ?_
  refine jr_iconst (e_112 rfl) rfl ?_
  refine jr_istore (L' := [(4, xi 0), (3, xi a2), (0, xr 8 0), (1, xi a1), (2, xi a2)]) (e_112 rfl) rfl rfl rfl ?_
  refine jr_sub (show ([4, 3, 0, 1, 2] : List Nat).Nodup from by decide) (xsb_c (List.Mem.tail _ (List.Mem.tail _ (List.Mem.head _))) (xsb_c (List.Mem.tail _ (List.Mem.tail _ (List.Mem.tail _ (List.Mem.head _)))) (xsb_c (List.Mem.tail _ (List.Mem.head _)) (xsb_c (List.Mem.head _) xsb_n)))) (jl_S_fitsAllRound_5 a1 σ _ (fun s7 => ?_) xFU a2 0 σ)
  refine jr_iconst (e_112 rfl) rfl ?_
  exact jr_retWz (e_112 rfl) rfl rfl

theorem e_111 {pc : Nat} {en : xa_I} (h : xlk pc xc_111 = some en) : xcd 111 pc = some en := h
noncomputable def fm_S_turnable_4 (i1 : Nat) (K : Int → xa_H → Option (Int × xa_H)) : Nat → Int → Int → xa_H → Option (Int × xa_H)
  | 0, _, _, _ => none
  | n + 1, x2, x3, sh =>
    if 144 ≤ x3 then
      K x2 sh
    else
      (fm_Way_isCell 0 x3 sh).bind fun v2 =>
      if v2 = 0 then
        xnm (w32 (x3 + 1) : Int) fun v4 =>
        fm_S_turnable_4 i1 K n x2 v4 sh
      else
        xb2 (fm_S_fitsAllRound x3 (sh 5 i1 2) sh) fun v5 s6 =>
        if v5 = 0 then
          xnm (w32 (x3 + 1) : Int) fun v8 =>
          fm_S_turnable_4 i1 K n x2 v8 s6
        else
          xnm (w32 (x2 + 1) : Int) fun v9 =>
          xnm (w32 (x3 + 1) : Int) fun v10 =>
          fm_S_turnable_4 i1 K n v9 v10 s6
theorem jl_S_turnable_4 (i1 : Nat) (σ : xa_H)  (K : Int → xa_H → Option (Int × xa_H)) (hK4 : ∀ (z0 : Int) (sz : xa_H), J 111 46 [(2, xi z0)] [] sz jqW (K z0 sz)) : ∀ (n : Nat) (x2 : Int) (x3 : Int) (sh : xa_H), J 111 4 [(0, xr 8 0), (1, xr 5 i1), (2, xi x2), (3, xi x3)] [] sh jqW (fm_S_turnable_4 i1 K n x2 x3 sh) := by
  intro n
  induction n with
  | zero => intro x2 x3 sh; exact jr_none
  | succ n ih4 =>
    intro x2 x3 sh
    rw [fm_S_turnable_4]
    refine jr_iload_n (e_111 rfl) rfl rfl ?_
    refine jr_sipush (e_111 rfl) rfl ?_
    refine jr_bri (c := 144 ≤ x3) (pt := 46) (pn := 11) (e_111 rfl) rfl rfl (fun h1 => ?_) (fun h1 => ?_)
    · exact jr_sub (show ([0, 1, 2, 3] : List Nat).Nodup from by decide) (xsb_c (List.Mem.tail _ (List.Mem.tail _ (List.Mem.head _))) xsb_n) (hK4 x2 sh)
    · refine jr_aload_n (e_111 rfl) rfl rfl ?_
      refine jr_getr (K2 := 4) (i2 := 0) (e_111 rfl) rfl rfl rfl ?_
      refine jr_getr (K2 := 7) (i2 := 0) (e_111 rfl) rfl rfl rfl ?_
      refine jr_iload_n (e_111 rfl) rfl rfl ?_
      refine jr_callP (as := [xr 7 0, xi x3]) (S1 := []) (e_111 rfl) rfl rfl rfl rfl rfl rfl (jm_Way_isCell 0 x3 sh) rfl (fun v2 => ?_)
      refine jr_bri (c := v2 = 0) (pt := 40) (pn := 25) (e_111 rfl) rfl rfl (fun h3 => ?_) (fun h3 => ?_)
      · refine jr_iinc (L2 := fun c => [(3, xi c), (0, xr 8 0), (1, xr 5 i1), (2, xi x2)]) (e_111 rfl) rfl rfl rfl (fun _ => rfl) (fun v4 => ?_)
        refine jr_goto (pc' := 4) (e_111 rfl) rfl ?_
        exact jr_sub (show ([3, 0, 1, 2] : List Nat).Nodup from by decide) (xsb_c (List.Mem.tail _ (List.Mem.head _)) (xsb_c (List.Mem.tail _ (List.Mem.tail _ (List.Mem.head _))) (xsb_c (List.Mem.tail _ (List.Mem.tail _ (List.Mem.tail _ (List.Mem.head _)))) (xsb_c (List.Mem.head _) xsb_n)))) (ih4 x2 v4 sh)
      · refine jr_aload_n (e_111 rfl) rfl rfl ?_
        refine jr_iload_n (e_111 rfl) rfl rfl ?_
        refine jr_aload_n (e_111 rfl) rfl rfl ?_
        refine jr_geti (e_111 rfl) rfl (by decide +kernel) ?_
        refine jr_callX (as := [xr 8 0, xi x3, xi (sh 5 i1 2)]) (S1 := []) (e_111 rfl) rfl rfl rfl rfl rfl rfl (jm_S_fitsAllRound x3 (sh 5 i1 2) sh) rfl (fun v5 s6 => ?_)
        refine jr_bri (c := v5 = 0) (pt := 40) (pn := 37) (e_111 rfl) rfl rfl (fun h7 => ?_) (fun h7 => ?_)
        · refine jr_iinc (L2 := fun c => [(3, xi c), (0, xr 8 0), (1, xr 5 i1), (2, xi x2)]) (e_111 rfl) rfl rfl rfl (fun _ => rfl) (fun v8 => ?_)
          refine jr_goto (pc' := 4) (e_111 rfl) rfl ?_
          exact jr_sub (show ([3, 0, 1, 2] : List Nat).Nodup from by decide) (xsb_c (List.Mem.tail _ (List.Mem.head _)) (xsb_c (List.Mem.tail _ (List.Mem.tail _ (List.Mem.head _))) (xsb_c (List.Mem.tail _ (List.Mem.tail _ (List.Mem.tail _ (List.Mem.head _)))) (xsb_c (List.Mem.head _) xsb_n)))) (ih4 x2 v8 s6)
        · refine jr_iinc (L2 := fun c => [(2, xi c), (0, xr 8 0), (1, xr 5 i1), (3, xi x3)]) (e_111 rfl) rfl rfl rfl (fun _ => rfl) (fun v9 => ?_)
          refine jr_iinc (L2 := fun c => [(3, xi c), (2, xi v9), (0, xr 8 0), (1, xr 5 i1)]) (e_111 rfl) rfl rfl rfl (fun _ => rfl) (fun v10 => ?_)
          refine jr_goto (pc' := 4) (e_111 rfl) rfl ?_
          exact jr_sub (show ([3, 2, 0, 1] : List Nat).Nodup from by decide) (xsb_c (List.Mem.tail _ (List.Mem.tail _ (List.Mem.head _))) (xsb_c (List.Mem.tail _ (List.Mem.tail _ (List.Mem.tail _ (List.Mem.head _)))) (xsb_c (List.Mem.tail _ (List.Mem.head _)) (xsb_c (List.Mem.head _) xsb_n)))) (ih4 v9 v10 s6)
noncomputable def fm_S_turnable (i1 : Nat) (σ : xa_H) : Option (Int × xa_H) :=
  fm_S_turnable_4 i1 (fun (v11 : Int) (s12 : xa_H) =>
    some (v11, s12)) xFU 0 0 σ
theorem jm_S_turnable (i1 : Nat) (σ : xa_H) : J 111 0 [(0, xr 8 0), (1, xr 5 i1)] [] σ jqW (fm_S_turnable i1 σ) := by
  unfold fm_S_turnable
  refine jr_iconst (e_111 rfl) rfl ?_
  refine jr_istore_n (L' := [(2, xi 0), (0, xr 8 0), (1, xr 5 i1)]) (e_111 rfl) rfl rfl rfl ?_
  refine jr_iconst (e_111 rfl) rfl ?_
  refine jr_istore_n (L' := [(3, xi 0), (2, xi 0), (0, xr 8 0), (1, xr 5 i1)]) (e_111 rfl) rfl rfl rfl ?_
  refine jr_sub (show ([3, 2, 0, 1] : List Nat).Nodup from by decide) (xsb_c (List.Mem.tail _ (List.Mem.tail _ (List.Mem.head _))) (xsb_c (List.Mem.tail _ (List.Mem.tail _ (List.Mem.tail _ (List.Mem.head _)))) (xsb_c (List.Mem.tail _ (List.Mem.head _)) (xsb_c (List.Mem.head _) xsb_n)))) (jl_S_turnable_4 i1 σ _ (fun v11 s12 => ?_) xFU 0 0 σ)
  refine jr_iload_n (e_111 rfl) rfl rfl ?_
  exact jr_retW (e_111 rfl) rfl

theorem e_97 {pc : Nat} {en : xa_I} (h : xlk pc xc_97 = some en) : xcd 97 pc = some en := h
noncomputable def fm_S_room (a1 : Int) (a2 : Int) (σ : xa_H) : Option (Int × xa_H) :=
  if a1 < 0 then
    (fm_S_isUpTo a2 2).bind fun v1 =>
    some ((-1), σ)
  else
    if 4 ≤ a1 then
      (fm_S_isUpTo a2 2).bind fun v2 =>
      some ((-1), σ)
    else
      if 0 ≤ a1 ∧ a1 < 4 then
        (fm_S_isUpTo a2 2).bind fun v3 =>
        if v3 = 0 then
          if (-2) = 0 then
            if a2 = 1 then
              (fm_S_scrapes (4 * 0 + a1.toNat) σ).bind fun v6 =>
              some (v6, σ)
            else
              (fm_Search_about (4 * 0 + a1.toNat) σ).bind fun s7 =>
              (fm_Search_off 0 0 s7).bind fun s8 =>
              if a2 = 2 then
                xb2 (fm_S_turnable (4 * 0 + a1.toNat) s8) fun v10 s11 =>
                some (v10, s11)
              else
                (fm_Thing_stand (4 * 0 + a1.toNat) s8).bind fun v12 =>
                xb2 (fm_Search_flood v12 (-6) s8) fun v13 s14 =>
                some ((s14 3 0 10), s14)
          else
            some ((-2), σ)
        else
          if 0 ≤ (σ 5 (4 * 0 + a1.toNat) 1) then
            if 0 = 0 then
              if a2 = 1 then
                (fm_S_scrapes (4 * 0 + a1.toNat) σ).bind fun v17 =>
                some (v17, σ)
              else
                (fm_Search_about (4 * 0 + a1.toNat) σ).bind fun s18 =>
                (fm_Search_off 0 0 s18).bind fun s19 =>
                if a2 = 2 then
                  xb2 (fm_S_turnable (4 * 0 + a1.toNat) s19) fun v21 s22 =>
                  some (v21, s22)
                else
                  (fm_Thing_stand (4 * 0 + a1.toNat) s19).bind fun v23 =>
                  xb2 (fm_Search_flood v23 (-6) s19) fun v24 s25 =>
                  some ((s25 3 0 10), s25)
            else
              some (0, σ)
          else
            if (-3) = 0 then
              if a2 = 1 then
                (fm_S_scrapes (4 * 0 + a1.toNat) σ).bind fun v28 =>
                some (v28, σ)
              else
                (fm_Search_about (4 * 0 + a1.toNat) σ).bind fun s29 =>
                (fm_Search_off 0 0 s29).bind fun s30 =>
                if a2 = 2 then
                  xb2 (fm_S_turnable (4 * 0 + a1.toNat) s30) fun v32 s33 =>
                  some (v32, s33)
                else
                  (fm_Thing_stand (4 * 0 + a1.toNat) s30).bind fun v34 =>
                  xb2 (fm_Search_flood v34 (-6) s30) fun v35 s36 =>
                  some ((s36 3 0 10), s36)
            else
              some ((-3), σ)
      else none
theorem jm_S_room (a1 : Int) (a2 : Int) (σ : xa_H) : J 97 0 [(0, xr 8 0), (1, xi a1), (2, xi a2)] [] σ jqW (fm_S_room a1 a2 σ) := by
  unfold fm_S_room
  refine jr_aload_n (e_97 rfl) rfl rfl ?_
  refine jr_getr (K2 := 4) (i2 := 0) (e_97 rfl) rfl rfl rfl ?_
  refine jr_iload_n (e_97 rfl) rfl rfl ?_
  refine jr_inl (as := [xr 4 0, xi a1]) (S1 := []) (L' := [(0, xr 4 0), (1, xi a1)]) (e_97 rfl) rfl rfl rfl rfl rfl rfl rfl rfl ?_
  refine jr_iload_n (e_51 rfl) rfl rfl ?_
  refine jr_bri (c := a1 < 0) (pt := 22) (pn := 4) (e_51 rfl) rfl rfl (fun h1001 => ?_) (fun h1001 => ?_)
  · refine jr_null (e_51 rfl) rfl ?_
    refine jr_retC (e_51 rfl) ?_
    refine jr_astore_n (L' := [(3, xn), (0, xr 8 0), (1, xi a1), (2, xi a2)]) (e_97 rfl) rfl rfl rfl ?_
    refine jr_aload_n (e_97 rfl) rfl rfl ?_
    refine jr_iload_n (e_97 rfl) rfl rfl ?_
    refine jr_iconst (e_97 rfl) rfl ?_
    refine jr_callP (as := [xi a2, xi 2]) (S1 := [xn]) (e_97 rfl) rfl rfl rfl rfl rfl rfl (jm_S_isUpTo a2 2 σ) rfl (fun v1 => ?_)
    refine jr_inl (as := [xn, xi v1]) (S1 := []) (L' := [(0, xn), (1, xi v1)]) (e_97 rfl) rfl rfl rfl rfl rfl rfl rfl rfl ?_
    refine jr_aload_n (e_126 rfl) rfl rfl ?_
    refine jr_s (q := (4, [(0, xn), (1, xi v1)], [], σ)) (e_126 rfl) rfl rfl ?_
    refine jr_iconst (e_126 rfl) rfl ?_
    refine jr_retCi (e_126 rfl) rfl ?_
    refine jr_istore (L' := [(4, xi (-1)), (3, xn), (0, xr 8 0), (1, xi a1), (2, xi a2)]) (e_97 rfl) rfl rfl rfl ?_
    refine jr_aload_n (e_97 rfl) rfl rfl ?_
    refine jr_s (q := (29, [(4, xi (-1)), (3, xn), (0, xr 8 0), (1, xi a1), (2, xi a2)], [], σ)) (e_97 rfl) rfl rfl ?_
    refine jr_iload (e_97 rfl) rfl rfl ?_
    exact jr_retW (e_97 rfl) rfl
  · refine jr_iload_n (e_51 rfl) rfl rfl ?_
    refine jr_aload_n (e_51 rfl) rfl rfl ?_
    refine jr_getr (K2 := 24) (i2 := 0) (e_51 rfl) rfl rfl rfl ?_
    refine jr_alen (a := 4) (e_51 rfl) rfl (by decide +kernel) rfl ?_
    refine jr_bri (c := 4 ≤ a1) (pt := 22) (pn := 13) (e_51 rfl) rfl rfl (fun h1002 => ?_) (fun h1002 => ?_)
    · refine jr_null (e_51 rfl) rfl ?_
      refine jr_retC (e_51 rfl) ?_
      refine jr_astore_n (L' := [(3, xn), (0, xr 8 0), (1, xi a1), (2, xi a2)]) (e_97 rfl) rfl rfl rfl ?_
      refine jr_aload_n (e_97 rfl) rfl rfl ?_
      refine jr_iload_n (e_97 rfl) rfl rfl ?_
      refine jr_iconst (e_97 rfl) rfl ?_
      refine jr_callP (as := [xi a2, xi 2]) (S1 := [xn]) (e_97 rfl) rfl rfl rfl rfl rfl rfl (jm_S_isUpTo a2 2 σ) rfl (fun v2 => ?_)
      refine jr_inl (as := [xn, xi v2]) (S1 := []) (L' := [(0, xn), (1, xi v2)]) (e_97 rfl) rfl rfl rfl rfl rfl rfl rfl rfl ?_
      refine jr_aload_n (e_126 rfl) rfl rfl ?_
      refine jr_s (q := (4, [(0, xn), (1, xi v2)], [], σ)) (e_126 rfl) rfl rfl ?_
      refine jr_iconst (e_126 rfl) rfl ?_
      refine jr_retCi (e_126 rfl) rfl ?_
      refine jr_istore (L' := [(4, xi (-1)), (3, xn), (0, xr 8 0), (1, xi a1), (2, xi a2)]) (e_97 rfl) rfl rfl rfl ?_
      refine jr_aload_n (e_97 rfl) rfl rfl ?_
      refine jr_s (q := (29, [(4, xi (-1)), (3, xn), (0, xr 8 0), (1, xi a1), (2, xi a2)], [], σ)) (e_97 rfl) rfl rfl ?_
      refine jr_iload (e_97 rfl) rfl rfl ?_
      exact jr_retW (e_97 rfl) rfl
    · refine jr_aload_n (e_51 rfl) rfl rfl ?_
      refine jr_getr (K2 := 24) (i2 := 0) (e_51 rfl) rfl rfl rfl ?_
      refine jr_iload_n (e_51 rfl) rfl rfl ?_
      refine jr_aald (n := 4) (K2 := 5) (i2 := (4 * 0 + a1.toNat)) (e_51 rfl) rfl (by decide +kernel) rfl rfl ?_
      refine jr_goto (pc' := 23) (e_51 rfl) rfl ?_
      refine jr_retC (e_51 rfl) ?_
      refine jr_astore_n (L' := [(3, xr 5 (4 * 0 + a1.toNat)), (0, xr 8 0), (1, xi a1), (2, xi a2)]) (e_97 rfl) rfl rfl rfl ?_
      refine jr_aload_n (e_97 rfl) rfl rfl ?_
      refine jr_iload_n (e_97 rfl) rfl rfl ?_
      refine jr_iconst (e_97 rfl) rfl ?_
      refine jr_callP (as := [xi a2, xi 2]) (S1 := [xr 5 (4 * 0 + a1.toNat)]) (e_97 rfl) rfl rfl rfl rfl rfl rfl (jm_S_isUpTo a2 2 σ) rfl (fun v3 => ?_)
      refine jr_inl (as := [xr 5 (4 * 0 + a1.toNat), xi v3]) (S1 := []) (L' := [(0, xr 5 (4 * 0 + a1.toNat)), (1, xi v3)]) (e_97 rfl) rfl rfl rfl rfl rfl rfl rfl rfl ?_
      refine jr_aload_n (e_126 rfl) rfl rfl ?_
      refine jr_s (q := (6, [(0, xr 5 (4 * 0 + a1.toNat)), (1, xi v3)], [], σ)) (e_126 rfl) rfl rfl ?_
      refine jr_iload_n (e_126 rfl) rfl rfl ?_
      refine jr_brx (c := v3 = 0) (pt := 13) (pn := 10) (e_126 rfl) rfl rfl (fun h1004 => ?_) (fun h1004 => ?_)
      · refine jr_bipush (e_126 rfl) rfl ?_
        refine jr_retCi (e_126 rfl) rfl ?_
        refine jr_istore (L' := [(4, xi (-2)), (3, xr 5 (4 * 0 + a1.toNat)), (0, xr 8 0), (1, xi a1), (2, xi a2)]) (e_97 rfl) rfl rfl rfl ?_
        refine jr_aload_n (e_97 rfl) rfl rfl ?_
        refine jr_s (q := (24, [(4, xi (-2)), (3, xr 5 (4 * 0 + a1.toNat)), (0, xr 8 0), (1, xi a1), (2, xi a2)], [], σ)) (e_97 rfl) rfl rfl ?_
        refine jr_iload (e_97 rfl) rfl rfl ?_
        refine jr_bri (c := (-2) = 0) (pt := 32) (pn := 29) (e_97 rfl) rfl rfl (fun h4 => ?_) (fun h4 => ?_)
        · refine jr_iload_n (e_97 rfl) rfl rfl ?_
          refine jr_iconst (e_97 rfl) rfl ?_
          refine jr_brx (c := a2 = 1) (pt := 43) (pn := 37) (e_97 rfl) rfl rfl (fun h5 => ?_) (fun h5 => ?_)
          · refine jr_aload_n (e_97 rfl) rfl rfl ?_
            refine jr_aload_n (e_97 rfl) rfl rfl ?_
            refine jr_callP (as := [xr 8 0, xr 5 (4 * 0 + a1.toNat)]) (S1 := []) (e_97 rfl) rfl rfl rfl rfl rfl rfl (jm_S_scrapes (4 * 0 + a1.toNat) σ) rfl (fun v6 => ?_)
            exact jr_retW (e_97 rfl) rfl
          · refine jr_aload_n (e_97 rfl) rfl rfl ?_
            refine jr_getr (K2 := 3) (i2 := 0) (e_97 rfl) rfl rfl rfl ?_
            refine jr_aload_n (e_97 rfl) rfl rfl ?_
            refine jr_callV (as := [xr 3 0, xr 5 (4 * 0 + a1.toNat)]) (S1 := []) (e_97 rfl) rfl rfl rfl rfl rfl rfl (jm_Search_about (4 * 0 + a1.toNat) σ) rfl (fun s7 => ?_)
            refine jr_aload_n (e_97 rfl) rfl rfl ?_
            refine jr_getr (K2 := 3) (i2 := 0) (e_97 rfl) rfl rfl rfl ?_
            refine jr_iconst (e_97 rfl) rfl ?_
            refine jr_iconst (e_97 rfl) rfl ?_
            refine jr_callV (as := [xr 3 0, xi 0, xi 0]) (S1 := []) (e_97 rfl) rfl rfl rfl rfl rfl rfl (jm_Search_off 0 0 s7) rfl (fun s8 => ?_)
            refine jr_iload_n (e_97 rfl) rfl rfl ?_
            refine jr_iconst (e_97 rfl) rfl ?_
            refine jr_brx (c := a2 = 2) (pt := 71) (pn := 65) (e_97 rfl) rfl rfl (fun h9 => ?_) (fun h9 => ?_)
            · refine jr_aload_n (e_97 rfl) rfl rfl ?_
              refine jr_aload_n (e_97 rfl) rfl rfl ?_
              refine jr_callX (as := [xr 8 0, xr 5 (4 * 0 + a1.toNat)]) (S1 := []) (e_97 rfl) rfl rfl rfl rfl rfl rfl (jm_S_turnable (4 * 0 + a1.toNat) s8) rfl (fun v10 s11 => ?_)
              exact jr_retW (e_97 rfl) rfl
            · refine jr_aload_n (e_97 rfl) rfl rfl ?_
              refine jr_getr (K2 := 3) (i2 := 0) (e_97 rfl) rfl rfl rfl ?_
              refine jr_aload_n (e_97 rfl) rfl rfl ?_
              refine jr_callP (as := [xr 5 (4 * 0 + a1.toNat)]) (S1 := [xr 3 0]) (e_97 rfl) rfl rfl rfl rfl rfl rfl (jm_Thing_stand (4 * 0 + a1.toNat) s8) rfl (fun v12 => ?_)
              refine jr_bipush (e_97 rfl) rfl ?_
              refine jr_callX (as := [xr 3 0, xi v12, xi (-6)]) (S1 := []) (e_97 rfl) rfl rfl rfl rfl rfl rfl (jm_Search_flood v12 (-6) s8) rfl (fun v13 s14 => ?_)
              refine jr_pop (e_97 rfl) rfl rfl ?_
              refine jr_aload_n (e_97 rfl) rfl rfl ?_
              refine jr_getr (K2 := 3) (i2 := 0) (e_97 rfl) rfl rfl rfl ?_
              refine jr_geti (e_97 rfl) rfl (by decide +kernel) ?_
              exact jr_retW (e_97 rfl) rfl
        · refine jr_iload (e_97 rfl) rfl rfl ?_
          exact jr_retW (e_97 rfl) rfl
      · refine jr_aload_n (e_126 rfl) rfl rfl ?_
        refine jr_geti (e_126 rfl) rfl (by decide +kernel) ?_
        refine jr_bri (c := 0 ≤ (σ 5 (4 * 0 + a1.toNat) 1)) (pt := 25) (pn := 20) (e_126 rfl) rfl rfl (fun h1005 => ?_) (fun h1005 => ?_)
        · refine jr_iconst (e_126 rfl) rfl ?_
          refine jr_retCi (e_126 rfl) rfl ?_
          refine jr_istore (L' := [(4, xi 0), (3, xr 5 (4 * 0 + a1.toNat)), (0, xr 8 0), (1, xi a1), (2, xi a2)]) (e_97 rfl) rfl rfl rfl ?_
          refine jr_aload_n (e_97 rfl) rfl rfl ?_
          refine jr_s (q := (24, [(4, xi 0), (3, xr 5 (4 * 0 + a1.toNat)), (0, xr 8 0), (1, xi a1), (2, xi a2)], [], σ)) (e_97 rfl) rfl rfl ?_
          refine jr_iload (e_97 rfl) rfl rfl ?_
          refine jr_bri (c := 0 = 0) (pt := 32) (pn := 29) (e_97 rfl) rfl rfl (fun h15 => ?_) (fun h15 => ?_)
          · refine jr_iload_n (e_97 rfl) rfl rfl ?_
            refine jr_iconst (e_97 rfl) rfl ?_
            refine jr_brx (c := a2 = 1) (pt := 43) (pn := 37) (e_97 rfl) rfl rfl (fun h16 => ?_) (fun h16 => ?_)
            · refine jr_aload_n (e_97 rfl) rfl rfl ?_
              refine jr_aload_n (e_97 rfl) rfl rfl ?_
              refine jr_callP (as := [xr 8 0, xr 5 (4 * 0 + a1.toNat)]) (S1 := []) (e_97 rfl) rfl rfl rfl rfl rfl rfl (jm_S_scrapes (4 * 0 + a1.toNat) σ) rfl (fun v17 => ?_)
              exact jr_retW (e_97 rfl) rfl
            · refine jr_aload_n (e_97 rfl) rfl rfl ?_
              refine jr_getr (K2 := 3) (i2 := 0) (e_97 rfl) rfl rfl rfl ?_
              refine jr_aload_n (e_97 rfl) rfl rfl ?_
              refine jr_callV (as := [xr 3 0, xr 5 (4 * 0 + a1.toNat)]) (S1 := []) (e_97 rfl) rfl rfl rfl rfl rfl rfl (jm_Search_about (4 * 0 + a1.toNat) σ) rfl (fun s18 => ?_)
              refine jr_aload_n (e_97 rfl) rfl rfl ?_
              refine jr_getr (K2 := 3) (i2 := 0) (e_97 rfl) rfl rfl rfl ?_
              refine jr_iconst (e_97 rfl) rfl ?_
              refine jr_iconst (e_97 rfl) rfl ?_
              refine jr_callV (as := [xr 3 0, xi 0, xi 0]) (S1 := []) (e_97 rfl) rfl rfl rfl rfl rfl rfl (jm_Search_off 0 0 s18) rfl (fun s19 => ?_)
              refine jr_iload_n (e_97 rfl) rfl rfl ?_
              refine jr_iconst (e_97 rfl) rfl ?_
              refine jr_brx (c := a2 = 2) (pt := 71) (pn := 65) (e_97 rfl) rfl rfl (fun h20 => ?_) (fun h20 => ?_)
              · refine jr_aload_n (e_97 rfl) rfl rfl ?_
                refine jr_aload_n (e_97 rfl) rfl rfl ?_
                refine jr_callX (as := [xr 8 0, xr 5 (4 * 0 + a1.toNat)]) (S1 := []) (e_97 rfl) rfl rfl rfl rfl rfl rfl (jm_S_turnable (4 * 0 + a1.toNat) s19) rfl (fun v21 s22 => ?_)
                exact jr_retW (e_97 rfl) rfl
              · refine jr_aload_n (e_97 rfl) rfl rfl ?_
                refine jr_getr (K2 := 3) (i2 := 0) (e_97 rfl) rfl rfl rfl ?_
                refine jr_aload_n (e_97 rfl) rfl rfl ?_
                refine jr_callP (as := [xr 5 (4 * 0 + a1.toNat)]) (S1 := [xr 3 0]) (e_97 rfl) rfl rfl rfl rfl rfl rfl (jm_Thing_stand (4 * 0 + a1.toNat) s19) rfl (fun v23 => ?_)
                refine jr_bipush (e_97 rfl) rfl ?_
                refine jr_callX (as := [xr 3 0, xi v23, xi (-6)]) (S1 := []) (e_97 rfl) rfl rfl rfl rfl rfl rfl (jm_Search_flood v23 (-6) s19) rfl (fun v24 s25 => ?_)
                refine jr_pop (e_97 rfl) rfl rfl ?_
                refine jr_aload_n (e_97 rfl) rfl rfl ?_
                refine jr_getr (K2 := 3) (i2 := 0) (e_97 rfl) rfl rfl rfl ?_
                refine jr_geti (e_97 rfl) rfl (by decide +kernel) ?_
                exact jr_retW (e_97 rfl) rfl
          · refine jr_iload (e_97 rfl) rfl rfl ?_
            exact jr_retW (e_97 rfl) rfl
        · refine jr_bipush (e_126 rfl) rfl ?_
          refine jr_goto (pc' := 26) (e_126 rfl) rfl ?_
          refine jr_retCi (e_126 rfl) rfl ?_
          refine jr_istore (L' := [(4, xi (-3)), (3, xr 5 (4 * 0 + a1.toNat)), (0, xr 8 0), (1, xi a1), (2, xi a2)]) (e_97 rfl) rfl rfl rfl ?_
          refine jr_aload_n (e_97 rfl) rfl rfl ?_
          refine jr_s (q := (24, [(4, xi (-3)), (3, xr 5 (4 * 0 + a1.toNat)), (0, xr 8 0), (1, xi a1), (2, xi a2)], [], σ)) (e_97 rfl) rfl rfl ?_
          refine jr_iload (e_97 rfl) rfl rfl ?_
          refine jr_bri (c := (-3) = 0) (pt := 32) (pn := 29) (e_97 rfl) rfl rfl (fun h26 => ?_) (fun h26 => ?_)
          · refine jr_iload_n (e_97 rfl) rfl rfl ?_
            refine jr_iconst (e_97 rfl) rfl ?_
            refine jr_brx (c := a2 = 1) (pt := 43) (pn := 37) (e_97 rfl) rfl rfl (fun h27 => ?_) (fun h27 => ?_)
            · refine jr_aload_n (e_97 rfl) rfl rfl ?_
              refine jr_aload_n (e_97 rfl) rfl rfl ?_
              refine jr_callP (as := [xr 8 0, xr 5 (4 * 0 + a1.toNat)]) (S1 := []) (e_97 rfl) rfl rfl rfl rfl rfl rfl (jm_S_scrapes (4 * 0 + a1.toNat) σ) rfl (fun v28 => ?_)
              exact jr_retW (e_97 rfl) rfl
            · refine jr_aload_n (e_97 rfl) rfl rfl ?_
              refine jr_getr (K2 := 3) (i2 := 0) (e_97 rfl) rfl rfl rfl ?_
              refine jr_aload_n (e_97 rfl) rfl rfl ?_
              refine jr_callV (as := [xr 3 0, xr 5 (4 * 0 + a1.toNat)]) (S1 := []) (e_97 rfl) rfl rfl rfl rfl rfl rfl (jm_Search_about (4 * 0 + a1.toNat) σ) rfl (fun s29 => ?_)
              refine jr_aload_n (e_97 rfl) rfl rfl ?_
              refine jr_getr (K2 := 3) (i2 := 0) (e_97 rfl) rfl rfl rfl ?_
              refine jr_iconst (e_97 rfl) rfl ?_
              refine jr_iconst (e_97 rfl) rfl ?_
              refine jr_callV (as := [xr 3 0, xi 0, xi 0]) (S1 := []) (e_97 rfl) rfl rfl rfl rfl rfl rfl (jm_Search_off 0 0 s29) rfl (fun s30 => ?_)
              refine jr_iload_n (e_97 rfl) rfl rfl ?_
              refine jr_iconst (e_97 rfl) rfl ?_
              refine jr_brx (c := a2 = 2) (pt := 71) (pn := 65) (e_97 rfl) rfl rfl (fun h31 => ?_) (fun h31 => ?_)
              · refine jr_aload_n (e_97 rfl) rfl rfl ?_
                refine jr_aload_n (e_97 rfl) rfl rfl ?_
                refine jr_callX (as := [xr 8 0, xr 5 (4 * 0 + a1.toNat)]) (S1 := []) (e_97 rfl) rfl rfl rfl rfl rfl rfl (jm_S_turnable (4 * 0 + a1.toNat) s30) rfl (fun v32 s33 => ?_)
                exact jr_retW (e_97 rfl) rfl
              · refine jr_aload_n (e_97 rfl) rfl rfl ?_
                refine jr_getr (K2 := 3) (i2 := 0) (e_97 rfl) rfl rfl rfl ?_
                refine jr_aload_n (e_97 rfl) rfl rfl ?_
                refine jr_callP (as := [xr 5 (4 * 0 + a1.toNat)]) (S1 := [xr 3 0]) (e_97 rfl) rfl rfl rfl rfl rfl rfl (jm_Thing_stand (4 * 0 + a1.toNat) s30) rfl (fun v34 => ?_)
                refine jr_bipush (e_97 rfl) rfl ?_
                refine jr_callX (as := [xr 3 0, xi v34, xi (-6)]) (S1 := []) (e_97 rfl) rfl rfl rfl rfl rfl rfl (jm_Search_flood v34 (-6) s30) rfl (fun v35 s36 => ?_)
                refine jr_pop (e_97 rfl) rfl rfl ?_
                refine jr_aload_n (e_97 rfl) rfl rfl ?_
                refine jr_getr (K2 := 3) (i2 := 0) (e_97 rfl) rfl rfl rfl ?_
                refine jr_geti (e_97 rfl) rfl (by decide +kernel) ?_
                exact jr_retW (e_97 rfl) rfl
          · refine jr_iload (e_97 rfl) rfl rfl ?_
            exact jr_retW (e_97 rfl) rfl

theorem e_113 {pc : Nat} {en : xa_I} (h : xlk pc xc_113 = some en) : xcd 113 pc = some en := h
noncomputable def fm_S_goesWith (i1 : Nat) (a2 : Int) (σ : xa_H) : Option (Int × xa_H) :=
  (fm_Search_off (xdiv a2 16) (xrem a2 16) σ).bind fun s1 =>
  (fm_Thing_stand i1 s1).bind fun v2 =>
  xb2 (fm_Search_flood v2 (s1 5 i1 3) s1) fun v3 s4 =>
  if v3 < 0 then
    some (0, s4)
  else
    some (1, s4)
theorem jm_S_goesWith (i1 : Nat) (a2 : Int) (σ : xa_H) : J 113 0 [(0, xr 8 0), (1, xr 5 i1), (2, xi a2)] [] σ jqW (fm_S_goesWith i1 a2 σ) := by
  unfold fm_S_goesWith
  refine jr_aload_n (e_113 rfl) rfl rfl ?_
  refine jr_getr (K2 := 3) (i2 := 0) (e_113 rfl) rfl rfl rfl ?_
  refine jr_iload_n (e_113 rfl) rfl rfl ?_
  refine jr_bipush (e_113 rfl) rfl ?_
  refine jr_idiv (e_113 rfl) rfl (by decide) ?_
  refine jr_iload_n (e_113 rfl) rfl rfl ?_
  refine jr_bipush (e_113 rfl) rfl ?_
  refine jr_irem (e_113 rfl) rfl (by decide) ?_
  refine jr_callV (as := [xr 3 0, xi (xdiv a2 16), xi (xrem a2 16)]) (S1 := []) (e_113 rfl) rfl rfl rfl rfl rfl rfl (jm_Search_off (xdiv a2 16) (xrem a2 16) σ) rfl (fun s1 => ?_)
  refine jr_aload_n (e_113 rfl) rfl rfl ?_
  refine jr_getr (K2 := 3) (i2 := 0) (e_113 rfl) rfl rfl rfl ?_
  refine jr_aload_n (e_113 rfl) rfl rfl ?_
  refine jr_callP (as := [xr 5 i1]) (S1 := [xr 3 0]) (e_113 rfl) rfl rfl rfl rfl rfl rfl (jm_Thing_stand i1 s1) rfl (fun v2 => ?_)
  refine jr_aload_n (e_113 rfl) rfl rfl ?_
  refine jr_geti (e_113 rfl) rfl (by decide +kernel) ?_
  refine jr_callX (as := [xr 3 0, xi v2, xi (s1 5 i1 3)]) (S1 := []) (e_113 rfl) rfl rfl rfl rfl rfl rfl (jm_Search_flood v2 (s1 5 i1 3) s1) rfl (fun v3 s4 => ?_)
  refine jr_bri (c := v3 < 0) (pt := 37) (pn := 33) (e_113 rfl) rfl rfl (fun h5 => ?_) (fun h5 => ?_)
  · refine jr_iconst (e_113 rfl) rfl ?_
    exact jr_retWz (e_113 rfl) rfl rfl
  · refine jr_iconst (e_113 rfl) rfl ?_
    refine jr_goto (pc' := 38) (e_113 rfl) rfl ?_
    exact jr_retWz (e_113 rfl) rfl rfl

theorem e_115 {pc : Nat} {en : xa_I} (h : xlk pc xc_115 = some en) : xcd 115 pc = some en := h
noncomputable def fm_S_neededOf_5 (i1 : Nat) (f2 : Int) (K : Int → xa_H → Option (Int × xa_H)) : Nat → Int → Int → xa_H → Option (Int × xa_H)
  | 0, _, _, _ => none
  | n + 1, x3, x4, sh =>
    if 8 ≤ x4 then
      K x3 sh
    else
      (fm_S_has f2 x4).bind fun v2 =>
      if v2 = 0 then
        xnm (w32 (x4 + 1) : Int) fun v4 =>
        fm_S_neededOf_5 i1 f2 K n x3 v4 sh
      else
        xb2 (fm_S_goesWith i1 (xand f2 (xxor (xshl 1 x4) (-1))) sh) fun v5 s6 =>
        if v5 = 0 then
          xnm ((xor2 x3 (xshl 1 x4)) : Int) fun v8 =>
          xnm (w32 (x4 + 1) : Int) fun v9 =>
          fm_S_neededOf_5 i1 f2 K n v8 v9 s6
        else
          xnm (w32 (x4 + 1) : Int) fun v10 =>
          fm_S_neededOf_5 i1 f2 K n x3 v10 s6
theorem jl_S_neededOf_5 (i1 : Nat) (f2 : Int) (σ : xa_H)  (K : Int → xa_H → Option (Int × xa_H)) (hK5 : ∀ (z0 : Int) (sz : xa_H), J 115 50 [(3, xi z0)] [] sz jqW (K z0 sz)) : ∀ (n : Nat) (x3 : Int) (x4 : Int) (sh : xa_H), J 115 5 [(0, xr 8 0), (1, xr 5 i1), (2, xi f2), (3, xi x3), (4, xi x4)] [] sh jqW (fm_S_neededOf_5 i1 f2 K n x3 x4 sh) := by
  intro n
  induction n with
  | zero => intro x3 x4 sh; exact jr_none
  | succ n ih5 =>
    intro x3 x4 sh
    rw [fm_S_neededOf_5]
    refine jr_iload (e_115 rfl) rfl rfl ?_
    refine jr_bipush (e_115 rfl) rfl ?_
    refine jr_bri (c := 8 ≤ x4) (pt := 50) (pn := 12) (e_115 rfl) rfl rfl (fun h1 => ?_) (fun h1 => ?_)
    · exact jr_sub (show ([0, 1, 2, 3, 4] : List Nat).Nodup from by decide) (xsb_c (List.Mem.tail _ (List.Mem.tail _ (List.Mem.tail _ (List.Mem.head _)))) xsb_n) (hK5 x3 sh)
    · refine jr_iload_n (e_115 rfl) rfl rfl ?_
      refine jr_iload (e_115 rfl) rfl rfl ?_
      refine jr_callP (as := [xi f2, xi x4]) (S1 := []) (e_115 rfl) rfl rfl rfl rfl rfl rfl (jm_S_has f2 x4 sh) rfl (fun v2 => ?_)
      refine jr_bri (c := v2 = 0) (pt := 44) (pn := 21) (e_115 rfl) rfl rfl (fun h3 => ?_) (fun h3 => ?_)
      · refine jr_iinc (L2 := fun c => [(4, xi c), (0, xr 8 0), (1, xr 5 i1), (2, xi f2), (3, xi x3)]) (e_115 rfl) rfl rfl rfl (fun _ => rfl) (fun v4 => ?_)
        refine jr_goto (pc' := 5) (e_115 rfl) rfl ?_
        exact jr_sub (show ([4, 0, 1, 2, 3] : List Nat).Nodup from by decide) (xsb_c (List.Mem.tail _ (List.Mem.head _)) (xsb_c (List.Mem.tail _ (List.Mem.tail _ (List.Mem.head _))) (xsb_c (List.Mem.tail _ (List.Mem.tail _ (List.Mem.tail _ (List.Mem.head _)))) (xsb_c (List.Mem.tail _ (List.Mem.tail _ (List.Mem.tail _ (List.Mem.tail _ (List.Mem.head _))))) (xsb_c (List.Mem.head _) xsb_n))))) (ih5 x3 v4 sh)
      · refine jr_aload_n (e_115 rfl) rfl rfl ?_
        refine jr_aload_n (e_115 rfl) rfl rfl ?_
        refine jr_iload_n (e_115 rfl) rfl rfl ?_
        refine jr_iconst (e_115 rfl) rfl ?_
        refine jr_iload (e_115 rfl) rfl rfl ?_
        refine jr_ishl (e_115 rfl) rfl ?_
        refine jr_iconst (e_115 rfl) rfl ?_
        refine jr_ixor (e_115 rfl) rfl ?_
        refine jr_iand (e_115 rfl) rfl ?_
        refine jr_callX (as := [xr 8 0, xr 5 i1, xi (xand f2 (xxor (xshl 1 x4) (-1)))]) (S1 := []) (e_115 rfl) rfl rfl rfl rfl rfl rfl (jm_S_goesWith i1 (xand f2 (xxor (xshl 1 x4) (-1))) sh) rfl (fun v5 s6 => ?_)
        refine jr_brx (c := v5 = 0) (pt := 44) (pn := 37) (e_115 rfl) rfl rfl (fun h7 => ?_) (fun h7 => ?_)
        · refine jr_iload_n (e_115 rfl) rfl rfl ?_
          refine jr_iconst (e_115 rfl) rfl ?_
          refine jr_iload (e_115 rfl) rfl rfl ?_
          refine jr_ishl (e_115 rfl) rfl ?_
          refine jr_ior (e_115 rfl) rfl ?_
          refine jr_nm (fun v8 => ?_)
          refine jr_istore_n (L' := [(3, xi v8), (0, xr 8 0), (1, xr 5 i1), (2, xi f2), (4, xi x4)]) (e_115 rfl) rfl rfl rfl ?_
          refine jr_iinc (L2 := fun c => [(4, xi c), (3, xi v8), (0, xr 8 0), (1, xr 5 i1), (2, xi f2)]) (e_115 rfl) rfl rfl rfl (fun _ => rfl) (fun v9 => ?_)
          refine jr_goto (pc' := 5) (e_115 rfl) rfl ?_
          exact jr_sub (show ([4, 3, 0, 1, 2] : List Nat).Nodup from by decide) (xsb_c (List.Mem.tail _ (List.Mem.tail _ (List.Mem.head _))) (xsb_c (List.Mem.tail _ (List.Mem.tail _ (List.Mem.tail _ (List.Mem.head _)))) (xsb_c (List.Mem.tail _ (List.Mem.tail _ (List.Mem.tail _ (List.Mem.tail _ (List.Mem.head _))))) (xsb_c (List.Mem.tail _ (List.Mem.head _)) (xsb_c (List.Mem.head _) xsb_n))))) (ih5 v8 v9 s6)
        · refine jr_iinc (L2 := fun c => [(4, xi c), (0, xr 8 0), (1, xr 5 i1), (2, xi f2), (3, xi x3)]) (e_115 rfl) rfl rfl rfl (fun _ => rfl) (fun v10 => ?_)
          refine jr_goto (pc' := 5) (e_115 rfl) rfl ?_
          exact jr_sub (show ([4, 0, 1, 2, 3] : List Nat).Nodup from by decide) (xsb_c (List.Mem.tail _ (List.Mem.head _)) (xsb_c (List.Mem.tail _ (List.Mem.tail _ (List.Mem.head _))) (xsb_c (List.Mem.tail _ (List.Mem.tail _ (List.Mem.tail _ (List.Mem.head _)))) (xsb_c (List.Mem.tail _ (List.Mem.tail _ (List.Mem.tail _ (List.Mem.tail _ (List.Mem.head _))))) (xsb_c (List.Mem.head _) xsb_n))))) (ih5 x3 v10 s6)
noncomputable def fm_S_neededOf (i1 : Nat) (a2 : Int) (σ : xa_H) : Option (Int × xa_H) :=
  fm_S_neededOf_5 i1 a2 (fun (v11 : Int) (s12 : xa_H) =>
    some (v11, s12)) xFU 0 0 σ
theorem jm_S_neededOf (i1 : Nat) (a2 : Int) (σ : xa_H) : J 115 0 [(0, xr 8 0), (1, xr 5 i1), (2, xi a2)] [] σ jqW (fm_S_neededOf i1 a2 σ) := by
  unfold fm_S_neededOf
  refine jr_iconst (e_115 rfl) rfl ?_
  refine jr_istore_n (L' := [(3, xi 0), (0, xr 8 0), (1, xr 5 i1), (2, xi a2)]) (e_115 rfl) rfl rfl rfl ?_
  refine jr_iconst (e_115 rfl) rfl ?_
  refine jr_istore (L' := [(4, xi 0), (3, xi 0), (0, xr 8 0), (1, xr 5 i1), (2, xi a2)]) (e_115 rfl) rfl rfl rfl ?_
  refine jr_sub (show ([4, 3, 0, 1, 2] : List Nat).Nodup from by decide) (xsb_c (List.Mem.tail _ (List.Mem.tail _ (List.Mem.head _))) (xsb_c (List.Mem.tail _ (List.Mem.tail _ (List.Mem.tail _ (List.Mem.head _)))) (xsb_c (List.Mem.tail _ (List.Mem.tail _ (List.Mem.tail _ (List.Mem.tail _ (List.Mem.head _))))) (xsb_c (List.Mem.tail _ (List.Mem.head _)) (xsb_c (List.Mem.head _) xsb_n))))) (jl_S_neededOf_5 i1 a2 σ _ (fun v11 s12 => ?_) xFU 0 0 σ)
  refine jr_iload_n (e_115 rfl) rfl rfl ?_
  exact jr_retW (e_115 rfl) rfl

theorem e_116 {pc : Nat} {en : xa_I} (h : xlk pc xc_116 = some en) : xcd 116 pc = some en := h
noncomputable def fm_S_sumSetCosts_16 (i1 : Nat) (f2 : Int) (σ : xa_H) (K : Int → Option (xa_H)) : Nat → Int → Int → Option (xa_H)
  | 0, _, _ => none
  | n + 1, x3, x4 =>
    if 4 ≤ x4 then
      K x3
    else
      (fm_S_has f2 x4).bind fun v2 =>
      xj (fun (v4 : Int) =>
        xnm ((w32 (x3 + v4)) : Int) fun v8 =>
        (fm_S_has (xdiv f2 16) x4).bind fun v9 =>
        if v9 = 0 then
          xnm ((w32 (v8 + 0)) : Int) fun v11 =>
          xnm (w32 (x4 + 1) : Int) fun v12 =>
          fm_S_sumSetCosts_16 i1 f2 σ K n v11 v12
        else
          (fm_S_read 30 i1 x4 σ).bind fun v13 =>
          xnm ((w32 (v8 + v13)) : Int) fun v14 =>
          xnm (w32 (x4 + 1) : Int) fun v15 =>
          fm_S_sumSetCosts_16 i1 f2 σ K n v14 v15) fun K5 =>
      if v2 = 0 then
        K5 0
      else
        (fm_S_read 25 0 x4 σ).bind fun v7 =>
        K5 v7
theorem jl_S_sumSetCosts_16 (i1 : Nat) (f2 : Int) (σ : xa_H)  (K : Int → Option (xa_H)) (hK16 : ∀ (z0 : Int), J 116 84 [(0, xr 8 0), (1, xr 5 i1), (2, xi f2), (3, xi z0)] [] σ jqV (K z0)) : ∀ (n : Nat) (x3 : Int) (x4 : Int), J 116 16 [(0, xr 8 0), (1, xr 5 i1), (2, xi f2), (3, xi x3), (4, xi x4)] [] σ jqV (fm_S_sumSetCosts_16 i1 f2 σ K n x3 x4) := by
  intro n
  induction n with
  | zero => intro x3 x4; exact jr_none
  | succ n ih16 =>
    intro x3 x4
    rw [fm_S_sumSetCosts_16]
    refine jr_iload (e_116 rfl) rfl rfl ?_
    refine jr_iconst (e_116 rfl) rfl ?_
    refine jr_bri (c := 4 ≤ x4) (pt := 84) (pn := 22) (e_116 rfl) rfl rfl (fun h1 => ?_) (fun h1 => ?_)
    · exact jr_sub (show ([0, 1, 2, 3, 4] : List Nat).Nodup from by decide) (xsb_c (List.Mem.head _) (xsb_c (List.Mem.tail _ (List.Mem.head _)) (xsb_c (List.Mem.tail _ (List.Mem.tail _ (List.Mem.head _))) (xsb_c (List.Mem.tail _ (List.Mem.tail _ (List.Mem.tail _ (List.Mem.head _)))) xsb_n)))) (hK16 x3)
    · refine jr_iload_n (e_116 rfl) rfl rfl ?_
      refine jr_iload_n (e_116 rfl) rfl rfl ?_
      refine jr_iload (e_116 rfl) rfl rfl ?_
      refine jr_callP (as := [xi f2, xi x4]) (S1 := [xi x3]) (e_116 rfl) rfl rfl rfl rfl rfl rfl (jm_S_has f2 x4 σ) rfl (fun v2 => ?_)
      refine jr_j (fun K5 => ∀ (v4 : Int), J 116 48 [(0, xr 8 0), (1, xr 5 i1), (2, xi f2), (4, xi x4)] [xi v4, xi x3] σ jqV (K5 v4)) (fun v4 => ?_) (fun K5 hK5 => ?_)
      · refine jr_iadd (e_116 rfl) rfl ?_
        refine jr_nm (fun v8 => ?_)
        refine jr_istore_n (L' := [(3, xi v8), (0, xr 8 0), (1, xr 5 i1), (2, xi f2), (4, xi x4)]) (e_116 rfl) rfl rfl rfl ?_
        refine jr_iload_n (e_116 rfl) rfl rfl ?_
        refine jr_iload_n (e_116 rfl) rfl rfl ?_
        refine jr_bipush (e_116 rfl) rfl ?_
        refine jr_idiv (e_116 rfl) rfl (by decide) ?_
        refine jr_iload (e_116 rfl) rfl rfl ?_
        refine jr_callP (as := [xi (xdiv f2 16), xi x4]) (S1 := [xi v8]) (e_116 rfl) rfl rfl rfl rfl rfl rfl (jm_S_has (xdiv f2 16) x4 σ) rfl (fun v9 => ?_)
        refine jr_bri (c := v9 = 0) (pt := 75) (pn := 63) (e_116 rfl) rfl rfl (fun h10 => ?_) (fun h10 => ?_)
        · refine jr_iconst (e_116 rfl) rfl ?_
          refine jr_iadd (e_116 rfl) rfl ?_
          refine jr_nm (fun v11 => ?_)
          refine jr_istore_n (L' := [(3, xi v11), (0, xr 8 0), (1, xr 5 i1), (2, xi f2), (4, xi x4)]) (e_116 rfl) rfl rfl rfl ?_
          refine jr_iinc (L2 := fun c => [(4, xi c), (3, xi v11), (0, xr 8 0), (1, xr 5 i1), (2, xi f2)]) (e_116 rfl) rfl rfl rfl (fun _ => rfl) (fun v12 => ?_)
          refine jr_goto (pc' := 16) (e_116 rfl) rfl ?_
          exact jr_sub (show ([4, 3, 0, 1, 2] : List Nat).Nodup from by decide) (xsb_c (List.Mem.tail _ (List.Mem.tail _ (List.Mem.head _))) (xsb_c (List.Mem.tail _ (List.Mem.tail _ (List.Mem.tail _ (List.Mem.head _)))) (xsb_c (List.Mem.tail _ (List.Mem.tail _ (List.Mem.tail _ (List.Mem.tail _ (List.Mem.head _))))) (xsb_c (List.Mem.tail _ (List.Mem.head _)) (xsb_c (List.Mem.head _) xsb_n))))) (ih16 v11 v12)
        · refine jr_aload_n (e_116 rfl) rfl rfl ?_
          refine jr_getr (K2 := 30) (i2 := i1) (e_116 rfl) rfl rfl rfl ?_
          refine jr_iload (e_116 rfl) rfl rfl ?_
          refine jr_callP (as := [xr 30 i1, xi x4]) (S1 := [xi v8]) (e_116 rfl) rfl rfl rfl rfl rfl rfl (jm_S_read 30 i1 x4 σ rfl) rfl (fun v13 => ?_)
          refine jr_goto (pc' := 76) (e_116 rfl) rfl ?_
          refine jr_iadd (e_116 rfl) rfl ?_
          refine jr_nm (fun v14 => ?_)
          refine jr_istore_n (L' := [(3, xi v14), (0, xr 8 0), (1, xr 5 i1), (2, xi f2), (4, xi x4)]) (e_116 rfl) rfl rfl rfl ?_
          refine jr_iinc (L2 := fun c => [(4, xi c), (3, xi v14), (0, xr 8 0), (1, xr 5 i1), (2, xi f2)]) (e_116 rfl) rfl rfl rfl (fun _ => rfl) (fun v15 => ?_)
          refine jr_goto (pc' := 16) (e_116 rfl) rfl ?_
          exact jr_sub (show ([4, 3, 0, 1, 2] : List Nat).Nodup from by decide) (xsb_c (List.Mem.tail _ (List.Mem.tail _ (List.Mem.head _))) (xsb_c (List.Mem.tail _ (List.Mem.tail _ (List.Mem.tail _ (List.Mem.head _)))) (xsb_c (List.Mem.tail _ (List.Mem.tail _ (List.Mem.tail _ (List.Mem.tail _ (List.Mem.head _))))) (xsb_c (List.Mem.tail _ (List.Mem.head _)) (xsb_c (List.Mem.head _) xsb_n))))) (ih16 v14 v15)
      · refine jr_bri (c := v2 = 0) (pt := 47) (pn := 32) (e_116 rfl) rfl rfl (fun h6 => ?_) (fun h6 => ?_)
        · refine jr_iconst (e_116 rfl) rfl ?_
          exact jr_sub (show ([0, 1, 2, 3, 4] : List Nat).Nodup from by decide) (xsb_c (List.Mem.head _) (xsb_c (List.Mem.tail _ (List.Mem.head _)) (xsb_c (List.Mem.tail _ (List.Mem.tail _ (List.Mem.head _))) (xsb_c (List.Mem.tail _ (List.Mem.tail _ (List.Mem.tail _ (List.Mem.tail _ (List.Mem.head _))))) xsb_n)))) (hK5 0)
        · refine jr_aload_n (e_116 rfl) rfl rfl ?_
          refine jr_getr (K2 := 4) (i2 := 0) (e_116 rfl) rfl rfl rfl ?_
          refine jr_getr (K2 := 25) (i2 := 0) (e_116 rfl) rfl rfl rfl ?_
          refine jr_iload (e_116 rfl) rfl rfl ?_
          refine jr_callP (as := [xr 25 0, xi x4]) (S1 := [xi x3]) (e_116 rfl) rfl rfl rfl rfl rfl rfl (jm_S_read 25 0 x4 σ rfl) rfl (fun v7 => ?_)
          refine jr_goto (pc' := 48) (e_116 rfl) rfl ?_
          exact jr_sub (show ([0, 1, 2, 3, 4] : List Nat).Nodup from by decide) (xsb_c (List.Mem.head _) (xsb_c (List.Mem.tail _ (List.Mem.head _)) (xsb_c (List.Mem.tail _ (List.Mem.tail _ (List.Mem.head _))) (xsb_c (List.Mem.tail _ (List.Mem.tail _ (List.Mem.tail _ (List.Mem.tail _ (List.Mem.head _))))) xsb_n)))) (hK5 v7)
noncomputable def fm_S_sumSetCosts_2 (i1 : Nat) (K : xa_H → Option (xa_H)) : Nat → Int → xa_H → Option (xa_H)
  | 0, _, _ => none
  | n + 1, x2, sh =>
    if 256 ≤ x2 then
      K sh
    else
      fm_S_sumSetCosts_16 i1 x2 sh (fun (v16 : Int) =>
        if 0 ≤ x2 ∧ x2 < 256 then
          xnm (xup sh 11 0 x2.toNat v16) fun s17 =>
          xnm (w32 (x2 + 1) : Int) fun v18 =>
          fm_S_sumSetCosts_2 i1 K n v18 s17
        else none) xFU 0 0
theorem jl_S_sumSetCosts_2 (i1 : Nat) (σ : xa_H)  (K : xa_H → Option (xa_H)) (hK2 : ∀ (sz : xa_H), J 116 97 [] [] sz jqV (K sz)) : ∀ (n : Nat) (x2 : Int) (sh : xa_H), J 116 2 [(0, xr 8 0), (1, xr 5 i1), (2, xi x2)] [] sh jqV (fm_S_sumSetCosts_2 i1 K n x2 sh) := by
  intro n
  induction n with
  | zero => intro x2 sh; exact jr_none
  | succ n ih2 =>
    intro x2 sh
    rw [fm_S_sumSetCosts_2]
    refine jr_iload_n (e_116 rfl) rfl rfl ?_
    refine jr_aload_n (e_116 rfl) rfl rfl ?_
    refine jr_getr (K2 := 11) (i2 := 0) (e_116 rfl) rfl rfl rfl ?_
    refine jr_alen (a := 256) (e_116 rfl) rfl (by decide +kernel) rfl ?_
    refine jr_bri (c := 256 ≤ x2) (pt := 97) (pn := 11) (e_116 rfl) rfl rfl (fun h1 => ?_) (fun h1 => ?_)
    · exact jr_sub (show ([0, 1, 2] : List Nat).Nodup from by decide) xsb_n (hK2 sh)
    · refine jr_iconst (e_116 rfl) rfl ?_
      refine jr_istore_n (L' := [(3, xi 0), (0, xr 8 0), (1, xr 5 i1), (2, xi x2)]) (e_116 rfl) rfl rfl rfl ?_
      refine jr_iconst (e_116 rfl) rfl ?_
      refine jr_istore (L' := [(4, xi 0), (3, xi 0), (0, xr 8 0), (1, xr 5 i1), (2, xi x2)]) (e_116 rfl) rfl rfl rfl ?_
      refine jr_sub (show ([4, 3, 0, 1, 2] : List Nat).Nodup from by decide) (xsb_c (List.Mem.tail _ (List.Mem.tail _ (List.Mem.head _))) (xsb_c (List.Mem.tail _ (List.Mem.tail _ (List.Mem.tail _ (List.Mem.head _)))) (xsb_c (List.Mem.tail _ (List.Mem.tail _ (List.Mem.tail _ (List.Mem.tail _ (List.Mem.head _))))) (xsb_c (List.Mem.tail _ (List.Mem.head _)) (xsb_c (List.Mem.head _) xsb_n))))) (jl_S_sumSetCosts_16 i1 x2 sh _ (fun v16 => ?_) xFU 0 0)
      refine jr_aload_n (e_116 rfl) rfl rfl ?_
      refine jr_getr (K2 := 11) (i2 := 0) (e_116 rfl) rfl rfl rfl ?_
      refine jr_iload_n (e_116 rfl) rfl rfl ?_
      refine jr_iload_n (e_116 rfl) rfl rfl ?_
      refine jr_ast (n := 256) (e_116 rfl) rfl rfl rfl rfl ?_
      refine jr_nms (fun s17 => ?_)
      refine jr_iinc (L2 := fun c => [(2, xi c), (0, xr 8 0), (1, xr 5 i1), (3, xi v16)]) (e_116 rfl) rfl rfl rfl (fun _ => rfl) (fun v18 => ?_)
      refine jr_goto (pc' := 2) (e_116 rfl) rfl ?_
      exact jr_sub (show ([2, 0, 1, 3] : List Nat).Nodup from by decide) (xsb_c (List.Mem.tail _ (List.Mem.head _)) (xsb_c (List.Mem.tail _ (List.Mem.tail _ (List.Mem.head _))) (xsb_c (List.Mem.head _) xsb_n))) (ih2 v18 s17)
noncomputable def fm_S_sumSetCosts (i1 : Nat) (σ : xa_H) : Option (xa_H) :=
  fm_S_sumSetCosts_2 i1 (fun (s19 : xa_H) =>
    some s19) xFU 0 σ
theorem jm_S_sumSetCosts (i1 : Nat) (σ : xa_H) : J 116 0 [(0, xr 8 0), (1, xr 5 i1)] [] σ jqV (fm_S_sumSetCosts i1 σ) := by
  unfold fm_S_sumSetCosts
  refine jr_iconst (e_116 rfl) rfl ?_
  refine jr_istore_n (L' := [(2, xi 0), (0, xr 8 0), (1, xr 5 i1)]) (e_116 rfl) rfl rfl rfl ?_
  refine jr_sub (show ([2, 0, 1] : List Nat).Nodup from by decide) (xsb_c (List.Mem.tail _ (List.Mem.head _)) (xsb_c (List.Mem.tail _ (List.Mem.tail _ (List.Mem.head _))) (xsb_c (List.Mem.head _) xsb_n))) (jl_S_sumSetCosts_2 i1 σ _ (fun s19 => ?_) xFU 0 σ)
  exact jr_retV (e_116 rfl)

theorem e_114 {pc : Nat} {en : xa_I} (h : xlk pc xc_114 = some en) : xcd 114 pc = some en := h
noncomputable def fm_S_findLeast_69 (i1 : Nat) (f2 : Int) (f3 : Int) (f4 : Int) (K : xa_H → Option (xa_H)) : Nat → Int → xa_H → Option (xa_H)
  | 0, _, _ => none
  | n + 1, x5, sh =>
    if 256 ≤ x5 then
      K sh
    else
      if 0 ≤ x5 ∧ x5 < 256 then
        xnm ((if (sh 11 0 x5.toNat) = f4 then (if (xand x5 (xxor f2 (-1))) = 0 then (if (xand f3 (xxor x5 (-1))) = 0 then 1 else 0) else 0) else 0) : Int) fun v3 =>
        if v3 = 0 then
          xnm (w32 (x5 + 1) : Int) fun v8 =>
          fm_S_findLeast_69 i1 f2 f3 f4 K n v8 sh
        else
          xb2 (fm_S_goesWith i1 x5 sh) fun v9 s10 =>
          if v9 = 0 then
            xnm (w32 (x5 + 1) : Int) fun v12 =>
            fm_S_findLeast_69 i1 f2 f3 f4 K n v12 s10
          else
            (fm_Answer_add f4 s10).bind fun s13 =>
            (fm_Answer_add (xdiv x5 16) s13).bind fun s14 =>
            (fm_Answer_add (xrem x5 16) s14).bind fun s15 =>
            some s15
      else none
theorem jl_S_findLeast_69 (i1 : Nat) (f2 : Int) (f3 : Int) (f4 : Int) (σ : xa_H)  (K : xa_H → Option (xa_H)) (hK69 : ∀ (sz : xa_H), J 114 171 [(0, xr 8 0), (1, xr 5 i1), (2, xi f2), (3, xi f3), (4, xi f4)] [] sz jqV (K sz)) : ∀ (n : Nat) (x5 : Int) (sh : xa_H), J 114 69 [(0, xr 8 0), (1, xr 5 i1), (2, xi f2), (3, xi f3), (4, xi f4), (5, xi x5)] [] sh jqV (fm_S_findLeast_69 i1 f2 f3 f4 K n x5 sh) := by
  intro n
  induction n with
  | zero => intro x5 sh; exact jr_none
  | succ n ih69 =>
    intro x5 sh
    rw [fm_S_findLeast_69]
    refine jr_iload (e_114 rfl) rfl rfl ?_
    refine jr_aload_n (e_114 rfl) rfl rfl ?_
    refine jr_getr (K2 := 11) (i2 := 0) (e_114 rfl) rfl rfl rfl ?_
    refine jr_alen (a := 256) (e_114 rfl) rfl (by decide +kernel) rfl ?_
    refine jr_bri (c := 256 ≤ x5) (pt := 171) (pn := 79) (e_114 rfl) rfl rfl (fun h1 => ?_) (fun h1 => ?_)
    · exact jr_sub (show ([0, 1, 2, 3, 4, 5] : List Nat).Nodup from by decide) (xsb_c (List.Mem.head _) (xsb_c (List.Mem.tail _ (List.Mem.head _)) (xsb_c (List.Mem.tail _ (List.Mem.tail _ (List.Mem.head _))) (xsb_c (List.Mem.tail _ (List.Mem.tail _ (List.Mem.tail _ (List.Mem.head _)))) (xsb_c (List.Mem.tail _ (List.Mem.tail _ (List.Mem.tail _ (List.Mem.tail _ (List.Mem.head _))))) xsb_n))))) (hK69 sh)
    · refine jr_aload_n (e_114 rfl) rfl rfl ?_
      refine jr_getr (K2 := 11) (i2 := 0) (e_114 rfl) rfl rfl rfl ?_
      refine jr_iload (e_114 rfl) rfl rfl ?_
      refine jr_ald (n := 256) (e_114 rfl) rfl rfl rfl ?_
      refine jr_iload (e_114 rfl) rfl rfl ?_
      refine jr_pm1 (fun T => ∀ v3 : Int, J 114 114 [(0, xr 8 0), (1, xr 5 i1), (2, xi f2), (3, xi f3), (4, xi f4), (5, xi x5)] [xi v3] sh jqV (T v3)) (fun v3 => ?_) (fun T hT => ?_)
      · refine jr_istore (L' := [(6, xi v3), (0, xr 8 0), (1, xr 5 i1), (2, xi f2), (3, xi f3), (4, xi f4), (5, xi x5)]) (e_114 rfl) rfl rfl rfl ?_
        refine jr_iload (e_114 rfl) rfl rfl ?_
        refine jr_bri (c := v3 = 0) (pt := 165) (pn := 121) (e_114 rfl) rfl rfl (fun h7 => ?_) (fun h7 => ?_)
        · refine jr_iinc (L2 := fun c => [(5, xi c), (6, xi v3), (0, xr 8 0), (1, xr 5 i1), (2, xi f2), (3, xi f3), (4, xi f4)]) (e_114 rfl) rfl rfl rfl (fun _ => rfl) (fun v8 => ?_)
          refine jr_goto (pc' := 69) (e_114 rfl) rfl ?_
          exact jr_sub (show ([5, 6, 0, 1, 2, 3, 4] : List Nat).Nodup from by decide) (xsb_c (List.Mem.tail _ (List.Mem.tail _ (List.Mem.head _))) (xsb_c (List.Mem.tail _ (List.Mem.tail _ (List.Mem.tail _ (List.Mem.head _)))) (xsb_c (List.Mem.tail _ (List.Mem.tail _ (List.Mem.tail _ (List.Mem.tail _ (List.Mem.head _))))) (xsb_c (List.Mem.tail _ (List.Mem.tail _ (List.Mem.tail _ (List.Mem.tail _ (List.Mem.tail _ (List.Mem.head _)))))) (xsb_c (List.Mem.tail _ (List.Mem.tail _ (List.Mem.tail _ (List.Mem.tail _ (List.Mem.tail _ (List.Mem.tail _ (List.Mem.head _))))))) (xsb_c (List.Mem.head _) xsb_n)))))) (ih69 v8 sh)
        · refine jr_aload_n (e_114 rfl) rfl rfl ?_
          refine jr_aload_n (e_114 rfl) rfl rfl ?_
          refine jr_iload (e_114 rfl) rfl rfl ?_
          refine jr_callX (as := [xr 8 0, xr 5 i1, xi x5]) (S1 := []) (e_114 rfl) rfl rfl rfl rfl rfl rfl (jm_S_goesWith i1 x5 sh) rfl (fun v9 s10 => ?_)
          refine jr_bri (c := v9 = 0) (pt := 165) (pn := 131) (e_114 rfl) rfl rfl (fun h11 => ?_) (fun h11 => ?_)
          · refine jr_iinc (L2 := fun c => [(5, xi c), (6, xi v3), (0, xr 8 0), (1, xr 5 i1), (2, xi f2), (3, xi f3), (4, xi f4)]) (e_114 rfl) rfl rfl rfl (fun _ => rfl) (fun v12 => ?_)
            refine jr_goto (pc' := 69) (e_114 rfl) rfl ?_
            exact jr_sub (show ([5, 6, 0, 1, 2, 3, 4] : List Nat).Nodup from by decide) (xsb_c (List.Mem.tail _ (List.Mem.tail _ (List.Mem.head _))) (xsb_c (List.Mem.tail _ (List.Mem.tail _ (List.Mem.tail _ (List.Mem.head _)))) (xsb_c (List.Mem.tail _ (List.Mem.tail _ (List.Mem.tail _ (List.Mem.tail _ (List.Mem.head _))))) (xsb_c (List.Mem.tail _ (List.Mem.tail _ (List.Mem.tail _ (List.Mem.tail _ (List.Mem.tail _ (List.Mem.head _)))))) (xsb_c (List.Mem.tail _ (List.Mem.tail _ (List.Mem.tail _ (List.Mem.tail _ (List.Mem.tail _ (List.Mem.tail _ (List.Mem.head _))))))) (xsb_c (List.Mem.head _) xsb_n)))))) (ih69 v12 s10)
          · refine jr_aload_n (e_114 rfl) rfl rfl ?_
            refine jr_getr (K2 := 0) (i2 := 0) (e_114 rfl) rfl rfl rfl ?_
            refine jr_iload (e_114 rfl) rfl rfl ?_
            refine jr_callV (as := [xr 0 0, xi f4]) (S1 := []) (e_114 rfl) rfl rfl rfl rfl rfl rfl (jm_Answer_add f4 s10) rfl (fun s13 => ?_)
            refine jr_aload_n (e_114 rfl) rfl rfl ?_
            refine jr_getr (K2 := 0) (i2 := 0) (e_114 rfl) rfl rfl rfl ?_
            refine jr_iload (e_114 rfl) rfl rfl ?_
            refine jr_bipush (e_114 rfl) rfl ?_
            refine jr_idiv (e_114 rfl) rfl (by decide) ?_
            refine jr_callV (as := [xr 0 0, xi (xdiv x5 16)]) (S1 := []) (e_114 rfl) rfl rfl rfl rfl rfl rfl (jm_Answer_add (xdiv x5 16) s13) rfl (fun s14 => ?_)
            refine jr_aload_n (e_114 rfl) rfl rfl ?_
            refine jr_getr (K2 := 0) (i2 := 0) (e_114 rfl) rfl rfl rfl ?_
            refine jr_iload (e_114 rfl) rfl rfl ?_
            refine jr_bipush (e_114 rfl) rfl ?_
            refine jr_irem (e_114 rfl) rfl (by decide) ?_
            refine jr_callV (as := [xr 0 0, xi (xrem x5 16)]) (S1 := []) (e_114 rfl) rfl rfl rfl rfl rfl rfl (jm_Answer_add (xrem x5 16) s14) rfl (fun s15 => ?_)
            exact jr_retV (e_114 rfl)
      · refine jr_bx (c := (sh 11 0 x5.toNat) = f4) (pt := 113) (pn := 91) (e_114 rfl) rfl rfl (fun h4 => ?_) (fun h4 => ?_)
        · refine jr_iload (e_114 rfl) rfl rfl ?_
          refine jr_iload_n (e_114 rfl) rfl rfl ?_
          refine jr_iconst (e_114 rfl) rfl ?_
          refine jr_ixor (e_114 rfl) rfl ?_
          refine jr_iand (e_114 rfl) rfl ?_
          refine jr_bx (c := (xand x5 (xxor f2 (-1))) = 0) (pt := 113) (pn := 100) (e_114 rfl) rfl rfl (fun h5 => ?_) (fun h5 => ?_)
          · refine jr_iload_n (e_114 rfl) rfl rfl ?_
            refine jr_iload (e_114 rfl) rfl rfl ?_
            refine jr_iconst (e_114 rfl) rfl ?_
            refine jr_ixor (e_114 rfl) rfl ?_
            refine jr_iand (e_114 rfl) rfl ?_
            refine jr_bx (c := (xand f3 (xxor x5 (-1))) = 0) (pt := 113) (pn := 109) (e_114 rfl) rfl rfl (fun h6 => ?_) (fun h6 => ?_)
            · refine jr_iconst (e_114 rfl) rfl ?_
              refine jr_goto (pc' := 114) (e_114 rfl) rfl ?_
              exact (jr_nme ((if_pos h4).trans ((if_pos h5).trans (if_pos h6))) (jr_sub (show ([0, 1, 2, 3, 4, 5] : List Nat).Nodup from by decide) (xsb_c (List.Mem.head _) (xsb_c (List.Mem.tail _ (List.Mem.head _)) (xsb_c (List.Mem.tail _ (List.Mem.tail _ (List.Mem.head _))) (xsb_c (List.Mem.tail _ (List.Mem.tail _ (List.Mem.tail _ (List.Mem.head _)))) (xsb_c (List.Mem.tail _ (List.Mem.tail _ (List.Mem.tail _ (List.Mem.tail _ (List.Mem.head _))))) (xsb_c (List.Mem.tail _ (List.Mem.tail _ (List.Mem.tail _ (List.Mem.tail _ (List.Mem.tail _ (List.Mem.head _)))))) xsb_n)))))) (hT 1)))
            · refine jr_iconst (e_114 rfl) rfl ?_
              exact (jr_nme ((if_pos h4).trans ((if_pos h5).trans (if_neg h6))) (jr_sub (show ([0, 1, 2, 3, 4, 5] : List Nat).Nodup from by decide) (xsb_c (List.Mem.head _) (xsb_c (List.Mem.tail _ (List.Mem.head _)) (xsb_c (List.Mem.tail _ (List.Mem.tail _ (List.Mem.head _))) (xsb_c (List.Mem.tail _ (List.Mem.tail _ (List.Mem.tail _ (List.Mem.head _)))) (xsb_c (List.Mem.tail _ (List.Mem.tail _ (List.Mem.tail _ (List.Mem.tail _ (List.Mem.head _))))) (xsb_c (List.Mem.tail _ (List.Mem.tail _ (List.Mem.tail _ (List.Mem.tail _ (List.Mem.tail _ (List.Mem.head _)))))) xsb_n)))))) (hT 0)))
          · refine jr_iconst (e_114 rfl) rfl ?_
            exact (jr_nme ((if_pos h4).trans (if_neg h5)) (jr_sub (show ([0, 1, 2, 3, 4, 5] : List Nat).Nodup from by decide) (xsb_c (List.Mem.head _) (xsb_c (List.Mem.tail _ (List.Mem.head _)) (xsb_c (List.Mem.tail _ (List.Mem.tail _ (List.Mem.head _))) (xsb_c (List.Mem.tail _ (List.Mem.tail _ (List.Mem.tail _ (List.Mem.head _)))) (xsb_c (List.Mem.tail _ (List.Mem.tail _ (List.Mem.tail _ (List.Mem.tail _ (List.Mem.head _))))) (xsb_c (List.Mem.tail _ (List.Mem.tail _ (List.Mem.tail _ (List.Mem.tail _ (List.Mem.tail _ (List.Mem.head _)))))) xsb_n)))))) (hT 0)))
        · refine jr_iconst (e_114 rfl) rfl ?_
          exact (jr_nme (if_neg h4) (jr_sub (show ([0, 1, 2, 3, 4, 5] : List Nat).Nodup from by decide) (xsb_c (List.Mem.head _) (xsb_c (List.Mem.tail _ (List.Mem.head _)) (xsb_c (List.Mem.tail _ (List.Mem.tail _ (List.Mem.head _))) (xsb_c (List.Mem.tail _ (List.Mem.tail _ (List.Mem.tail _ (List.Mem.head _)))) (xsb_c (List.Mem.tail _ (List.Mem.tail _ (List.Mem.tail _ (List.Mem.tail _ (List.Mem.head _))))) (xsb_c (List.Mem.tail _ (List.Mem.tail _ (List.Mem.tail _ (List.Mem.tail _ (List.Mem.tail _ (List.Mem.head _)))))) xsb_n)))))) (hT 0)))
noncomputable def fm_S_findLeast_59 (i1 : Nat) (f2 : Int) (f3 : Int) (K : xa_H → Option (xa_H)) : Nat → Int → xa_H → Option (xa_H)
  | 0, _, _ => none
  | n + 1, x4, sh =>
    if 72 < x4 then
      K sh
    else
      fm_S_findLeast_69 i1 f2 f3 x4 (fun (s16 : xa_H) =>
        xnm (w32 (x4 + 1) : Int) fun v17 =>
        fm_S_findLeast_59 i1 f2 f3 K n v17 s16) xFU 0 sh
theorem jl_S_findLeast_59 (i1 : Nat) (f2 : Int) (f3 : Int) (σ : xa_H)  (K : xa_H → Option (xa_H)) (hK59 : ∀ (sz : xa_H), J 114 177 [] [] sz jqV (K sz)) : ∀ (n : Nat) (x4 : Int) (sh : xa_H), J 114 59 [(0, xr 8 0), (1, xr 5 i1), (2, xi f2), (3, xi f3), (4, xi x4)] [] sh jqV (fm_S_findLeast_59 i1 f2 f3 K n x4 sh) := by
  intro n
  induction n with
  | zero => intro x4 sh; exact jr_none
  | succ n ih59 =>
    intro x4 sh
    rw [fm_S_findLeast_59]
    refine jr_iload (e_114 rfl) rfl rfl ?_
    refine jr_bipush (e_114 rfl) rfl ?_
    refine jr_bri (c := 72 < x4) (pt := 177) (pn := 66) (e_114 rfl) rfl rfl (fun h1 => ?_) (fun h1 => ?_)
    · exact jr_sub (show ([0, 1, 2, 3, 4] : List Nat).Nodup from by decide) xsb_n (hK59 sh)
    · refine jr_iconst (e_114 rfl) rfl ?_
      refine jr_istore (L' := [(5, xi 0), (0, xr 8 0), (1, xr 5 i1), (2, xi f2), (3, xi f3), (4, xi x4)]) (e_114 rfl) rfl rfl rfl ?_
      refine jr_sub (show ([5, 0, 1, 2, 3, 4] : List Nat).Nodup from by decide) (xsb_c (List.Mem.tail _ (List.Mem.head _)) (xsb_c (List.Mem.tail _ (List.Mem.tail _ (List.Mem.head _))) (xsb_c (List.Mem.tail _ (List.Mem.tail _ (List.Mem.tail _ (List.Mem.head _)))) (xsb_c (List.Mem.tail _ (List.Mem.tail _ (List.Mem.tail _ (List.Mem.tail _ (List.Mem.head _))))) (xsb_c (List.Mem.tail _ (List.Mem.tail _ (List.Mem.tail _ (List.Mem.tail _ (List.Mem.tail _ (List.Mem.head _)))))) (xsb_c (List.Mem.head _) xsb_n)))))) (jl_S_findLeast_69 i1 f2 f3 x4 σ _ (fun s16 => ?_) xFU 0 sh)
      refine jr_iinc (L2 := fun c => [(4, xi c), (0, xr 8 0), (1, xr 5 i1), (2, xi f2), (3, xi f3)]) (e_114 rfl) rfl rfl rfl (fun _ => rfl) (fun v17 => ?_)
      refine jr_goto (pc' := 59) (e_114 rfl) rfl ?_
      exact jr_sub (show ([4, 0, 1, 2, 3] : List Nat).Nodup from by decide) (xsb_c (List.Mem.tail _ (List.Mem.head _)) (xsb_c (List.Mem.tail _ (List.Mem.tail _ (List.Mem.head _))) (xsb_c (List.Mem.tail _ (List.Mem.tail _ (List.Mem.tail _ (List.Mem.head _)))) (xsb_c (List.Mem.tail _ (List.Mem.tail _ (List.Mem.tail _ (List.Mem.tail _ (List.Mem.head _))))) (xsb_c (List.Mem.head _) xsb_n))))) (ih59 v17 s16)
noncomputable def fm_S_findLeast (i1 : Nat) (σ : xa_H) : Option (xa_H) :=
  (fm_Answer_none σ).bind fun s1 =>
  (fm_Search_about i1 s1).bind fun s2 =>
  (fm_Thing_partsSet i1 s2).bind fun v3 =>
  (fm_Way_doorsSet 0 s2).bind fun v4 =>
  xnm ((w32 ((w32 (v3 * 16)) + v4)) : Int) fun v5 =>
  xb2 (fm_S_goesWith i1 v5 s2) fun v6 s7 =>
  if v6 = 0 then
    some s7
  else
    xb2 (fm_S_neededOf i1 v5 s7) fun v9 s10 =>
    (fm_S_sumSetCosts i1 s10).bind fun s11 =>
    fm_S_findLeast_59 i1 v5 v9 (fun (s18 : xa_H) =>
      some s18) xFU 0 s11
theorem jm_S_findLeast (i1 : Nat) (σ : xa_H) : J 114 0 [(0, xr 8 0), (1, xr 5 i1)] [] σ jqV (fm_S_findLeast i1 σ) := by
  unfold fm_S_findLeast
  refine jr_aload_n (e_114 rfl) rfl rfl ?_
  refine jr_getr (K2 := 0) (i2 := 0) (e_114 rfl) rfl rfl rfl ?_
  refine jr_callV (as := [xr 0 0]) (S1 := []) (e_114 rfl) rfl rfl rfl rfl rfl rfl (jm_Answer_none σ) rfl (fun s1 => ?_)
  refine jr_aload_n (e_114 rfl) rfl rfl ?_
  refine jr_getr (K2 := 3) (i2 := 0) (e_114 rfl) rfl rfl rfl ?_
  refine jr_aload_n (e_114 rfl) rfl rfl ?_
  refine jr_callV (as := [xr 3 0, xr 5 i1]) (S1 := []) (e_114 rfl) rfl rfl rfl rfl rfl rfl (jm_Search_about i1 s1) rfl (fun s2 => ?_)
  refine jr_aload_n (e_114 rfl) rfl rfl ?_
  refine jr_callP (as := [xr 5 i1]) (S1 := []) (e_114 rfl) rfl rfl rfl rfl rfl rfl (jm_Thing_partsSet i1 s2) rfl (fun v3 => ?_)
  refine jr_bipush (e_114 rfl) rfl ?_
  refine jr_imul (e_114 rfl) rfl ?_
  refine jr_aload_n (e_114 rfl) rfl rfl ?_
  refine jr_getr (K2 := 4) (i2 := 0) (e_114 rfl) rfl rfl rfl ?_
  refine jr_getr (K2 := 7) (i2 := 0) (e_114 rfl) rfl rfl rfl ?_
  refine jr_callP (as := [xr 7 0]) (S1 := [xi (w32 (v3 * 16))]) (e_114 rfl) rfl rfl rfl rfl rfl rfl (jm_Way_doorsSet 0 s2) rfl (fun v4 => ?_)
  refine jr_iadd (e_114 rfl) rfl ?_
  refine jr_nm (fun v5 => ?_)
  refine jr_istore_n (L' := [(2, xi v5), (0, xr 8 0), (1, xr 5 i1)]) (e_114 rfl) rfl rfl rfl ?_
  refine jr_aload_n (e_114 rfl) rfl rfl ?_
  refine jr_aload_n (e_114 rfl) rfl rfl ?_
  refine jr_iload_n (e_114 rfl) rfl rfl ?_
  refine jr_callX (as := [xr 8 0, xr 5 i1, xi v5]) (S1 := []) (e_114 rfl) rfl rfl rfl rfl rfl rfl (jm_S_goesWith i1 v5 s2) rfl (fun v6 s7 => ?_)
  refine jr_brx (c := v6 = 0) (pt := 44) (pn := 43) (e_114 rfl) rfl rfl (fun h8 => ?_) (fun h8 => ?_)
  · exact jr_retV (e_114 rfl)
  · refine jr_aload_n (e_114 rfl) rfl rfl ?_
    refine jr_aload_n (e_114 rfl) rfl rfl ?_
    refine jr_iload_n (e_114 rfl) rfl rfl ?_
    refine jr_callX (as := [xr 8 0, xr 5 i1, xi v5]) (S1 := []) (e_114 rfl) rfl rfl rfl rfl rfl rfl (jm_S_neededOf i1 v5 s7) rfl (fun v9 s10 => ?_)
    refine jr_istore_n (L' := [(3, xi v9), (2, xi v5), (0, xr 8 0), (1, xr 5 i1)]) (e_114 rfl) rfl rfl rfl ?_
    refine jr_aload_n (e_114 rfl) rfl rfl ?_
    refine jr_aload_n (e_114 rfl) rfl rfl ?_
    refine jr_callV (as := [xr 8 0, xr 5 i1]) (S1 := []) (e_114 rfl) rfl rfl rfl rfl rfl rfl (jm_S_sumSetCosts i1 s10) rfl (fun s11 => ?_)
    refine jr_iconst (e_114 rfl) rfl ?_
    refine jr_istore (L' := [(4, xi 0), (3, xi v9), (2, xi v5), (0, xr 8 0), (1, xr 5 i1)]) (e_114 rfl) rfl rfl rfl ?_
    refine jr_sub (show ([4, 3, 2, 0, 1] : List Nat).Nodup from by decide) (xsb_c (List.Mem.tail _ (List.Mem.tail _ (List.Mem.tail _ (List.Mem.head _)))) (xsb_c (List.Mem.tail _ (List.Mem.tail _ (List.Mem.tail _ (List.Mem.tail _ (List.Mem.head _))))) (xsb_c (List.Mem.tail _ (List.Mem.tail _ (List.Mem.head _))) (xsb_c (List.Mem.tail _ (List.Mem.head _)) (xsb_c (List.Mem.head _) xsb_n))))) (jl_S_findLeast_59 i1 v5 v9 σ _ (fun s18 => ?_) xFU 0 s11)
    exact jr_retV (e_114 rfl)

theorem e_98 {pc : Nat} {en : xa_I} (h : xlk pc xc_98 = some en) : xcd 98 pc = some en := h
noncomputable def fm_S_least (a1 : Int) (a2 : Int) (σ : xa_H) : Option (Int × xa_H) :=
  if a1 < 0 then
    (fm_S_isUpTo a2 2).bind fun v1 =>
    some ((-1), σ)
  else
    if 4 ≤ a1 then
      (fm_S_isUpTo a2 2).bind fun v2 =>
      some ((-1), σ)
    else
      if 0 ≤ a1 ∧ a1 < 4 then
        (fm_S_isUpTo a2 2).bind fun v3 =>
        if v3 = 0 then
          if (-2) = 0 then
            xb2 (fm_Answer_isNew 3 a1 0 0 σ) fun v5 s6 =>
            xj (fun (s8 : xa_H) =>
              (fm_Answer_at a2 s8).bind fun v12 =>
              some (v12, s8)) fun K9 =>
            if v5 = 0 then
              K9 s6
            else
              (fm_S_findLeast (4 * 0 + a1.toNat) s6).bind fun s11 =>
              K9 s11
          else
            some ((-2), σ)
        else
          if 0 ≤ (σ 5 (4 * 0 + a1.toNat) 1) then
            if 0 = 0 then
              xb2 (fm_Answer_isNew 3 a1 0 0 σ) fun v14 s15 =>
              xj (fun (s17 : xa_H) =>
                (fm_Answer_at a2 s17).bind fun v21 =>
                some (v21, s17)) fun K18 =>
              if v14 = 0 then
                K18 s15
              else
                (fm_S_findLeast (4 * 0 + a1.toNat) s15).bind fun s20 =>
                K18 s20
            else
              some (0, σ)
          else
            if (-3) = 0 then
              xb2 (fm_Answer_isNew 3 a1 0 0 σ) fun v23 s24 =>
              xj (fun (s26 : xa_H) =>
                (fm_Answer_at a2 s26).bind fun v30 =>
                some (v30, s26)) fun K27 =>
              if v23 = 0 then
                K27 s24
              else
                (fm_S_findLeast (4 * 0 + a1.toNat) s24).bind fun s29 =>
                K27 s29
            else
              some ((-3), σ)
      else none
theorem jm_S_least (a1 : Int) (a2 : Int) (σ : xa_H) : J 98 0 [(0, xr 8 0), (1, xi a1), (2, xi a2)] [] σ jqW (fm_S_least a1 a2 σ) := by
  unfold fm_S_least
  refine jr_aload_n (e_98 rfl) rfl rfl ?_
  refine jr_getr (K2 := 4) (i2 := 0) (e_98 rfl) rfl rfl rfl ?_
  refine jr_iload_n (e_98 rfl) rfl rfl ?_
  refine jr_inl (as := [xr 4 0, xi a1]) (S1 := []) (L' := [(0, xr 4 0), (1, xi a1)]) (e_98 rfl) rfl rfl rfl rfl rfl rfl rfl rfl ?_
  refine jr_iload_n (e_51 rfl) rfl rfl ?_
  refine jr_bri (c := a1 < 0) (pt := 22) (pn := 4) (e_51 rfl) rfl rfl (fun h1001 => ?_) (fun h1001 => ?_)
  · refine jr_null (e_51 rfl) rfl ?_
    refine jr_retC (e_51 rfl) ?_
    refine jr_astore_n (L' := [(3, xn), (0, xr 8 0), (1, xi a1), (2, xi a2)]) (e_98 rfl) rfl rfl rfl ?_
    refine jr_aload_n (e_98 rfl) rfl rfl ?_
    refine jr_iload_n (e_98 rfl) rfl rfl ?_
    refine jr_iconst (e_98 rfl) rfl ?_
    refine jr_callP (as := [xi a2, xi 2]) (S1 := [xn]) (e_98 rfl) rfl rfl rfl rfl rfl rfl (jm_S_isUpTo a2 2 σ) rfl (fun v1 => ?_)
    refine jr_inl (as := [xn, xi v1]) (S1 := []) (L' := [(0, xn), (1, xi v1)]) (e_98 rfl) rfl rfl rfl rfl rfl rfl rfl rfl ?_
    refine jr_aload_n (e_126 rfl) rfl rfl ?_
    refine jr_s (q := (4, [(0, xn), (1, xi v1)], [], σ)) (e_126 rfl) rfl rfl ?_
    refine jr_iconst (e_126 rfl) rfl ?_
    refine jr_retCi (e_126 rfl) rfl ?_
    refine jr_istore (L' := [(4, xi (-1)), (3, xn), (0, xr 8 0), (1, xi a1), (2, xi a2)]) (e_98 rfl) rfl rfl rfl ?_
    refine jr_aload_n (e_98 rfl) rfl rfl ?_
    refine jr_s (q := (29, [(4, xi (-1)), (3, xn), (0, xr 8 0), (1, xi a1), (2, xi a2)], [], σ)) (e_98 rfl) rfl rfl ?_
    refine jr_iload (e_98 rfl) rfl rfl ?_
    exact jr_retW (e_98 rfl) rfl
  · refine jr_iload_n (e_51 rfl) rfl rfl ?_
    refine jr_aload_n (e_51 rfl) rfl rfl ?_
    refine jr_getr (K2 := 24) (i2 := 0) (e_51 rfl) rfl rfl rfl ?_
    refine jr_alen (a := 4) (e_51 rfl) rfl (by decide +kernel) rfl ?_
    refine jr_bri (c := 4 ≤ a1) (pt := 22) (pn := 13) (e_51 rfl) rfl rfl (fun h1002 => ?_) (fun h1002 => ?_)
    · refine jr_null (e_51 rfl) rfl ?_
      refine jr_retC (e_51 rfl) ?_
      refine jr_astore_n (L' := [(3, xn), (0, xr 8 0), (1, xi a1), (2, xi a2)]) (e_98 rfl) rfl rfl rfl ?_
      refine jr_aload_n (e_98 rfl) rfl rfl ?_
      refine jr_iload_n (e_98 rfl) rfl rfl ?_
      refine jr_iconst (e_98 rfl) rfl ?_
      refine jr_callP (as := [xi a2, xi 2]) (S1 := [xn]) (e_98 rfl) rfl rfl rfl rfl rfl rfl (jm_S_isUpTo a2 2 σ) rfl (fun v2 => ?_)
      refine jr_inl (as := [xn, xi v2]) (S1 := []) (L' := [(0, xn), (1, xi v2)]) (e_98 rfl) rfl rfl rfl rfl rfl rfl rfl rfl ?_
      refine jr_aload_n (e_126 rfl) rfl rfl ?_
      refine jr_s (q := (4, [(0, xn), (1, xi v2)], [], σ)) (e_126 rfl) rfl rfl ?_
      refine jr_iconst (e_126 rfl) rfl ?_
      refine jr_retCi (e_126 rfl) rfl ?_
      refine jr_istore (L' := [(4, xi (-1)), (3, xn), (0, xr 8 0), (1, xi a1), (2, xi a2)]) (e_98 rfl) rfl rfl rfl ?_
      refine jr_aload_n (e_98 rfl) rfl rfl ?_
      refine jr_s (q := (29, [(4, xi (-1)), (3, xn), (0, xr 8 0), (1, xi a1), (2, xi a2)], [], σ)) (e_98 rfl) rfl rfl ?_
      refine jr_iload (e_98 rfl) rfl rfl ?_
      exact jr_retW (e_98 rfl) rfl
    · refine jr_aload_n (e_51 rfl) rfl rfl ?_
      refine jr_getr (K2 := 24) (i2 := 0) (e_51 rfl) rfl rfl rfl ?_
      refine jr_iload_n (e_51 rfl) rfl rfl ?_
      refine jr_aald (n := 4) (K2 := 5) (i2 := (4 * 0 + a1.toNat)) (e_51 rfl) rfl (by decide +kernel) rfl rfl ?_
      refine jr_goto (pc' := 23) (e_51 rfl) rfl ?_
      refine jr_retC (e_51 rfl) ?_
      refine jr_astore_n (L' := [(3, xr 5 (4 * 0 + a1.toNat)), (0, xr 8 0), (1, xi a1), (2, xi a2)]) (e_98 rfl) rfl rfl rfl ?_
      refine jr_aload_n (e_98 rfl) rfl rfl ?_
      refine jr_iload_n (e_98 rfl) rfl rfl ?_
      refine jr_iconst (e_98 rfl) rfl ?_
      refine jr_callP (as := [xi a2, xi 2]) (S1 := [xr 5 (4 * 0 + a1.toNat)]) (e_98 rfl) rfl rfl rfl rfl rfl rfl (jm_S_isUpTo a2 2 σ) rfl (fun v3 => ?_)
      refine jr_inl (as := [xr 5 (4 * 0 + a1.toNat), xi v3]) (S1 := []) (L' := [(0, xr 5 (4 * 0 + a1.toNat)), (1, xi v3)]) (e_98 rfl) rfl rfl rfl rfl rfl rfl rfl rfl ?_
      refine jr_aload_n (e_126 rfl) rfl rfl ?_
      refine jr_s (q := (6, [(0, xr 5 (4 * 0 + a1.toNat)), (1, xi v3)], [], σ)) (e_126 rfl) rfl rfl ?_
      refine jr_iload_n (e_126 rfl) rfl rfl ?_
      refine jr_brx (c := v3 = 0) (pt := 13) (pn := 10) (e_126 rfl) rfl rfl (fun h1004 => ?_) (fun h1004 => ?_)
      · refine jr_bipush (e_126 rfl) rfl ?_
        refine jr_retCi (e_126 rfl) rfl ?_
        refine jr_istore (L' := [(4, xi (-2)), (3, xr 5 (4 * 0 + a1.toNat)), (0, xr 8 0), (1, xi a1), (2, xi a2)]) (e_98 rfl) rfl rfl rfl ?_
        refine jr_aload_n (e_98 rfl) rfl rfl ?_
        refine jr_s (q := (24, [(4, xi (-2)), (3, xr 5 (4 * 0 + a1.toNat)), (0, xr 8 0), (1, xi a1), (2, xi a2)], [], σ)) (e_98 rfl) rfl rfl ?_
        refine jr_iload (e_98 rfl) rfl rfl ?_
        refine jr_bri (c := (-2) = 0) (pt := 32) (pn := 29) (e_98 rfl) rfl rfl (fun h4 => ?_) (fun h4 => ?_)
        · refine jr_aload_n (e_98 rfl) rfl rfl ?_
          refine jr_getr (K2 := 0) (i2 := 0) (e_98 rfl) rfl rfl rfl ?_
          refine jr_iconst (e_98 rfl) rfl ?_
          refine jr_iload_n (e_98 rfl) rfl rfl ?_
          refine jr_iconst (e_98 rfl) rfl ?_
          refine jr_iconst (e_98 rfl) rfl ?_
          refine jr_callX (as := [xr 0 0, xi 3, xi a1, xi 0, xi 0]) (S1 := []) (e_98 rfl) rfl rfl rfl rfl rfl rfl (jm_Answer_isNew 3 a1 0 0 σ) rfl (fun v5 s6 => ?_)
          refine jr_j (fun K9 => ∀ (s8 : xa_H), J 98 51 [(0, xr 8 0), (2, xi a2)] [] s8 jqW (K9 s8)) (fun s8 => ?_) (fun K9 hK9 => ?_)
          · refine jr_aload_n (e_98 rfl) rfl rfl ?_
            refine jr_getr (K2 := 0) (i2 := 0) (e_98 rfl) rfl rfl rfl ?_
            refine jr_iload_n (e_98 rfl) rfl rfl ?_
            refine jr_callP (as := [xr 0 0, xi a2]) (S1 := []) (e_98 rfl) rfl rfl rfl rfl rfl rfl (jm_Answer_at a2 s8) rfl (fun v12 => ?_)
            exact jr_retW (e_98 rfl) rfl
          · refine jr_bri (c := v5 = 0) (pt := 51) (pn := 46) (e_98 rfl) rfl rfl (fun h10 => ?_) (fun h10 => ?_)
            · exact jr_sub (show ([4, 3, 0, 1, 2] : List Nat).Nodup from by decide) (xsb_c (List.Mem.tail _ (List.Mem.tail _ (List.Mem.head _))) (xsb_c (List.Mem.tail _ (List.Mem.tail _ (List.Mem.tail _ (List.Mem.tail _ (List.Mem.head _))))) xsb_n)) (hK9 s6)
            · refine jr_aload_n (e_98 rfl) rfl rfl ?_
              refine jr_aload_n (e_98 rfl) rfl rfl ?_
              refine jr_callV (as := [xr 8 0, xr 5 (4 * 0 + a1.toNat)]) (S1 := []) (e_98 rfl) rfl rfl rfl rfl rfl rfl (jm_S_findLeast (4 * 0 + a1.toNat) s6) rfl (fun s11 => ?_)
              exact jr_sub (show ([4, 3, 0, 1, 2] : List Nat).Nodup from by decide) (xsb_c (List.Mem.tail _ (List.Mem.tail _ (List.Mem.head _))) (xsb_c (List.Mem.tail _ (List.Mem.tail _ (List.Mem.tail _ (List.Mem.tail _ (List.Mem.head _))))) xsb_n)) (hK9 s11)
        · refine jr_iload (e_98 rfl) rfl rfl ?_
          exact jr_retW (e_98 rfl) rfl
      · refine jr_aload_n (e_126 rfl) rfl rfl ?_
        refine jr_geti (e_126 rfl) rfl (by decide +kernel) ?_
        refine jr_bri (c := 0 ≤ (σ 5 (4 * 0 + a1.toNat) 1)) (pt := 25) (pn := 20) (e_126 rfl) rfl rfl (fun h1005 => ?_) (fun h1005 => ?_)
        · refine jr_iconst (e_126 rfl) rfl ?_
          refine jr_retCi (e_126 rfl) rfl ?_
          refine jr_istore (L' := [(4, xi 0), (3, xr 5 (4 * 0 + a1.toNat)), (0, xr 8 0), (1, xi a1), (2, xi a2)]) (e_98 rfl) rfl rfl rfl ?_
          refine jr_aload_n (e_98 rfl) rfl rfl ?_
          refine jr_s (q := (24, [(4, xi 0), (3, xr 5 (4 * 0 + a1.toNat)), (0, xr 8 0), (1, xi a1), (2, xi a2)], [], σ)) (e_98 rfl) rfl rfl ?_
          refine jr_iload (e_98 rfl) rfl rfl ?_
          refine jr_bri (c := 0 = 0) (pt := 32) (pn := 29) (e_98 rfl) rfl rfl (fun h13 => ?_) (fun h13 => ?_)
          · refine jr_aload_n (e_98 rfl) rfl rfl ?_
            refine jr_getr (K2 := 0) (i2 := 0) (e_98 rfl) rfl rfl rfl ?_
            refine jr_iconst (e_98 rfl) rfl ?_
            refine jr_iload_n (e_98 rfl) rfl rfl ?_
            refine jr_iconst (e_98 rfl) rfl ?_
            refine jr_iconst (e_98 rfl) rfl ?_
            refine jr_callX (as := [xr 0 0, xi 3, xi a1, xi 0, xi 0]) (S1 := []) (e_98 rfl) rfl rfl rfl rfl rfl rfl (jm_Answer_isNew 3 a1 0 0 σ) rfl (fun v14 s15 => ?_)
            refine jr_j (fun K18 => ∀ (s17 : xa_H), J 98 51 [(0, xr 8 0), (2, xi a2)] [] s17 jqW (K18 s17)) (fun s17 => ?_) (fun K18 hK18 => ?_)
            · refine jr_aload_n (e_98 rfl) rfl rfl ?_
              refine jr_getr (K2 := 0) (i2 := 0) (e_98 rfl) rfl rfl rfl ?_
              refine jr_iload_n (e_98 rfl) rfl rfl ?_
              refine jr_callP (as := [xr 0 0, xi a2]) (S1 := []) (e_98 rfl) rfl rfl rfl rfl rfl rfl (jm_Answer_at a2 s17) rfl (fun v21 => ?_)
              exact jr_retW (e_98 rfl) rfl
            · refine jr_bri (c := v14 = 0) (pt := 51) (pn := 46) (e_98 rfl) rfl rfl (fun h19 => ?_) (fun h19 => ?_)
              · exact jr_sub (show ([4, 3, 0, 1, 2] : List Nat).Nodup from by decide) (xsb_c (List.Mem.tail _ (List.Mem.tail _ (List.Mem.head _))) (xsb_c (List.Mem.tail _ (List.Mem.tail _ (List.Mem.tail _ (List.Mem.tail _ (List.Mem.head _))))) xsb_n)) (hK18 s15)
              · refine jr_aload_n (e_98 rfl) rfl rfl ?_
                refine jr_aload_n (e_98 rfl) rfl rfl ?_
                refine jr_callV (as := [xr 8 0, xr 5 (4 * 0 + a1.toNat)]) (S1 := []) (e_98 rfl) rfl rfl rfl rfl rfl rfl (jm_S_findLeast (4 * 0 + a1.toNat) s15) rfl (fun s20 => ?_)
                exact jr_sub (show ([4, 3, 0, 1, 2] : List Nat).Nodup from by decide) (xsb_c (List.Mem.tail _ (List.Mem.tail _ (List.Mem.head _))) (xsb_c (List.Mem.tail _ (List.Mem.tail _ (List.Mem.tail _ (List.Mem.tail _ (List.Mem.head _))))) xsb_n)) (hK18 s20)
          · refine jr_iload (e_98 rfl) rfl rfl ?_
            exact jr_retW (e_98 rfl) rfl
        · refine jr_bipush (e_126 rfl) rfl ?_
          refine jr_goto (pc' := 26) (e_126 rfl) rfl ?_
          refine jr_retCi (e_126 rfl) rfl ?_
          refine jr_istore (L' := [(4, xi (-3)), (3, xr 5 (4 * 0 + a1.toNat)), (0, xr 8 0), (1, xi a1), (2, xi a2)]) (e_98 rfl) rfl rfl rfl ?_
          refine jr_aload_n (e_98 rfl) rfl rfl ?_
          refine jr_s (q := (24, [(4, xi (-3)), (3, xr 5 (4 * 0 + a1.toNat)), (0, xr 8 0), (1, xi a1), (2, xi a2)], [], σ)) (e_98 rfl) rfl rfl ?_
          refine jr_iload (e_98 rfl) rfl rfl ?_
          refine jr_bri (c := (-3) = 0) (pt := 32) (pn := 29) (e_98 rfl) rfl rfl (fun h22 => ?_) (fun h22 => ?_)
          · refine jr_aload_n (e_98 rfl) rfl rfl ?_
            refine jr_getr (K2 := 0) (i2 := 0) (e_98 rfl) rfl rfl rfl ?_
            refine jr_iconst (e_98 rfl) rfl ?_
            refine jr_iload_n (e_98 rfl) rfl rfl ?_
            refine jr_iconst (e_98 rfl) rfl ?_
            refine jr_iconst (e_98 rfl) rfl ?_
            refine jr_callX (as := [xr 0 0, xi 3, xi a1, xi 0, xi 0]) (S1 := []) (e_98 rfl) rfl rfl rfl rfl rfl rfl (jm_Answer_isNew 3 a1 0 0 σ) rfl (fun v23 s24 => ?_)
            refine jr_j (fun K27 => ∀ (s26 : xa_H), J 98 51 [(0, xr 8 0), (2, xi a2)] [] s26 jqW (K27 s26)) (fun s26 => ?_) (fun K27 hK27 => ?_)
            · refine jr_aload_n (e_98 rfl) rfl rfl ?_
              refine jr_getr (K2 := 0) (i2 := 0) (e_98 rfl) rfl rfl rfl ?_
              refine jr_iload_n (e_98 rfl) rfl rfl ?_
              refine jr_callP (as := [xr 0 0, xi a2]) (S1 := []) (e_98 rfl) rfl rfl rfl rfl rfl rfl (jm_Answer_at a2 s26) rfl (fun v30 => ?_)
              exact jr_retW (e_98 rfl) rfl
            · refine jr_bri (c := v23 = 0) (pt := 51) (pn := 46) (e_98 rfl) rfl rfl (fun h28 => ?_) (fun h28 => ?_)
              · exact jr_sub (show ([4, 3, 0, 1, 2] : List Nat).Nodup from by decide) (xsb_c (List.Mem.tail _ (List.Mem.tail _ (List.Mem.head _))) (xsb_c (List.Mem.tail _ (List.Mem.tail _ (List.Mem.tail _ (List.Mem.tail _ (List.Mem.head _))))) xsb_n)) (hK27 s24)
              · refine jr_aload_n (e_98 rfl) rfl rfl ?_
                refine jr_aload_n (e_98 rfl) rfl rfl ?_
                refine jr_callV (as := [xr 8 0, xr 5 (4 * 0 + a1.toNat)]) (S1 := []) (e_98 rfl) rfl rfl rfl rfl rfl rfl (jm_S_findLeast (4 * 0 + a1.toNat) s24) rfl (fun s29 => ?_)
                exact jr_sub (show ([4, 3, 0, 1, 2] : List Nat).Nodup from by decide) (xsb_c (List.Mem.tail _ (List.Mem.tail _ (List.Mem.head _))) (xsb_c (List.Mem.tail _ (List.Mem.tail _ (List.Mem.tail _ (List.Mem.tail _ (List.Mem.head _))))) xsb_n)) (hK27 s29)
          · refine jr_iload (e_98 rfl) rfl rfl ?_
            exact jr_retW (e_98 rfl) rfl

theorem e_120 {pc : Nat} {en : xa_I} (h : xlk pc xc_120 = some en) : xcd 120 pc = some en := h
noncomputable def fm_S_barGoes (i1 : Nat) (a2 : Int) (a3 : Int) (σ : xa_H) : Option (Int × xa_H) :=
  (fm_Thing_becomeBar 12 a2 σ).bind fun s1 =>
  (fm_Search_forget s1).bind fun s2 =>
  (fm_Search_about 12 s2).bind fun s3 =>
  (fm_Search_off 0 a3 s3).bind fun s4 =>
  xnm ((w32 ((s4 5 i1 1) * 24)) : Int) fun v5 =>
  (fm_Turns_after 0 2 s4).bind fun v6 =>
  xnm ((w32 (v5 + v6)) : Int) fun v7 =>
  (fm_Turns_after 0 1 s4).bind fun v8 =>
  xnm ((w32 (v5 + v8)) : Int) fun v9 =>
  xb2 (fm_Search_fits v5 s4) fun v10 s11 =>
  xj (fun (v13 : Int) (s14 : xa_H) =>
    xb2 (fm_Search_flood v13 (s14 5 i1 3) s14) fun v20 s21 =>
    if v20 < 0 then
      some (0, s21)
    else
      some (1, s21)) fun K15 =>
  if v10 = 0 then
    xb2 (fm_Search_fits v7 s11) fun v17 s18 =>
    if v17 = 0 then
      K15 v9 s18
    else
      K15 v7 s18
  else
    K15 v5 s11
theorem jm_S_barGoes (i1 : Nat) (a2 : Int) (a3 : Int) (σ : xa_H) : J 120 0 [(0, xr 8 0), (1, xr 5 i1), (2, xi a2), (3, xi a3)] [] σ jqW (fm_S_barGoes i1 a2 a3 σ) := by
  unfold fm_S_barGoes
  refine jr_aload_n (e_120 rfl) rfl rfl ?_
  refine jr_getr (K2 := 5) (i2 := 12) (e_120 rfl) rfl rfl rfl ?_
  refine jr_iload_n (e_120 rfl) rfl rfl ?_
  refine jr_callV (as := [xr 5 12, xi a2]) (S1 := []) (e_120 rfl) rfl rfl rfl rfl rfl rfl (jm_Thing_becomeBar 12 a2 σ) rfl (fun s1 => ?_)
  refine jr_aload_n (e_120 rfl) rfl rfl ?_
  refine jr_getr (K2 := 3) (i2 := 0) (e_120 rfl) rfl rfl rfl ?_
  refine jr_callV (as := [xr 3 0]) (S1 := []) (e_120 rfl) rfl rfl rfl rfl rfl rfl (jm_Search_forget s1) rfl (fun s2 => ?_)
  refine jr_aload_n (e_120 rfl) rfl rfl ?_
  refine jr_getr (K2 := 3) (i2 := 0) (e_120 rfl) rfl rfl rfl ?_
  refine jr_aload_n (e_120 rfl) rfl rfl ?_
  refine jr_getr (K2 := 5) (i2 := 12) (e_120 rfl) rfl rfl rfl ?_
  refine jr_callV (as := [xr 3 0, xr 5 12]) (S1 := []) (e_120 rfl) rfl rfl rfl rfl rfl rfl (jm_Search_about 12 s2) rfl (fun s3 => ?_)
  refine jr_aload_n (e_120 rfl) rfl rfl ?_
  refine jr_getr (K2 := 3) (i2 := 0) (e_120 rfl) rfl rfl rfl ?_
  refine jr_iconst (e_120 rfl) rfl ?_
  refine jr_iload_n (e_120 rfl) rfl rfl ?_
  refine jr_callV (as := [xr 3 0, xi 0, xi a3]) (S1 := []) (e_120 rfl) rfl rfl rfl rfl rfl rfl (jm_Search_off 0 a3 s3) rfl (fun s4 => ?_)
  refine jr_aload_n (e_120 rfl) rfl rfl ?_
  refine jr_geti (e_120 rfl) rfl (by decide +kernel) ?_
  refine jr_bipush (e_120 rfl) rfl ?_
  refine jr_imul (e_120 rfl) rfl ?_
  refine jr_nm (fun v5 => ?_)
  refine jr_istore (L' := [(4, xi v5), (0, xr 8 0), (1, xr 5 i1), (2, xi a2), (3, xi a3)]) (e_120 rfl) rfl rfl rfl ?_
  refine jr_iload (e_120 rfl) rfl rfl ?_
  refine jr_aload_n (e_120 rfl) rfl rfl ?_
  refine jr_getr (K2 := 6) (i2 := 0) (e_120 rfl) rfl rfl rfl ?_
  refine jr_iconst (e_120 rfl) rfl ?_
  refine jr_iconst (e_120 rfl) rfl ?_
  refine jr_callP (as := [xr 6 0, xi 0, xi 2]) (S1 := [xi v5]) (e_120 rfl) rfl rfl rfl rfl rfl rfl (jm_Turns_after 0 2 s4) rfl (fun v6 => ?_)
  refine jr_iadd (e_120 rfl) rfl ?_
  refine jr_nm (fun v7 => ?_)
  refine jr_istore (L' := [(5, xi v7), (4, xi v5), (0, xr 8 0), (1, xr 5 i1), (2, xi a2), (3, xi a3)]) (e_120 rfl) rfl rfl rfl ?_
  refine jr_iload (e_120 rfl) rfl rfl ?_
  refine jr_aload_n (e_120 rfl) rfl rfl ?_
  refine jr_getr (K2 := 6) (i2 := 0) (e_120 rfl) rfl rfl rfl ?_
  refine jr_iconst (e_120 rfl) rfl ?_
  refine jr_iconst (e_120 rfl) rfl ?_
  refine jr_callP (as := [xr 6 0, xi 0, xi 1]) (S1 := [xi v5]) (e_120 rfl) rfl rfl rfl rfl rfl rfl (jm_Turns_after 0 1 s4) rfl (fun v8 => ?_)
  refine jr_iadd (e_120 rfl) rfl ?_
  refine jr_nm (fun v9 => ?_)
  refine jr_istore (L' := [(6, xi v9), (5, xi v7), (4, xi v5), (0, xr 8 0), (1, xr 5 i1), (2, xi a2), (3, xi a3)]) (e_120 rfl) rfl rfl rfl ?_
  refine jr_aload_n (e_120 rfl) rfl rfl ?_
  refine jr_getr (K2 := 3) (i2 := 0) (e_120 rfl) rfl rfl rfl ?_
  refine jr_iload (e_120 rfl) rfl rfl ?_
  refine jr_callX (as := [xr 3 0, xi v5]) (S1 := []) (e_120 rfl) rfl rfl rfl rfl rfl rfl (jm_Search_fits v5 s4) rfl (fun v10 s11 => ?_)
  refine jr_j (fun K15 => ∀ (v13 : Int) (s14 : xa_H), J 120 108 [(0, xr 8 0), (1, xr 5 i1)] [xi v13] s14 jqW (K15 v13 s14)) (fun v13 s14 => ?_) (fun K15 hK15 => ?_)
  · refine jr_istore (L' := [(7, xi v13), (0, xr 8 0), (1, xr 5 i1)]) (e_120 rfl) rfl rfl rfl ?_
    refine jr_aload_n (e_120 rfl) rfl rfl ?_
    refine jr_getr (K2 := 3) (i2 := 0) (e_120 rfl) rfl rfl rfl ?_
    refine jr_iload (e_120 rfl) rfl rfl ?_
    refine jr_aload_n (e_120 rfl) rfl rfl ?_
    refine jr_geti (e_120 rfl) rfl (by decide +kernel) ?_
    refine jr_callX (as := [xr 3 0, xi v13, xi (s14 5 i1 3)]) (S1 := []) (e_120 rfl) rfl rfl rfl rfl rfl rfl (jm_Search_flood v13 (s14 5 i1 3) s14) rfl (fun v20 s21 => ?_)
    refine jr_bri (c := v20 < 0) (pt := 130) (pn := 126) (e_120 rfl) rfl rfl (fun h22 => ?_) (fun h22 => ?_)
    · refine jr_iconst (e_120 rfl) rfl ?_
      exact jr_retWz (e_120 rfl) rfl rfl
    · refine jr_iconst (e_120 rfl) rfl ?_
      refine jr_goto (pc' := 131) (e_120 rfl) rfl ?_
      exact jr_retWz (e_120 rfl) rfl rfl
  · refine jr_bri (c := v10 = 0) (pt := 89) (pn := 84) (e_120 rfl) rfl rfl (fun h16 => ?_) (fun h16 => ?_)
    · refine jr_aload_n (e_120 rfl) rfl rfl ?_
      refine jr_getr (K2 := 3) (i2 := 0) (e_120 rfl) rfl rfl rfl ?_
      refine jr_iload (e_120 rfl) rfl rfl ?_
      refine jr_callX (as := [xr 3 0, xi v7]) (S1 := []) (e_120 rfl) rfl rfl rfl rfl rfl rfl (jm_Search_fits v7 s11) rfl (fun v17 s18 => ?_)
      refine jr_bri (c := v17 = 0) (pt := 106) (pn := 101) (e_120 rfl) rfl rfl (fun h19 => ?_) (fun h19 => ?_)
      · refine jr_iload (e_120 rfl) rfl rfl ?_
        exact jr_sub (show ([6, 5, 4, 0, 1, 2, 3] : List Nat).Nodup from by decide) (xsb_c (List.Mem.tail _ (List.Mem.tail _ (List.Mem.tail _ (List.Mem.head _)))) (xsb_c (List.Mem.tail _ (List.Mem.tail _ (List.Mem.tail _ (List.Mem.tail _ (List.Mem.head _))))) xsb_n)) (hK15 v9 s18)
      · refine jr_iload (e_120 rfl) rfl rfl ?_
        refine jr_goto (pc' := 108) (e_120 rfl) rfl ?_
        exact jr_sub (show ([6, 5, 4, 0, 1, 2, 3] : List Nat).Nodup from by decide) (xsb_c (List.Mem.tail _ (List.Mem.tail _ (List.Mem.tail _ (List.Mem.head _)))) (xsb_c (List.Mem.tail _ (List.Mem.tail _ (List.Mem.tail _ (List.Mem.tail _ (List.Mem.head _))))) xsb_n)) (hK15 v7 s18)
    · refine jr_iload (e_120 rfl) rfl rfl ?_
      refine jr_goto (pc' := 108) (e_120 rfl) rfl ?_
      exact jr_sub (show ([6, 5, 4, 0, 1, 2, 3] : List Nat).Nodup from by decide) (xsb_c (List.Mem.tail _ (List.Mem.tail _ (List.Mem.tail _ (List.Mem.head _)))) (xsb_c (List.Mem.tail _ (List.Mem.tail _ (List.Mem.tail _ (List.Mem.tail _ (List.Mem.head _))))) xsb_n)) (hK15 v5 s11)

theorem e_119 {pc : Nat} {en : xa_I} (h : xlk pc xc_119 = some en) : xcd 119 pc = some en := h
noncomputable def fm_S_findBar_10 (i1 : Nat) (f2 : Int) (K : xa_H → Option (xa_H)) : Nat → Int → xa_H → Option (xa_H)
  | 0, _, _ => none
  | n + 1, x3, sh =>
    if x3 ≤ 0 then
      K sh
    else
      xb2 (fm_S_barGoes i1 x3 f2 sh) fun v2 s3 =>
      if v2 = 0 then
        xnm (w32 (x3 + (-1)) : Int) fun v5 =>
        fm_S_findBar_10 i1 f2 K n v5 s3
      else
        (fm_Answer_add x3 s3).bind fun s6 =>
        some s6
theorem jl_S_findBar_10 (i1 : Nat) (f2 : Int) (σ : xa_H)  (K : xa_H → Option (xa_H)) (hK10 : ∀ (sz : xa_H), J 119 39 [] [] sz jqV (K sz)) : ∀ (n : Nat) (x3 : Int) (sh : xa_H), J 119 10 [(0, xr 8 0), (1, xr 5 i1), (2, xi f2), (3, xi x3)] [] sh jqV (fm_S_findBar_10 i1 f2 K n x3 sh) := by
  intro n
  induction n with
  | zero => intro x3 sh; exact jr_none
  | succ n ih10 =>
    intro x3 sh
    rw [fm_S_findBar_10]
    refine jr_iload_n (e_119 rfl) rfl rfl ?_
    refine jr_bri (c := x3 ≤ 0) (pt := 39) (pn := 14) (e_119 rfl) rfl rfl (fun h1 => ?_) (fun h1 => ?_)
    · exact jr_sub (show ([0, 1, 2, 3] : List Nat).Nodup from by decide) xsb_n (hK10 sh)
    · refine jr_aload_n (e_119 rfl) rfl rfl ?_
      refine jr_aload_n (e_119 rfl) rfl rfl ?_
      refine jr_iload_n (e_119 rfl) rfl rfl ?_
      refine jr_iload_n (e_119 rfl) rfl rfl ?_
      refine jr_callX (as := [xr 8 0, xr 5 i1, xi x3, xi f2]) (S1 := []) (e_119 rfl) rfl rfl rfl rfl rfl rfl (jm_S_barGoes i1 x3 f2 sh) rfl (fun v2 s3 => ?_)
      refine jr_bri (c := v2 = 0) (pt := 33) (pn := 24) (e_119 rfl) rfl rfl (fun h4 => ?_) (fun h4 => ?_)
      · refine jr_iinc (L2 := fun c => [(3, xi c), (0, xr 8 0), (1, xr 5 i1), (2, xi f2)]) (e_119 rfl) rfl rfl rfl (fun _ => rfl) (fun v5 => ?_)
        refine jr_goto (pc' := 10) (e_119 rfl) rfl ?_
        exact jr_sub (show ([3, 0, 1, 2] : List Nat).Nodup from by decide) (xsb_c (List.Mem.tail _ (List.Mem.head _)) (xsb_c (List.Mem.tail _ (List.Mem.tail _ (List.Mem.head _))) (xsb_c (List.Mem.tail _ (List.Mem.tail _ (List.Mem.tail _ (List.Mem.head _)))) (xsb_c (List.Mem.head _) xsb_n)))) (ih10 v5 s3)
      · refine jr_aload_n (e_119 rfl) rfl rfl ?_
        refine jr_getr (K2 := 0) (i2 := 0) (e_119 rfl) rfl rfl rfl ?_
        refine jr_iload_n (e_119 rfl) rfl rfl ?_
        refine jr_callV (as := [xr 0 0, xi x3]) (S1 := []) (e_119 rfl) rfl rfl rfl rfl rfl rfl (jm_Answer_add x3 s3) rfl (fun s6 => ?_)
        exact jr_retV (e_119 rfl)
noncomputable def fm_S_findBar (i1 : Nat) (a2 : Int) (σ : xa_H) : Option (xa_H) :=
  (fm_Answer_none σ).bind fun s1 =>
  fm_S_findBar_10 i1 a2 (fun (s7 : xa_H) =>
    some s7) xFU 6 s1
theorem jm_S_findBar (i1 : Nat) (a2 : Int) (σ : xa_H) : J 119 0 [(0, xr 8 0), (1, xr 5 i1), (2, xi a2)] [] σ jqV (fm_S_findBar i1 a2 σ) := by
  unfold fm_S_findBar
  refine jr_aload_n (e_119 rfl) rfl rfl ?_
  refine jr_getr (K2 := 0) (i2 := 0) (e_119 rfl) rfl rfl rfl ?_
  refine jr_callV (as := [xr 0 0]) (S1 := []) (e_119 rfl) rfl rfl rfl rfl rfl rfl (jm_Answer_none σ) rfl (fun s1 => ?_)
  refine jr_bipush (e_119 rfl) rfl ?_
  refine jr_istore_n (L' := [(3, xi 6), (0, xr 8 0), (1, xr 5 i1), (2, xi a2)]) (e_119 rfl) rfl rfl rfl ?_
  refine jr_sub (show ([3, 0, 1, 2] : List Nat).Nodup from by decide) (xsb_c (List.Mem.tail _ (List.Mem.head _)) (xsb_c (List.Mem.tail _ (List.Mem.tail _ (List.Mem.head _))) (xsb_c (List.Mem.tail _ (List.Mem.tail _ (List.Mem.tail _ (List.Mem.head _)))) (xsb_c (List.Mem.head _) xsb_n)))) (jl_S_findBar_10 i1 a2 σ _ (fun s7 => ?_) xFU 6 s1)
  exact jr_retV (e_119 rfl)

theorem e_99 {pc : Nat} {en : xa_I} (h : xlk pc xc_99 = some en) : xcd 99 pc = some en := h
noncomputable def fm_S_bar (a1 : Int) (σ : xa_H) : Option (Int × xa_H) :=
  (fm_S_isSet a1).bind fun v1 =>
  if v1 = 0 then
    some ((-2), σ)
  else
    if 0 < 0 then
      some ((-3), σ)
    else
      if 4 ≤ 0 then
        some ((-3), σ)
      else
        if 0 ≤ 0 ∧ 0 < 4 then
          if 0 ≤ (σ 5 (4 * 0 + (0 : Int).toNat) 1) then
            xb2 (fm_Answer_isNew 4 0 0 a1 σ) fun v4 s5 =>
            xj (fun (s7 : xa_H) =>
              (fm_Answer_at 0 s7).bind fun v11 =>
              some (v11, s7)) fun K8 =>
            if v4 = 0 then
              K8 s5
            else
              (fm_S_findBar (4 * 0 + (0 : Int).toNat) a1 s5).bind fun s10 =>
              K8 s10
          else
            some ((-3), σ)
        else none
theorem jm_S_bar (a1 : Int) (σ : xa_H) : J 99 0 [(0, xr 8 0), (1, xi a1)] [] σ jqW (fm_S_bar a1 σ) := by
  unfold fm_S_bar
  refine jr_iload_n (e_99 rfl) rfl rfl ?_
  refine jr_callP (as := [xi a1]) (S1 := []) (e_99 rfl) rfl rfl rfl rfl rfl rfl (jm_S_isSet a1 σ) rfl (fun v1 => ?_)
  refine jr_brx (c := v1 = 0) (pt := 10) (pn := 7) (e_99 rfl) rfl rfl (fun h2 => ?_) (fun h2 => ?_)
  · refine jr_bipush (e_99 rfl) rfl ?_
    exact jr_retW (e_99 rfl) rfl
  · refine jr_aload_n (e_99 rfl) rfl rfl ?_
    refine jr_getr (K2 := 4) (i2 := 0) (e_99 rfl) rfl rfl rfl ?_
    refine jr_iconst (e_99 rfl) rfl ?_
    refine jr_inl (as := [xr 4 0, xi 0]) (S1 := []) (L' := [(0, xr 4 0), (1, xi 0)]) (e_99 rfl) rfl rfl rfl rfl rfl rfl rfl rfl ?_
    refine jr_iload_n (e_51 rfl) rfl rfl ?_
    refine jr_bri (c := 0 < 0) (pt := 22) (pn := 4) (e_51 rfl) rfl rfl (fun h1003 => ?_) (fun h1003 => ?_)
    · refine jr_null (e_51 rfl) rfl ?_
      refine jr_retC (e_51 rfl) ?_
      refine jr_astore_n (L' := [(2, xn), (0, xr 8 0), (1, xi a1)]) (e_99 rfl) rfl rfl rfl ?_
      refine jr_aload_n (e_99 rfl) rfl rfl ?_
      refine jr_s (q := (30, [(2, xn), (0, xr 8 0), (1, xi a1)], [], σ)) (e_99 rfl) rfl rfl ?_
      refine jr_bipush (e_99 rfl) rfl ?_
      exact jr_retW (e_99 rfl) rfl
    · refine jr_iload_n (e_51 rfl) rfl rfl ?_
      refine jr_aload_n (e_51 rfl) rfl rfl ?_
      refine jr_getr (K2 := 24) (i2 := 0) (e_51 rfl) rfl rfl rfl ?_
      refine jr_alen (a := 4) (e_51 rfl) rfl (by decide +kernel) rfl ?_
      refine jr_bri (c := 4 ≤ 0) (pt := 22) (pn := 13) (e_51 rfl) rfl rfl (fun h1004 => ?_) (fun h1004 => ?_)
      · refine jr_null (e_51 rfl) rfl ?_
        refine jr_retC (e_51 rfl) ?_
        refine jr_astore_n (L' := [(2, xn), (0, xr 8 0), (1, xi a1)]) (e_99 rfl) rfl rfl rfl ?_
        refine jr_aload_n (e_99 rfl) rfl rfl ?_
        refine jr_s (q := (30, [(2, xn), (0, xr 8 0), (1, xi a1)], [], σ)) (e_99 rfl) rfl rfl ?_
        refine jr_bipush (e_99 rfl) rfl ?_
        exact jr_retW (e_99 rfl) rfl
      · refine jr_aload_n (e_51 rfl) rfl rfl ?_
        refine jr_getr (K2 := 24) (i2 := 0) (e_51 rfl) rfl rfl rfl ?_
        refine jr_iload_n (e_51 rfl) rfl rfl ?_
        refine jr_aald (n := 4) (K2 := 5) (i2 := (4 * 0 + (0 : Int).toNat)) (e_51 rfl) rfl (by decide +kernel) rfl rfl ?_
        refine jr_goto (pc' := 23) (e_51 rfl) rfl ?_
        refine jr_retC (e_51 rfl) ?_
        refine jr_astore_n (L' := [(2, xr 5 (4 * 0 + (0 : Int).toNat)), (0, xr 8 0), (1, xi a1)]) (e_99 rfl) rfl rfl rfl ?_
        refine jr_aload_n (e_99 rfl) rfl rfl ?_
        refine jr_s (q := (23, [(2, xr 5 (4 * 0 + (0 : Int).toNat)), (0, xr 8 0), (1, xi a1)], [], σ)) (e_99 rfl) rfl rfl ?_
        refine jr_aload_n (e_99 rfl) rfl rfl ?_
        refine jr_geti (e_99 rfl) rfl (by decide +kernel) ?_
        refine jr_bri (c := 0 ≤ (σ 5 (4 * 0 + (0 : Int).toNat) 1)) (pt := 33) (pn := 30) (e_99 rfl) rfl rfl (fun h3 => ?_) (fun h3 => ?_)
        · refine jr_aload_n (e_99 rfl) rfl rfl ?_
          refine jr_getr (K2 := 0) (i2 := 0) (e_99 rfl) rfl rfl rfl ?_
          refine jr_iconst (e_99 rfl) rfl ?_
          refine jr_iconst (e_99 rfl) rfl ?_
          refine jr_iconst (e_99 rfl) rfl ?_
          refine jr_iload_n (e_99 rfl) rfl rfl ?_
          refine jr_callX (as := [xr 0 0, xi 4, xi 0, xi 0, xi a1]) (S1 := []) (e_99 rfl) rfl rfl rfl rfl rfl rfl (jm_Answer_isNew 4 0 0 a1 σ) rfl (fun v4 s5 => ?_)
          refine jr_j (fun K8 => ∀ (s7 : xa_H), J 99 53 [(0, xr 8 0)] [] s7 jqW (K8 s7)) (fun s7 => ?_) (fun K8 hK8 => ?_)
          · refine jr_aload_n (e_99 rfl) rfl rfl ?_
            refine jr_getr (K2 := 0) (i2 := 0) (e_99 rfl) rfl rfl rfl ?_
            refine jr_iconst (e_99 rfl) rfl ?_
            refine jr_callP (as := [xr 0 0, xi 0]) (S1 := []) (e_99 rfl) rfl rfl rfl rfl rfl rfl (jm_Answer_at 0 s7) rfl (fun v11 => ?_)
            exact jr_retW (e_99 rfl) rfl
          · refine jr_bri (c := v4 = 0) (pt := 53) (pn := 47) (e_99 rfl) rfl rfl (fun h9 => ?_) (fun h9 => ?_)
            · exact jr_sub (show ([2, 0, 1] : List Nat).Nodup from by decide) (xsb_c (List.Mem.tail _ (List.Mem.head _)) xsb_n) (hK8 s5)
            · refine jr_aload_n (e_99 rfl) rfl rfl ?_
              refine jr_aload_n (e_99 rfl) rfl rfl ?_
              refine jr_iload_n (e_99 rfl) rfl rfl ?_
              refine jr_callV (as := [xr 8 0, xr 5 (4 * 0 + (0 : Int).toNat), xi a1]) (S1 := []) (e_99 rfl) rfl rfl rfl rfl rfl rfl (jm_S_findBar (4 * 0 + (0 : Int).toNat) a1 s5) rfl (fun s10 => ?_)
              exact jr_sub (show ([2, 0, 1] : List Nat).Nodup from by decide) (xsb_c (List.Mem.tail _ (List.Mem.head _)) xsb_n) (hK8 s10)
        · refine jr_bipush (e_99 rfl) rfl ?_
          exact jr_retW (e_99 rfl) rfl

theorem e_123 {pc : Nat} {en : xa_I} (h : xlk pc xc_123 = some en) : xcd 123 pc = some en := h
noncomputable def fm_S_goesAmong_33 (r3 : Nat) (f1 : Int) (f2 : Int) (K : xa_H → Option (Int × xa_H)) : Nat → Int → xa_H → Option (Int × xa_H)
  | 0, _, _ => none
  | n + 1, x4, sh =>
    if 4 ≤ x4 then
      K sh
    else
      if x4 < 0 then
        if x4 = f1 then
          xnm (w32 (x4 + 1) : Int) fun v3 =>
          fm_S_goesAmong_33 r3 f1 f2 K n v3 sh
        else
          (fm_S_has f2 x4).bind fun v4 =>
          if v4 = 0 then
            xnm (w32 (x4 + 1) : Int) fun v6 =>
            fm_S_goesAmong_33 r3 f1 f2 K n v6 sh
          else
            xnm (w32 (x4 + 1) : Int) fun v7 =>
            fm_S_goesAmong_33 r3 f1 f2 K n v7 sh
      else
        if 4 ≤ x4 then
          if x4 = f1 then
            xnm (w32 (x4 + 1) : Int) fun v9 =>
            fm_S_goesAmong_33 r3 f1 f2 K n v9 sh
          else
            (fm_S_has f2 x4).bind fun v10 =>
            if v10 = 0 then
              xnm (w32 (x4 + 1) : Int) fun v12 =>
              fm_S_goesAmong_33 r3 f1 f2 K n v12 sh
            else
              xnm (w32 (x4 + 1) : Int) fun v13 =>
              fm_S_goesAmong_33 r3 f1 f2 K n v13 sh
        else
          if 0 ≤ x4 ∧ x4 < 4 then
            if x4 = f1 then
              xnm (w32 (x4 + 1) : Int) fun v15 =>
              fm_S_goesAmong_33 r3 f1 f2 K n v15 sh
            else
              (fm_S_has f2 x4).bind fun v16 =>
              if v16 = 0 then
                xnm (w32 (x4 + 1) : Int) fun v18 =>
                fm_S_goesAmong_33 r3 f1 f2 K n v18 sh
              else
                (fm_Search_wall (4 * 0 + x4.toNat) sh).bind fun s19 =>
                xnm (w32 (x4 + 1) : Int) fun v20 =>
                fm_S_goesAmong_33 r3 f1 f2 K n v20 s19
          else none
theorem jl_S_goesAmong_33 (r3 : Nat) (f1 : Int) (f2 : Int) (σ : xa_H)  (K : xa_H → Option (Int × xa_H)) (hK33 : ∀ (sz : xa_H), J 123 85 [(0, xr 8 0), (3, xr 5 r3)] [] sz jqW (K sz)) : ∀ (n : Nat) (x4 : Int) (sh : xa_H), J 123 33 [(0, xr 8 0), (1, xi f1), (2, xi f2), (3, xr 5 r3), (4, xi x4)] [] sh jqW (fm_S_goesAmong_33 r3 f1 f2 K n x4 sh) := by
  intro n
  induction n with
  | zero => intro x4 sh; exact jr_none
  | succ n ih33 =>
    intro x4 sh
    rw [fm_S_goesAmong_33]
    refine jr_iload (e_123 rfl) rfl rfl ?_
    refine jr_iconst (e_123 rfl) rfl ?_
    refine jr_bri (c := 4 ≤ x4) (pt := 85) (pn := 39) (e_123 rfl) rfl rfl (fun h1 => ?_) (fun h1 => ?_)
    · exact jr_sub (show ([0, 1, 2, 3, 4] : List Nat).Nodup from by decide) (xsb_c (List.Mem.head _) (xsb_c (List.Mem.tail _ (List.Mem.tail _ (List.Mem.tail _ (List.Mem.head _)))) xsb_n)) (hK33 sh)
    · refine jr_aload_n (e_123 rfl) rfl rfl ?_
      refine jr_getr (K2 := 4) (i2 := 0) (e_123 rfl) rfl rfl rfl ?_
      refine jr_iload (e_123 rfl) rfl rfl ?_
      refine jr_inl (as := [xr 4 0, xi x4]) (S1 := []) (L' := [(0, xr 4 0), (1, xi x4)]) (e_123 rfl) rfl rfl rfl rfl rfl rfl rfl rfl ?_
      refine jr_iload_n (e_51 rfl) rfl rfl ?_
      refine jr_bri (c := x4 < 0) (pt := 22) (pn := 4) (e_51 rfl) rfl rfl (fun h1002 => ?_) (fun h1002 => ?_)
      · refine jr_null (e_51 rfl) rfl ?_
        refine jr_retC (e_51 rfl) ?_
        refine jr_astore (L' := [(5, xn), (0, xr 8 0), (1, xi f1), (2, xi f2), (3, xr 5 r3), (4, xi x4)]) (e_123 rfl) rfl rfl rfl ?_
        refine jr_iload (e_123 rfl) rfl rfl ?_
        refine jr_iload_n (e_123 rfl) rfl rfl ?_
        refine jr_bri (c := x4 = f1) (pt := 79) (pn := 56) (e_123 rfl) rfl rfl (fun h2 => ?_) (fun h2 => ?_)
        · refine jr_iinc (L2 := fun c => [(4, xi c), (5, xn), (0, xr 8 0), (1, xi f1), (2, xi f2), (3, xr 5 r3)]) (e_123 rfl) rfl rfl rfl (fun _ => rfl) (fun v3 => ?_)
          refine jr_goto (pc' := 33) (e_123 rfl) rfl ?_
          exact jr_sub (show ([4, 5, 0, 1, 2, 3] : List Nat).Nodup from by decide) (xsb_c (List.Mem.tail _ (List.Mem.tail _ (List.Mem.head _))) (xsb_c (List.Mem.tail _ (List.Mem.tail _ (List.Mem.tail _ (List.Mem.head _)))) (xsb_c (List.Mem.tail _ (List.Mem.tail _ (List.Mem.tail _ (List.Mem.tail _ (List.Mem.head _))))) (xsb_c (List.Mem.tail _ (List.Mem.tail _ (List.Mem.tail _ (List.Mem.tail _ (List.Mem.tail _ (List.Mem.head _)))))) (xsb_c (List.Mem.head _) xsb_n))))) (ih33 v3 sh)
        · refine jr_iload_n (e_123 rfl) rfl rfl ?_
          refine jr_iload (e_123 rfl) rfl rfl ?_
          refine jr_callP (as := [xi f2, xi x4]) (S1 := []) (e_123 rfl) rfl rfl rfl rfl rfl rfl (jm_S_has f2 x4 sh) rfl (fun v4 => ?_)
          refine jr_bri (c := v4 = 0) (pt := 79) (pn := 65) (e_123 rfl) rfl rfl (fun h5 => ?_) (fun h5 => ?_)
          · refine jr_iinc (L2 := fun c => [(4, xi c), (5, xn), (0, xr 8 0), (1, xi f1), (2, xi f2), (3, xr 5 r3)]) (e_123 rfl) rfl rfl rfl (fun _ => rfl) (fun v6 => ?_)
            refine jr_goto (pc' := 33) (e_123 rfl) rfl ?_
            exact jr_sub (show ([4, 5, 0, 1, 2, 3] : List Nat).Nodup from by decide) (xsb_c (List.Mem.tail _ (List.Mem.tail _ (List.Mem.head _))) (xsb_c (List.Mem.tail _ (List.Mem.tail _ (List.Mem.tail _ (List.Mem.head _)))) (xsb_c (List.Mem.tail _ (List.Mem.tail _ (List.Mem.tail _ (List.Mem.tail _ (List.Mem.head _))))) (xsb_c (List.Mem.tail _ (List.Mem.tail _ (List.Mem.tail _ (List.Mem.tail _ (List.Mem.tail _ (List.Mem.head _)))))) (xsb_c (List.Mem.head _) xsb_n))))) (ih33 v6 sh)
          · refine jr_aload (e_123 rfl) rfl rfl ?_
            refine jr_s (q := (79, [(5, xn), (0, xr 8 0), (1, xi f1), (2, xi f2), (3, xr 5 r3), (4, xi x4)], [], sh)) (e_123 rfl) rfl rfl ?_
            refine jr_iinc (L2 := fun c => [(4, xi c), (5, xn), (0, xr 8 0), (1, xi f1), (2, xi f2), (3, xr 5 r3)]) (e_123 rfl) rfl rfl rfl (fun _ => rfl) (fun v7 => ?_)
            refine jr_goto (pc' := 33) (e_123 rfl) rfl ?_
            exact jr_sub (show ([4, 5, 0, 1, 2, 3] : List Nat).Nodup from by decide) (xsb_c (List.Mem.tail _ (List.Mem.tail _ (List.Mem.head _))) (xsb_c (List.Mem.tail _ (List.Mem.tail _ (List.Mem.tail _ (List.Mem.head _)))) (xsb_c (List.Mem.tail _ (List.Mem.tail _ (List.Mem.tail _ (List.Mem.tail _ (List.Mem.head _))))) (xsb_c (List.Mem.tail _ (List.Mem.tail _ (List.Mem.tail _ (List.Mem.tail _ (List.Mem.tail _ (List.Mem.head _)))))) (xsb_c (List.Mem.head _) xsb_n))))) (ih33 v7 sh)
      · refine jr_iload_n (e_51 rfl) rfl rfl ?_
        refine jr_aload_n (e_51 rfl) rfl rfl ?_
        refine jr_getr (K2 := 24) (i2 := 0) (e_51 rfl) rfl rfl rfl ?_
        refine jr_alen (a := 4) (e_51 rfl) rfl (by decide +kernel) rfl ?_
        refine jr_bri (c := 4 ≤ x4) (pt := 22) (pn := 13) (e_51 rfl) rfl rfl (fun h1003 => ?_) (fun h1003 => ?_)
        · refine jr_null (e_51 rfl) rfl ?_
          refine jr_retC (e_51 rfl) ?_
          refine jr_astore (L' := [(5, xn), (0, xr 8 0), (1, xi f1), (2, xi f2), (3, xr 5 r3), (4, xi x4)]) (e_123 rfl) rfl rfl rfl ?_
          refine jr_iload (e_123 rfl) rfl rfl ?_
          refine jr_iload_n (e_123 rfl) rfl rfl ?_
          refine jr_bri (c := x4 = f1) (pt := 79) (pn := 56) (e_123 rfl) rfl rfl (fun h8 => ?_) (fun h8 => ?_)
          · refine jr_iinc (L2 := fun c => [(4, xi c), (5, xn), (0, xr 8 0), (1, xi f1), (2, xi f2), (3, xr 5 r3)]) (e_123 rfl) rfl rfl rfl (fun _ => rfl) (fun v9 => ?_)
            refine jr_goto (pc' := 33) (e_123 rfl) rfl ?_
            exact jr_sub (show ([4, 5, 0, 1, 2, 3] : List Nat).Nodup from by decide) (xsb_c (List.Mem.tail _ (List.Mem.tail _ (List.Mem.head _))) (xsb_c (List.Mem.tail _ (List.Mem.tail _ (List.Mem.tail _ (List.Mem.head _)))) (xsb_c (List.Mem.tail _ (List.Mem.tail _ (List.Mem.tail _ (List.Mem.tail _ (List.Mem.head _))))) (xsb_c (List.Mem.tail _ (List.Mem.tail _ (List.Mem.tail _ (List.Mem.tail _ (List.Mem.tail _ (List.Mem.head _)))))) (xsb_c (List.Mem.head _) xsb_n))))) (ih33 v9 sh)
          · refine jr_iload_n (e_123 rfl) rfl rfl ?_
            refine jr_iload (e_123 rfl) rfl rfl ?_
            refine jr_callP (as := [xi f2, xi x4]) (S1 := []) (e_123 rfl) rfl rfl rfl rfl rfl rfl (jm_S_has f2 x4 sh) rfl (fun v10 => ?_)
            refine jr_bri (c := v10 = 0) (pt := 79) (pn := 65) (e_123 rfl) rfl rfl (fun h11 => ?_) (fun h11 => ?_)
            · refine jr_iinc (L2 := fun c => [(4, xi c), (5, xn), (0, xr 8 0), (1, xi f1), (2, xi f2), (3, xr 5 r3)]) (e_123 rfl) rfl rfl rfl (fun _ => rfl) (fun v12 => ?_)
              refine jr_goto (pc' := 33) (e_123 rfl) rfl ?_
              exact jr_sub (show ([4, 5, 0, 1, 2, 3] : List Nat).Nodup from by decide) (xsb_c (List.Mem.tail _ (List.Mem.tail _ (List.Mem.head _))) (xsb_c (List.Mem.tail _ (List.Mem.tail _ (List.Mem.tail _ (List.Mem.head _)))) (xsb_c (List.Mem.tail _ (List.Mem.tail _ (List.Mem.tail _ (List.Mem.tail _ (List.Mem.head _))))) (xsb_c (List.Mem.tail _ (List.Mem.tail _ (List.Mem.tail _ (List.Mem.tail _ (List.Mem.tail _ (List.Mem.head _)))))) (xsb_c (List.Mem.head _) xsb_n))))) (ih33 v12 sh)
            · refine jr_aload (e_123 rfl) rfl rfl ?_
              refine jr_s (q := (79, [(5, xn), (0, xr 8 0), (1, xi f1), (2, xi f2), (3, xr 5 r3), (4, xi x4)], [], sh)) (e_123 rfl) rfl rfl ?_
              refine jr_iinc (L2 := fun c => [(4, xi c), (5, xn), (0, xr 8 0), (1, xi f1), (2, xi f2), (3, xr 5 r3)]) (e_123 rfl) rfl rfl rfl (fun _ => rfl) (fun v13 => ?_)
              refine jr_goto (pc' := 33) (e_123 rfl) rfl ?_
              exact jr_sub (show ([4, 5, 0, 1, 2, 3] : List Nat).Nodup from by decide) (xsb_c (List.Mem.tail _ (List.Mem.tail _ (List.Mem.head _))) (xsb_c (List.Mem.tail _ (List.Mem.tail _ (List.Mem.tail _ (List.Mem.head _)))) (xsb_c (List.Mem.tail _ (List.Mem.tail _ (List.Mem.tail _ (List.Mem.tail _ (List.Mem.head _))))) (xsb_c (List.Mem.tail _ (List.Mem.tail _ (List.Mem.tail _ (List.Mem.tail _ (List.Mem.tail _ (List.Mem.head _)))))) (xsb_c (List.Mem.head _) xsb_n))))) (ih33 v13 sh)
        · refine jr_aload_n (e_51 rfl) rfl rfl ?_
          refine jr_getr (K2 := 24) (i2 := 0) (e_51 rfl) rfl rfl rfl ?_
          refine jr_iload_n (e_51 rfl) rfl rfl ?_
          refine jr_aald (n := 4) (K2 := 5) (i2 := (4 * 0 + x4.toNat)) (e_51 rfl) rfl (by decide +kernel) rfl rfl ?_
          refine jr_goto (pc' := 23) (e_51 rfl) rfl ?_
          refine jr_retC (e_51 rfl) ?_
          refine jr_astore (L' := [(5, xr 5 (4 * 0 + x4.toNat)), (0, xr 8 0), (1, xi f1), (2, xi f2), (3, xr 5 r3), (4, xi x4)]) (e_123 rfl) rfl rfl rfl ?_
          refine jr_iload (e_123 rfl) rfl rfl ?_
          refine jr_iload_n (e_123 rfl) rfl rfl ?_
          refine jr_bri (c := x4 = f1) (pt := 79) (pn := 56) (e_123 rfl) rfl rfl (fun h14 => ?_) (fun h14 => ?_)
          · refine jr_iinc (L2 := fun c => [(4, xi c), (5, xr 5 (4 * 0 + x4.toNat)), (0, xr 8 0), (1, xi f1), (2, xi f2), (3, xr 5 r3)]) (e_123 rfl) rfl rfl rfl (fun _ => rfl) (fun v15 => ?_)
            refine jr_goto (pc' := 33) (e_123 rfl) rfl ?_
            exact jr_sub (show ([4, 5, 0, 1, 2, 3] : List Nat).Nodup from by decide) (xsb_c (List.Mem.tail _ (List.Mem.tail _ (List.Mem.head _))) (xsb_c (List.Mem.tail _ (List.Mem.tail _ (List.Mem.tail _ (List.Mem.head _)))) (xsb_c (List.Mem.tail _ (List.Mem.tail _ (List.Mem.tail _ (List.Mem.tail _ (List.Mem.head _))))) (xsb_c (List.Mem.tail _ (List.Mem.tail _ (List.Mem.tail _ (List.Mem.tail _ (List.Mem.tail _ (List.Mem.head _)))))) (xsb_c (List.Mem.head _) xsb_n))))) (ih33 v15 sh)
          · refine jr_iload_n (e_123 rfl) rfl rfl ?_
            refine jr_iload (e_123 rfl) rfl rfl ?_
            refine jr_callP (as := [xi f2, xi x4]) (S1 := []) (e_123 rfl) rfl rfl rfl rfl rfl rfl (jm_S_has f2 x4 sh) rfl (fun v16 => ?_)
            refine jr_bri (c := v16 = 0) (pt := 79) (pn := 65) (e_123 rfl) rfl rfl (fun h17 => ?_) (fun h17 => ?_)
            · refine jr_iinc (L2 := fun c => [(4, xi c), (5, xr 5 (4 * 0 + x4.toNat)), (0, xr 8 0), (1, xi f1), (2, xi f2), (3, xr 5 r3)]) (e_123 rfl) rfl rfl rfl (fun _ => rfl) (fun v18 => ?_)
              refine jr_goto (pc' := 33) (e_123 rfl) rfl ?_
              exact jr_sub (show ([4, 5, 0, 1, 2, 3] : List Nat).Nodup from by decide) (xsb_c (List.Mem.tail _ (List.Mem.tail _ (List.Mem.head _))) (xsb_c (List.Mem.tail _ (List.Mem.tail _ (List.Mem.tail _ (List.Mem.head _)))) (xsb_c (List.Mem.tail _ (List.Mem.tail _ (List.Mem.tail _ (List.Mem.tail _ (List.Mem.head _))))) (xsb_c (List.Mem.tail _ (List.Mem.tail _ (List.Mem.tail _ (List.Mem.tail _ (List.Mem.tail _ (List.Mem.head _)))))) (xsb_c (List.Mem.head _) xsb_n))))) (ih33 v18 sh)
            · refine jr_aload (e_123 rfl) rfl rfl ?_
              refine jr_s (q := (70, [(5, xr 5 (4 * 0 + x4.toNat)), (0, xr 8 0), (1, xi f1), (2, xi f2), (3, xr 5 r3), (4, xi x4)], [], sh)) (e_123 rfl) rfl rfl ?_
              refine jr_aload_n (e_123 rfl) rfl rfl ?_
              refine jr_getr (K2 := 3) (i2 := 0) (e_123 rfl) rfl rfl rfl ?_
              refine jr_aload (e_123 rfl) rfl rfl ?_
              refine jr_callV (as := [xr 3 0, xr 5 (4 * 0 + x4.toNat)]) (S1 := []) (e_123 rfl) rfl rfl rfl rfl rfl rfl (jm_Search_wall (4 * 0 + x4.toNat) sh) rfl (fun s19 => ?_)
              refine jr_iinc (L2 := fun c => [(4, xi c), (5, xr 5 (4 * 0 + x4.toNat)), (0, xr 8 0), (1, xi f1), (2, xi f2), (3, xr 5 r3)]) (e_123 rfl) rfl rfl rfl (fun _ => rfl) (fun v20 => ?_)
              refine jr_goto (pc' := 33) (e_123 rfl) rfl ?_
              exact jr_sub (show ([4, 5, 0, 1, 2, 3] : List Nat).Nodup from by decide) (xsb_c (List.Mem.tail _ (List.Mem.tail _ (List.Mem.head _))) (xsb_c (List.Mem.tail _ (List.Mem.tail _ (List.Mem.tail _ (List.Mem.head _)))) (xsb_c (List.Mem.tail _ (List.Mem.tail _ (List.Mem.tail _ (List.Mem.tail _ (List.Mem.head _))))) (xsb_c (List.Mem.tail _ (List.Mem.tail _ (List.Mem.tail _ (List.Mem.tail _ (List.Mem.tail _ (List.Mem.head _)))))) (xsb_c (List.Mem.head _) xsb_n))))) (ih33 v20 s19)
noncomputable def fm_S_goesAmong (a1 : Int) (a2 : Int) (σ : xa_H) : Option (Int × xa_H) :=
  if a1 < 0 then
    some (0, σ)
  else
    if 4 ≤ a1 then
      some (0, σ)
    else
      if 0 ≤ a1 ∧ a1 < 4 then
        (fm_Search_forget σ).bind fun s1 =>
        (fm_Search_about (4 * 0 + a1.toNat) s1).bind fun s2 =>
        fm_S_goesAmong_33 (4 * 0 + a1.toNat) a1 a2 (fun (s21 : xa_H) =>
          (fm_Search_off 0 0 s21).bind fun s22 =>
          (fm_Thing_stand (4 * 0 + a1.toNat) s22).bind fun v23 =>
          xb2 (fm_Search_flood v23 (s22 5 (4 * 0 + a1.toNat) 3) s22) fun v24 s25 =>
          if v24 < 0 then
            some (0, s25)
          else
            some (1, s25)) xFU 0 s2
      else none
theorem jm_S_goesAmong (a1 : Int) (a2 : Int) (σ : xa_H) : J 123 0 [(0, xr 8 0), (1, xi a1), (2, xi a2)] [] σ jqW (fm_S_goesAmong a1 a2 σ) := by
  unfold fm_S_goesAmong
  refine jr_aload_n (e_123 rfl) rfl rfl ?_
  refine jr_getr (K2 := 4) (i2 := 0) (e_123 rfl) rfl rfl rfl ?_
  refine jr_iload_n (e_123 rfl) rfl rfl ?_
  refine jr_inl (as := [xr 4 0, xi a1]) (S1 := []) (L' := [(0, xr 4 0), (1, xi a1)]) (e_123 rfl) rfl rfl rfl rfl rfl rfl rfl rfl ?_
  refine jr_iload_n (e_51 rfl) rfl rfl ?_
  refine jr_bri (c := a1 < 0) (pt := 22) (pn := 4) (e_51 rfl) rfl rfl (fun h1001 => ?_) (fun h1001 => ?_)
  · refine jr_null (e_51 rfl) rfl ?_
    refine jr_retC (e_51 rfl) ?_
    refine jr_astore_n (L' := [(3, xn), (0, xr 8 0), (1, xi a1), (2, xi a2)]) (e_123 rfl) rfl rfl rfl ?_
    refine jr_aload_n (e_123 rfl) rfl rfl ?_
    refine jr_s (q := (13, [(3, xn), (0, xr 8 0), (1, xi a1), (2, xi a2)], [], σ)) (e_123 rfl) rfl rfl ?_
    refine jr_iconst (e_123 rfl) rfl ?_
    exact jr_retWz (e_123 rfl) rfl rfl
  · refine jr_iload_n (e_51 rfl) rfl rfl ?_
    refine jr_aload_n (e_51 rfl) rfl rfl ?_
    refine jr_getr (K2 := 24) (i2 := 0) (e_51 rfl) rfl rfl rfl ?_
    refine jr_alen (a := 4) (e_51 rfl) rfl (by decide +kernel) rfl ?_
    refine jr_bri (c := 4 ≤ a1) (pt := 22) (pn := 13) (e_51 rfl) rfl rfl (fun h1002 => ?_) (fun h1002 => ?_)
    · refine jr_null (e_51 rfl) rfl ?_
      refine jr_retC (e_51 rfl) ?_
      refine jr_astore_n (L' := [(3, xn), (0, xr 8 0), (1, xi a1), (2, xi a2)]) (e_123 rfl) rfl rfl rfl ?_
      refine jr_aload_n (e_123 rfl) rfl rfl ?_
      refine jr_s (q := (13, [(3, xn), (0, xr 8 0), (1, xi a1), (2, xi a2)], [], σ)) (e_123 rfl) rfl rfl ?_
      refine jr_iconst (e_123 rfl) rfl ?_
      exact jr_retWz (e_123 rfl) rfl rfl
    · refine jr_aload_n (e_51 rfl) rfl rfl ?_
      refine jr_getr (K2 := 24) (i2 := 0) (e_51 rfl) rfl rfl rfl ?_
      refine jr_iload_n (e_51 rfl) rfl rfl ?_
      refine jr_aald (n := 4) (K2 := 5) (i2 := (4 * 0 + a1.toNat)) (e_51 rfl) rfl (by decide +kernel) rfl rfl ?_
      refine jr_goto (pc' := 23) (e_51 rfl) rfl ?_
      refine jr_retC (e_51 rfl) ?_
      refine jr_astore_n (L' := [(3, xr 5 (4 * 0 + a1.toNat)), (0, xr 8 0), (1, xi a1), (2, xi a2)]) (e_123 rfl) rfl rfl rfl ?_
      refine jr_aload_n (e_123 rfl) rfl rfl ?_
      refine jr_s (q := (15, [(3, xr 5 (4 * 0 + a1.toNat)), (0, xr 8 0), (1, xi a1), (2, xi a2)], [], σ)) (e_123 rfl) rfl rfl ?_
      refine jr_aload_n (e_123 rfl) rfl rfl ?_
      refine jr_getr (K2 := 3) (i2 := 0) (e_123 rfl) rfl rfl rfl ?_
      refine jr_callV (as := [xr 3 0]) (S1 := []) (e_123 rfl) rfl rfl rfl rfl rfl rfl (jm_Search_forget σ) rfl (fun s1 => ?_)
      refine jr_aload_n (e_123 rfl) rfl rfl ?_
      refine jr_getr (K2 := 3) (i2 := 0) (e_123 rfl) rfl rfl rfl ?_
      refine jr_aload_n (e_123 rfl) rfl rfl ?_
      refine jr_callV (as := [xr 3 0, xr 5 (4 * 0 + a1.toNat)]) (S1 := []) (e_123 rfl) rfl rfl rfl rfl rfl rfl (jm_Search_about (4 * 0 + a1.toNat) s1) rfl (fun s2 => ?_)
      refine jr_iconst (e_123 rfl) rfl ?_
      refine jr_istore (L' := [(4, xi 0), (3, xr 5 (4 * 0 + a1.toNat)), (0, xr 8 0), (1, xi a1), (2, xi a2)]) (e_123 rfl) rfl rfl rfl ?_
      refine jr_sub (show ([4, 3, 0, 1, 2] : List Nat).Nodup from by decide) (xsb_c (List.Mem.tail _ (List.Mem.tail _ (List.Mem.head _))) (xsb_c (List.Mem.tail _ (List.Mem.tail _ (List.Mem.tail _ (List.Mem.head _)))) (xsb_c (List.Mem.tail _ (List.Mem.tail _ (List.Mem.tail _ (List.Mem.tail _ (List.Mem.head _))))) (xsb_c (List.Mem.tail _ (List.Mem.head _)) (xsb_c (List.Mem.head _) xsb_n))))) (jl_S_goesAmong_33 (4 * 0 + a1.toNat) a1 a2 σ _ (fun s21 => ?_) xFU 0 s2)
      refine jr_aload_n (e_123 rfl) rfl rfl ?_
      refine jr_getr (K2 := 3) (i2 := 0) (e_123 rfl) rfl rfl rfl ?_
      refine jr_iconst (e_123 rfl) rfl ?_
      refine jr_iconst (e_123 rfl) rfl ?_
      refine jr_callV (as := [xr 3 0, xi 0, xi 0]) (S1 := []) (e_123 rfl) rfl rfl rfl rfl rfl rfl (jm_Search_off 0 0 s21) rfl (fun s22 => ?_)
      refine jr_aload_n (e_123 rfl) rfl rfl ?_
      refine jr_getr (K2 := 3) (i2 := 0) (e_123 rfl) rfl rfl rfl ?_
      refine jr_aload_n (e_123 rfl) rfl rfl ?_
      refine jr_callP (as := [xr 5 (4 * 0 + a1.toNat)]) (S1 := [xr 3 0]) (e_123 rfl) rfl rfl rfl rfl rfl rfl (jm_Thing_stand (4 * 0 + a1.toNat) s22) rfl (fun v23 => ?_)
      refine jr_aload_n (e_123 rfl) rfl rfl ?_
      refine jr_geti (e_123 rfl) rfl (by decide +kernel) ?_
      refine jr_callX (as := [xr 3 0, xi v23, xi (s22 5 (4 * 0 + a1.toNat) 3)]) (S1 := []) (e_123 rfl) rfl rfl rfl rfl rfl rfl (jm_Search_flood v23 (s22 5 (4 * 0 + a1.toNat) 3) s22) rfl (fun v24 s25 => ?_)
      refine jr_bri (c := v24 < 0) (pt := 116) (pn := 112) (e_123 rfl) rfl rfl (fun h26 => ?_) (fun h26 => ?_)
      · refine jr_iconst (e_123 rfl) rfl ?_
        exact jr_retWz (e_123 rfl) rfl rfl
      · refine jr_iconst (e_123 rfl) rfl ?_
        refine jr_goto (pc' := 117) (e_123 rfl) rfl ?_
        exact jr_retWz (e_123 rfl) rfl rfl

theorem e_122 {pc : Nat} {en : xa_I} (h : xlk pc xc_122 = some en) : xcd 122 pc = some en := h
noncomputable def fm_S_firstToGo_2 (f1 : Int) (K : xa_H → Option (Int × xa_H)) : Nat → Int → xa_H → Option (Int × xa_H)
  | 0, _, _ => none
  | n + 1, x2, sh =>
    if 4 ≤ x2 then
      K sh
    else
      (fm_S_has f1 x2).bind fun v2 =>
      if v2 = 0 then
        xnm (w32 (x2 + 1) : Int) fun v4 =>
        fm_S_firstToGo_2 f1 K n v4 sh
      else
        xb2 (fm_S_goesAmong x2 f1 sh) fun v5 s6 =>
        if v5 = 0 then
          xnm (w32 (x2 + 1) : Int) fun v8 =>
          fm_S_firstToGo_2 f1 K n v8 s6
        else
          some (x2, s6)
theorem jl_S_firstToGo_2 (f1 : Int) (σ : xa_H)  (K : xa_H → Option (Int × xa_H)) (hK2 : ∀ (sz : xa_H), J 122 32 [] [] sz jqW (K sz)) : ∀ (n : Nat) (x2 : Int) (sh : xa_H), J 122 2 [(0, xr 8 0), (1, xi f1), (2, xi x2)] [] sh jqW (fm_S_firstToGo_2 f1 K n x2 sh) := by
  intro n
  induction n with
  | zero => intro x2 sh; exact jr_none
  | succ n ih2 =>
    intro x2 sh
    rw [fm_S_firstToGo_2]
    refine jr_iload_n (e_122 rfl) rfl rfl ?_
    refine jr_iconst (e_122 rfl) rfl ?_
    refine jr_bri (c := 4 ≤ x2) (pt := 32) (pn := 7) (e_122 rfl) rfl rfl (fun h1 => ?_) (fun h1 => ?_)
    · exact jr_sub (show ([0, 1, 2] : List Nat).Nodup from by decide) xsb_n (hK2 sh)
    · refine jr_iload_n (e_122 rfl) rfl rfl ?_
      refine jr_iload_n (e_122 rfl) rfl rfl ?_
      refine jr_callP (as := [xi f1, xi x2]) (S1 := []) (e_122 rfl) rfl rfl rfl rfl rfl rfl (jm_S_has f1 x2 sh) rfl (fun v2 => ?_)
      refine jr_bri (c := v2 = 0) (pt := 26) (pn := 15) (e_122 rfl) rfl rfl (fun h3 => ?_) (fun h3 => ?_)
      · refine jr_iinc (L2 := fun c => [(2, xi c), (0, xr 8 0), (1, xi f1)]) (e_122 rfl) rfl rfl rfl (fun _ => rfl) (fun v4 => ?_)
        refine jr_goto (pc' := 2) (e_122 rfl) rfl ?_
        exact jr_sub (show ([2, 0, 1] : List Nat).Nodup from by decide) (xsb_c (List.Mem.tail _ (List.Mem.head _)) (xsb_c (List.Mem.tail _ (List.Mem.tail _ (List.Mem.head _))) (xsb_c (List.Mem.head _) xsb_n))) (ih2 v4 sh)
      · refine jr_aload_n (e_122 rfl) rfl rfl ?_
        refine jr_iload_n (e_122 rfl) rfl rfl ?_
        refine jr_iload_n (e_122 rfl) rfl rfl ?_
        refine jr_callX (as := [xr 8 0, xi x2, xi f1]) (S1 := []) (e_122 rfl) rfl rfl rfl rfl rfl rfl (jm_S_goesAmong x2 f1 sh) rfl (fun v5 s6 => ?_)
        refine jr_bri (c := v5 = 0) (pt := 26) (pn := 24) (e_122 rfl) rfl rfl (fun h7 => ?_) (fun h7 => ?_)
        · refine jr_iinc (L2 := fun c => [(2, xi c), (0, xr 8 0), (1, xi f1)]) (e_122 rfl) rfl rfl rfl (fun _ => rfl) (fun v8 => ?_)
          refine jr_goto (pc' := 2) (e_122 rfl) rfl ?_
          exact jr_sub (show ([2, 0, 1] : List Nat).Nodup from by decide) (xsb_c (List.Mem.tail _ (List.Mem.head _)) (xsb_c (List.Mem.tail _ (List.Mem.tail _ (List.Mem.head _))) (xsb_c (List.Mem.head _) xsb_n))) (ih2 v8 s6)
        · refine jr_iload_n (e_122 rfl) rfl rfl ?_
          exact jr_retW (e_122 rfl) rfl
noncomputable def fm_S_firstToGo (a1 : Int) (σ : xa_H) : Option (Int × xa_H) :=
  fm_S_firstToGo_2 a1 (fun (s9 : xa_H) =>
    some ((-6), s9)) xFU 0 σ
theorem jm_S_firstToGo (a1 : Int) (σ : xa_H) : J 122 0 [(0, xr 8 0), (1, xi a1)] [] σ jqW (fm_S_firstToGo a1 σ) := by
  unfold fm_S_firstToGo
  refine jr_iconst (e_122 rfl) rfl ?_
  refine jr_istore_n (L' := [(2, xi 0), (0, xr 8 0), (1, xi a1)]) (e_122 rfl) rfl rfl rfl ?_
  refine jr_sub (show ([2, 0, 1] : List Nat).Nodup from by decide) (xsb_c (List.Mem.tail _ (List.Mem.head _)) (xsb_c (List.Mem.tail _ (List.Mem.tail _ (List.Mem.head _))) (xsb_c (List.Mem.head _) xsb_n))) (jl_S_firstToGo_2 a1 σ _ (fun s9 => ?_) xFU 0 σ)
  refine jr_bipush (e_122 rfl) rfl ?_
  exact jr_retW (e_122 rfl) rfl

theorem e_121 {pc : Nat} {en : xa_I} (h : xlk pc xc_121 = some en) : xcd 121 pc = some en := h
noncomputable def fm_S_findOrder_11  (K : xa_H → Option (xa_H)) : Nat → Int → Int → xa_H → Option (xa_H)
  | 0, _, _, _ => none
  | n + 1, x2, x3, sh =>
    if 4 ≤ x3 then
      K sh
    else
      if x2 = 0 then
        K sh
      else
        xb2 (fm_S_firstToGo x2 sh) fun v3 s4 =>
        if 0 ≤ v3 then
          (fm_Answer_add v3 s4).bind fun s6 =>
          xnm ((xand x2 (xxor (xshl 1 v3) (-1))) : Int) fun v7 =>
          xnm (w32 (x3 + 1) : Int) fun v8 =>
          fm_S_findOrder_11 K n v7 v8 s6
        else
          (fm_Answer_none s4).bind fun s9 =>
          K s9
theorem jl_S_findOrder_11  (σ : xa_H)  (K : xa_H → Option (xa_H)) (hK11 : ∀ (sz : xa_H), J 121 66 [(0, xr 8 0)] [] sz jqV (K sz)) : ∀ (n : Nat) (x2 : Int) (x3 : Int) (sh : xa_H), J 121 11 [(0, xr 8 0), (2, xi x2), (3, xi x3)] [] sh jqV (fm_S_findOrder_11 K n x2 x3 sh) := by
  intro n
  induction n with
  | zero => intro x2 x3 sh; exact jr_none
  | succ n ih11 =>
    intro x2 x3 sh
    rw [fm_S_findOrder_11]
    refine jr_iload_n (e_121 rfl) rfl rfl ?_
    refine jr_iconst (e_121 rfl) rfl ?_
    refine jr_bri (c := 4 ≤ x3) (pt := 66) (pn := 16) (e_121 rfl) rfl rfl (fun h1 => ?_) (fun h1 => ?_)
    · exact jr_sub (show ([0, 2, 3] : List Nat).Nodup from by decide) (xsb_c (List.Mem.head _) xsb_n) (hK11 sh)
    · refine jr_iload_n (e_121 rfl) rfl rfl ?_
      refine jr_bri (c := x2 = 0) (pt := 66) (pn := 20) (e_121 rfl) rfl rfl (fun h2 => ?_) (fun h2 => ?_)
      · exact jr_sub (show ([0, 2, 3] : List Nat).Nodup from by decide) (xsb_c (List.Mem.head _) xsb_n) (hK11 sh)
      · refine jr_aload_n (e_121 rfl) rfl rfl ?_
        refine jr_iload_n (e_121 rfl) rfl rfl ?_
        refine jr_callX (as := [xr 8 0, xi x2]) (S1 := []) (e_121 rfl) rfl rfl rfl rfl rfl rfl (jm_S_firstToGo x2 sh) rfl (fun v3 s4 => ?_)
        refine jr_istore (L' := [(4, xi v3), (0, xr 8 0), (2, xi x2), (3, xi x3)]) (e_121 rfl) rfl rfl rfl ?_
        refine jr_iload (e_121 rfl) rfl rfl ?_
        refine jr_bri (c := 0 ≤ v3) (pt := 42) (pn := 32) (e_121 rfl) rfl rfl (fun h5 => ?_) (fun h5 => ?_)
        · refine jr_aload_n (e_121 rfl) rfl rfl ?_
          refine jr_getr (K2 := 0) (i2 := 0) (e_121 rfl) rfl rfl rfl ?_
          refine jr_iload (e_121 rfl) rfl rfl ?_
          refine jr_callV (as := [xr 0 0, xi v3]) (S1 := []) (e_121 rfl) rfl rfl rfl rfl rfl rfl (jm_Answer_add v3 s4) rfl (fun s6 => ?_)
          refine jr_iload_n (e_121 rfl) rfl rfl ?_
          refine jr_iconst (e_121 rfl) rfl ?_
          refine jr_iload (e_121 rfl) rfl rfl ?_
          refine jr_ishl (e_121 rfl) rfl ?_
          refine jr_iconst (e_121 rfl) rfl ?_
          refine jr_ixor (e_121 rfl) rfl ?_
          refine jr_iand (e_121 rfl) rfl ?_
          refine jr_nm (fun v7 => ?_)
          refine jr_istore_n (L' := [(2, xi v7), (4, xi v3), (0, xr 8 0), (3, xi x3)]) (e_121 rfl) rfl rfl rfl ?_
          refine jr_iinc (L2 := fun c => [(3, xi c), (2, xi v7), (4, xi v3), (0, xr 8 0)]) (e_121 rfl) rfl rfl rfl (fun _ => rfl) (fun v8 => ?_)
          refine jr_goto (pc' := 11) (e_121 rfl) rfl ?_
          exact jr_sub (show ([3, 2, 4, 0] : List Nat).Nodup from by decide) (xsb_c (List.Mem.tail _ (List.Mem.tail _ (List.Mem.tail _ (List.Mem.head _)))) (xsb_c (List.Mem.tail _ (List.Mem.head _)) (xsb_c (List.Mem.head _) xsb_n))) (ih11 v7 v8 s6)
        · refine jr_aload_n (e_121 rfl) rfl rfl ?_
          refine jr_getr (K2 := 0) (i2 := 0) (e_121 rfl) rfl rfl rfl ?_
          refine jr_callV (as := [xr 0 0]) (S1 := []) (e_121 rfl) rfl rfl rfl rfl rfl rfl (jm_Answer_none s4) rfl (fun s9 => ?_)
          refine jr_goto (pc' := 66) (e_121 rfl) rfl ?_
          exact jr_sub (show ([4, 0, 2, 3] : List Nat).Nodup from by decide) (xsb_c (List.Mem.tail _ (List.Mem.head _)) xsb_n) (hK11 s9)
noncomputable def fm_S_findOrder (a1 : Int) (σ : xa_H) : Option (xa_H) :=
  (fm_Answer_none σ).bind fun s1 =>
  fm_S_findOrder_11 (fun (s10 : xa_H) =>
    (fm_Search_forget s10).bind fun s11 =>
    some s11) xFU a1 0 s1
theorem jm_S_findOrder (a1 : Int) (σ : xa_H) : J 121 0 [(0, xr 8 0), (1, xi a1)] [] σ jqV (fm_S_findOrder a1 σ) := by
  unfold fm_S_findOrder
  refine jr_aload_n (e_121 rfl) rfl rfl ?_
  refine jr_getr (K2 := 0) (i2 := 0) (e_121 rfl) rfl rfl rfl ?_
  refine jr_callV (as := [xr 0 0]) (S1 := []) (e_121 rfl) rfl rfl rfl rfl rfl rfl (jm_Answer_none σ) rfl (fun s1 => ?_)
  refine jr_iload_n (e_121 rfl) rfl rfl ?_
  refine jr_istore_n (L' := [(2, xi a1), (0, xr 8 0), (1, xi a1)]) (e_121 rfl) rfl rfl rfl ?_
  refine jr_iconst (e_121 rfl) rfl ?_
  refine jr_istore_n (L' := [(3, xi 0), (2, xi a1), (0, xr 8 0), (1, xi a1)]) (e_121 rfl) rfl rfl rfl ?_
  refine jr_sub (show ([3, 2, 0, 1] : List Nat).Nodup from by decide) (xsb_c (List.Mem.tail _ (List.Mem.tail _ (List.Mem.head _))) (xsb_c (List.Mem.tail _ (List.Mem.head _)) (xsb_c (List.Mem.head _) xsb_n))) (jl_S_findOrder_11 σ _ (fun s10 => ?_) xFU a1 0 s1)
  refine jr_aload_n (e_121 rfl) rfl rfl ?_
  refine jr_getr (K2 := 3) (i2 := 0) (e_121 rfl) rfl rfl rfl ?_
  refine jr_callV (as := [xr 3 0]) (S1 := []) (e_121 rfl) rfl rfl rfl rfl rfl rfl (jm_Search_forget s10) rfl (fun s11 => ?_)
  exact jr_retV (e_121 rfl)

theorem e_100 {pc : Nat} {en : xa_I} (h : xlk pc xc_100 = some en) : xcd 100 pc = some en := h
noncomputable def fm_S_order_17 (f1 : Int) (f2 : Int) (σ : xa_H) (K : Option (Int × xa_H)) : Nat → Int → Option (Int × xa_H)
  | 0, _ => none
  | n + 1, x3 =>
    if 4 ≤ x3 then
      K
    else
      if x3 < 0 then
        (fm_S_has f1 x3).bind fun v2 =>
        if v2 = 0 then
          xnm (w32 (x3 + 1) : Int) fun v4 =>
          fm_S_order_17 f1 f2 σ K n v4
        else
          some ((-3), σ)
      else
        if 4 ≤ x3 then
          (fm_S_has f1 x3).bind fun v5 =>
          if v5 = 0 then
            xnm (w32 (x3 + 1) : Int) fun v7 =>
            fm_S_order_17 f1 f2 σ K n v7
          else
            some ((-3), σ)
        else
          if 0 ≤ x3 ∧ x3 < 4 then
            (fm_S_has f1 x3).bind fun v8 =>
            if v8 = 0 then
              xnm (w32 (x3 + 1) : Int) fun v10 =>
              fm_S_order_17 f1 f2 σ K n v10
            else
              if 0 ≤ (σ 5 (4 * 0 + x3.toNat) 1) then
                xnm (w32 (x3 + 1) : Int) fun v12 =>
                fm_S_order_17 f1 f2 σ K n v12
              else
                some ((-3), σ)
          else none
theorem jl_S_order_17 (f1 : Int) (f2 : Int) (σ : xa_H)  (K : Option (Int × xa_H)) (hK17 : J 100 62 [(0, xr 8 0), (1, xi f1), (2, xi f2)] [] σ jqW (K)) : ∀ (n : Nat) (x3 : Int), J 100 17 [(0, xr 8 0), (1, xi f1), (2, xi f2), (3, xi x3)] [] σ jqW (fm_S_order_17 f1 f2 σ K n x3) := by
  intro n
  induction n with
  | zero => intro x3; exact jr_none
  | succ n ih17 =>
    intro x3
    rw [fm_S_order_17]
    refine jr_iload_n (e_100 rfl) rfl rfl ?_
    refine jr_iconst (e_100 rfl) rfl ?_
    refine jr_bri (c := 4 ≤ x3) (pt := 62) (pn := 22) (e_100 rfl) rfl rfl (fun h1 => ?_) (fun h1 => ?_)
    · exact jr_sub (show ([0, 1, 2, 3] : List Nat).Nodup from by decide) (xsb_c (List.Mem.head _) (xsb_c (List.Mem.tail _ (List.Mem.head _)) (xsb_c (List.Mem.tail _ (List.Mem.tail _ (List.Mem.head _))) xsb_n))) (hK17)
    · refine jr_aload_n (e_100 rfl) rfl rfl ?_
      refine jr_getr (K2 := 4) (i2 := 0) (e_100 rfl) rfl rfl rfl ?_
      refine jr_iload_n (e_100 rfl) rfl rfl ?_
      refine jr_inl (as := [xr 4 0, xi x3]) (S1 := []) (L' := [(0, xr 4 0), (1, xi x3)]) (e_100 rfl) rfl rfl rfl rfl rfl rfl rfl rfl ?_
      refine jr_iload_n (e_51 rfl) rfl rfl ?_
      refine jr_bri (c := x3 < 0) (pt := 22) (pn := 4) (e_51 rfl) rfl rfl (fun h1002 => ?_) (fun h1002 => ?_)
      · refine jr_null (e_51 rfl) rfl ?_
        refine jr_retC (e_51 rfl) ?_
        refine jr_astore (L' := [(4, xn), (0, xr 8 0), (1, xi f1), (2, xi f2), (3, xi x3)]) (e_100 rfl) rfl rfl rfl ?_
        refine jr_iload_n (e_100 rfl) rfl rfl ?_
        refine jr_iload_n (e_100 rfl) rfl rfl ?_
        refine jr_callP (as := [xi f1, xi x3]) (S1 := []) (e_100 rfl) rfl rfl rfl rfl rfl rfl (jm_S_has f1 x3 σ) rfl (fun v2 => ?_)
        refine jr_bri (c := v2 = 0) (pt := 56) (pn := 40) (e_100 rfl) rfl rfl (fun h3 => ?_) (fun h3 => ?_)
        · refine jr_iinc (L2 := fun c => [(3, xi c), (4, xn), (0, xr 8 0), (1, xi f1), (2, xi f2)]) (e_100 rfl) rfl rfl rfl (fun _ => rfl) (fun v4 => ?_)
          refine jr_goto (pc' := 17) (e_100 rfl) rfl ?_
          exact jr_sub (show ([3, 4, 0, 1, 2] : List Nat).Nodup from by decide) (xsb_c (List.Mem.tail _ (List.Mem.tail _ (List.Mem.head _))) (xsb_c (List.Mem.tail _ (List.Mem.tail _ (List.Mem.tail _ (List.Mem.head _)))) (xsb_c (List.Mem.tail _ (List.Mem.tail _ (List.Mem.tail _ (List.Mem.tail _ (List.Mem.head _))))) (xsb_c (List.Mem.head _) xsb_n)))) (ih17 v4)
        · refine jr_aload (e_100 rfl) rfl rfl ?_
          refine jr_s (q := (53, [(4, xn), (0, xr 8 0), (1, xi f1), (2, xi f2), (3, xi x3)], [], σ)) (e_100 rfl) rfl rfl ?_
          refine jr_bipush (e_100 rfl) rfl ?_
          exact jr_retW (e_100 rfl) rfl
      · refine jr_iload_n (e_51 rfl) rfl rfl ?_
        refine jr_aload_n (e_51 rfl) rfl rfl ?_
        refine jr_getr (K2 := 24) (i2 := 0) (e_51 rfl) rfl rfl rfl ?_
        refine jr_alen (a := 4) (e_51 rfl) rfl (by decide +kernel) rfl ?_
        refine jr_bri (c := 4 ≤ x3) (pt := 22) (pn := 13) (e_51 rfl) rfl rfl (fun h1003 => ?_) (fun h1003 => ?_)
        · refine jr_null (e_51 rfl) rfl ?_
          refine jr_retC (e_51 rfl) ?_
          refine jr_astore (L' := [(4, xn), (0, xr 8 0), (1, xi f1), (2, xi f2), (3, xi x3)]) (e_100 rfl) rfl rfl rfl ?_
          refine jr_iload_n (e_100 rfl) rfl rfl ?_
          refine jr_iload_n (e_100 rfl) rfl rfl ?_
          refine jr_callP (as := [xi f1, xi x3]) (S1 := []) (e_100 rfl) rfl rfl rfl rfl rfl rfl (jm_S_has f1 x3 σ) rfl (fun v5 => ?_)
          refine jr_bri (c := v5 = 0) (pt := 56) (pn := 40) (e_100 rfl) rfl rfl (fun h6 => ?_) (fun h6 => ?_)
          · refine jr_iinc (L2 := fun c => [(3, xi c), (4, xn), (0, xr 8 0), (1, xi f1), (2, xi f2)]) (e_100 rfl) rfl rfl rfl (fun _ => rfl) (fun v7 => ?_)
            refine jr_goto (pc' := 17) (e_100 rfl) rfl ?_
            exact jr_sub (show ([3, 4, 0, 1, 2] : List Nat).Nodup from by decide) (xsb_c (List.Mem.tail _ (List.Mem.tail _ (List.Mem.head _))) (xsb_c (List.Mem.tail _ (List.Mem.tail _ (List.Mem.tail _ (List.Mem.head _)))) (xsb_c (List.Mem.tail _ (List.Mem.tail _ (List.Mem.tail _ (List.Mem.tail _ (List.Mem.head _))))) (xsb_c (List.Mem.head _) xsb_n)))) (ih17 v7)
          · refine jr_aload (e_100 rfl) rfl rfl ?_
            refine jr_s (q := (53, [(4, xn), (0, xr 8 0), (1, xi f1), (2, xi f2), (3, xi x3)], [], σ)) (e_100 rfl) rfl rfl ?_
            refine jr_bipush (e_100 rfl) rfl ?_
            exact jr_retW (e_100 rfl) rfl
        · refine jr_aload_n (e_51 rfl) rfl rfl ?_
          refine jr_getr (K2 := 24) (i2 := 0) (e_51 rfl) rfl rfl rfl ?_
          refine jr_iload_n (e_51 rfl) rfl rfl ?_
          refine jr_aald (n := 4) (K2 := 5) (i2 := (4 * 0 + x3.toNat)) (e_51 rfl) rfl (by decide +kernel) rfl rfl ?_
          refine jr_goto (pc' := 23) (e_51 rfl) rfl ?_
          refine jr_retC (e_51 rfl) ?_
          refine jr_astore (L' := [(4, xr 5 (4 * 0 + x3.toNat)), (0, xr 8 0), (1, xi f1), (2, xi f2), (3, xi x3)]) (e_100 rfl) rfl rfl rfl ?_
          refine jr_iload_n (e_100 rfl) rfl rfl ?_
          refine jr_iload_n (e_100 rfl) rfl rfl ?_
          refine jr_callP (as := [xi f1, xi x3]) (S1 := []) (e_100 rfl) rfl rfl rfl rfl rfl rfl (jm_S_has f1 x3 σ) rfl (fun v8 => ?_)
          refine jr_bri (c := v8 = 0) (pt := 56) (pn := 40) (e_100 rfl) rfl rfl (fun h9 => ?_) (fun h9 => ?_)
          · refine jr_iinc (L2 := fun c => [(3, xi c), (4, xr 5 (4 * 0 + x3.toNat)), (0, xr 8 0), (1, xi f1), (2, xi f2)]) (e_100 rfl) rfl rfl rfl (fun _ => rfl) (fun v10 => ?_)
            refine jr_goto (pc' := 17) (e_100 rfl) rfl ?_
            exact jr_sub (show ([3, 4, 0, 1, 2] : List Nat).Nodup from by decide) (xsb_c (List.Mem.tail _ (List.Mem.tail _ (List.Mem.head _))) (xsb_c (List.Mem.tail _ (List.Mem.tail _ (List.Mem.tail _ (List.Mem.head _)))) (xsb_c (List.Mem.tail _ (List.Mem.tail _ (List.Mem.tail _ (List.Mem.tail _ (List.Mem.head _))))) (xsb_c (List.Mem.head _) xsb_n)))) (ih17 v10)
          · refine jr_aload (e_100 rfl) rfl rfl ?_
            refine jr_s (q := (45, [(4, xr 5 (4 * 0 + x3.toNat)), (0, xr 8 0), (1, xi f1), (2, xi f2), (3, xi x3)], [], σ)) (e_100 rfl) rfl rfl ?_
            refine jr_aload (e_100 rfl) rfl rfl ?_
            refine jr_geti (e_100 rfl) rfl (by decide +kernel) ?_
            refine jr_bri (c := 0 ≤ (σ 5 (4 * 0 + x3.toNat) 1)) (pt := 56) (pn := 53) (e_100 rfl) rfl rfl (fun h11 => ?_) (fun h11 => ?_)
            · refine jr_iinc (L2 := fun c => [(3, xi c), (4, xr 5 (4 * 0 + x3.toNat)), (0, xr 8 0), (1, xi f1), (2, xi f2)]) (e_100 rfl) rfl rfl rfl (fun _ => rfl) (fun v12 => ?_)
              refine jr_goto (pc' := 17) (e_100 rfl) rfl ?_
              exact jr_sub (show ([3, 4, 0, 1, 2] : List Nat).Nodup from by decide) (xsb_c (List.Mem.tail _ (List.Mem.tail _ (List.Mem.head _))) (xsb_c (List.Mem.tail _ (List.Mem.tail _ (List.Mem.tail _ (List.Mem.head _)))) (xsb_c (List.Mem.tail _ (List.Mem.tail _ (List.Mem.tail _ (List.Mem.tail _ (List.Mem.head _))))) (xsb_c (List.Mem.head _) xsb_n)))) (ih17 v12)
            · refine jr_bipush (e_100 rfl) rfl ?_
              exact jr_retW (e_100 rfl) rfl
noncomputable def fm_S_order (a1 : Int) (a2 : Int) (σ : xa_H) : Option (Int × xa_H) :=
  if a1 < 1 then
    some ((-2), σ)
  else
    (fm_S_isSet a1).bind fun v2 =>
    if v2 = 0 then
      some ((-2), σ)
    else
      fm_S_order_17 a1 a2 σ (
        xb2 (fm_Answer_isNew 5 0 0 a1 σ) fun v13 s14 =>
        xj (fun (s16 : xa_H) =>
          (fm_Answer_at a2 s16).bind fun v20 =>
          some (v20, s16)) fun K17 =>
        if v13 = 0 then
          K17 s14
        else
          (fm_S_findOrder a1 s14).bind fun s19 =>
          K17 s19) xFU 0
theorem jm_S_order (a1 : Int) (a2 : Int) (σ : xa_H) : J 100 0 [(0, xr 8 0), (1, xi a1), (2, xi a2)] [] σ jqW (fm_S_order a1 a2 σ) := by
  unfold fm_S_order
  refine jr_iload_n (e_100 rfl) rfl rfl ?_
  refine jr_iconst (e_100 rfl) rfl ?_
  refine jr_bri (c := a1 < 1) (pt := 12) (pn := 5) (e_100 rfl) rfl rfl (fun h1 => ?_) (fun h1 => ?_)
  · refine jr_bipush (e_100 rfl) rfl ?_
    exact jr_retW (e_100 rfl) rfl
  · refine jr_iload_n (e_100 rfl) rfl rfl ?_
    refine jr_callP (as := [xi a1]) (S1 := []) (e_100 rfl) rfl rfl rfl rfl rfl rfl (jm_S_isSet a1 σ) rfl (fun v2 => ?_)
    refine jr_brx (c := v2 = 0) (pt := 15) (pn := 12) (e_100 rfl) rfl rfl (fun h3 => ?_) (fun h3 => ?_)
    · refine jr_bipush (e_100 rfl) rfl ?_
      exact jr_retW (e_100 rfl) rfl
    · refine jr_iconst (e_100 rfl) rfl ?_
      refine jr_istore_n (L' := [(3, xi 0), (0, xr 8 0), (1, xi a1), (2, xi a2)]) (e_100 rfl) rfl rfl rfl ?_
      refine jr_sub (show ([3, 0, 1, 2] : List Nat).Nodup from by decide) (xsb_c (List.Mem.tail _ (List.Mem.head _)) (xsb_c (List.Mem.tail _ (List.Mem.tail _ (List.Mem.head _))) (xsb_c (List.Mem.tail _ (List.Mem.tail _ (List.Mem.tail _ (List.Mem.head _)))) (xsb_c (List.Mem.head _) xsb_n)))) (jl_S_order_17 a1 a2 σ _ ?_ xFU 0)
      refine jr_aload_n (e_100 rfl) rfl rfl ?_
      refine jr_getr (K2 := 0) (i2 := 0) (e_100 rfl) rfl rfl rfl ?_
      refine jr_iconst (e_100 rfl) rfl ?_
      refine jr_iconst (e_100 rfl) rfl ?_
      refine jr_iconst (e_100 rfl) rfl ?_
      refine jr_iload_n (e_100 rfl) rfl rfl ?_
      refine jr_callX (as := [xr 0 0, xi 5, xi 0, xi 0, xi a1]) (S1 := []) (e_100 rfl) rfl rfl rfl rfl rfl rfl (jm_Answer_isNew 5 0 0 a1 σ) rfl (fun v13 s14 => ?_)
      refine jr_j (fun K17 => ∀ (s16 : xa_H), J 100 81 [(0, xr 8 0), (2, xi a2)] [] s16 jqW (K17 s16)) (fun s16 => ?_) (fun K17 hK17 => ?_)
      · refine jr_aload_n (e_100 rfl) rfl rfl ?_
        refine jr_getr (K2 := 0) (i2 := 0) (e_100 rfl) rfl rfl rfl ?_
        refine jr_iload_n (e_100 rfl) rfl rfl ?_
        refine jr_callP (as := [xr 0 0, xi a2]) (S1 := []) (e_100 rfl) rfl rfl rfl rfl rfl rfl (jm_Answer_at a2 s16) rfl (fun v20 => ?_)
        exact jr_retW (e_100 rfl) rfl
      · refine jr_bri (c := v13 = 0) (pt := 81) (pn := 76) (e_100 rfl) rfl rfl (fun h18 => ?_) (fun h18 => ?_)
        · exact jr_sub (show ([0, 1, 2] : List Nat).Nodup from by decide) (xsb_c (List.Mem.head _) (xsb_c (List.Mem.tail _ (List.Mem.tail _ (List.Mem.head _))) xsb_n)) (hK17 s14)
        · refine jr_aload_n (e_100 rfl) rfl rfl ?_
          refine jr_iload_n (e_100 rfl) rfl rfl ?_
          refine jr_callV (as := [xr 8 0, xi a1]) (S1 := []) (e_100 rfl) rfl rfl rfl rfl rfl rfl (jm_S_findOrder a1 s14) rfl (fun s19 => ?_)
          exact jr_sub (show ([0, 1, 2] : List Nat).Nodup from by decide) (xsb_c (List.Mem.head _) (xsb_c (List.Mem.tail _ (List.Mem.tail _ (List.Mem.head _))) xsb_n)) (hK17 s19)

theorem e_118 {pc : Nat} {en : xa_I} (h : xlk pc xc_118 = some en) : xcd 118 pc = some en := h
noncomputable def fm_S_goesByLess_2 (f0 : Int) (f1 : Int) (K : Option (Int)) : Nat → Int → Option (Int)
  | 0, _ => none
  | n + 1, x2 =>
    if 4 ≤ x2 then
      K
    else
      (fm_S_has f1 x2).bind fun v2 =>
      if v2 = 0 then
        xnm (w32 (x2 + 1) : Int) fun v4 =>
        fm_S_goesByLess_2 f0 f1 K n v4
      else
        (fm_S_has f0 (xand f1 (xxor (xshl 1 x2) (-1)))).bind fun v5 =>
        if v5 = 0 then
          xnm (w32 (x2 + 1) : Int) fun v7 =>
          fm_S_goesByLess_2 f0 f1 K n v7
        else
          some 1
theorem jl_S_goesByLess_2 (f0 : Int) (f1 : Int) (σ : xa_H)  (K : Option (Int)) (hK2 : J 118 37 [] [] σ (jqP σ) (K)) : ∀ (n : Nat) (x2 : Int), J 118 2 [(0, xi f0), (1, xi f1), (2, xi x2)] [] σ (jqP σ) (fm_S_goesByLess_2 f0 f1 K n x2) := by
  intro n
  induction n with
  | zero => intro x2; exact jr_none
  | succ n ih2 =>
    intro x2
    rw [fm_S_goesByLess_2]
    refine jr_iload_n (e_118 rfl) rfl rfl ?_
    refine jr_iconst (e_118 rfl) rfl ?_
    refine jr_bri (c := 4 ≤ x2) (pt := 37) (pn := 7) (e_118 rfl) rfl rfl (fun h1 => ?_) (fun h1 => ?_)
    · exact jr_sub (show ([0, 1, 2] : List Nat).Nodup from by decide) xsb_n (hK2)
    · refine jr_iload_n (e_118 rfl) rfl rfl ?_
      refine jr_iload_n (e_118 rfl) rfl rfl ?_
      refine jr_callP (as := [xi f1, xi x2]) (S1 := []) (e_118 rfl) rfl rfl rfl rfl rfl rfl (jm_S_has f1 x2 σ) rfl (fun v2 => ?_)
      refine jr_bri (c := v2 = 0) (pt := 31) (pn := 15) (e_118 rfl) rfl rfl (fun h3 => ?_) (fun h3 => ?_)
      · refine jr_iinc (L2 := fun c => [(2, xi c), (0, xi f0), (1, xi f1)]) (e_118 rfl) rfl rfl rfl (fun _ => rfl) (fun v4 => ?_)
        refine jr_goto (pc' := 2) (e_118 rfl) rfl ?_
        exact jr_sub (show ([2, 0, 1] : List Nat).Nodup from by decide) (xsb_c (List.Mem.tail _ (List.Mem.head _)) (xsb_c (List.Mem.tail _ (List.Mem.tail _ (List.Mem.head _))) (xsb_c (List.Mem.head _) xsb_n))) (ih2 v4)
      · refine jr_iload_n (e_118 rfl) rfl rfl ?_
        refine jr_iload_n (e_118 rfl) rfl rfl ?_
        refine jr_iconst (e_118 rfl) rfl ?_
        refine jr_iload_n (e_118 rfl) rfl rfl ?_
        refine jr_ishl (e_118 rfl) rfl ?_
        refine jr_iconst (e_118 rfl) rfl ?_
        refine jr_ixor (e_118 rfl) rfl ?_
        refine jr_iand (e_118 rfl) rfl ?_
        refine jr_callP (as := [xi f0, xi (xand f1 (xxor (xshl 1 x2) (-1)))]) (S1 := []) (e_118 rfl) rfl rfl rfl rfl rfl rfl (jm_S_has f0 (xand f1 (xxor (xshl 1 x2) (-1))) σ) rfl (fun v5 => ?_)
        refine jr_bri (c := v5 = 0) (pt := 31) (pn := 29) (e_118 rfl) rfl rfl (fun h6 => ?_) (fun h6 => ?_)
        · refine jr_iinc (L2 := fun c => [(2, xi c), (0, xi f0), (1, xi f1)]) (e_118 rfl) rfl rfl rfl (fun _ => rfl) (fun v7 => ?_)
          refine jr_goto (pc' := 2) (e_118 rfl) rfl ?_
          exact jr_sub (show ([2, 0, 1] : List Nat).Nodup from by decide) (xsb_c (List.Mem.tail _ (List.Mem.head _)) (xsb_c (List.Mem.tail _ (List.Mem.tail _ (List.Mem.head _))) (xsb_c (List.Mem.head _) xsb_n))) (ih2 v7)
        · refine jr_iconst (e_118 rfl) rfl ?_
          exact jr_retPz (e_118 rfl) rfl rfl
noncomputable def fm_S_goesByLess (a0 : Int) (a1 : Int) : Option (Int) :=
  fm_S_goesByLess_2 a0 a1 (
    some 0) xFU 0
theorem jm_S_goesByLess (a0 : Int) (a1 : Int) (σ : xa_H) : J 118 0 [(0, xi a0), (1, xi a1)] [] σ (jqP σ) (fm_S_goesByLess a0 a1) := by
  unfold fm_S_goesByLess
  refine jr_iconst (e_118 rfl) rfl ?_
  refine jr_istore_n (L' := [(2, xi 0), (0, xi a0), (1, xi a1)]) (e_118 rfl) rfl rfl rfl ?_
  refine jr_sub (show ([2, 0, 1] : List Nat).Nodup from by decide) (xsb_c (List.Mem.tail _ (List.Mem.head _)) (xsb_c (List.Mem.tail _ (List.Mem.tail _ (List.Mem.head _))) (xsb_c (List.Mem.head _) xsb_n))) (jl_S_goesByLess_2 a0 a1 σ _ ?_ xFU 0)
  refine jr_iconst (e_118 rfl) rfl ?_
  exact jr_retPz (e_118 rfl) rfl rfl

theorem e_117 {pc : Nat} {en : xa_I} (h : xlk pc xc_117 = some en) : xcd 117 pc = some en := h
noncomputable def fm_S_findCame_38 (i1 : Nat) (f2 : Int) (K : Int → Int → xa_H → Option (xa_H)) : Nat → Int → Int → Int → Int → xa_H → Option (xa_H)
  | 0, _, _, _, _, _ => none
  | n + 1, x3, x4, x5, x6, sh =>
    if 16 ≤ x6 then
      K x4 x5 sh
    else
      (fm_S_goesByLess x3 x6).bind fun v2 =>
      if v2 = 0 then
        if (xand x6 (xxor f2 (-1))) = 0 then
          xb2 (fm_S_goesWith i1 x6 sh) fun v5 s6 =>
          if v5 = 0 then
            xnm (w32 (x6 + 1) : Int) fun v8 =>
            fm_S_findCame_38 i1 f2 K n x3 x4 x5 v8 s6
          else
            xnm ((xor2 x3 (xshl 1 x6)) : Int) fun v9 =>
            xnm (w32 (x4 + 1) : Int) fun v10 =>
            xnm ((xand x5 x6) : Int) fun v11 =>
            xnm (w32 (x6 + 1) : Int) fun v12 =>
            fm_S_findCame_38 i1 f2 K n v9 v10 v11 v12 s6
        else
          xnm (w32 (x6 + 1) : Int) fun v13 =>
          fm_S_findCame_38 i1 f2 K n x3 x4 x5 v13 sh
      else
        xnm ((xor2 x3 (xshl 1 x6)) : Int) fun v14 =>
        xnm (w32 (x4 + 1) : Int) fun v15 =>
        xnm ((xand x5 x6) : Int) fun v16 =>
        xnm (w32 (x6 + 1) : Int) fun v17 =>
        fm_S_findCame_38 i1 f2 K n v14 v15 v16 v17 sh
theorem jl_S_findCame_38 (i1 : Nat) (f2 : Int) (σ : xa_H)  (K : Int → Int → xa_H → Option (xa_H)) (hK38 : ∀ (z0 : Int) (z1 : Int) (sz : xa_H), J 117 96 [(0, xr 8 0), (4, xi z0), (5, xi z1)] [] sz jqV (K z0 z1 sz)) : ∀ (n : Nat) (x3 : Int) (x4 : Int) (x5 : Int) (x6 : Int) (sh : xa_H), J 117 38 [(0, xr 8 0), (1, xr 5 i1), (2, xi f2), (3, xi x3), (4, xi x4), (5, xi x5), (6, xi x6)] [] sh jqV (fm_S_findCame_38 i1 f2 K n x3 x4 x5 x6 sh) := by
  intro n
  induction n with
  | zero => intro x3 x4 x5 x6 sh; exact jr_none
  | succ n ih38 =>
    intro x3 x4 x5 x6 sh
    rw [fm_S_findCame_38]
    refine jr_iload (e_117 rfl) rfl rfl ?_
    refine jr_bipush (e_117 rfl) rfl ?_
    refine jr_bri (c := 16 ≤ x6) (pt := 96) (pn := 45) (e_117 rfl) rfl rfl (fun h1 => ?_) (fun h1 => ?_)
    · exact jr_sub (show ([0, 1, 2, 3, 4, 5, 6] : List Nat).Nodup from by decide) (xsb_c (List.Mem.head _) (xsb_c (List.Mem.tail _ (List.Mem.tail _ (List.Mem.tail _ (List.Mem.tail _ (List.Mem.head _))))) (xsb_c (List.Mem.tail _ (List.Mem.tail _ (List.Mem.tail _ (List.Mem.tail _ (List.Mem.tail _ (List.Mem.head _)))))) xsb_n))) (hK38 x4 x5 sh)
    · refine jr_iload_n (e_117 rfl) rfl rfl ?_
      refine jr_iload (e_117 rfl) rfl rfl ?_
      refine jr_callP (as := [xi x3, xi x6]) (S1 := []) (e_117 rfl) rfl rfl rfl rfl rfl rfl (jm_S_goesByLess x3 x6 sh) rfl (fun v2 => ?_)
      refine jr_brx (c := v2 = 0) (pt := 73) (pn := 54) (e_117 rfl) rfl rfl (fun h3 => ?_) (fun h3 => ?_)
      · refine jr_iload (e_117 rfl) rfl rfl ?_
        refine jr_iload_n (e_117 rfl) rfl rfl ?_
        refine jr_iconst (e_117 rfl) rfl ?_
        refine jr_ixor (e_117 rfl) rfl ?_
        refine jr_iand (e_117 rfl) rfl ?_
        refine jr_brx (c := (xand x6 (xxor f2 (-1))) = 0) (pt := 90) (pn := 63) (e_117 rfl) rfl rfl (fun h4 => ?_) (fun h4 => ?_)
        · refine jr_aload_n (e_117 rfl) rfl rfl ?_
          refine jr_aload_n (e_117 rfl) rfl rfl ?_
          refine jr_iload (e_117 rfl) rfl rfl ?_
          refine jr_callX (as := [xr 8 0, xr 5 i1, xi x6]) (S1 := []) (e_117 rfl) rfl rfl rfl rfl rfl rfl (jm_S_goesWith i1 x6 sh) rfl (fun v5 s6 => ?_)
          refine jr_bri (c := v5 = 0) (pt := 90) (pn := 73) (e_117 rfl) rfl rfl (fun h7 => ?_) (fun h7 => ?_)
          · refine jr_iinc (L2 := fun c => [(6, xi c), (0, xr 8 0), (1, xr 5 i1), (2, xi f2), (3, xi x3), (4, xi x4), (5, xi x5)]) (e_117 rfl) rfl rfl rfl (fun _ => rfl) (fun v8 => ?_)
            refine jr_goto (pc' := 38) (e_117 rfl) rfl ?_
            exact jr_sub (show ([6, 0, 1, 2, 3, 4, 5] : List Nat).Nodup from by decide) (xsb_c (List.Mem.tail _ (List.Mem.head _)) (xsb_c (List.Mem.tail _ (List.Mem.tail _ (List.Mem.head _))) (xsb_c (List.Mem.tail _ (List.Mem.tail _ (List.Mem.tail _ (List.Mem.head _)))) (xsb_c (List.Mem.tail _ (List.Mem.tail _ (List.Mem.tail _ (List.Mem.tail _ (List.Mem.head _))))) (xsb_c (List.Mem.tail _ (List.Mem.tail _ (List.Mem.tail _ (List.Mem.tail _ (List.Mem.tail _ (List.Mem.head _)))))) (xsb_c (List.Mem.tail _ (List.Mem.tail _ (List.Mem.tail _ (List.Mem.tail _ (List.Mem.tail _ (List.Mem.tail _ (List.Mem.head _))))))) (xsb_c (List.Mem.head _) xsb_n))))))) (ih38 x3 x4 x5 v8 s6)
          · refine jr_iload_n (e_117 rfl) rfl rfl ?_
            refine jr_iconst (e_117 rfl) rfl ?_
            refine jr_iload (e_117 rfl) rfl rfl ?_
            refine jr_ishl (e_117 rfl) rfl ?_
            refine jr_ior (e_117 rfl) rfl ?_
            refine jr_nm (fun v9 => ?_)
            refine jr_istore_n (L' := [(3, xi v9), (0, xr 8 0), (1, xr 5 i1), (2, xi f2), (4, xi x4), (5, xi x5), (6, xi x6)]) (e_117 rfl) rfl rfl rfl ?_
            refine jr_iinc (L2 := fun c => [(4, xi c), (3, xi v9), (0, xr 8 0), (1, xr 5 i1), (2, xi f2), (5, xi x5), (6, xi x6)]) (e_117 rfl) rfl rfl rfl (fun _ => rfl) (fun v10 => ?_)
            refine jr_iload (e_117 rfl) rfl rfl ?_
            refine jr_iload (e_117 rfl) rfl rfl ?_
            refine jr_iand (e_117 rfl) rfl ?_
            refine jr_nm (fun v11 => ?_)
            refine jr_istore (L' := [(5, xi v11), (4, xi v10), (3, xi v9), (0, xr 8 0), (1, xr 5 i1), (2, xi f2), (6, xi x6)]) (e_117 rfl) rfl rfl rfl ?_
            refine jr_iinc (L2 := fun c => [(6, xi c), (5, xi v11), (4, xi v10), (3, xi v9), (0, xr 8 0), (1, xr 5 i1), (2, xi f2)]) (e_117 rfl) rfl rfl rfl (fun _ => rfl) (fun v12 => ?_)
            refine jr_goto (pc' := 38) (e_117 rfl) rfl ?_
            exact jr_sub (show ([6, 5, 4, 3, 0, 1, 2] : List Nat).Nodup from by decide) (xsb_c (List.Mem.tail _ (List.Mem.tail _ (List.Mem.tail _ (List.Mem.tail _ (List.Mem.head _))))) (xsb_c (List.Mem.tail _ (List.Mem.tail _ (List.Mem.tail _ (List.Mem.tail _ (List.Mem.tail _ (List.Mem.head _)))))) (xsb_c (List.Mem.tail _ (List.Mem.tail _ (List.Mem.tail _ (List.Mem.tail _ (List.Mem.tail _ (List.Mem.tail _ (List.Mem.head _))))))) (xsb_c (List.Mem.tail _ (List.Mem.tail _ (List.Mem.tail _ (List.Mem.head _)))) (xsb_c (List.Mem.tail _ (List.Mem.tail _ (List.Mem.head _))) (xsb_c (List.Mem.tail _ (List.Mem.head _)) (xsb_c (List.Mem.head _) xsb_n))))))) (ih38 v9 v10 v11 v12 s6)
        · refine jr_iinc (L2 := fun c => [(6, xi c), (0, xr 8 0), (1, xr 5 i1), (2, xi f2), (3, xi x3), (4, xi x4), (5, xi x5)]) (e_117 rfl) rfl rfl rfl (fun _ => rfl) (fun v13 => ?_)
          refine jr_goto (pc' := 38) (e_117 rfl) rfl ?_
          exact jr_sub (show ([6, 0, 1, 2, 3, 4, 5] : List Nat).Nodup from by decide) (xsb_c (List.Mem.tail _ (List.Mem.head _)) (xsb_c (List.Mem.tail _ (List.Mem.tail _ (List.Mem.head _))) (xsb_c (List.Mem.tail _ (List.Mem.tail _ (List.Mem.tail _ (List.Mem.head _)))) (xsb_c (List.Mem.tail _ (List.Mem.tail _ (List.Mem.tail _ (List.Mem.tail _ (List.Mem.head _))))) (xsb_c (List.Mem.tail _ (List.Mem.tail _ (List.Mem.tail _ (List.Mem.tail _ (List.Mem.tail _ (List.Mem.head _)))))) (xsb_c (List.Mem.tail _ (List.Mem.tail _ (List.Mem.tail _ (List.Mem.tail _ (List.Mem.tail _ (List.Mem.tail _ (List.Mem.head _))))))) (xsb_c (List.Mem.head _) xsb_n))))))) (ih38 x3 x4 x5 v13 sh)
      · refine jr_iload_n (e_117 rfl) rfl rfl ?_
        refine jr_iconst (e_117 rfl) rfl ?_
        refine jr_iload (e_117 rfl) rfl rfl ?_
        refine jr_ishl (e_117 rfl) rfl ?_
        refine jr_ior (e_117 rfl) rfl ?_
        refine jr_nm (fun v14 => ?_)
        refine jr_istore_n (L' := [(3, xi v14), (0, xr 8 0), (1, xr 5 i1), (2, xi f2), (4, xi x4), (5, xi x5), (6, xi x6)]) (e_117 rfl) rfl rfl rfl ?_
        refine jr_iinc (L2 := fun c => [(4, xi c), (3, xi v14), (0, xr 8 0), (1, xr 5 i1), (2, xi f2), (5, xi x5), (6, xi x6)]) (e_117 rfl) rfl rfl rfl (fun _ => rfl) (fun v15 => ?_)
        refine jr_iload (e_117 rfl) rfl rfl ?_
        refine jr_iload (e_117 rfl) rfl rfl ?_
        refine jr_iand (e_117 rfl) rfl ?_
        refine jr_nm (fun v16 => ?_)
        refine jr_istore (L' := [(5, xi v16), (4, xi v15), (3, xi v14), (0, xr 8 0), (1, xr 5 i1), (2, xi f2), (6, xi x6)]) (e_117 rfl) rfl rfl rfl ?_
        refine jr_iinc (L2 := fun c => [(6, xi c), (5, xi v16), (4, xi v15), (3, xi v14), (0, xr 8 0), (1, xr 5 i1), (2, xi f2)]) (e_117 rfl) rfl rfl rfl (fun _ => rfl) (fun v17 => ?_)
        refine jr_goto (pc' := 38) (e_117 rfl) rfl ?_
        exact jr_sub (show ([6, 5, 4, 3, 0, 1, 2] : List Nat).Nodup from by decide) (xsb_c (List.Mem.tail _ (List.Mem.tail _ (List.Mem.tail _ (List.Mem.tail _ (List.Mem.head _))))) (xsb_c (List.Mem.tail _ (List.Mem.tail _ (List.Mem.tail _ (List.Mem.tail _ (List.Mem.tail _ (List.Mem.head _)))))) (xsb_c (List.Mem.tail _ (List.Mem.tail _ (List.Mem.tail _ (List.Mem.tail _ (List.Mem.tail _ (List.Mem.tail _ (List.Mem.head _))))))) (xsb_c (List.Mem.tail _ (List.Mem.tail _ (List.Mem.tail _ (List.Mem.head _)))) (xsb_c (List.Mem.tail _ (List.Mem.tail _ (List.Mem.head _))) (xsb_c (List.Mem.tail _ (List.Mem.head _)) (xsb_c (List.Mem.head _) xsb_n))))))) (ih38 v14 v15 v16 v17 sh)
noncomputable def fm_S_findCame (i1 : Nat) (σ : xa_H) : Option (xa_H) :=
  (fm_Answer_none σ).bind fun s1 =>
  (fm_Search_about i1 s1).bind fun s2 =>
  (fm_Way_doorsSet 0 s2).bind fun v3 =>
  fm_S_findCame_38 i1 v3 (fun (v18 : Int) (v19 : Int) (s20 : xa_H) =>
    (fm_Answer_add v18 s20).bind fun s21 =>
    if v18 ≤ 0 then
      some s21
    else
      (fm_Answer_add v19 s21).bind fun s23 =>
      some s23) xFU 0 0 15 0 s2
theorem jm_S_findCame (i1 : Nat) (σ : xa_H) : J 117 0 [(0, xr 8 0), (1, xr 5 i1)] [] σ jqV (fm_S_findCame i1 σ) := by
  unfold fm_S_findCame
  refine jr_aload_n (e_117 rfl) rfl rfl ?_
  refine jr_getr (K2 := 0) (i2 := 0) (e_117 rfl) rfl rfl rfl ?_
  refine jr_callV (as := [xr 0 0]) (S1 := []) (e_117 rfl) rfl rfl rfl rfl rfl rfl (jm_Answer_none σ) rfl (fun s1 => ?_)
  refine jr_aload_n (e_117 rfl) rfl rfl ?_
  refine jr_getr (K2 := 3) (i2 := 0) (e_117 rfl) rfl rfl rfl ?_
  refine jr_aload_n (e_117 rfl) rfl rfl ?_
  refine jr_callV (as := [xr 3 0, xr 5 i1]) (S1 := []) (e_117 rfl) rfl rfl rfl rfl rfl rfl (jm_Search_about i1 s1) rfl (fun s2 => ?_)
  refine jr_aload_n (e_117 rfl) rfl rfl ?_
  refine jr_getr (K2 := 4) (i2 := 0) (e_117 rfl) rfl rfl rfl ?_
  refine jr_getr (K2 := 7) (i2 := 0) (e_117 rfl) rfl rfl rfl ?_
  refine jr_callP (as := [xr 7 0]) (S1 := []) (e_117 rfl) rfl rfl rfl rfl rfl rfl (jm_Way_doorsSet 0 s2) rfl (fun v3 => ?_)
  refine jr_istore_n (L' := [(2, xi v3), (0, xr 8 0), (1, xr 5 i1)]) (e_117 rfl) rfl rfl rfl ?_
  refine jr_iconst (e_117 rfl) rfl ?_
  refine jr_istore_n (L' := [(3, xi 0), (2, xi v3), (0, xr 8 0), (1, xr 5 i1)]) (e_117 rfl) rfl rfl rfl ?_
  refine jr_iconst (e_117 rfl) rfl ?_
  refine jr_istore (L' := [(4, xi 0), (3, xi 0), (2, xi v3), (0, xr 8 0), (1, xr 5 i1)]) (e_117 rfl) rfl rfl rfl ?_
  refine jr_bipush (e_117 rfl) rfl ?_
  refine jr_istore (L' := [(5, xi 15), (4, xi 0), (3, xi 0), (2, xi v3), (0, xr 8 0), (1, xr 5 i1)]) (e_117 rfl) rfl rfl rfl ?_
  refine jr_iconst (e_117 rfl) rfl ?_
  refine jr_istore (L' := [(6, xi 0), (5, xi 15), (4, xi 0), (3, xi 0), (2, xi v3), (0, xr 8 0), (1, xr 5 i1)]) (e_117 rfl) rfl rfl rfl ?_
  refine jr_sub (show ([6, 5, 4, 3, 2, 0, 1] : List Nat).Nodup from by decide) (xsb_c (List.Mem.tail _ (List.Mem.tail _ (List.Mem.tail _ (List.Mem.tail _ (List.Mem.tail _ (List.Mem.head _)))))) (xsb_c (List.Mem.tail _ (List.Mem.tail _ (List.Mem.tail _ (List.Mem.tail _ (List.Mem.tail _ (List.Mem.tail _ (List.Mem.head _))))))) (xsb_c (List.Mem.tail _ (List.Mem.tail _ (List.Mem.tail _ (List.Mem.tail _ (List.Mem.head _))))) (xsb_c (List.Mem.tail _ (List.Mem.tail _ (List.Mem.tail _ (List.Mem.head _)))) (xsb_c (List.Mem.tail _ (List.Mem.tail _ (List.Mem.head _))) (xsb_c (List.Mem.tail _ (List.Mem.head _)) (xsb_c (List.Mem.head _) xsb_n))))))) (jl_S_findCame_38 i1 v3 σ _ (fun v18 v19 s20 => ?_) xFU 0 0 15 0 s2)
  refine jr_aload_n (e_117 rfl) rfl rfl ?_
  refine jr_getr (K2 := 0) (i2 := 0) (e_117 rfl) rfl rfl rfl ?_
  refine jr_iload (e_117 rfl) rfl rfl ?_
  refine jr_callV (as := [xr 0 0, xi v18]) (S1 := []) (e_117 rfl) rfl rfl rfl rfl rfl rfl (jm_Answer_add v18 s20) rfl (fun s21 => ?_)
  refine jr_iload (e_117 rfl) rfl rfl ?_
  refine jr_bri (c := v18 ≤ 0) (pt := 119) (pn := 110) (e_117 rfl) rfl rfl (fun h22 => ?_) (fun h22 => ?_)
  · exact jr_retV (e_117 rfl)
  · refine jr_aload_n (e_117 rfl) rfl rfl ?_
    refine jr_getr (K2 := 0) (i2 := 0) (e_117 rfl) rfl rfl rfl ?_
    refine jr_iload (e_117 rfl) rfl rfl ?_
    refine jr_callV (as := [xr 0 0, xi v19]) (S1 := []) (e_117 rfl) rfl rfl rfl rfl rfl rfl (jm_Answer_add v19 s21) rfl (fun s23 => ?_)
    exact jr_retV (e_117 rfl)

theorem e_101 {pc : Nat} {en : xa_I} (h : xlk pc xc_101 = some en) : xcd 101 pc = some en := h
noncomputable def fm_S_came (a1 : Int) (a2 : Int) (σ : xa_H) : Option (Int × xa_H) :=
  if a1 < 0 then
    (fm_S_isUpTo a2 1).bind fun v1 =>
    some ((-1), σ)
  else
    if 4 ≤ a1 then
      (fm_S_isUpTo a2 1).bind fun v2 =>
      some ((-1), σ)
    else
      if 0 ≤ a1 ∧ a1 < 4 then
        (fm_S_isUpTo a2 1).bind fun v3 =>
        if v3 = 0 then
          if (-2) = 0 then
            xb2 (fm_Answer_isNew 6 a1 0 0 σ) fun v5 s6 =>
            xj (fun (s8 : xa_H) =>
              (fm_Answer_at a2 s8).bind fun v12 =>
              some (v12, s8)) fun K9 =>
            if v5 = 0 then
              K9 s6
            else
              (fm_S_findCame (4 * 0 + a1.toNat) s6).bind fun s11 =>
              K9 s11
          else
            some ((-2), σ)
        else
          if 0 ≤ (σ 5 (4 * 0 + a1.toNat) 1) then
            if 0 = 0 then
              xb2 (fm_Answer_isNew 6 a1 0 0 σ) fun v14 s15 =>
              xj (fun (s17 : xa_H) =>
                (fm_Answer_at a2 s17).bind fun v21 =>
                some (v21, s17)) fun K18 =>
              if v14 = 0 then
                K18 s15
              else
                (fm_S_findCame (4 * 0 + a1.toNat) s15).bind fun s20 =>
                K18 s20
            else
              some (0, σ)
          else
            if (-3) = 0 then
              xb2 (fm_Answer_isNew 6 a1 0 0 σ) fun v23 s24 =>
              xj (fun (s26 : xa_H) =>
                (fm_Answer_at a2 s26).bind fun v30 =>
                some (v30, s26)) fun K27 =>
              if v23 = 0 then
                K27 s24
              else
                (fm_S_findCame (4 * 0 + a1.toNat) s24).bind fun s29 =>
                K27 s29
            else
              some ((-3), σ)
      else none
theorem jm_S_came (a1 : Int) (a2 : Int) (σ : xa_H) : J 101 0 [(0, xr 8 0), (1, xi a1), (2, xi a2)] [] σ jqW (fm_S_came a1 a2 σ) := by
  unfold fm_S_came
  refine jr_aload_n (e_101 rfl) rfl rfl ?_
  refine jr_getr (K2 := 4) (i2 := 0) (e_101 rfl) rfl rfl rfl ?_
  refine jr_iload_n (e_101 rfl) rfl rfl ?_
  refine jr_inl (as := [xr 4 0, xi a1]) (S1 := []) (L' := [(0, xr 4 0), (1, xi a1)]) (e_101 rfl) rfl rfl rfl rfl rfl rfl rfl rfl ?_
  refine jr_iload_n (e_51 rfl) rfl rfl ?_
  refine jr_bri (c := a1 < 0) (pt := 22) (pn := 4) (e_51 rfl) rfl rfl (fun h1001 => ?_) (fun h1001 => ?_)
  · refine jr_null (e_51 rfl) rfl ?_
    refine jr_retC (e_51 rfl) ?_
    refine jr_astore_n (L' := [(3, xn), (0, xr 8 0), (1, xi a1), (2, xi a2)]) (e_101 rfl) rfl rfl rfl ?_
    refine jr_aload_n (e_101 rfl) rfl rfl ?_
    refine jr_iload_n (e_101 rfl) rfl rfl ?_
    refine jr_iconst (e_101 rfl) rfl ?_
    refine jr_callP (as := [xi a2, xi 1]) (S1 := [xn]) (e_101 rfl) rfl rfl rfl rfl rfl rfl (jm_S_isUpTo a2 1 σ) rfl (fun v1 => ?_)
    refine jr_inl (as := [xn, xi v1]) (S1 := []) (L' := [(0, xn), (1, xi v1)]) (e_101 rfl) rfl rfl rfl rfl rfl rfl rfl rfl ?_
    refine jr_aload_n (e_126 rfl) rfl rfl ?_
    refine jr_s (q := (4, [(0, xn), (1, xi v1)], [], σ)) (e_126 rfl) rfl rfl ?_
    refine jr_iconst (e_126 rfl) rfl ?_
    refine jr_retCi (e_126 rfl) rfl ?_
    refine jr_istore (L' := [(4, xi (-1)), (3, xn), (0, xr 8 0), (1, xi a1), (2, xi a2)]) (e_101 rfl) rfl rfl rfl ?_
    refine jr_aload_n (e_101 rfl) rfl rfl ?_
    refine jr_s (q := (29, [(4, xi (-1)), (3, xn), (0, xr 8 0), (1, xi a1), (2, xi a2)], [], σ)) (e_101 rfl) rfl rfl ?_
    refine jr_iload (e_101 rfl) rfl rfl ?_
    exact jr_retW (e_101 rfl) rfl
  · refine jr_iload_n (e_51 rfl) rfl rfl ?_
    refine jr_aload_n (e_51 rfl) rfl rfl ?_
    refine jr_getr (K2 := 24) (i2 := 0) (e_51 rfl) rfl rfl rfl ?_
    refine jr_alen (a := 4) (e_51 rfl) rfl (by decide +kernel) rfl ?_
    refine jr_bri (c := 4 ≤ a1) (pt := 22) (pn := 13) (e_51 rfl) rfl rfl (fun h1002 => ?_) (fun h1002 => ?_)
    · refine jr_null (e_51 rfl) rfl ?_
      refine jr_retC (e_51 rfl) ?_
      refine jr_astore_n (L' := [(3, xn), (0, xr 8 0), (1, xi a1), (2, xi a2)]) (e_101 rfl) rfl rfl rfl ?_
      refine jr_aload_n (e_101 rfl) rfl rfl ?_
      refine jr_iload_n (e_101 rfl) rfl rfl ?_
      refine jr_iconst (e_101 rfl) rfl ?_
      refine jr_callP (as := [xi a2, xi 1]) (S1 := [xn]) (e_101 rfl) rfl rfl rfl rfl rfl rfl (jm_S_isUpTo a2 1 σ) rfl (fun v2 => ?_)
      refine jr_inl (as := [xn, xi v2]) (S1 := []) (L' := [(0, xn), (1, xi v2)]) (e_101 rfl) rfl rfl rfl rfl rfl rfl rfl rfl ?_
      refine jr_aload_n (e_126 rfl) rfl rfl ?_
      refine jr_s (q := (4, [(0, xn), (1, xi v2)], [], σ)) (e_126 rfl) rfl rfl ?_
      refine jr_iconst (e_126 rfl) rfl ?_
      refine jr_retCi (e_126 rfl) rfl ?_
      refine jr_istore (L' := [(4, xi (-1)), (3, xn), (0, xr 8 0), (1, xi a1), (2, xi a2)]) (e_101 rfl) rfl rfl rfl ?_
      refine jr_aload_n (e_101 rfl) rfl rfl ?_
      refine jr_s (q := (29, [(4, xi (-1)), (3, xn), (0, xr 8 0), (1, xi a1), (2, xi a2)], [], σ)) (e_101 rfl) rfl rfl ?_
      refine jr_iload (e_101 rfl) rfl rfl ?_
      exact jr_retW (e_101 rfl) rfl
    · refine jr_aload_n (e_51 rfl) rfl rfl ?_
      refine jr_getr (K2 := 24) (i2 := 0) (e_51 rfl) rfl rfl rfl ?_
      refine jr_iload_n (e_51 rfl) rfl rfl ?_
      refine jr_aald (n := 4) (K2 := 5) (i2 := (4 * 0 + a1.toNat)) (e_51 rfl) rfl (by decide +kernel) rfl rfl ?_
      refine jr_goto (pc' := 23) (e_51 rfl) rfl ?_
      refine jr_retC (e_51 rfl) ?_
      refine jr_astore_n (L' := [(3, xr 5 (4 * 0 + a1.toNat)), (0, xr 8 0), (1, xi a1), (2, xi a2)]) (e_101 rfl) rfl rfl rfl ?_
      refine jr_aload_n (e_101 rfl) rfl rfl ?_
      refine jr_iload_n (e_101 rfl) rfl rfl ?_
      refine jr_iconst (e_101 rfl) rfl ?_
      refine jr_callP (as := [xi a2, xi 1]) (S1 := [xr 5 (4 * 0 + a1.toNat)]) (e_101 rfl) rfl rfl rfl rfl rfl rfl (jm_S_isUpTo a2 1 σ) rfl (fun v3 => ?_)
      refine jr_inl (as := [xr 5 (4 * 0 + a1.toNat), xi v3]) (S1 := []) (L' := [(0, xr 5 (4 * 0 + a1.toNat)), (1, xi v3)]) (e_101 rfl) rfl rfl rfl rfl rfl rfl rfl rfl ?_
      refine jr_aload_n (e_126 rfl) rfl rfl ?_
      refine jr_s (q := (6, [(0, xr 5 (4 * 0 + a1.toNat)), (1, xi v3)], [], σ)) (e_126 rfl) rfl rfl ?_
      refine jr_iload_n (e_126 rfl) rfl rfl ?_
      refine jr_brx (c := v3 = 0) (pt := 13) (pn := 10) (e_126 rfl) rfl rfl (fun h1004 => ?_) (fun h1004 => ?_)
      · refine jr_bipush (e_126 rfl) rfl ?_
        refine jr_retCi (e_126 rfl) rfl ?_
        refine jr_istore (L' := [(4, xi (-2)), (3, xr 5 (4 * 0 + a1.toNat)), (0, xr 8 0), (1, xi a1), (2, xi a2)]) (e_101 rfl) rfl rfl rfl ?_
        refine jr_aload_n (e_101 rfl) rfl rfl ?_
        refine jr_s (q := (24, [(4, xi (-2)), (3, xr 5 (4 * 0 + a1.toNat)), (0, xr 8 0), (1, xi a1), (2, xi a2)], [], σ)) (e_101 rfl) rfl rfl ?_
        refine jr_iload (e_101 rfl) rfl rfl ?_
        refine jr_bri (c := (-2) = 0) (pt := 32) (pn := 29) (e_101 rfl) rfl rfl (fun h4 => ?_) (fun h4 => ?_)
        · refine jr_aload_n (e_101 rfl) rfl rfl ?_
          refine jr_getr (K2 := 0) (i2 := 0) (e_101 rfl) rfl rfl rfl ?_
          refine jr_bipush (e_101 rfl) rfl ?_
          refine jr_iload_n (e_101 rfl) rfl rfl ?_
          refine jr_iconst (e_101 rfl) rfl ?_
          refine jr_iconst (e_101 rfl) rfl ?_
          refine jr_callX (as := [xr 0 0, xi 6, xi a1, xi 0, xi 0]) (S1 := []) (e_101 rfl) rfl rfl rfl rfl rfl rfl (jm_Answer_isNew 6 a1 0 0 σ) rfl (fun v5 s6 => ?_)
          refine jr_j (fun K9 => ∀ (s8 : xa_H), J 101 52 [(0, xr 8 0), (2, xi a2)] [] s8 jqW (K9 s8)) (fun s8 => ?_) (fun K9 hK9 => ?_)
          · refine jr_aload_n (e_101 rfl) rfl rfl ?_
            refine jr_getr (K2 := 0) (i2 := 0) (e_101 rfl) rfl rfl rfl ?_
            refine jr_iload_n (e_101 rfl) rfl rfl ?_
            refine jr_callP (as := [xr 0 0, xi a2]) (S1 := []) (e_101 rfl) rfl rfl rfl rfl rfl rfl (jm_Answer_at a2 s8) rfl (fun v12 => ?_)
            exact jr_retW (e_101 rfl) rfl
          · refine jr_bri (c := v5 = 0) (pt := 52) (pn := 47) (e_101 rfl) rfl rfl (fun h10 => ?_) (fun h10 => ?_)
            · exact jr_sub (show ([4, 3, 0, 1, 2] : List Nat).Nodup from by decide) (xsb_c (List.Mem.tail _ (List.Mem.tail _ (List.Mem.head _))) (xsb_c (List.Mem.tail _ (List.Mem.tail _ (List.Mem.tail _ (List.Mem.tail _ (List.Mem.head _))))) xsb_n)) (hK9 s6)
            · refine jr_aload_n (e_101 rfl) rfl rfl ?_
              refine jr_aload_n (e_101 rfl) rfl rfl ?_
              refine jr_callV (as := [xr 8 0, xr 5 (4 * 0 + a1.toNat)]) (S1 := []) (e_101 rfl) rfl rfl rfl rfl rfl rfl (jm_S_findCame (4 * 0 + a1.toNat) s6) rfl (fun s11 => ?_)
              exact jr_sub (show ([4, 3, 0, 1, 2] : List Nat).Nodup from by decide) (xsb_c (List.Mem.tail _ (List.Mem.tail _ (List.Mem.head _))) (xsb_c (List.Mem.tail _ (List.Mem.tail _ (List.Mem.tail _ (List.Mem.tail _ (List.Mem.head _))))) xsb_n)) (hK9 s11)
        · refine jr_iload (e_101 rfl) rfl rfl ?_
          exact jr_retW (e_101 rfl) rfl
      · refine jr_aload_n (e_126 rfl) rfl rfl ?_
        refine jr_geti (e_126 rfl) rfl (by decide +kernel) ?_
        refine jr_bri (c := 0 ≤ (σ 5 (4 * 0 + a1.toNat) 1)) (pt := 25) (pn := 20) (e_126 rfl) rfl rfl (fun h1005 => ?_) (fun h1005 => ?_)
        · refine jr_iconst (e_126 rfl) rfl ?_
          refine jr_retCi (e_126 rfl) rfl ?_
          refine jr_istore (L' := [(4, xi 0), (3, xr 5 (4 * 0 + a1.toNat)), (0, xr 8 0), (1, xi a1), (2, xi a2)]) (e_101 rfl) rfl rfl rfl ?_
          refine jr_aload_n (e_101 rfl) rfl rfl ?_
          refine jr_s (q := (24, [(4, xi 0), (3, xr 5 (4 * 0 + a1.toNat)), (0, xr 8 0), (1, xi a1), (2, xi a2)], [], σ)) (e_101 rfl) rfl rfl ?_
          refine jr_iload (e_101 rfl) rfl rfl ?_
          refine jr_bri (c := 0 = 0) (pt := 32) (pn := 29) (e_101 rfl) rfl rfl (fun h13 => ?_) (fun h13 => ?_)
          · refine jr_aload_n (e_101 rfl) rfl rfl ?_
            refine jr_getr (K2 := 0) (i2 := 0) (e_101 rfl) rfl rfl rfl ?_
            refine jr_bipush (e_101 rfl) rfl ?_
            refine jr_iload_n (e_101 rfl) rfl rfl ?_
            refine jr_iconst (e_101 rfl) rfl ?_
            refine jr_iconst (e_101 rfl) rfl ?_
            refine jr_callX (as := [xr 0 0, xi 6, xi a1, xi 0, xi 0]) (S1 := []) (e_101 rfl) rfl rfl rfl rfl rfl rfl (jm_Answer_isNew 6 a1 0 0 σ) rfl (fun v14 s15 => ?_)
            refine jr_j (fun K18 => ∀ (s17 : xa_H), J 101 52 [(0, xr 8 0), (2, xi a2)] [] s17 jqW (K18 s17)) (fun s17 => ?_) (fun K18 hK18 => ?_)
            · refine jr_aload_n (e_101 rfl) rfl rfl ?_
              refine jr_getr (K2 := 0) (i2 := 0) (e_101 rfl) rfl rfl rfl ?_
              refine jr_iload_n (e_101 rfl) rfl rfl ?_
              refine jr_callP (as := [xr 0 0, xi a2]) (S1 := []) (e_101 rfl) rfl rfl rfl rfl rfl rfl (jm_Answer_at a2 s17) rfl (fun v21 => ?_)
              exact jr_retW (e_101 rfl) rfl
            · refine jr_bri (c := v14 = 0) (pt := 52) (pn := 47) (e_101 rfl) rfl rfl (fun h19 => ?_) (fun h19 => ?_)
              · exact jr_sub (show ([4, 3, 0, 1, 2] : List Nat).Nodup from by decide) (xsb_c (List.Mem.tail _ (List.Mem.tail _ (List.Mem.head _))) (xsb_c (List.Mem.tail _ (List.Mem.tail _ (List.Mem.tail _ (List.Mem.tail _ (List.Mem.head _))))) xsb_n)) (hK18 s15)
              · refine jr_aload_n (e_101 rfl) rfl rfl ?_
                refine jr_aload_n (e_101 rfl) rfl rfl ?_
                refine jr_callV (as := [xr 8 0, xr 5 (4 * 0 + a1.toNat)]) (S1 := []) (e_101 rfl) rfl rfl rfl rfl rfl rfl (jm_S_findCame (4 * 0 + a1.toNat) s15) rfl (fun s20 => ?_)
                exact jr_sub (show ([4, 3, 0, 1, 2] : List Nat).Nodup from by decide) (xsb_c (List.Mem.tail _ (List.Mem.tail _ (List.Mem.head _))) (xsb_c (List.Mem.tail _ (List.Mem.tail _ (List.Mem.tail _ (List.Mem.tail _ (List.Mem.head _))))) xsb_n)) (hK18 s20)
          · refine jr_iload (e_101 rfl) rfl rfl ?_
            exact jr_retW (e_101 rfl) rfl
        · refine jr_bipush (e_126 rfl) rfl ?_
          refine jr_goto (pc' := 26) (e_126 rfl) rfl ?_
          refine jr_retCi (e_126 rfl) rfl ?_
          refine jr_istore (L' := [(4, xi (-3)), (3, xr 5 (4 * 0 + a1.toNat)), (0, xr 8 0), (1, xi a1), (2, xi a2)]) (e_101 rfl) rfl rfl rfl ?_
          refine jr_aload_n (e_101 rfl) rfl rfl ?_
          refine jr_s (q := (24, [(4, xi (-3)), (3, xr 5 (4 * 0 + a1.toNat)), (0, xr 8 0), (1, xi a1), (2, xi a2)], [], σ)) (e_101 rfl) rfl rfl ?_
          refine jr_iload (e_101 rfl) rfl rfl ?_
          refine jr_bri (c := (-3) = 0) (pt := 32) (pn := 29) (e_101 rfl) rfl rfl (fun h22 => ?_) (fun h22 => ?_)
          · refine jr_aload_n (e_101 rfl) rfl rfl ?_
            refine jr_getr (K2 := 0) (i2 := 0) (e_101 rfl) rfl rfl rfl ?_
            refine jr_bipush (e_101 rfl) rfl ?_
            refine jr_iload_n (e_101 rfl) rfl rfl ?_
            refine jr_iconst (e_101 rfl) rfl ?_
            refine jr_iconst (e_101 rfl) rfl ?_
            refine jr_callX (as := [xr 0 0, xi 6, xi a1, xi 0, xi 0]) (S1 := []) (e_101 rfl) rfl rfl rfl rfl rfl rfl (jm_Answer_isNew 6 a1 0 0 σ) rfl (fun v23 s24 => ?_)
            refine jr_j (fun K27 => ∀ (s26 : xa_H), J 101 52 [(0, xr 8 0), (2, xi a2)] [] s26 jqW (K27 s26)) (fun s26 => ?_) (fun K27 hK27 => ?_)
            · refine jr_aload_n (e_101 rfl) rfl rfl ?_
              refine jr_getr (K2 := 0) (i2 := 0) (e_101 rfl) rfl rfl rfl ?_
              refine jr_iload_n (e_101 rfl) rfl rfl ?_
              refine jr_callP (as := [xr 0 0, xi a2]) (S1 := []) (e_101 rfl) rfl rfl rfl rfl rfl rfl (jm_Answer_at a2 s26) rfl (fun v30 => ?_)
              exact jr_retW (e_101 rfl) rfl
            · refine jr_bri (c := v23 = 0) (pt := 52) (pn := 47) (e_101 rfl) rfl rfl (fun h28 => ?_) (fun h28 => ?_)
              · exact jr_sub (show ([4, 3, 0, 1, 2] : List Nat).Nodup from by decide) (xsb_c (List.Mem.tail _ (List.Mem.tail _ (List.Mem.head _))) (xsb_c (List.Mem.tail _ (List.Mem.tail _ (List.Mem.tail _ (List.Mem.tail _ (List.Mem.head _))))) xsb_n)) (hK27 s24)
              · refine jr_aload_n (e_101 rfl) rfl rfl ?_
                refine jr_aload_n (e_101 rfl) rfl rfl ?_
                refine jr_callV (as := [xr 8 0, xr 5 (4 * 0 + a1.toNat)]) (S1 := []) (e_101 rfl) rfl rfl rfl rfl rfl rfl (jm_S_findCame (4 * 0 + a1.toNat) s24) rfl (fun s29 => ?_)
                exact jr_sub (show ([4, 3, 0, 1, 2] : List Nat).Nodup from by decide) (xsb_c (List.Mem.tail _ (List.Mem.tail _ (List.Mem.head _))) (xsb_c (List.Mem.tail _ (List.Mem.tail _ (List.Mem.tail _ (List.Mem.tail _ (List.Mem.head _))))) xsb_n)) (hK27 s29)
          · refine jr_iload (e_101 rfl) rfl rfl ?_
            exact jr_retW (e_101 rfl) rfl

theorem e_102 {pc : Nat} {en : xa_I} (h : xlk pc xc_102 = some en) : xcd 102 pc = some en := h
noncomputable def fm_S_image (a1 : Int) (σ : xa_H) : Option (Int × xa_H) :=
  if a1 < 0 then
    some ((-2), σ)
  else
    if 2 ≤ a1 then
      some ((-2), σ)
    else
      if 0 ≤ a1 ∧ a1 < 2 then
        (fm_Stair_copyFrom (1 + a1.toNat) 0 σ).bind fun s1 =>
        xnm (xup s1 4 (1 + a1.toNat) 4 1) fun s2 =>
        some (1, s2)
      else none
theorem jm_S_image (a1 : Int) (σ : xa_H) : J 102 0 [(0, xr 8 0), (1, xi a1)] [] σ jqW (fm_S_image a1 σ) := by
  unfold fm_S_image
  refine jr_aload_n (e_102 rfl) rfl rfl ?_
  refine jr_iload_n (e_102 rfl) rfl rfl ?_
  refine jr_inl (as := [xr 8 0, xi a1]) (S1 := []) (L' := [(0, xr 8 0), (1, xi a1)]) (e_102 rfl) rfl rfl rfl rfl rfl rfl rfl rfl ?_
  refine jr_iload_n (e_124 rfl) rfl rfl ?_
  refine jr_bri (c := a1 < 0) (pt := 22) (pn := 4) (e_124 rfl) rfl rfl (fun h1001 => ?_) (fun h1001 => ?_)
  · refine jr_null (e_124 rfl) rfl ?_
    refine jr_retC (e_124 rfl) ?_
    refine jr_astore_n (L' := [(2, xn), (0, xr 8 0), (1, xi a1)]) (e_102 rfl) rfl rfl rfl ?_
    refine jr_aload_n (e_102 rfl) rfl rfl ?_
    refine jr_s (q := (10, [(2, xn), (0, xr 8 0), (1, xi a1)], [], σ)) (e_102 rfl) rfl rfl ?_
    refine jr_bipush (e_102 rfl) rfl ?_
    exact jr_retW (e_102 rfl) rfl
  · refine jr_iload_n (e_124 rfl) rfl rfl ?_
    refine jr_aload_n (e_124 rfl) rfl rfl ?_
    refine jr_getr (K2 := 10) (i2 := 0) (e_124 rfl) rfl rfl rfl ?_
    refine jr_alen (a := 2) (e_124 rfl) rfl (by decide +kernel) rfl ?_
    refine jr_bri (c := 2 ≤ a1) (pt := 22) (pn := 13) (e_124 rfl) rfl rfl (fun h1002 => ?_) (fun h1002 => ?_)
    · refine jr_null (e_124 rfl) rfl ?_
      refine jr_retC (e_124 rfl) ?_
      refine jr_astore_n (L' := [(2, xn), (0, xr 8 0), (1, xi a1)]) (e_102 rfl) rfl rfl rfl ?_
      refine jr_aload_n (e_102 rfl) rfl rfl ?_
      refine jr_s (q := (10, [(2, xn), (0, xr 8 0), (1, xi a1)], [], σ)) (e_102 rfl) rfl rfl ?_
      refine jr_bipush (e_102 rfl) rfl ?_
      exact jr_retW (e_102 rfl) rfl
    · refine jr_aload_n (e_124 rfl) rfl rfl ?_
      refine jr_getr (K2 := 10) (i2 := 0) (e_124 rfl) rfl rfl rfl ?_
      refine jr_iload_n (e_124 rfl) rfl rfl ?_
      refine jr_aald (n := 2) (K2 := 4) (i2 := (1 + a1.toNat)) (e_124 rfl) rfl (by decide +kernel) rfl rfl ?_
      refine jr_goto (pc' := 23) (e_124 rfl) rfl ?_
      refine jr_retC (e_124 rfl) ?_
      refine jr_astore_n (L' := [(2, xr 4 (1 + a1.toNat)), (0, xr 8 0), (1, xi a1)]) (e_102 rfl) rfl rfl rfl ?_
      refine jr_aload_n (e_102 rfl) rfl rfl ?_
      refine jr_s (q := (13, [(2, xr 4 (1 + a1.toNat)), (0, xr 8 0), (1, xi a1)], [], σ)) (e_102 rfl) rfl rfl ?_
      refine jr_aload_n (e_102 rfl) rfl rfl ?_
      refine jr_aload_n (e_102 rfl) rfl rfl ?_
      refine jr_getr (K2 := 4) (i2 := 0) (e_102 rfl) rfl rfl rfl ?_
      refine jr_callV (as := [xr 4 (1 + a1.toNat), xr 4 0]) (S1 := []) (e_102 rfl) rfl rfl rfl rfl rfl rfl (jm_Stair_copyFrom (1 + a1.toNat) 0 σ) rfl (fun s1 => ?_)
      refine jr_aload_n (e_102 rfl) rfl rfl ?_
      refine jr_iconst (e_102 rfl) rfl ?_
      refine jr_putz (e_102 rfl) rfl rfl rfl (by decide) ?_
      refine jr_nms (fun s2 => ?_)
      refine jr_iconst (e_102 rfl) rfl ?_
      exact jr_retW (e_102 rfl) rfl

theorem e_103 {pc : Nat} {en : xa_I} (h : xlk pc xc_103 = some en) : xcd 103 pc = some en := h
noncomputable def fm_S_restore (a1 : Int) (σ : xa_H) : Option (Int × xa_H) :=
  if a1 < 0 then
    some ((-2), σ)
  else
    if 2 ≤ a1 then
      some ((-2), σ)
    else
      if 0 ≤ a1 ∧ a1 < 2 then
        if (σ 4 (1 + a1.toNat) 4) = 0 then
          some ((-3), σ)
        else
          (fm_Stair_copyFrom 0 (1 + a1.toNat) σ).bind fun s2 =>
          (fm_S_forgetWay s2).bind fun s3 =>
          some (1, s3)
      else none
theorem jm_S_restore (a1 : Int) (σ : xa_H) : J 103 0 [(0, xr 8 0), (1, xi a1)] [] σ jqW (fm_S_restore a1 σ) := by
  unfold fm_S_restore
  refine jr_aload_n (e_103 rfl) rfl rfl ?_
  refine jr_iload_n (e_103 rfl) rfl rfl ?_
  refine jr_inl (as := [xr 8 0, xi a1]) (S1 := []) (L' := [(0, xr 8 0), (1, xi a1)]) (e_103 rfl) rfl rfl rfl rfl rfl rfl rfl rfl ?_
  refine jr_iload_n (e_124 rfl) rfl rfl ?_
  refine jr_bri (c := a1 < 0) (pt := 22) (pn := 4) (e_124 rfl) rfl rfl (fun h1001 => ?_) (fun h1001 => ?_)
  · refine jr_null (e_124 rfl) rfl ?_
    refine jr_retC (e_124 rfl) ?_
    refine jr_astore_n (L' := [(2, xn), (0, xr 8 0), (1, xi a1)]) (e_103 rfl) rfl rfl rfl ?_
    refine jr_aload_n (e_103 rfl) rfl rfl ?_
    refine jr_s (q := (10, [(2, xn), (0, xr 8 0), (1, xi a1)], [], σ)) (e_103 rfl) rfl rfl ?_
    refine jr_bipush (e_103 rfl) rfl ?_
    exact jr_retW (e_103 rfl) rfl
  · refine jr_iload_n (e_124 rfl) rfl rfl ?_
    refine jr_aload_n (e_124 rfl) rfl rfl ?_
    refine jr_getr (K2 := 10) (i2 := 0) (e_124 rfl) rfl rfl rfl ?_
    refine jr_alen (a := 2) (e_124 rfl) rfl (by decide +kernel) rfl ?_
    refine jr_bri (c := 2 ≤ a1) (pt := 22) (pn := 13) (e_124 rfl) rfl rfl (fun h1002 => ?_) (fun h1002 => ?_)
    · refine jr_null (e_124 rfl) rfl ?_
      refine jr_retC (e_124 rfl) ?_
      refine jr_astore_n (L' := [(2, xn), (0, xr 8 0), (1, xi a1)]) (e_103 rfl) rfl rfl rfl ?_
      refine jr_aload_n (e_103 rfl) rfl rfl ?_
      refine jr_s (q := (10, [(2, xn), (0, xr 8 0), (1, xi a1)], [], σ)) (e_103 rfl) rfl rfl ?_
      refine jr_bipush (e_103 rfl) rfl ?_
      exact jr_retW (e_103 rfl) rfl
    · refine jr_aload_n (e_124 rfl) rfl rfl ?_
      refine jr_getr (K2 := 10) (i2 := 0) (e_124 rfl) rfl rfl rfl ?_
      refine jr_iload_n (e_124 rfl) rfl rfl ?_
      refine jr_aald (n := 2) (K2 := 4) (i2 := (1 + a1.toNat)) (e_124 rfl) rfl (by decide +kernel) rfl rfl ?_
      refine jr_goto (pc' := 23) (e_124 rfl) rfl ?_
      refine jr_retC (e_124 rfl) ?_
      refine jr_astore_n (L' := [(2, xr 4 (1 + a1.toNat)), (0, xr 8 0), (1, xi a1)]) (e_103 rfl) rfl rfl rfl ?_
      refine jr_aload_n (e_103 rfl) rfl rfl ?_
      refine jr_s (q := (13, [(2, xr 4 (1 + a1.toNat)), (0, xr 8 0), (1, xi a1)], [], σ)) (e_103 rfl) rfl rfl ?_
      refine jr_aload_n (e_103 rfl) rfl rfl ?_
      refine jr_geti (e_103 rfl) rfl (by decide +kernel) ?_
      refine jr_brx (c := (σ 4 (1 + a1.toNat) 4) = 0) (pt := 23) (pn := 20) (e_103 rfl) rfl rfl (fun h1 => ?_) (fun h1 => ?_)
      · refine jr_bipush (e_103 rfl) rfl ?_
        exact jr_retW (e_103 rfl) rfl
      · refine jr_aload_n (e_103 rfl) rfl rfl ?_
        refine jr_getr (K2 := 4) (i2 := 0) (e_103 rfl) rfl rfl rfl ?_
        refine jr_aload_n (e_103 rfl) rfl rfl ?_
        refine jr_callV (as := [xr 4 0, xr 4 (1 + a1.toNat)]) (S1 := []) (e_103 rfl) rfl rfl rfl rfl rfl rfl (jm_Stair_copyFrom 0 (1 + a1.toNat) σ) rfl (fun s2 => ?_)
        refine jr_aload_n (e_103 rfl) rfl rfl ?_
        refine jr_callV (as := [xr 8 0]) (S1 := []) (e_103 rfl) rfl rfl rfl rfl rfl rfl (jm_S_forgetWay s2) rfl (fun s3 => ?_)
        refine jr_iconst (e_103 rfl) rfl ?_
        exact jr_retW (e_103 rfl) rfl

theorem e_104 {pc : Nat} {en : xa_I} (h : xlk pc xc_104 = some en) : xcd 104 pc = some en := h
noncomputable def fm_S_told (a1 : Int) (σ : xa_H) : Option (Int) :=
  if 10 ≤ a1 then
    if (xrem a1 10) < 0 then
      if a1 = 0 then
        some (σ 2 0 1)
      else
        (fm_Way_sizeAlong 0 a1 σ).bind fun v3 =>
        some v3
    else
      if 4 ≤ (xrem a1 10) then
        if a1 = 0 then
          some (σ 2 0 1)
        else
          (fm_Way_sizeAlong 0 a1 σ).bind fun v5 =>
          some v5
      else
        if 0 ≤ (xrem a1 10) ∧ (xrem a1 10) < 4 then
          if (xdiv a1 10) = 1 then
            some (σ 5 (4 * 0 + (xrem a1 10).toNat) 0)
          else
            if (xdiv a1 10) = 2 then
              if 0 ≤ (σ 5 (4 * 0 + (xrem a1 10).toNat) 1) then
                (fm_S_cellOf (σ 5 (4 * 0 + (xrem a1 10).toNat) 1)).bind fun v10 =>
                some v10
              else
                some (-6)
            else
              if (xdiv a1 10) = 3 then
                (fm_S_cellOf (σ 5 (4 * 0 + (xrem a1 10).toNat) 3)).bind fun v7 =>
                some v7
              else
                some (-2)
        else none
  else
    if a1 = 0 then
      some (σ 2 0 1)
    else
      (fm_Way_sizeAlong 0 a1 σ).bind fun v13 =>
      some v13
theorem jm_S_told (a1 : Int) (σ : xa_H) : J 104 0 [(0, xr 8 0), (1, xi a1)] [] σ (jqP σ) (fm_S_told a1 σ) := by
  unfold fm_S_told
  refine jr_iload_n (e_104 rfl) rfl rfl ?_
  refine jr_bipush (e_104 rfl) rfl ?_
  refine jr_bri (c := 10 ≤ a1) (pt := 10) (pn := 6) (e_104 rfl) rfl rfl (fun h1 => ?_) (fun h1 => ?_)
  · refine jr_aload_n (e_104 rfl) rfl rfl ?_
    refine jr_getr (K2 := 4) (i2 := 0) (e_104 rfl) rfl rfl rfl ?_
    refine jr_iload_n (e_104 rfl) rfl rfl ?_
    refine jr_bipush (e_104 rfl) rfl ?_
    refine jr_irem (e_104 rfl) rfl (by decide) ?_
    refine jr_inl (as := [xr 4 0, xi (xrem a1 10)]) (S1 := []) (L' := [(0, xr 4 0), (1, xi (xrem a1 10))]) (e_104 rfl) rfl rfl rfl rfl rfl rfl rfl rfl ?_
    refine jr_iload_n (e_51 rfl) rfl rfl ?_
    refine jr_bri (c := (xrem a1 10) < 0) (pt := 22) (pn := 4) (e_51 rfl) rfl rfl (fun h1002 => ?_) (fun h1002 => ?_)
    · refine jr_null (e_51 rfl) rfl ?_
      refine jr_retC (e_51 rfl) ?_
      refine jr_astore_n (L' := [(2, xn), (0, xr 8 0), (1, xi a1)]) (e_104 rfl) rfl rfl rfl ?_
      refine jr_aload_n (e_104 rfl) rfl rfl ?_
      refine jr_s (q := (26, [(2, xn), (0, xr 8 0), (1, xi a1)], [], σ)) (e_104 rfl) rfl rfl ?_
      refine jr_iload_n (e_104 rfl) rfl rfl ?_
      refine jr_brx (c := a1 = 0) (pt := 40) (pn := 30) (e_104 rfl) rfl rfl (fun h2 => ?_) (fun h2 => ?_)
      · refine jr_aload_n (e_104 rfl) rfl rfl ?_
        refine jr_getr (K2 := 2) (i2 := 0) (e_104 rfl) rfl rfl rfl ?_
        refine jr_geti (e_104 rfl) rfl (by decide +kernel) ?_
        refine jr_goto (pc' := 51) (e_104 rfl) rfl ?_
        exact jr_retP (e_104 rfl) rfl
      · refine jr_aload_n (e_104 rfl) rfl rfl ?_
        refine jr_getr (K2 := 4) (i2 := 0) (e_104 rfl) rfl rfl rfl ?_
        refine jr_getr (K2 := 7) (i2 := 0) (e_104 rfl) rfl rfl rfl ?_
        refine jr_iload_n (e_104 rfl) rfl rfl ?_
        refine jr_callP (as := [xr 7 0, xi a1]) (S1 := []) (e_104 rfl) rfl rfl rfl rfl rfl rfl (jm_Way_sizeAlong 0 a1 σ) rfl (fun v3 => ?_)
        exact jr_retP (e_104 rfl) rfl
    · refine jr_iload_n (e_51 rfl) rfl rfl ?_
      refine jr_aload_n (e_51 rfl) rfl rfl ?_
      refine jr_getr (K2 := 24) (i2 := 0) (e_51 rfl) rfl rfl rfl ?_
      refine jr_alen (a := 4) (e_51 rfl) rfl (by decide +kernel) rfl ?_
      refine jr_bri (c := 4 ≤ (xrem a1 10)) (pt := 22) (pn := 13) (e_51 rfl) rfl rfl (fun h1003 => ?_) (fun h1003 => ?_)
      · refine jr_null (e_51 rfl) rfl ?_
        refine jr_retC (e_51 rfl) ?_
        refine jr_astore_n (L' := [(2, xn), (0, xr 8 0), (1, xi a1)]) (e_104 rfl) rfl rfl rfl ?_
        refine jr_aload_n (e_104 rfl) rfl rfl ?_
        refine jr_s (q := (26, [(2, xn), (0, xr 8 0), (1, xi a1)], [], σ)) (e_104 rfl) rfl rfl ?_
        refine jr_iload_n (e_104 rfl) rfl rfl ?_
        refine jr_brx (c := a1 = 0) (pt := 40) (pn := 30) (e_104 rfl) rfl rfl (fun h4 => ?_) (fun h4 => ?_)
        · refine jr_aload_n (e_104 rfl) rfl rfl ?_
          refine jr_getr (K2 := 2) (i2 := 0) (e_104 rfl) rfl rfl rfl ?_
          refine jr_geti (e_104 rfl) rfl (by decide +kernel) ?_
          refine jr_goto (pc' := 51) (e_104 rfl) rfl ?_
          exact jr_retP (e_104 rfl) rfl
        · refine jr_aload_n (e_104 rfl) rfl rfl ?_
          refine jr_getr (K2 := 4) (i2 := 0) (e_104 rfl) rfl rfl rfl ?_
          refine jr_getr (K2 := 7) (i2 := 0) (e_104 rfl) rfl rfl rfl ?_
          refine jr_iload_n (e_104 rfl) rfl rfl ?_
          refine jr_callP (as := [xr 7 0, xi a1]) (S1 := []) (e_104 rfl) rfl rfl rfl rfl rfl rfl (jm_Way_sizeAlong 0 a1 σ) rfl (fun v5 => ?_)
          exact jr_retP (e_104 rfl) rfl
      · refine jr_aload_n (e_51 rfl) rfl rfl ?_
        refine jr_getr (K2 := 24) (i2 := 0) (e_51 rfl) rfl rfl rfl ?_
        refine jr_iload_n (e_51 rfl) rfl rfl ?_
        refine jr_aald (n := 4) (K2 := 5) (i2 := (4 * 0 + (xrem a1 10).toNat)) (e_51 rfl) rfl (by decide +kernel) rfl rfl ?_
        refine jr_goto (pc' := 23) (e_51 rfl) rfl ?_
        refine jr_retC (e_51 rfl) ?_
        refine jr_astore_n (L' := [(2, xr 5 (4 * 0 + (xrem a1 10).toNat)), (0, xr 8 0), (1, xi a1)]) (e_104 rfl) rfl rfl rfl ?_
        refine jr_aload_n (e_104 rfl) rfl rfl ?_
        refine jr_s (q := (52, [(2, xr 5 (4 * 0 + (xrem a1 10).toNat)), (0, xr 8 0), (1, xi a1)], [], σ)) (e_104 rfl) rfl rfl ?_
        refine jr_iload_n (e_104 rfl) rfl rfl ?_
        refine jr_bipush (e_104 rfl) rfl ?_
        refine jr_idiv (e_104 rfl) rfl (by decide) ?_
        refine jr_ite (fun h11 => ?_) (fun h11 => ?_)
        · refine jr_tabc (pt := 84) (e_104 rfl) rfl h11 rfl ?_
          refine jr_aload_n (e_104 rfl) rfl rfl ?_
          refine jr_geti (e_104 rfl) rfl (by decide +kernel) ?_
          exact jr_retP (e_104 rfl) rfl
        · refine jr_ite (fun h8 => ?_) (fun h8 => ?_)
          · refine jr_tabc (pt := 89) (e_104 rfl) rfl h8 rfl ?_
            refine jr_aload_n (e_104 rfl) rfl rfl ?_
            refine jr_geti (e_104 rfl) rfl (by decide +kernel) ?_
            refine jr_bri (c := 0 ≤ (σ 5 (4 * 0 + (xrem a1 10).toNat) 1)) (pt := 101) (pn := 96) (e_104 rfl) rfl rfl (fun h9 => ?_) (fun h9 => ?_)
            · refine jr_aload_n (e_104 rfl) rfl rfl ?_
              refine jr_geti (e_104 rfl) rfl (by decide +kernel) ?_
              refine jr_callP (as := [xi (σ 5 (4 * 0 + (xrem a1 10).toNat) 1)]) (S1 := []) (e_104 rfl) rfl rfl rfl rfl rfl rfl (jm_S_cellOf (σ 5 (4 * 0 + (xrem a1 10).toNat) 1) σ) rfl (fun v10 => ?_)
              exact jr_retP (e_104 rfl) rfl
            · refine jr_bipush (e_104 rfl) rfl ?_
              refine jr_goto (pc' := 108) (e_104 rfl) rfl ?_
              exact jr_retP (e_104 rfl) rfl
          · refine jr_ite (fun h6 => ?_) (fun h6 => ?_)
            · refine jr_tabc (pt := 109) (e_104 rfl) rfl h6 rfl ?_
              refine jr_aload_n (e_104 rfl) rfl rfl ?_
              refine jr_geti (e_104 rfl) rfl (by decide +kernel) ?_
              refine jr_callP (as := [xi (σ 5 (4 * 0 + (xrem a1 10).toNat) 3)]) (S1 := []) (e_104 rfl) rfl rfl rfl rfl rfl rfl (jm_S_cellOf (σ 5 (4 * 0 + (xrem a1 10).toNat) 3) σ) rfl (fun v7 => ?_)
              exact jr_retP (e_104 rfl) rfl
            · refine jr_tabd (pt := 117) (e_104 rfl) rfl (fun hr => by exfalso; omega) ?_
              refine jr_bipush (e_104 rfl) rfl ?_
              exact jr_retP (e_104 rfl) rfl
  · refine jr_null (e_104 rfl) rfl ?_
    refine jr_goto (pc' := 21) (e_104 rfl) rfl ?_
    refine jr_astore_n (L' := [(2, xn), (0, xr 8 0), (1, xi a1)]) (e_104 rfl) rfl rfl rfl ?_
    refine jr_aload_n (e_104 rfl) rfl rfl ?_
    refine jr_s (q := (26, [(2, xn), (0, xr 8 0), (1, xi a1)], [], σ)) (e_104 rfl) rfl rfl ?_
    refine jr_iload_n (e_104 rfl) rfl rfl ?_
    refine jr_brx (c := a1 = 0) (pt := 40) (pn := 30) (e_104 rfl) rfl rfl (fun h12 => ?_) (fun h12 => ?_)
    · refine jr_aload_n (e_104 rfl) rfl rfl ?_
      refine jr_getr (K2 := 2) (i2 := 0) (e_104 rfl) rfl rfl rfl ?_
      refine jr_geti (e_104 rfl) rfl (by decide +kernel) ?_
      refine jr_goto (pc' := 51) (e_104 rfl) rfl ?_
      exact jr_retP (e_104 rfl) rfl
    · refine jr_aload_n (e_104 rfl) rfl rfl ?_
      refine jr_getr (K2 := 4) (i2 := 0) (e_104 rfl) rfl rfl rfl ?_
      refine jr_getr (K2 := 7) (i2 := 0) (e_104 rfl) rfl rfl rfl ?_
      refine jr_iload_n (e_104 rfl) rfl rfl ?_
      refine jr_callP (as := [xr 7 0, xi a1]) (S1 := []) (e_104 rfl) rfl rfl rfl rfl rfl rfl (jm_Way_sizeAlong 0 a1 σ) rfl (fun v13 => ?_)
      exact jr_retP (e_104 rfl) rfl

theorem e_201 {pc : Nat} {en : xa_I} (h : xlk pc xc_201 = some en) : xcd 201 pc = some en := h
noncomputable def fm_M_in (a0 : Int) (a2 : Int) (a4 : Int) : Option (Int) :=
  if (xcmp a0 a2) < 0 then
    some 0
  else
    if 0 < (xcmp a0 a4) then
      some 0
    else
      some 1
theorem jm_M_in (a0 : Int) (a2 : Int) (a4 : Int) (σ : xa_H) : J 201 0 [(0, xl a0), (2, xl a2), (4, xl a4)] [] σ (jqP σ) (fm_M_in a0 a2 a4) := by
  unfold fm_M_in
  refine jr_lload_n (e_201 rfl) rfl rfl ?_
  refine jr_lload_n (e_201 rfl) rfl rfl ?_
  refine jr_lcmp (e_201 rfl) rfl ?_
  refine jr_bri (c := (xcmp a0 a2) < 0) (pt := 17) (pn := 6) (e_201 rfl) rfl rfl (fun h1 => ?_) (fun h1 => ?_)
  · refine jr_iconst (e_201 rfl) rfl ?_
    exact jr_retPz (e_201 rfl) rfl rfl
  · refine jr_lload_n (e_201 rfl) rfl rfl ?_
    refine jr_lload (e_201 rfl) rfl rfl ?_
    refine jr_lcmp (e_201 rfl) rfl ?_
    refine jr_bri (c := 0 < (xcmp a0 a4)) (pt := 17) (pn := 13) (e_201 rfl) rfl rfl (fun h2 => ?_) (fun h2 => ?_)
    · refine jr_iconst (e_201 rfl) rfl ?_
      exact jr_retPz (e_201 rfl) rfl rfl
    · refine jr_iconst (e_201 rfl) rfl ?_
      refine jr_goto (pc' := 18) (e_201 rfl) rfl ?_
      exact jr_retPz (e_201 rfl) rfl rfl

theorem e_202 {pc : Nat} {en : xa_I} (h : xlk pc xc_202 = some en) : xcd 202 pc = some en := h
noncomputable def fm_M_isThing (a0 : Int) : Option (Int) :=
  (fm_M_in a0 0 3).bind fun v1 =>
  some (v1 % 2)
theorem jm_M_isThing (a0 : Int) (σ : xa_H) : J 202 0 [(0, xi a0)] [] σ (jqP σ) (fm_M_isThing a0) := by
  unfold fm_M_isThing
  refine jr_iload_n (e_202 rfl) rfl rfl ?_
  refine jr_i2l (e_202 rfl) rfl ?_
  refine jr_lconst (a := 0) (e_202 rfl) rfl rfl ?_
  refine jr_ldc2 (a := 3) (e_202 rfl) rfl rfl ?_
  refine jr_callP (as := [xl a0, xl 0, xl 3]) (S1 := []) (e_202 rfl) rfl rfl rfl rfl rfl rfl (jm_M_in a0 0 3 σ) rfl (fun v1 => ?_)
  exact jr_retPz (e_202 rfl) rfl rfl

theorem e_203 {pc : Nat} {en : xa_I} (h : xlk pc xc_203 = some en) : xcd 203 pc = some en := h
noncomputable def fm_M_turn_59 (f1 : Int) (f3 : Int) (f4 : Int) (f5 : Int) (f6 : Int) (K : xa_H → Option (xa_H)) : Nat → Int → xa_H → Option (xa_H)
  | 0, _, _ => none
  | n + 1, x7, sh =>
    if 3 ≤ x7 then
      K sh
    else
      if 0 ≤ (w32 ((w32 ((w32 (9 * f1)) + (w32 (3 * f3)))) + x7)) ∧ (w32 ((w32 ((w32 (9 * f1)) + (w32 (3 * f3)))) + x7)) < 216 then
        if 0 ≤ (w32 ((w32 (3 * f3)) + x7)) ∧ (w32 ((w32 (3 * f3)) + x7)) < 9 then
          xnm (xup sh 52 0 ((w32 ((w32 (3 * f3)) + x7)).toNat) (sh 50 0 ((w32 ((w32 ((w32 (9 * f1)) + (w32 (3 * f3)))) + x7)).toNat))) fun s2 =>
          if 0 ≤ (w32 ((w32 ((w32 (9 * f1)) + (w32 (3 * f5)))) + x7)) ∧ (w32 ((w32 ((w32 (9 * f1)) + (w32 (3 * f5)))) + x7)) < 216 then
            if 0 ≤ (w32 ((w32 (3 * f4)) + x7)) ∧ (w32 ((w32 (3 * f4)) + x7)) < 9 then
              xnm (xup s2 52 0 ((w32 ((w32 (3 * f4)) + x7)).toNat) (w32 ((w32 (-f6)) * (s2 50 0 ((w32 ((w32 ((w32 (9 * f1)) + (w32 (3 * f5)))) + x7)).toNat))))) fun s3 =>
              if 0 ≤ (w32 ((w32 ((w32 (9 * f1)) + (w32 (3 * f4)))) + x7)) ∧ (w32 ((w32 ((w32 (9 * f1)) + (w32 (3 * f4)))) + x7)) < 216 then
                if 0 ≤ (w32 ((w32 (3 * f5)) + x7)) ∧ (w32 ((w32 (3 * f5)) + x7)) < 9 then
                  xnm (xup s3 52 0 ((w32 ((w32 (3 * f5)) + x7)).toNat) (w32 (f6 * (s3 50 0 ((w32 ((w32 ((w32 (9 * f1)) + (w32 (3 * f4)))) + x7)).toNat))))) fun s4 =>
                  xnm (w32 (x7 + 1) : Int) fun v5 =>
                  fm_M_turn_59 f1 f3 f4 f5 f6 K n v5 s4
                else none
              else none
            else none
          else none
        else none
      else none
theorem jl_M_turn_59 (f1 : Int) (f3 : Int) (f4 : Int) (f5 : Int) (f6 : Int) (σ : xa_H)  (K : xa_H → Option (xa_H)) (hK59 : ∀ (sz : xa_H), J 203 163 [] [] sz jqV (K sz)) : ∀ (n : Nat) (x7 : Int) (sh : xa_H), J 203 59 [(0, xr 9 0), (1, xi f1), (3, xi f3), (4, xi f4), (5, xi f5), (6, xi f6), (7, xi x7)] [] sh jqV (fm_M_turn_59 f1 f3 f4 f5 f6 K n x7 sh) := by
  intro n
  induction n with
  | zero => intro x7 sh; exact jr_none
  | succ n ih59 =>
    intro x7 sh
    rw [fm_M_turn_59]
    refine jr_iload (e_203 rfl) rfl rfl ?_
    refine jr_iconst (e_203 rfl) rfl ?_
    refine jr_bri (c := 3 ≤ x7) (pt := 163) (pn := 65) (e_203 rfl) rfl rfl (fun h1 => ?_) (fun h1 => ?_)
    · exact jr_sub (show ([0, 1, 3, 4, 5, 6, 7] : List Nat).Nodup from by decide) xsb_n (hK59 sh)
    · refine jr_aload_n (e_203 rfl) rfl rfl ?_
      refine jr_getr (K2 := 52) (i2 := 0) (e_203 rfl) rfl rfl rfl ?_
      refine jr_iconst (e_203 rfl) rfl ?_
      refine jr_iload_n (e_203 rfl) rfl rfl ?_
      refine jr_imul (e_203 rfl) rfl ?_
      refine jr_iload (e_203 rfl) rfl rfl ?_
      refine jr_iadd (e_203 rfl) rfl ?_
      refine jr_aload_n (e_203 rfl) rfl rfl ?_
      refine jr_getr (K2 := 50) (i2 := 0) (e_203 rfl) rfl rfl rfl ?_
      refine jr_bipush (e_203 rfl) rfl ?_
      refine jr_iload_n (e_203 rfl) rfl rfl ?_
      refine jr_imul (e_203 rfl) rfl ?_
      refine jr_iconst (e_203 rfl) rfl ?_
      refine jr_iload_n (e_203 rfl) rfl rfl ?_
      refine jr_imul (e_203 rfl) rfl ?_
      refine jr_iadd (e_203 rfl) rfl ?_
      refine jr_iload (e_203 rfl) rfl rfl ?_
      refine jr_iadd (e_203 rfl) rfl ?_
      refine jr_ald (n := 216) (e_203 rfl) rfl rfl rfl ?_
      refine jr_ast (n := 9) (e_203 rfl) rfl rfl rfl rfl ?_
      refine jr_nms (fun s2 => ?_)
      refine jr_aload_n (e_203 rfl) rfl rfl ?_
      refine jr_getr (K2 := 52) (i2 := 0) (e_203 rfl) rfl rfl rfl ?_
      refine jr_iconst (e_203 rfl) rfl ?_
      refine jr_iload (e_203 rfl) rfl rfl ?_
      refine jr_imul (e_203 rfl) rfl ?_
      refine jr_iload (e_203 rfl) rfl rfl ?_
      refine jr_iadd (e_203 rfl) rfl ?_
      refine jr_iload (e_203 rfl) rfl rfl ?_
      refine jr_ineg (e_203 rfl) rfl ?_
      refine jr_aload_n (e_203 rfl) rfl rfl ?_
      refine jr_getr (K2 := 50) (i2 := 0) (e_203 rfl) rfl rfl rfl ?_
      refine jr_bipush (e_203 rfl) rfl ?_
      refine jr_iload_n (e_203 rfl) rfl rfl ?_
      refine jr_imul (e_203 rfl) rfl ?_
      refine jr_iconst (e_203 rfl) rfl ?_
      refine jr_iload (e_203 rfl) rfl rfl ?_
      refine jr_imul (e_203 rfl) rfl ?_
      refine jr_iadd (e_203 rfl) rfl ?_
      refine jr_iload (e_203 rfl) rfl rfl ?_
      refine jr_iadd (e_203 rfl) rfl ?_
      refine jr_ald (n := 216) (e_203 rfl) rfl rfl rfl ?_
      refine jr_imul (e_203 rfl) rfl ?_
      refine jr_ast (n := 9) (e_203 rfl) rfl rfl rfl rfl ?_
      refine jr_nms (fun s3 => ?_)
      refine jr_aload_n (e_203 rfl) rfl rfl ?_
      refine jr_getr (K2 := 52) (i2 := 0) (e_203 rfl) rfl rfl rfl ?_
      refine jr_iconst (e_203 rfl) rfl ?_
      refine jr_iload (e_203 rfl) rfl rfl ?_
      refine jr_imul (e_203 rfl) rfl ?_
      refine jr_iload (e_203 rfl) rfl rfl ?_
      refine jr_iadd (e_203 rfl) rfl ?_
      refine jr_iload (e_203 rfl) rfl rfl ?_
      refine jr_aload_n (e_203 rfl) rfl rfl ?_
      refine jr_getr (K2 := 50) (i2 := 0) (e_203 rfl) rfl rfl rfl ?_
      refine jr_bipush (e_203 rfl) rfl ?_
      refine jr_iload_n (e_203 rfl) rfl rfl ?_
      refine jr_imul (e_203 rfl) rfl ?_
      refine jr_iconst (e_203 rfl) rfl ?_
      refine jr_iload (e_203 rfl) rfl rfl ?_
      refine jr_imul (e_203 rfl) rfl ?_
      refine jr_iadd (e_203 rfl) rfl ?_
      refine jr_iload (e_203 rfl) rfl rfl ?_
      refine jr_iadd (e_203 rfl) rfl ?_
      refine jr_ald (n := 216) (e_203 rfl) rfl rfl rfl ?_
      refine jr_imul (e_203 rfl) rfl ?_
      refine jr_ast (n := 9) (e_203 rfl) rfl rfl rfl rfl ?_
      refine jr_nms (fun s4 => ?_)
      refine jr_iinc (L2 := fun c => [(7, xi c), (0, xr 9 0), (1, xi f1), (3, xi f3), (4, xi f4), (5, xi f5), (6, xi f6)]) (e_203 rfl) rfl rfl rfl (fun _ => rfl) (fun v5 => ?_)
      refine jr_goto (pc' := 59) (e_203 rfl) rfl ?_
      exact jr_sub (show ([7, 0, 1, 3, 4, 5, 6] : List Nat).Nodup from by decide) (xsb_c (List.Mem.tail _ (List.Mem.head _)) (xsb_c (List.Mem.tail _ (List.Mem.tail _ (List.Mem.head _))) (xsb_c (List.Mem.tail _ (List.Mem.tail _ (List.Mem.tail _ (List.Mem.head _)))) (xsb_c (List.Mem.tail _ (List.Mem.tail _ (List.Mem.tail _ (List.Mem.tail _ (List.Mem.head _))))) (xsb_c (List.Mem.tail _ (List.Mem.tail _ (List.Mem.tail _ (List.Mem.tail _ (List.Mem.tail _ (List.Mem.head _)))))) (xsb_c (List.Mem.tail _ (List.Mem.tail _ (List.Mem.tail _ (List.Mem.tail _ (List.Mem.tail _ (List.Mem.tail _ (List.Mem.head _))))))) (xsb_c (List.Mem.head _) xsb_n))))))) (ih59 v5 s4)
noncomputable def fm_M_turn (a1 : Int) (a2 : Int) (σ : xa_H) : Option (xa_H) :=
  xnm ((xrem a2 3) : Int) fun v1 =>
  xnm ((if v1 = 0 then 1 else (if v1 = 1 then 2 else 0)) : Int) fun v3 =>
  xnm ((if v1 = 0 then 2 else (if v1 = 1 then 0 else 1)) : Int) fun v7 =>
  xnm ((if 3 ≤ a2 then (-1) else 1) : Int) fun v11 =>
  fm_M_turn_59 a1 v1 v3 v7 v11 (fun (s13 : xa_H) =>
    some s13) xFU 0 σ
theorem jm_M_turn (a1 : Int) (a2 : Int) (σ : xa_H) : J 203 0 [(0, xr 9 0), (1, xi a1), (2, xi a2)] [] σ jqV (fm_M_turn a1 a2 σ) := by
  unfold fm_M_turn
  refine jr_iload_n (e_203 rfl) rfl rfl ?_
  refine jr_iconst (e_203 rfl) rfl ?_
  refine jr_irem (e_203 rfl) rfl (by decide) ?_
  refine jr_nm (fun v1 => ?_)
  refine jr_istore_n (L' := [(3, xi v1), (0, xr 9 0), (1, xi a1), (2, xi a2)]) (e_203 rfl) rfl rfl rfl ?_
  refine jr_iload_n (e_203 rfl) rfl rfl ?_
  refine jr_pm1 (fun T => ∀ v3 : Int, J 203 22 [(0, xr 9 0), (1, xi a1), (2, xi a2), (3, xi v1)] [xi v3] σ jqV (T v3)) (fun v3 => ?_) (fun T hT => ?_)
  · refine jr_istore (L' := [(4, xi v3), (0, xr 9 0), (1, xi a1), (2, xi a2), (3, xi v1)]) (e_203 rfl) rfl rfl rfl ?_
    refine jr_iload_n (e_203 rfl) rfl rfl ?_
    refine jr_pm1 (fun T => ∀ v7 : Int, J 203 42 [(0, xr 9 0), (1, xi a1), (2, xi a2), (3, xi v1), (4, xi v3)] [xi v7] σ jqV (T v7)) (fun v7 => ?_) (fun T hT => ?_)
    · refine jr_istore (L' := [(5, xi v7), (0, xr 9 0), (1, xi a1), (2, xi a2), (3, xi v1), (4, xi v3)]) (e_203 rfl) rfl rfl rfl ?_
      refine jr_iload_n (e_203 rfl) rfl rfl ?_
      refine jr_iconst (e_203 rfl) rfl ?_
      refine jr_pm1 (fun T => ∀ v11 : Int, J 203 54 [(0, xr 9 0), (1, xi a1), (3, xi v1), (4, xi v3), (5, xi v7)] [xi v11] σ jqV (T v11)) (fun v11 => ?_) (fun T hT => ?_)
      · refine jr_istore (L' := [(6, xi v11), (0, xr 9 0), (1, xi a1), (3, xi v1), (4, xi v3), (5, xi v7)]) (e_203 rfl) rfl rfl rfl ?_
        refine jr_iconst (e_203 rfl) rfl ?_
        refine jr_istore (L' := [(7, xi 0), (6, xi v11), (0, xr 9 0), (1, xi a1), (3, xi v1), (4, xi v3), (5, xi v7)]) (e_203 rfl) rfl rfl rfl ?_
        refine jr_sub (show ([7, 6, 0, 1, 3, 4, 5] : List Nat).Nodup from by decide) (xsb_c (List.Mem.tail _ (List.Mem.tail _ (List.Mem.head _))) (xsb_c (List.Mem.tail _ (List.Mem.tail _ (List.Mem.tail _ (List.Mem.head _)))) (xsb_c (List.Mem.tail _ (List.Mem.tail _ (List.Mem.tail _ (List.Mem.tail _ (List.Mem.head _))))) (xsb_c (List.Mem.tail _ (List.Mem.tail _ (List.Mem.tail _ (List.Mem.tail _ (List.Mem.tail _ (List.Mem.head _)))))) (xsb_c (List.Mem.tail _ (List.Mem.tail _ (List.Mem.tail _ (List.Mem.tail _ (List.Mem.tail _ (List.Mem.tail _ (List.Mem.head _))))))) (xsb_c (List.Mem.tail _ (List.Mem.head _)) (xsb_c (List.Mem.head _) xsb_n))))))) (jl_M_turn_59 a1 v1 v3 v7 v11 σ _ (fun s13 => ?_) xFU 0 σ)
        exact jr_retV (e_203 rfl)
      · refine jr_br (c := 3 ≤ a2) (pt := 53) (pn := 49) (e_203 rfl) rfl rfl (fun h12 => ?_) (fun h12 => ?_)
        · refine jr_iconst (e_203 rfl) rfl ?_
          exact (jr_nme (if_pos h12) (jr_sub (show ([5, 0, 1, 2, 3, 4] : List Nat).Nodup from by decide) (xsb_c (List.Mem.tail _ (List.Mem.head _)) (xsb_c (List.Mem.tail _ (List.Mem.tail _ (List.Mem.head _))) (xsb_c (List.Mem.tail _ (List.Mem.tail _ (List.Mem.tail _ (List.Mem.tail _ (List.Mem.head _))))) (xsb_c (List.Mem.tail _ (List.Mem.tail _ (List.Mem.tail _ (List.Mem.tail _ (List.Mem.tail _ (List.Mem.head _)))))) (xsb_c (List.Mem.head _) xsb_n))))) (hT (-1))))
        · refine jr_iconst (e_203 rfl) rfl ?_
          refine jr_goto (pc' := 54) (e_203 rfl) rfl ?_
          exact (jr_nme (if_neg h12) (jr_sub (show ([5, 0, 1, 2, 3, 4] : List Nat).Nodup from by decide) (xsb_c (List.Mem.tail _ (List.Mem.head _)) (xsb_c (List.Mem.tail _ (List.Mem.tail _ (List.Mem.head _))) (xsb_c (List.Mem.tail _ (List.Mem.tail _ (List.Mem.tail _ (List.Mem.tail _ (List.Mem.head _))))) (xsb_c (List.Mem.tail _ (List.Mem.tail _ (List.Mem.tail _ (List.Mem.tail _ (List.Mem.tail _ (List.Mem.head _)))))) (xsb_c (List.Mem.head _) xsb_n))))) (hT 1)))
    · refine jr_bx (c := v1 = 0) (pt := 32) (pn := 28) (e_203 rfl) rfl rfl (fun h8 => ?_) (fun h8 => ?_)
      · refine jr_iconst (e_203 rfl) rfl ?_
        refine jr_goto (pc' := 42) (e_203 rfl) rfl ?_
        exact (jr_nme (if_pos h8) (jr_sub (show ([4, 0, 1, 2, 3] : List Nat).Nodup from by decide) (xsb_c (List.Mem.tail _ (List.Mem.head _)) (xsb_c (List.Mem.tail _ (List.Mem.tail _ (List.Mem.head _))) (xsb_c (List.Mem.tail _ (List.Mem.tail _ (List.Mem.tail _ (List.Mem.head _)))) (xsb_c (List.Mem.tail _ (List.Mem.tail _ (List.Mem.tail _ (List.Mem.tail _ (List.Mem.head _))))) (xsb_c (List.Mem.head _) xsb_n))))) (hT 2)))
      · refine jr_iload_n (e_203 rfl) rfl rfl ?_
        refine jr_iconst (e_203 rfl) rfl ?_
        refine jr_bx (c := v1 = 1) (pt := 41) (pn := 37) (e_203 rfl) rfl rfl (fun h9 => ?_) (fun h9 => ?_)
        · refine jr_iconst (e_203 rfl) rfl ?_
          refine jr_goto (pc' := 42) (e_203 rfl) rfl ?_
          exact (jr_nme ((if_neg h8).trans (if_pos h9)) (jr_sub (show ([4, 0, 1, 2, 3] : List Nat).Nodup from by decide) (xsb_c (List.Mem.tail _ (List.Mem.head _)) (xsb_c (List.Mem.tail _ (List.Mem.tail _ (List.Mem.head _))) (xsb_c (List.Mem.tail _ (List.Mem.tail _ (List.Mem.tail _ (List.Mem.head _)))) (xsb_c (List.Mem.tail _ (List.Mem.tail _ (List.Mem.tail _ (List.Mem.tail _ (List.Mem.head _))))) (xsb_c (List.Mem.head _) xsb_n))))) (hT 0)))
        · refine jr_iconst (e_203 rfl) rfl ?_
          exact (jr_nme ((if_neg h8).trans (if_neg h9)) (jr_sub (show ([4, 0, 1, 2, 3] : List Nat).Nodup from by decide) (xsb_c (List.Mem.tail _ (List.Mem.head _)) (xsb_c (List.Mem.tail _ (List.Mem.tail _ (List.Mem.head _))) (xsb_c (List.Mem.tail _ (List.Mem.tail _ (List.Mem.tail _ (List.Mem.head _)))) (xsb_c (List.Mem.tail _ (List.Mem.tail _ (List.Mem.tail _ (List.Mem.tail _ (List.Mem.head _))))) (xsb_c (List.Mem.head _) xsb_n))))) (hT 1)))
  · refine jr_bx (c := v1 = 0) (pt := 12) (pn := 8) (e_203 rfl) rfl rfl (fun h4 => ?_) (fun h4 => ?_)
    · refine jr_iconst (e_203 rfl) rfl ?_
      refine jr_goto (pc' := 22) (e_203 rfl) rfl ?_
      exact (jr_nme (if_pos h4) (jr_sub (show ([3, 0, 1, 2] : List Nat).Nodup from by decide) (xsb_c (List.Mem.tail _ (List.Mem.head _)) (xsb_c (List.Mem.tail _ (List.Mem.tail _ (List.Mem.head _))) (xsb_c (List.Mem.tail _ (List.Mem.tail _ (List.Mem.tail _ (List.Mem.head _)))) (xsb_c (List.Mem.head _) xsb_n)))) (hT 1)))
    · refine jr_iload_n (e_203 rfl) rfl rfl ?_
      refine jr_iconst (e_203 rfl) rfl ?_
      refine jr_bx (c := v1 = 1) (pt := 21) (pn := 17) (e_203 rfl) rfl rfl (fun h5 => ?_) (fun h5 => ?_)
      · refine jr_iconst (e_203 rfl) rfl ?_
        refine jr_goto (pc' := 22) (e_203 rfl) rfl ?_
        exact (jr_nme ((if_neg h4).trans (if_pos h5)) (jr_sub (show ([3, 0, 1, 2] : List Nat).Nodup from by decide) (xsb_c (List.Mem.tail _ (List.Mem.head _)) (xsb_c (List.Mem.tail _ (List.Mem.tail _ (List.Mem.head _))) (xsb_c (List.Mem.tail _ (List.Mem.tail _ (List.Mem.tail _ (List.Mem.head _)))) (xsb_c (List.Mem.head _) xsb_n)))) (hT 2)))
      · refine jr_iconst (e_203 rfl) rfl ?_
        exact (jr_nme ((if_neg h4).trans (if_neg h5)) (jr_sub (show ([3, 0, 1, 2] : List Nat).Nodup from by decide) (xsb_c (List.Mem.tail _ (List.Mem.head _)) (xsb_c (List.Mem.tail _ (List.Mem.tail _ (List.Mem.head _))) (xsb_c (List.Mem.tail _ (List.Mem.tail _ (List.Mem.tail _ (List.Mem.head _)))) (xsb_c (List.Mem.head _) xsb_n)))) (hT 0)))

theorem e_204 {pc : Nat} {en : xa_I} (h : xlk pc xc_204 = some en) : xcd 204 pc = some en := h
noncomputable def fm_M_tableOf_12 (f1 : Int) (f2 : Int) (σ : xa_H) (K : Int → Option (Int)) : Nat → Int → Int → Option (Int)
  | 0, _, _ => none
  | n + 1, x3, x4 =>
    if 9 ≤ x4 then
      K x3
    else
      if x3 = 0 then
        xnm (w32 (x4 + 1) : Int) fun v3 =>
        fm_M_tableOf_12 f1 f2 σ K n 0 v3
      else
        if 0 ≤ (w32 ((w32 (9 * f2)) + x4)) ∧ (w32 ((w32 (9 * f2)) + x4)) < 216 then
          if 0 ≤ x4 ∧ x4 < 9 then
            if (σ 50 0 ((w32 ((w32 (9 * f2)) + x4)).toNat)) = (σ 52 0 x4.toNat) then
              xnm (w32 (x4 + 1) : Int) fun v5 =>
              fm_M_tableOf_12 f1 f2 σ K n 1 v5
            else
              xnm (w32 (x4 + 1) : Int) fun v6 =>
              fm_M_tableOf_12 f1 f2 σ K n 0 v6
          else none
        else none
theorem jl_M_tableOf_12 (f1 : Int) (f2 : Int) (σ : xa_H)  (K : Int → Option (Int)) (hK12 : ∀ (z0 : Int), J 204 57 [(0, xr 9 0), (1, xi f1), (2, xi f2), (3, xi z0)] [] σ (jqP σ) (K z0)) : ∀ (n : Nat) (x3 : Int) (x4 : Int), J 204 12 [(0, xr 9 0), (1, xi f1), (2, xi f2), (3, xi x3), (4, xi x4)] [] σ (jqP σ) (fm_M_tableOf_12 f1 f2 σ K n x3 x4) := by
  intro n
  induction n with
  | zero => intro x3 x4; exact jr_none
  | succ n ih12 =>
    intro x3 x4
    rw [fm_M_tableOf_12]
    refine jr_iload (e_204 rfl) rfl rfl ?_
    refine jr_bipush (e_204 rfl) rfl ?_
    refine jr_bri (c := 9 ≤ x4) (pt := 57) (pn := 19) (e_204 rfl) rfl rfl (fun h1 => ?_) (fun h1 => ?_)
    · exact jr_sub (show ([0, 1, 2, 3, 4] : List Nat).Nodup from by decide) (xsb_c (List.Mem.head _) (xsb_c (List.Mem.tail _ (List.Mem.head _)) (xsb_c (List.Mem.tail _ (List.Mem.tail _ (List.Mem.head _))) (xsb_c (List.Mem.tail _ (List.Mem.tail _ (List.Mem.tail _ (List.Mem.head _)))) xsb_n)))) (hK12 x3)
    · refine jr_iload_n (e_204 rfl) rfl rfl ?_
      refine jr_bri (c := x3 = 0) (pt := 49) (pn := 23) (e_204 rfl) rfl rfl (fun h2 => ?_) (fun h2 => ?_)
      · refine jr_iconst (e_204 rfl) rfl ?_
        refine jr_istore_n (L' := [(3, xi 0), (0, xr 9 0), (1, xi f1), (2, xi f2), (4, xi x4)]) (e_204 rfl) rfl rfl rfl ?_
        refine jr_iinc (L2 := fun c => [(4, xi c), (3, xi 0), (0, xr 9 0), (1, xi f1), (2, xi f2)]) (e_204 rfl) rfl rfl rfl (fun _ => rfl) (fun v3 => ?_)
        refine jr_goto (pc' := 12) (e_204 rfl) rfl ?_
        exact jr_sub (show ([4, 3, 0, 1, 2] : List Nat).Nodup from by decide) (xsb_c (List.Mem.tail _ (List.Mem.tail _ (List.Mem.head _))) (xsb_c (List.Mem.tail _ (List.Mem.tail _ (List.Mem.tail _ (List.Mem.head _)))) (xsb_c (List.Mem.tail _ (List.Mem.tail _ (List.Mem.tail _ (List.Mem.tail _ (List.Mem.head _))))) (xsb_c (List.Mem.tail _ (List.Mem.head _)) (xsb_c (List.Mem.head _) xsb_n))))) (ih12 0 v3)
      · refine jr_aload_n (e_204 rfl) rfl rfl ?_
        refine jr_getr (K2 := 50) (i2 := 0) (e_204 rfl) rfl rfl rfl ?_
        refine jr_bipush (e_204 rfl) rfl ?_
        refine jr_iload_n (e_204 rfl) rfl rfl ?_
        refine jr_imul (e_204 rfl) rfl ?_
        refine jr_iload (e_204 rfl) rfl rfl ?_
        refine jr_iadd (e_204 rfl) rfl ?_
        refine jr_ald (n := 216) (e_204 rfl) rfl rfl rfl ?_
        refine jr_aload_n (e_204 rfl) rfl rfl ?_
        refine jr_getr (K2 := 52) (i2 := 0) (e_204 rfl) rfl rfl rfl ?_
        refine jr_iload (e_204 rfl) rfl rfl ?_
        refine jr_ald (n := 9) (e_204 rfl) rfl rfl rfl ?_
        refine jr_brx (c := (σ 50 0 ((w32 ((w32 (9 * f2)) + x4)).toNat)) = (σ 52 0 x4.toNat)) (pt := 49) (pn := 45) (e_204 rfl) rfl rfl (fun h4 => ?_) (fun h4 => ?_)
        · refine jr_iconst (e_204 rfl) rfl ?_
          refine jr_goto (pc' := 50) (e_204 rfl) rfl ?_
          refine jr_istore_n (L' := [(3, xi 1), (0, xr 9 0), (1, xi f1), (2, xi f2), (4, xi x4)]) (e_204 rfl) rfl rfl rfl ?_
          refine jr_iinc (L2 := fun c => [(4, xi c), (3, xi 1), (0, xr 9 0), (1, xi f1), (2, xi f2)]) (e_204 rfl) rfl rfl rfl (fun _ => rfl) (fun v5 => ?_)
          refine jr_goto (pc' := 12) (e_204 rfl) rfl ?_
          exact jr_sub (show ([4, 3, 0, 1, 2] : List Nat).Nodup from by decide) (xsb_c (List.Mem.tail _ (List.Mem.tail _ (List.Mem.head _))) (xsb_c (List.Mem.tail _ (List.Mem.tail _ (List.Mem.tail _ (List.Mem.head _)))) (xsb_c (List.Mem.tail _ (List.Mem.tail _ (List.Mem.tail _ (List.Mem.tail _ (List.Mem.head _))))) (xsb_c (List.Mem.tail _ (List.Mem.head _)) (xsb_c (List.Mem.head _) xsb_n))))) (ih12 1 v5)
        · refine jr_iconst (e_204 rfl) rfl ?_
          refine jr_istore_n (L' := [(3, xi 0), (0, xr 9 0), (1, xi f1), (2, xi f2), (4, xi x4)]) (e_204 rfl) rfl rfl rfl ?_
          refine jr_iinc (L2 := fun c => [(4, xi c), (3, xi 0), (0, xr 9 0), (1, xi f1), (2, xi f2)]) (e_204 rfl) rfl rfl rfl (fun _ => rfl) (fun v6 => ?_)
          refine jr_goto (pc' := 12) (e_204 rfl) rfl ?_
          exact jr_sub (show ([4, 3, 0, 1, 2] : List Nat).Nodup from by decide) (xsb_c (List.Mem.tail _ (List.Mem.tail _ (List.Mem.head _))) (xsb_c (List.Mem.tail _ (List.Mem.tail _ (List.Mem.tail _ (List.Mem.head _)))) (xsb_c (List.Mem.tail _ (List.Mem.tail _ (List.Mem.tail _ (List.Mem.tail _ (List.Mem.head _))))) (xsb_c (List.Mem.tail _ (List.Mem.head _)) (xsb_c (List.Mem.head _) xsb_n))))) (ih12 0 v6)
noncomputable def fm_M_tableOf_2 (f1 : Int) (σ : xa_H) (K : Option (Int)) : Nat → Int → Option (Int)
  | 0, _ => none
  | n + 1, x2 =>
    if f1 ≤ x2 then
      K
    else
      fm_M_tableOf_12 f1 x2 σ (fun (v7 : Int) =>
        if v7 = 0 then
          xnm (w32 (x2 + 1) : Int) fun v9 =>
          fm_M_tableOf_2 f1 σ K n v9
        else
          some x2) xFU 1 0
theorem jl_M_tableOf_2 (f1 : Int) (σ : xa_H)  (K : Option (Int)) (hK2 : J 204 69 [] [] σ (jqP σ) (K)) : ∀ (n : Nat) (x2 : Int), J 204 2 [(0, xr 9 0), (1, xi f1), (2, xi x2)] [] σ (jqP σ) (fm_M_tableOf_2 f1 σ K n x2) := by
  intro n
  induction n with
  | zero => intro x2; exact jr_none
  | succ n ih2 =>
    intro x2
    rw [fm_M_tableOf_2]
    refine jr_iload_n (e_204 rfl) rfl rfl ?_
    refine jr_iload_n (e_204 rfl) rfl rfl ?_
    refine jr_bri (c := f1 ≤ x2) (pt := 69) (pn := 7) (e_204 rfl) rfl rfl (fun h1 => ?_) (fun h1 => ?_)
    · exact jr_sub (show ([0, 1, 2] : List Nat).Nodup from by decide) xsb_n (hK2)
    · refine jr_iconst (e_204 rfl) rfl ?_
      refine jr_istore_n (L' := [(3, xi 1), (0, xr 9 0), (1, xi f1), (2, xi x2)]) (e_204 rfl) rfl rfl rfl ?_
      refine jr_iconst (e_204 rfl) rfl ?_
      refine jr_istore (L' := [(4, xi 0), (3, xi 1), (0, xr 9 0), (1, xi f1), (2, xi x2)]) (e_204 rfl) rfl rfl rfl ?_
      refine jr_sub (show ([4, 3, 0, 1, 2] : List Nat).Nodup from by decide) (xsb_c (List.Mem.tail _ (List.Mem.tail _ (List.Mem.head _))) (xsb_c (List.Mem.tail _ (List.Mem.tail _ (List.Mem.tail _ (List.Mem.head _)))) (xsb_c (List.Mem.tail _ (List.Mem.tail _ (List.Mem.tail _ (List.Mem.tail _ (List.Mem.head _))))) (xsb_c (List.Mem.tail _ (List.Mem.head _)) (xsb_c (List.Mem.head _) xsb_n))))) (jl_M_tableOf_12 f1 x2 σ _ (fun v7 => ?_) xFU 1 0)
      refine jr_iload_n (e_204 rfl) rfl rfl ?_
      refine jr_bri (c := v7 = 0) (pt := 63) (pn := 61) (e_204 rfl) rfl rfl (fun h8 => ?_) (fun h8 => ?_)
      · refine jr_iinc (L2 := fun c => [(2, xi c), (0, xr 9 0), (1, xi f1), (3, xi v7)]) (e_204 rfl) rfl rfl rfl (fun _ => rfl) (fun v9 => ?_)
        refine jr_goto (pc' := 2) (e_204 rfl) rfl ?_
        exact jr_sub (show ([2, 0, 1, 3] : List Nat).Nodup from by decide) (xsb_c (List.Mem.tail _ (List.Mem.head _)) (xsb_c (List.Mem.tail _ (List.Mem.tail _ (List.Mem.head _))) (xsb_c (List.Mem.head _) xsb_n))) (ih2 v9)
      · refine jr_iload_n (e_204 rfl) rfl rfl ?_
        exact jr_retP (e_204 rfl) rfl
noncomputable def fm_M_tableOf (a1 : Int) (σ : xa_H) : Option (Int) :=
  fm_M_tableOf_2 a1 σ (
    some (-6)) xFU 0
theorem jm_M_tableOf (a1 : Int) (σ : xa_H) : J 204 0 [(0, xr 9 0), (1, xi a1)] [] σ (jqP σ) (fm_M_tableOf a1 σ) := by
  unfold fm_M_tableOf
  refine jr_iconst (e_204 rfl) rfl ?_
  refine jr_istore_n (L' := [(2, xi 0), (0, xr 9 0), (1, xi a1)]) (e_204 rfl) rfl rfl rfl ?_
  refine jr_sub (show ([2, 0, 1] : List Nat).Nodup from by decide) (xsb_c (List.Mem.tail _ (List.Mem.head _)) (xsb_c (List.Mem.tail _ (List.Mem.tail _ (List.Mem.head _))) (xsb_c (List.Mem.head _) xsb_n))) (jl_M_tableOf_2 a1 σ _ ?_ xFU 0)
  refine jr_bipush (e_204 rfl) rfl ?_
  exact jr_retP (e_204 rfl) rfl
