/-! methods as functions, printed by wip/whole/gen/gen5.py -/
theorem e_22 {pc : Nat} {en : xa_I} (h : xlk pc xc_22 = some en) : xcd 22 pc = some en := h
noncomputable def fm_Pad_isFull (σ : xa_H) : Option (Int) :=
  if (σ 2 0 1) < 60 then
    some 0
  else
    some 1
theorem jm_Pad_isFull (σ : xa_H) : J 22 0 [(0, xr 2 0)] [] σ (jqP σ) (fm_Pad_isFull σ) := by
  unfold fm_Pad_isFull
  refine jr_aload_n (e_22 rfl) rfl rfl ?_
  refine jr_geti (e_22 rfl) rfl (by decide +kernel) ?_
  refine jr_aload_n (e_22 rfl) rfl rfl ?_
  refine jr_getr (K2 := 17) (i2 := 0) (e_22 rfl) rfl rfl rfl ?_
  refine jr_alen (a := 60) (e_22 rfl) rfl (by decide +kernel) rfl ?_
  refine jr_bri (c := (σ 2 0 1) < 60) (pt := 16) (pn := 12) (e_22 rfl) rfl rfl (fun h1 => ?_) (fun h1 => ?_)
  · refine jr_iconst (e_22 rfl) rfl ?_
    exact jr_retPz (e_22 rfl) rfl rfl
  · refine jr_iconst (e_22 rfl) rfl ?_
    refine jr_goto (pc' := 17) (e_22 rfl) rfl ?_
    exact jr_retPz (e_22 rfl) rfl rfl

theorem e_23 {pc : Nat} {en : xa_I} (h : xlk pc xc_23 = some en) : xcd 23 pc = some en := h
noncomputable def fm_Pad_add (a1 : Int) (σ : xa_H) : Option (Int × xa_H) :=
  (fm_S_write 17 0 (σ 2 0 1) a1 σ).bind fun s1 =>
  xnm (xup s1 2 0 1 (w32 ((s1 2 0 1) + 1))) fun s2 =>
  some ((s2 2 0 1), s2)
theorem jm_Pad_add (a1 : Int) (σ : xa_H) : J 23 0 [(0, xr 2 0), (1, xi a1)] [] σ jqW (fm_Pad_add a1 σ) := by
  unfold fm_Pad_add
  refine jr_aload_n (e_23 rfl) rfl rfl ?_
  refine jr_getr (K2 := 17) (i2 := 0) (e_23 rfl) rfl rfl rfl ?_
  refine jr_aload_n (e_23 rfl) rfl rfl ?_
  refine jr_geti (e_23 rfl) rfl (by decide +kernel) ?_
  refine jr_iload_n (e_23 rfl) rfl rfl ?_
  refine jr_callV (as := [xr 17 0, xi (σ 2 0 1), xi a1]) (S1 := []) (e_23 rfl) rfl rfl rfl rfl rfl rfl (jm_S_write 17 0 (σ 2 0 1) a1 σ rfl rfl) rfl (fun s1 => ?_)
  refine jr_aload_n (e_23 rfl) rfl rfl ?_
  refine jr_dup (e_23 rfl) rfl rfl ?_
  refine jr_geti (e_23 rfl) rfl (by decide +kernel) ?_
  refine jr_iconst (e_23 rfl) rfl ?_
  refine jr_iadd (e_23 rfl) rfl ?_
  refine jr_put (e_23 rfl) rfl rfl rfl ?_
  refine jr_nms (fun s2 => ?_)
  refine jr_aload_n (e_23 rfl) rfl rfl ?_
  refine jr_geti (e_23 rfl) rfl (by decide +kernel) ?_
  exact jr_retW (e_23 rfl) rfl

theorem e_24 {pc : Nat} {en : xa_I} (h : xlk pc xc_24 = some en) : xcd 24 pc = some en := h
noncomputable def fm_Pad_clear (σ : xa_H) : Option (Int × xa_H) :=
  xnm ((σ 2 0 1) : Int) fun v1 =>
  xnm (xup σ 2 0 1 0) fun s2 =>
  some (v1, s2)
theorem jm_Pad_clear (σ : xa_H) : J 24 0 [(0, xr 2 0)] [] σ jqW (fm_Pad_clear σ) := by
  unfold fm_Pad_clear
  refine jr_aload_n (e_24 rfl) rfl rfl ?_
  refine jr_geti (e_24 rfl) rfl (by decide +kernel) ?_
  refine jr_nm (fun v1 => ?_)
  refine jr_istore_n (L' := [(1, xi v1), (0, xr 2 0)]) (e_24 rfl) rfl rfl rfl ?_
  refine jr_aload_n (e_24 rfl) rfl rfl ?_
  refine jr_iconst (e_24 rfl) rfl ?_
  refine jr_put (e_24 rfl) rfl rfl rfl ?_
  refine jr_nms (fun s2 => ?_)
  refine jr_iload_n (e_24 rfl) rfl rfl ?_
  exact jr_retW (e_24 rfl) rfl

theorem e_25 {pc : Nat} {en : xa_I} (h : xlk pc xc_25 = some en) : xcd 25 pc = some en := h
noncomputable def fm_Pad_digitAt (a1 : Int) (σ : xa_H) : Option (Int) :=
  (fm_S_read 17 0 a1 σ).bind fun v1 =>
  some (w32 (v1 - 48))
theorem jm_Pad_digitAt (a1 : Int) (σ : xa_H) : J 25 0 [(0, xr 2 0), (1, xi a1)] [] σ (jqP σ) (fm_Pad_digitAt a1 σ) := by
  unfold fm_Pad_digitAt
  refine jr_aload_n (e_25 rfl) rfl rfl ?_
  refine jr_getr (K2 := 17) (i2 := 0) (e_25 rfl) rfl rfl rfl ?_
  refine jr_iload_n (e_25 rfl) rfl rfl ?_
  refine jr_callP (as := [xr 17 0, xi a1]) (S1 := []) (e_25 rfl) rfl rfl rfl rfl rfl rfl (jm_S_read 17 0 a1 σ rfl) rfl (fun v1 => ?_)
  refine jr_bipush (e_25 rfl) rfl ?_
  refine jr_isub (e_25 rfl) rfl ?_
  exact jr_retP (e_25 rfl) rfl

theorem e_26 {pc : Nat} {en : xa_I} (h : xlk pc xc_26 = some en) : xcd 26 pc = some en := h
noncomputable def fm_Pad_groupAt (a1 : Int) (σ : xa_H) : Option (Int) :=
  (fm_S_read 17 0 a1 σ).bind fun v1 =>
  if v1 = 45 then
    some 0
  else
    if v1 < 97 then
      some (-6)
    else
      if 101 ≤ v1 then
        some (-6)
      else
        some (w32 ((w32 (v1 - 97)) + 1))
theorem jm_Pad_groupAt (a1 : Int) (σ : xa_H) : J 26 0 [(0, xr 2 0), (1, xi a1)] [] σ (jqP σ) (fm_Pad_groupAt a1 σ) := by
  unfold fm_Pad_groupAt
  refine jr_aload_n (e_26 rfl) rfl rfl ?_
  refine jr_getr (K2 := 17) (i2 := 0) (e_26 rfl) rfl rfl rfl ?_
  refine jr_iload_n (e_26 rfl) rfl rfl ?_
  refine jr_callP (as := [xr 17 0, xi a1]) (S1 := []) (e_26 rfl) rfl rfl rfl rfl rfl rfl (jm_S_read 17 0 a1 σ rfl) rfl (fun v1 => ?_)
  refine jr_istore_n (L' := [(2, xi v1), (0, xr 2 0), (1, xi a1)]) (e_26 rfl) rfl rfl rfl ?_
  refine jr_iload_n (e_26 rfl) rfl rfl ?_
  refine jr_bipush (e_26 rfl) rfl ?_
  refine jr_brx (c := v1 = 45) (pt := 17) (pn := 15) (e_26 rfl) rfl rfl (fun h2 => ?_) (fun h2 => ?_)
  · refine jr_iconst (e_26 rfl) rfl ?_
    exact jr_retP (e_26 rfl) rfl
  · refine jr_iload_n (e_26 rfl) rfl rfl ?_
    refine jr_bipush (e_26 rfl) rfl ?_
    refine jr_bri (c := v1 < 97) (pt := 38) (pn := 23) (e_26 rfl) rfl rfl (fun h3 => ?_) (fun h3 => ?_)
    · refine jr_bipush (e_26 rfl) rfl ?_
      exact jr_retP (e_26 rfl) rfl
    · refine jr_iload_n (e_26 rfl) rfl rfl ?_
      refine jr_bipush (e_26 rfl) rfl ?_
      refine jr_bri (c := 101 ≤ v1) (pt := 38) (pn := 29) (e_26 rfl) rfl rfl (fun h4 => ?_) (fun h4 => ?_)
      · refine jr_bipush (e_26 rfl) rfl ?_
        exact jr_retP (e_26 rfl) rfl
      · refine jr_iload_n (e_26 rfl) rfl rfl ?_
        refine jr_bipush (e_26 rfl) rfl ?_
        refine jr_isub (e_26 rfl) rfl ?_
        refine jr_iconst (e_26 rfl) rfl ?_
        refine jr_iadd (e_26 rfl) rfl ?_
        refine jr_goto (pc' := 40) (e_26 rfl) rfl ?_
        exact jr_retP (e_26 rfl) rfl

theorem e_27 {pc : Nat} {en : xa_I} (h : xlk pc xc_27 = some en) : xcd 27 pc = some en := h
noncomputable def fm_Pad_moveAt (a1 : Int) (σ : xa_H) : Option (Int) :=
  (fm_S_read 17 0 a1 σ).bind fun v1 =>
  some (xixo xmoves (v1 % 65536) 0)
theorem jm_Pad_moveAt (a1 : Int) (σ : xa_H) : J 27 0 [(0, xr 2 0), (1, xi a1)] [] σ (jqP σ) (fm_Pad_moveAt a1 σ) := by
  unfold fm_Pad_moveAt
  refine jr_ldcS (e_27 rfl) rfl ?_
  refine jr_aload_n (e_27 rfl) rfl rfl ?_
  refine jr_getr (K2 := 17) (i2 := 0) (e_27 rfl) rfl rfl rfl ?_
  refine jr_iload_n (e_27 rfl) rfl rfl ?_
  refine jr_callP (as := [xr 17 0, xi a1]) (S1 := [xr 99 0]) (e_27 rfl) rfl rfl rfl rfl rfl rfl (jm_S_read 17 0 a1 σ rfl) rfl (fun v1 => ?_)
  refine jr_i2c (e_27 rfl) rfl ?_
  refine jr_prim (as := [xr 99 0, xi (v1 % 65536)]) (S1 := []) (v := xi (xixo xmoves (v1 % 65536) 0)) (e_27 rfl) rfl rfl rfl rfl rfl (xprim_ix (by omega) (by omega)) rfl ?_
  exact jr_retP (e_27 rfl) rfl

theorem e_28 {pc : Nat} {en : xa_I} (h : xlk pc xc_28 = some en) : xcd 28 pc = some en := h
noncomputable def fm_Pad_rowFault_2 (σ : xa_H) (K : Option (Int)) : Nat → Int → Option (Int)
  | 0, _ => none
  | n + 1, x1 =>
    if (σ 2 0 1) ≤ x1 then
      K
    else
      if 40 ≤ x1 then
        some x1
      else
        (fm_Pad_moveAt x1 σ).bind fun v3 =>
        if 0 ≤ v3 then
          xnm (w32 (x1 + 1) : Int) fun v5 =>
          fm_Pad_rowFault_2 σ K n v5
        else
          some x1
theorem jl_Pad_rowFault_2 (σ : xa_H)  (K : Option (Int)) (hK2 : J 28 32 [] [] σ (jqP σ) (K)) : ∀ (n : Nat) (x1 : Int), J 28 2 [(0, xr 2 0), (1, xi x1)] [] σ (jqP σ) (fm_Pad_rowFault_2 σ K n x1) := by
  intro n
  induction n with
  | zero => intro x1; exact jr_none
  | succ n ih2 =>
    intro x1
    rw [fm_Pad_rowFault_2]
    refine jr_iload_n (e_28 rfl) rfl rfl ?_
    refine jr_aload_n (e_28 rfl) rfl rfl ?_
    refine jr_geti (e_28 rfl) rfl (by decide +kernel) ?_
    refine jr_bri (c := (σ 2 0 1) ≤ x1) (pt := 32) (pn := 10) (e_28 rfl) rfl rfl (fun h1 => ?_) (fun h1 => ?_)
    · exact jr_sub (show ([0, 1] : List Nat).Nodup from by decide) xsb_n (hK2)
    · refine jr_iload_n (e_28 rfl) rfl rfl ?_
      refine jr_bipush (e_28 rfl) rfl ?_
      refine jr_bri (c := 40 ≤ x1) (pt := 24) (pn := 16) (e_28 rfl) rfl rfl (fun h2 => ?_) (fun h2 => ?_)
      · refine jr_iload_n (e_28 rfl) rfl rfl ?_
        exact jr_retP (e_28 rfl) rfl
      · refine jr_aload_n (e_28 rfl) rfl rfl ?_
        refine jr_iload_n (e_28 rfl) rfl rfl ?_
        refine jr_callP (as := [xr 2 0, xi x1]) (S1 := []) (e_28 rfl) rfl rfl rfl rfl rfl rfl (jm_Pad_moveAt x1 σ) rfl (fun v3 => ?_)
        refine jr_bri (c := 0 ≤ v3) (pt := 26) (pn := 24) (e_28 rfl) rfl rfl (fun h4 => ?_) (fun h4 => ?_)
        · refine jr_iinc (L2 := fun c => [(1, xi c), (0, xr 2 0)]) (e_28 rfl) rfl rfl rfl (fun _ => rfl) (fun v5 => ?_)
          refine jr_goto (pc' := 2) (e_28 rfl) rfl ?_
          exact jr_sub (show ([1, 0] : List Nat).Nodup from by decide) (xsb_c (List.Mem.tail _ (List.Mem.head _)) (xsb_c (List.Mem.head _) xsb_n)) (ih2 v5)
        · refine jr_iload_n (e_28 rfl) rfl rfl ?_
          exact jr_retP (e_28 rfl) rfl
noncomputable def fm_Pad_rowFault (σ : xa_H) : Option (Int) :=
  fm_Pad_rowFault_2 σ (
    some (-6)) xFU 0
theorem jm_Pad_rowFault (σ : xa_H) : J 28 0 [(0, xr 2 0)] [] σ (jqP σ) (fm_Pad_rowFault σ) := by
  unfold fm_Pad_rowFault
  refine jr_iconst (e_28 rfl) rfl ?_
  refine jr_istore_n (L' := [(1, xi 0), (0, xr 2 0)]) (e_28 rfl) rfl rfl rfl ?_
  refine jr_sub (show ([1, 0] : List Nat).Nodup from by decide) (xsb_c (List.Mem.tail _ (List.Mem.head _)) (xsb_c (List.Mem.head _) xsb_n)) (jl_Pad_rowFault_2 σ _ ?_ xFU 0)
  refine jr_bipush (e_28 rfl) rfl ?_
  exact jr_retP (e_28 rfl) rfl

theorem e_31 {pc : Nat} {en : xa_I} (h : xlk pc xc_31 = some en) : xcd 31 pc = some en := h
noncomputable def fm_Pad_isThere_2 (f1 : Int) (σ : xa_H) (K : Option (Int)) : Nat → Int → Option (Int)
  | 0, _ => none
  | n + 1, x2 =>
    if f1 ≤ x2 then
      K
    else
      (fm_Pad_digitAt x2 σ).bind fun v2 =>
      (fm_Pad_digitAt f1 σ).bind fun v3 =>
      if v2 = v3 then
        (fm_Pad_digitAt (w32 (x2 + 1)) σ).bind fun v5 =>
        (fm_Pad_digitAt (w32 (f1 + 1)) σ).bind fun v6 =>
        if v5 = v6 then
          (fm_Pad_digitAt (w32 (x2 + 2)) σ).bind fun v8 =>
          (fm_Pad_digitAt (w32 (f1 + 2)) σ).bind fun v9 =>
          if v8 = v9 then
            some 1
          else
            xnm (w32 (x2 + 4) : Int) fun v11 =>
            fm_Pad_isThere_2 f1 σ K n v11
        else
          xnm (w32 (x2 + 4) : Int) fun v12 =>
          fm_Pad_isThere_2 f1 σ K n v12
      else
        xnm (w32 (x2 + 4) : Int) fun v13 =>
        fm_Pad_isThere_2 f1 σ K n v13
theorem jl_Pad_isThere_2 (f1 : Int) (σ : xa_H)  (K : Option (Int)) (hK2 : J 31 62 [] [] σ (jqP σ) (K)) : ∀ (n : Nat) (x2 : Int), J 31 2 [(0, xr 2 0), (1, xi f1), (2, xi x2)] [] σ (jqP σ) (fm_Pad_isThere_2 f1 σ K n x2) := by
  intro n
  induction n with
  | zero => intro x2; exact jr_none
  | succ n ih2 =>
    intro x2
    rw [fm_Pad_isThere_2]
    refine jr_iload_n (e_31 rfl) rfl rfl ?_
    refine jr_iload_n (e_31 rfl) rfl rfl ?_
    refine jr_bri (c := f1 ≤ x2) (pt := 62) (pn := 7) (e_31 rfl) rfl rfl (fun h1 => ?_) (fun h1 => ?_)
    · exact jr_sub (show ([0, 1, 2] : List Nat).Nodup from by decide) xsb_n (hK2)
    · refine jr_aload_n (e_31 rfl) rfl rfl ?_
      refine jr_iload_n (e_31 rfl) rfl rfl ?_
      refine jr_callP (as := [xr 2 0, xi x2]) (S1 := []) (e_31 rfl) rfl rfl rfl rfl rfl rfl (jm_Pad_digitAt x2 σ) rfl (fun v2 => ?_)
      refine jr_aload_n (e_31 rfl) rfl rfl ?_
      refine jr_iload_n (e_31 rfl) rfl rfl ?_
      refine jr_callP (as := [xr 2 0, xi f1]) (S1 := [xi v2]) (e_31 rfl) rfl rfl rfl rfl rfl rfl (jm_Pad_digitAt f1 σ) rfl (fun v3 => ?_)
      refine jr_brx (c := v2 = v3) (pt := 56) (pn := 20) (e_31 rfl) rfl rfl (fun h4 => ?_) (fun h4 => ?_)
      · refine jr_aload_n (e_31 rfl) rfl rfl ?_
        refine jr_iload_n (e_31 rfl) rfl rfl ?_
        refine jr_iconst (e_31 rfl) rfl ?_
        refine jr_iadd (e_31 rfl) rfl ?_
        refine jr_callP (as := [xr 2 0, xi (w32 (x2 + 1))]) (S1 := []) (e_31 rfl) rfl rfl rfl rfl rfl rfl (jm_Pad_digitAt (w32 (x2 + 1)) σ) rfl (fun v5 => ?_)
        refine jr_aload_n (e_31 rfl) rfl rfl ?_
        refine jr_iload_n (e_31 rfl) rfl rfl ?_
        refine jr_iconst (e_31 rfl) rfl ?_
        refine jr_iadd (e_31 rfl) rfl ?_
        refine jr_callP (as := [xr 2 0, xi (w32 (f1 + 1))]) (S1 := [xi v5]) (e_31 rfl) rfl rfl rfl rfl rfl rfl (jm_Pad_digitAt (w32 (f1 + 1)) σ) rfl (fun v6 => ?_)
        refine jr_brx (c := v5 = v6) (pt := 56) (pn := 37) (e_31 rfl) rfl rfl (fun h7 => ?_) (fun h7 => ?_)
        · refine jr_aload_n (e_31 rfl) rfl rfl ?_
          refine jr_iload_n (e_31 rfl) rfl rfl ?_
          refine jr_iconst (e_31 rfl) rfl ?_
          refine jr_iadd (e_31 rfl) rfl ?_
          refine jr_callP (as := [xr 2 0, xi (w32 (x2 + 2))]) (S1 := []) (e_31 rfl) rfl rfl rfl rfl rfl rfl (jm_Pad_digitAt (w32 (x2 + 2)) σ) rfl (fun v8 => ?_)
          refine jr_aload_n (e_31 rfl) rfl rfl ?_
          refine jr_iload_n (e_31 rfl) rfl rfl ?_
          refine jr_iconst (e_31 rfl) rfl ?_
          refine jr_iadd (e_31 rfl) rfl ?_
          refine jr_callP (as := [xr 2 0, xi (w32 (f1 + 2))]) (S1 := [xi v8]) (e_31 rfl) rfl rfl rfl rfl rfl rfl (jm_Pad_digitAt (w32 (f1 + 2)) σ) rfl (fun v9 => ?_)
          refine jr_brx (c := v8 = v9) (pt := 56) (pn := 54) (e_31 rfl) rfl rfl (fun h10 => ?_) (fun h10 => ?_)
          · refine jr_iconst (e_31 rfl) rfl ?_
            exact jr_retPz (e_31 rfl) rfl rfl
          · refine jr_iinc (L2 := fun c => [(2, xi c), (0, xr 2 0), (1, xi f1)]) (e_31 rfl) rfl rfl rfl (fun _ => rfl) (fun v11 => ?_)
            refine jr_goto (pc' := 2) (e_31 rfl) rfl ?_
            exact jr_sub (show ([2, 0, 1] : List Nat).Nodup from by decide) (xsb_c (List.Mem.tail _ (List.Mem.head _)) (xsb_c (List.Mem.tail _ (List.Mem.tail _ (List.Mem.head _))) (xsb_c (List.Mem.head _) xsb_n))) (ih2 v11)
        · refine jr_iinc (L2 := fun c => [(2, xi c), (0, xr 2 0), (1, xi f1)]) (e_31 rfl) rfl rfl rfl (fun _ => rfl) (fun v12 => ?_)
          refine jr_goto (pc' := 2) (e_31 rfl) rfl ?_
          exact jr_sub (show ([2, 0, 1] : List Nat).Nodup from by decide) (xsb_c (List.Mem.tail _ (List.Mem.head _)) (xsb_c (List.Mem.tail _ (List.Mem.tail _ (List.Mem.head _))) (xsb_c (List.Mem.head _) xsb_n))) (ih2 v12)
      · refine jr_iinc (L2 := fun c => [(2, xi c), (0, xr 2 0), (1, xi f1)]) (e_31 rfl) rfl rfl rfl (fun _ => rfl) (fun v13 => ?_)
        refine jr_goto (pc' := 2) (e_31 rfl) rfl ?_
        exact jr_sub (show ([2, 0, 1] : List Nat).Nodup from by decide) (xsb_c (List.Mem.tail _ (List.Mem.head _)) (xsb_c (List.Mem.tail _ (List.Mem.tail _ (List.Mem.head _))) (xsb_c (List.Mem.head _) xsb_n))) (ih2 v13)
noncomputable def fm_Pad_isThere (a1 : Int) (σ : xa_H) : Option (Int) :=
  fm_Pad_isThere_2 a1 σ (
    some 0) xFU 0
theorem jm_Pad_isThere (a1 : Int) (σ : xa_H) : J 31 0 [(0, xr 2 0), (1, xi a1)] [] σ (jqP σ) (fm_Pad_isThere a1 σ) := by
  unfold fm_Pad_isThere
  refine jr_iconst (e_31 rfl) rfl ?_
  refine jr_istore_n (L' := [(2, xi 0), (0, xr 2 0), (1, xi a1)]) (e_31 rfl) rfl rfl rfl ?_
  refine jr_sub (show ([2, 0, 1] : List Nat).Nodup from by decide) (xsb_c (List.Mem.tail _ (List.Mem.head _)) (xsb_c (List.Mem.tail _ (List.Mem.tail _ (List.Mem.head _))) (xsb_c (List.Mem.head _) xsb_n))) (jl_Pad_isThere_2 a1 σ _ ?_ xFU 0)
  refine jr_iconst (e_31 rfl) rfl ?_
  exact jr_retPz (e_31 rfl) rfl rfl

theorem e_30 {pc : Nat} {en : xa_I} (h : xlk pc xc_30 = some en) : xcd 30 pc = some en := h
noncomputable def fm_Pad_standsInThing (a1 : Int) (σ : xa_H) : Option (Int) :=
  if a1 < 40 then
    xnm ((xrem a1 4) : Int) fun v2 =>
    if v2 = 3 then
      (fm_Pad_groupAt a1 σ).bind fun v4 =>
      if v4 = 0 then
        some 1
      else
        if a1 ≤ 3 then
          some 0
        else
          if v4 ≤ 0 then
            some 0
          else
            some 1
    else
      (fm_Pad_digitAt a1 σ).bind fun v8 =>
      xj (fun (v10 : Int) =>
        if v10 = 0 then
          some 0
        else
          if v2 < 2 then
            some 1
          else
            (fm_Pad_isThere (w32 (a1 - 2)) σ).bind fun v17 =>
            if v17 = 0 then
              some 1
            else
              some 0) fun K11 =>
      if v8 < 0 then
        K11 0
      else
        (fm_Pad_digitAt a1 σ).bind fun v13 =>
        if 3 < v13 then
          K11 0
        else
          K11 1
  else
    some 0
theorem jm_Pad_standsInThing (a1 : Int) (σ : xa_H) : J 30 0 [(0, xr 2 0), (1, xi a1)] [] σ (jqP σ) (fm_Pad_standsInThing a1 σ) := by
  unfold fm_Pad_standsInThing
  refine jr_iload_n (e_30 rfl) rfl rfl ?_
  refine jr_bipush (e_30 rfl) rfl ?_
  refine jr_bri (c := a1 < 40) (pt := 8) (pn := 6) (e_30 rfl) rfl rfl (fun h1 => ?_) (fun h1 => ?_)
  · refine jr_iload_n (e_30 rfl) rfl rfl ?_
    refine jr_iconst (e_30 rfl) rfl ?_
    refine jr_irem (e_30 rfl) rfl (by decide) ?_
    refine jr_nm (fun v2 => ?_)
    refine jr_istore_n (L' := [(2, xi v2), (0, xr 2 0), (1, xi a1)]) (e_30 rfl) rfl rfl rfl ?_
    refine jr_iload_n (e_30 rfl) rfl rfl ?_
    refine jr_iconst (e_30 rfl) rfl ?_
    refine jr_brx (c := v2 = 3) (pt := 42) (pn := 17) (e_30 rfl) rfl rfl (fun h3 => ?_) (fun h3 => ?_)
    · refine jr_aload_n (e_30 rfl) rfl rfl ?_
      refine jr_iload_n (e_30 rfl) rfl rfl ?_
      refine jr_callP (as := [xr 2 0, xi a1]) (S1 := []) (e_30 rfl) rfl rfl rfl rfl rfl rfl (jm_Pad_groupAt a1 σ) rfl (fun v4 => ?_)
      refine jr_istore_n (L' := [(3, xi v4), (2, xi v2), (0, xr 2 0), (1, xi a1)]) (e_30 rfl) rfl rfl rfl ?_
      refine jr_iload_n (e_30 rfl) rfl rfl ?_
      refine jr_bri (c := v4 = 0) (pt := 36) (pn := 27) (e_30 rfl) rfl rfl (fun h5 => ?_) (fun h5 => ?_)
      · refine jr_iconst (e_30 rfl) rfl ?_
        refine jr_goto (pc' := 41) (e_30 rfl) rfl ?_
        exact jr_retPz (e_30 rfl) rfl rfl
      · refine jr_iload_n (e_30 rfl) rfl rfl ?_
        refine jr_iconst (e_30 rfl) rfl ?_
        refine jr_bri (c := a1 ≤ 3) (pt := 40) (pn := 32) (e_30 rfl) rfl rfl (fun h6 => ?_) (fun h6 => ?_)
        · refine jr_iconst (e_30 rfl) rfl ?_
          exact jr_retPz (e_30 rfl) rfl rfl
        · refine jr_iload_n (e_30 rfl) rfl rfl ?_
          refine jr_bri (c := v4 ≤ 0) (pt := 40) (pn := 36) (e_30 rfl) rfl rfl (fun h7 => ?_) (fun h7 => ?_)
          · refine jr_iconst (e_30 rfl) rfl ?_
            exact jr_retPz (e_30 rfl) rfl rfl
          · refine jr_iconst (e_30 rfl) rfl ?_
            refine jr_goto (pc' := 41) (e_30 rfl) rfl ?_
            exact jr_retPz (e_30 rfl) rfl rfl
    · refine jr_aload_n (e_30 rfl) rfl rfl ?_
      refine jr_iload_n (e_30 rfl) rfl rfl ?_
      refine jr_callP (as := [xr 2 0, xi a1]) (S1 := []) (e_30 rfl) rfl rfl rfl rfl rfl rfl (jm_Pad_digitAt a1 σ) rfl (fun v8 => ?_)
      refine jr_j (fun K11 => ∀ (v10 : Int), J 30 64 [(0, xr 2 0), (1, xi a1), (2, xi v2)] [xi v10] σ (jqP σ) (K11 v10)) (fun v10 => ?_) (fun K11 hK11 => ?_)
      · refine jr_istore_n (L' := [(3, xi v10), (0, xr 2 0), (1, xi a1), (2, xi v2)]) (e_30 rfl) rfl rfl rfl ?_
        refine jr_iload_n (e_30 rfl) rfl rfl ?_
        refine jr_bri (c := v10 = 0) (pt := 88) (pn := 69) (e_30 rfl) rfl rfl (fun h15 => ?_) (fun h15 => ?_)
        · refine jr_iconst (e_30 rfl) rfl ?_
          exact jr_retPz (e_30 rfl) rfl rfl
        · refine jr_iload_n (e_30 rfl) rfl rfl ?_
          refine jr_iconst (e_30 rfl) rfl ?_
          refine jr_bri (c := v2 < 2) (pt := 84) (pn := 74) (e_30 rfl) rfl rfl (fun h16 => ?_) (fun h16 => ?_)
          · refine jr_iconst (e_30 rfl) rfl ?_
            refine jr_goto (pc' := 89) (e_30 rfl) rfl ?_
            exact jr_retPz (e_30 rfl) rfl rfl
          · refine jr_aload_n (e_30 rfl) rfl rfl ?_
            refine jr_iload_n (e_30 rfl) rfl rfl ?_
            refine jr_iconst (e_30 rfl) rfl ?_
            refine jr_isub (e_30 rfl) rfl ?_
            refine jr_callP (as := [xr 2 0, xi (w32 (a1 - 2))]) (S1 := []) (e_30 rfl) rfl rfl rfl rfl rfl rfl (jm_Pad_isThere (w32 (a1 - 2)) σ) rfl (fun v17 => ?_)
            refine jr_brx (c := v17 = 0) (pt := 88) (pn := 84) (e_30 rfl) rfl rfl (fun h18 => ?_) (fun h18 => ?_)
            · refine jr_iconst (e_30 rfl) rfl ?_
              refine jr_goto (pc' := 89) (e_30 rfl) rfl ?_
              exact jr_retPz (e_30 rfl) rfl rfl
            · refine jr_iconst (e_30 rfl) rfl ?_
              exact jr_retPz (e_30 rfl) rfl rfl
      · refine jr_bri (c := v8 < 0) (pt := 63) (pn := 50) (e_30 rfl) rfl rfl (fun h12 => ?_) (fun h12 => ?_)
        · refine jr_iconst (e_30 rfl) rfl ?_
          exact jr_sub (show ([2, 0, 1] : List Nat).Nodup from by decide) (xsb_c (List.Mem.tail _ (List.Mem.head _)) (xsb_c (List.Mem.tail _ (List.Mem.tail _ (List.Mem.head _))) (xsb_c (List.Mem.head _) xsb_n))) (hK11 0)
        · refine jr_aload_n (e_30 rfl) rfl rfl ?_
          refine jr_iload_n (e_30 rfl) rfl rfl ?_
          refine jr_callP (as := [xr 2 0, xi a1]) (S1 := []) (e_30 rfl) rfl rfl rfl rfl rfl rfl (jm_Pad_digitAt a1 σ) rfl (fun v13 => ?_)
          refine jr_iconst (e_30 rfl) rfl ?_
          refine jr_bri (c := 3 < v13) (pt := 63) (pn := 59) (e_30 rfl) rfl rfl (fun h14 => ?_) (fun h14 => ?_)
          · refine jr_iconst (e_30 rfl) rfl ?_
            exact jr_sub (show ([2, 0, 1] : List Nat).Nodup from by decide) (xsb_c (List.Mem.tail _ (List.Mem.head _)) (xsb_c (List.Mem.tail _ (List.Mem.tail _ (List.Mem.head _))) (xsb_c (List.Mem.head _) xsb_n))) (hK11 0)
          · refine jr_iconst (e_30 rfl) rfl ?_
            refine jr_goto (pc' := 64) (e_30 rfl) rfl ?_
            exact jr_sub (show ([2, 0, 1] : List Nat).Nodup from by decide) (xsb_c (List.Mem.tail _ (List.Mem.head _)) (xsb_c (List.Mem.tail _ (List.Mem.tail _ (List.Mem.head _))) (xsb_c (List.Mem.head _) xsb_n))) (hK11 1)
  · refine jr_iconst (e_30 rfl) rfl ?_
    exact jr_retPz (e_30 rfl) rfl rfl

theorem e_32 {pc : Nat} {en : xa_I} (h : xlk pc xc_32 = some en) : xcd 32 pc = some en := h
noncomputable def fm_Pad_leastIsZero_11 (f1 : Int) (σ : xa_H) (K : Int → Option (Int)) : Nat → Int → Int → Option (Int)
  | 0, _, _ => none
  | n + 1, x2, x3 =>
    if (σ 2 0 1) ≤ x3 then
      K x2
    else
      (fm_Pad_digitAt x3 σ).bind fun v2 =>
      xnm ((if v2 < x2 then v2 else x2) : Int) fun v3 =>
      xnm (w32 (x3 + 4) : Int) fun v4 =>
      fm_Pad_leastIsZero_11 f1 σ K n v3 v4
theorem jl_Pad_leastIsZero_11 (f1 : Int) (σ : xa_H)  (K : Int → Option (Int)) (hK11 : ∀ (z0 : Int), J 32 35 [(0, xr 2 0), (1, xi f1), (2, xi z0)] [] σ (jqP σ) (K z0)) : ∀ (n : Nat) (x2 : Int) (x3 : Int), J 32 11 [(0, xr 2 0), (1, xi f1), (2, xi x2), (3, xi x3)] [] σ (jqP σ) (fm_Pad_leastIsZero_11 f1 σ K n x2 x3) := by
  intro n
  induction n with
  | zero => intro x2 x3; exact jr_none
  | succ n ih11 =>
    intro x2 x3
    rw [fm_Pad_leastIsZero_11]
    refine jr_iload_n (e_32 rfl) rfl rfl ?_
    refine jr_aload_n (e_32 rfl) rfl rfl ?_
    refine jr_geti (e_32 rfl) rfl (by decide +kernel) ?_
    refine jr_bri (c := (σ 2 0 1) ≤ x3) (pt := 35) (pn := 19) (e_32 rfl) rfl rfl (fun h1 => ?_) (fun h1 => ?_)
    · exact jr_sub (show ([0, 1, 2, 3] : List Nat).Nodup from by decide) (xsb_c (List.Mem.head _) (xsb_c (List.Mem.tail _ (List.Mem.head _)) (xsb_c (List.Mem.tail _ (List.Mem.tail _ (List.Mem.head _))) xsb_n))) (hK11 x2)
    · refine jr_iload_n (e_32 rfl) rfl rfl ?_
      refine jr_aload_n (e_32 rfl) rfl rfl ?_
      refine jr_iload_n (e_32 rfl) rfl rfl ?_
      refine jr_callP (as := [xr 2 0, xi x3]) (S1 := [xi x2]) (e_32 rfl) rfl rfl rfl rfl rfl rfl (jm_Pad_digitAt x3 σ) rfl (fun v2 => ?_)
      refine jr_prim (as := [xi x2, xi v2]) (S1 := []) (v := xi (if v2 < x2 then v2 else x2)) (e_32 rfl) rfl rfl rfl rfl rfl rfl rfl ?_
      refine jr_nm (fun v3 => ?_)
      refine jr_istore_n (L' := [(2, xi v3), (0, xr 2 0), (1, xi f1), (3, xi x3)]) (e_32 rfl) rfl rfl rfl ?_
      refine jr_iinc (L2 := fun c => [(3, xi c), (2, xi v3), (0, xr 2 0), (1, xi f1)]) (e_32 rfl) rfl rfl rfl (fun _ => rfl) (fun v4 => ?_)
      refine jr_goto (pc' := 11) (e_32 rfl) rfl ?_
      exact jr_sub (show ([3, 2, 0, 1] : List Nat).Nodup from by decide) (xsb_c (List.Mem.tail _ (List.Mem.tail _ (List.Mem.head _))) (xsb_c (List.Mem.tail _ (List.Mem.tail _ (List.Mem.tail _ (List.Mem.head _)))) (xsb_c (List.Mem.tail _ (List.Mem.head _)) (xsb_c (List.Mem.head _) xsb_n)))) (ih11 v3 v4)
noncomputable def fm_Pad_leastIsZero_2 (σ : xa_H) (K : Option (Int)) : Nat → Int → Option (Int)
  | 0, _ => none
  | n + 1, x1 =>
    if 3 ≤ x1 then
      K
    else
      fm_Pad_leastIsZero_11 x1 σ (fun (v5 : Int) =>
        if v5 ≤ 0 then
          xnm (w32 (x1 + 1) : Int) fun v7 =>
          fm_Pad_leastIsZero_2 σ K n v7
        else
          some 0) xFU 3 x1
theorem jl_Pad_leastIsZero_2 (σ : xa_H)  (K : Option (Int)) (hK2 : J 32 47 [] [] σ (jqP σ) (K)) : ∀ (n : Nat) (x1 : Int), J 32 2 [(0, xr 2 0), (1, xi x1)] [] σ (jqP σ) (fm_Pad_leastIsZero_2 σ K n x1) := by
  intro n
  induction n with
  | zero => intro x1; exact jr_none
  | succ n ih2 =>
    intro x1
    rw [fm_Pad_leastIsZero_2]
    refine jr_iload_n (e_32 rfl) rfl rfl ?_
    refine jr_iconst (e_32 rfl) rfl ?_
    refine jr_bri (c := 3 ≤ x1) (pt := 47) (pn := 7) (e_32 rfl) rfl rfl (fun h1 => ?_) (fun h1 => ?_)
    · exact jr_sub (show ([0, 1] : List Nat).Nodup from by decide) xsb_n (hK2)
    · refine jr_iconst (e_32 rfl) rfl ?_
      refine jr_istore_n (L' := [(2, xi 3), (0, xr 2 0), (1, xi x1)]) (e_32 rfl) rfl rfl rfl ?_
      refine jr_iload_n (e_32 rfl) rfl rfl ?_
      refine jr_istore_n (L' := [(3, xi x1), (2, xi 3), (0, xr 2 0), (1, xi x1)]) (e_32 rfl) rfl rfl rfl ?_
      refine jr_sub (show ([3, 2, 0, 1] : List Nat).Nodup from by decide) (xsb_c (List.Mem.tail _ (List.Mem.tail _ (List.Mem.head _))) (xsb_c (List.Mem.tail _ (List.Mem.tail _ (List.Mem.tail _ (List.Mem.head _)))) (xsb_c (List.Mem.tail _ (List.Mem.head _)) (xsb_c (List.Mem.head _) xsb_n)))) (jl_Pad_leastIsZero_11 x1 σ _ (fun v5 => ?_) xFU 3 x1)
      refine jr_iload_n (e_32 rfl) rfl rfl ?_
      refine jr_bri (c := v5 ≤ 0) (pt := 41) (pn := 39) (e_32 rfl) rfl rfl (fun h6 => ?_) (fun h6 => ?_)
      · refine jr_iinc (L2 := fun c => [(1, xi c), (0, xr 2 0), (2, xi v5)]) (e_32 rfl) rfl rfl rfl (fun _ => rfl) (fun v7 => ?_)
        refine jr_goto (pc' := 2) (e_32 rfl) rfl ?_
        exact jr_sub (show ([1, 0, 2] : List Nat).Nodup from by decide) (xsb_c (List.Mem.tail _ (List.Mem.head _)) (xsb_c (List.Mem.head _) xsb_n)) (ih2 v7)
      · refine jr_iconst (e_32 rfl) rfl ?_
        exact jr_retPz (e_32 rfl) rfl rfl
noncomputable def fm_Pad_leastIsZero (σ : xa_H) : Option (Int) :=
  fm_Pad_leastIsZero_2 σ (
    some 1) xFU 0
theorem jm_Pad_leastIsZero (σ : xa_H) : J 32 0 [(0, xr 2 0)] [] σ (jqP σ) (fm_Pad_leastIsZero σ) := by
  unfold fm_Pad_leastIsZero
  refine jr_iconst (e_32 rfl) rfl ?_
  refine jr_istore_n (L' := [(1, xi 0), (0, xr 2 0)]) (e_32 rfl) rfl rfl rfl ?_
  refine jr_sub (show ([1, 0] : List Nat).Nodup from by decide) (xsb_c (List.Mem.tail _ (List.Mem.head _)) (xsb_c (List.Mem.head _) xsb_n)) (jl_Pad_leastIsZero_2 σ _ ?_ xFU 0)
  refine jr_iconst (e_32 rfl) rfl ?_
  exact jr_retPz (e_32 rfl) rfl rfl

theorem e_29 {pc : Nat} {en : xa_I} (h : xlk pc xc_29 = some en) : xcd 29 pc = some en := h
noncomputable def fm_Pad_thingFault_2 (σ : xa_H) (K : Option (Int)) : Nat → Int → Option (Int)
  | 0, _ => none
  | n + 1, x1 =>
    if (σ 2 0 1) ≤ x1 then
      K
    else
      (fm_Pad_standsInThing x1 σ).bind fun v2 =>
      if v2 = 0 then
        some x1
      else
        xnm (w32 (x1 + 1) : Int) fun v4 =>
        fm_Pad_thingFault_2 σ K n v4
theorem jl_Pad_thingFault_2 (σ : xa_H)  (K : Option (Int)) (hK2 : J 29 26 [(0, xr 2 0)] [] σ (jqP σ) (K)) : ∀ (n : Nat) (x1 : Int), J 29 2 [(0, xr 2 0), (1, xi x1)] [] σ (jqP σ) (fm_Pad_thingFault_2 σ K n x1) := by
  intro n
  induction n with
  | zero => intro x1; exact jr_none
  | succ n ih2 =>
    intro x1
    rw [fm_Pad_thingFault_2]
    refine jr_iload_n (e_29 rfl) rfl rfl ?_
    refine jr_aload_n (e_29 rfl) rfl rfl ?_
    refine jr_geti (e_29 rfl) rfl (by decide +kernel) ?_
    refine jr_bri (c := (σ 2 0 1) ≤ x1) (pt := 26) (pn := 10) (e_29 rfl) rfl rfl (fun h1 => ?_) (fun h1 => ?_)
    · exact jr_sub (show ([0, 1] : List Nat).Nodup from by decide) (xsb_c (List.Mem.head _) xsb_n) (hK2)
    · refine jr_aload_n (e_29 rfl) rfl rfl ?_
      refine jr_iload_n (e_29 rfl) rfl rfl ?_
      refine jr_callP (as := [xr 2 0, xi x1]) (S1 := []) (e_29 rfl) rfl rfl rfl rfl rfl rfl (jm_Pad_standsInThing x1 σ) rfl (fun v2 => ?_)
      refine jr_brx (c := v2 = 0) (pt := 20) (pn := 18) (e_29 rfl) rfl rfl (fun h3 => ?_) (fun h3 => ?_)
      · refine jr_iload_n (e_29 rfl) rfl rfl ?_
        exact jr_retP (e_29 rfl) rfl
      · refine jr_iinc (L2 := fun c => [(1, xi c), (0, xr 2 0)]) (e_29 rfl) rfl rfl rfl (fun _ => rfl) (fun v4 => ?_)
        refine jr_goto (pc' := 2) (e_29 rfl) rfl ?_
        exact jr_sub (show ([1, 0] : List Nat).Nodup from by decide) (xsb_c (List.Mem.tail _ (List.Mem.head _)) (xsb_c (List.Mem.head _) xsb_n)) (ih2 v4)
noncomputable def fm_Pad_thingFault (σ : xa_H) : Option (Int) :=
  fm_Pad_thingFault_2 σ (
    xnm ((if (σ 2 0 1) ≤ 0 then 0 else (if (xrem (σ 2 0 1) 4) = 0 then 1 else 0)) : Int) fun v6 =>
    if v6 = 0 then
      some (σ 2 0 1)
    else
      (fm_Pad_leastIsZero σ).bind fun v10 =>
      if v10 = 0 then
        some (σ 2 0 1)
      else
        some (-6)) xFU 0
theorem jm_Pad_thingFault (σ : xa_H) : J 29 0 [(0, xr 2 0)] [] σ (jqP σ) (fm_Pad_thingFault σ) := by
  unfold fm_Pad_thingFault
  refine jr_iconst (e_29 rfl) rfl ?_
  refine jr_istore_n (L' := [(1, xi 0), (0, xr 2 0)]) (e_29 rfl) rfl rfl rfl ?_
  refine jr_sub (show ([1, 0] : List Nat).Nodup from by decide) (xsb_c (List.Mem.tail _ (List.Mem.head _)) (xsb_c (List.Mem.head _) xsb_n)) (jl_Pad_thingFault_2 σ _ ?_ xFU 0)
  refine jr_aload_n (e_29 rfl) rfl rfl ?_
  refine jr_geti (e_29 rfl) rfl (by decide +kernel) ?_
  refine jr_pm1 (fun T => ∀ v6 : Int, J 29 47 [(0, xr 2 0)] [xi v6] σ (jqP σ) (T v6)) (fun v6 => ?_) (fun T hT => ?_)
  · refine jr_istore_n (L' := [(1, xi v6), (0, xr 2 0)]) (e_29 rfl) rfl rfl rfl ?_
    refine jr_iload_n (e_29 rfl) rfl rfl ?_
    refine jr_bri (c := v6 = 0) (pt := 64) (pn := 52) (e_29 rfl) rfl rfl (fun h9 => ?_) (fun h9 => ?_)
    · refine jr_aload_n (e_29 rfl) rfl rfl ?_
      refine jr_geti (e_29 rfl) rfl (by decide +kernel) ?_
      exact jr_retP (e_29 rfl) rfl
    · refine jr_aload_n (e_29 rfl) rfl rfl ?_
      refine jr_callP (as := [xr 2 0]) (S1 := []) (e_29 rfl) rfl rfl rfl rfl rfl rfl (jm_Pad_leastIsZero σ) rfl (fun v10 => ?_)
      refine jr_bri (c := v10 = 0) (pt := 64) (pn := 59) (e_29 rfl) rfl rfl (fun h11 => ?_) (fun h11 => ?_)
      · refine jr_aload_n (e_29 rfl) rfl rfl ?_
        refine jr_geti (e_29 rfl) rfl (by decide +kernel) ?_
        exact jr_retP (e_29 rfl) rfl
      · refine jr_bipush (e_29 rfl) rfl ?_
        refine jr_goto (pc' := 68) (e_29 rfl) rfl ?_
        exact jr_retP (e_29 rfl) rfl
  · refine jr_br (c := (σ 2 0 1) ≤ 0) (pt := 46) (pn := 33) (e_29 rfl) rfl rfl (fun h7 => ?_) (fun h7 => ?_)
    · refine jr_iconst (e_29 rfl) rfl ?_
      exact (jr_nme (if_pos h7) (jr_sub (show ([0] : List Nat).Nodup from by decide) (xsb_c (List.Mem.head _) xsb_n) (hT 0)))
    · refine jr_aload_n (e_29 rfl) rfl rfl ?_
      refine jr_geti (e_29 rfl) rfl (by decide +kernel) ?_
      refine jr_iconst (e_29 rfl) rfl ?_
      refine jr_irem (e_29 rfl) rfl (by decide) ?_
      refine jr_bx (c := (xrem (σ 2 0 1) 4) = 0) (pt := 46) (pn := 42) (e_29 rfl) rfl rfl (fun h8 => ?_) (fun h8 => ?_)
      · refine jr_iconst (e_29 rfl) rfl ?_
        refine jr_goto (pc' := 47) (e_29 rfl) rfl ?_
        exact (jr_nme ((if_neg h7).trans (if_pos h8)) (jr_sub (show ([0] : List Nat).Nodup from by decide) (xsb_c (List.Mem.head _) xsb_n) (hT 1)))
      · refine jr_iconst (e_29 rfl) rfl ?_
        exact (jr_nme ((if_neg h7).trans (if_neg h8)) (jr_sub (show ([0] : List Nat).Nodup from by decide) (xsb_c (List.Mem.head _) xsb_n) (hT 0)))

theorem e_34 {pc : Nat} {en : xa_I} (h : xlk pc xc_34 = some en) : xcd 34 pc = some en := h
noncomputable def fm_Search_forget (σ : xa_H) : Option (xa_H) :=
  xnm (xup σ 3 0 8 (-1)) fun s1 =>
  some s1
theorem jm_Search_forget (σ : xa_H) : J 34 0 [(0, xr 3 0)] [] σ jqV (fm_Search_forget σ) := by
  unfold fm_Search_forget
  refine jr_aload_n (e_34 rfl) rfl rfl ?_
  refine jr_null (e_34 rfl) rfl ?_
  refine jr_putn (e_34 rfl) rfl rfl rfl ?_
  refine jr_nms (fun s1 => ?_)
  exact jr_retV (e_34 rfl)

theorem e_48 {pc : Nat} {en : xa_I} (h : xlk pc xc_48 = some en) : xcd 48 pc = some en := h
noncomputable def fm_Search_hindranceOf (a0 : Int) : Option (Int) :=
  if a0 = 0 then
    some 0
  else
    if a0 = 1 then
      some 16
    else
      some (xshl 1 (w32 (a0 - 2)))
theorem jm_Search_hindranceOf (a0 : Int) (σ : xa_H) : J 48 0 [(0, xi a0)] [] σ (jqP σ) (fm_Search_hindranceOf a0) := by
  unfold fm_Search_hindranceOf
  refine jr_iload_n (e_48 rfl) rfl rfl ?_
  refine jr_brx (c := a0 = 0) (pt := 8) (pn := 4) (e_48 rfl) rfl rfl (fun h1 => ?_) (fun h1 => ?_)
  · refine jr_iconst (e_48 rfl) rfl ?_
    refine jr_goto (pc' := 23) (e_48 rfl) rfl ?_
    exact jr_retP (e_48 rfl) rfl
  · refine jr_iload_n (e_48 rfl) rfl rfl ?_
    refine jr_iconst (e_48 rfl) rfl ?_
    refine jr_brx (c := a0 = 1) (pt := 18) (pn := 13) (e_48 rfl) rfl rfl (fun h2 => ?_) (fun h2 => ?_)
    · refine jr_bipush (e_48 rfl) rfl ?_
      refine jr_goto (pc' := 23) (e_48 rfl) rfl ?_
      exact jr_retP (e_48 rfl) rfl
    · refine jr_iconst (e_48 rfl) rfl ?_
      refine jr_iload_n (e_48 rfl) rfl rfl ?_
      refine jr_iconst (e_48 rfl) rfl ?_
      refine jr_isub (e_48 rfl) rfl ?_
      refine jr_ishl (e_48 rfl) rfl ?_
      exact jr_retP (e_48 rfl) rfl

theorem e_133 {pc : Nat} {en : xa_I} (h : xlk pc xc_133 = some en) : xcd 133 pc = some en := h
noncomputable def fm_S_xOf (a0 : Int) : Option (Int) :=
  some (xdiv a0 24)
theorem jm_S_xOf (a0 : Int) (σ : xa_H) : J 133 0 [(0, xi a0)] [] σ (jqP σ) (fm_S_xOf a0) := by
  unfold fm_S_xOf
  refine jr_iload_n (e_133 rfl) rfl rfl ?_
  refine jr_bipush (e_133 rfl) rfl ?_
  refine jr_idiv (e_133 rfl) rfl (by decide) ?_
  exact jr_retP (e_133 rfl) rfl

theorem e_134 {pc : Nat} {en : xa_I} (h : xlk pc xc_134 = some en) : xcd 134 pc = some en := h
noncomputable def fm_S_yOf (a0 : Int) : Option (Int) :=
  some (xrem (xdiv a0 4) 6)
theorem jm_S_yOf (a0 : Int) (σ : xa_H) : J 134 0 [(0, xi a0)] [] σ (jqP σ) (fm_S_yOf a0) := by
  unfold fm_S_yOf
  refine jr_iload_n (e_134 rfl) rfl rfl ?_
  refine jr_iconst (e_134 rfl) rfl ?_
  refine jr_idiv (e_134 rfl) rfl (by decide) ?_
  refine jr_bipush (e_134 rfl) rfl ?_
  refine jr_irem (e_134 rfl) rfl (by decide) ?_
  exact jr_retP (e_134 rfl) rfl

theorem e_135 {pc : Nat} {en : xa_I} (h : xlk pc xc_135 = some en) : xcd 135 pc = some en := h
noncomputable def fm_S_zOf (a0 : Int) : Option (Int) :=
  some (xrem a0 4)
theorem jm_S_zOf (a0 : Int) (σ : xa_H) : J 135 0 [(0, xi a0)] [] σ (jqP σ) (fm_S_zOf a0) := by
  unfold fm_S_zOf
  refine jr_iload_n (e_135 rfl) rfl rfl ?_
  refine jr_iconst (e_135 rfl) rfl ?_
  refine jr_irem (e_135 rfl) rfl (by decide) ?_
  exact jr_retP (e_135 rfl) rfl

theorem e_75 {pc : Nat} {en : xa_I} (h : xlk pc xc_75 = some en) : xcd 75 pc = some en := h
noncomputable def fm_Way_isCell (i0 : Nat) (a1 : Int) (σ : xa_H) : Option (Int) :=
  (fm_S_xOf a1).bind fun v1 =>
  if (σ 7 i0 0) ≤ v1 then
    some 0
  else
    (fm_S_yOf a1).bind fun v3 =>
    if (σ 7 i0 1) ≤ v3 then
      some 0
    else
      (fm_S_zOf a1).bind fun v5 =>
      if (σ 7 i0 2) ≤ v5 then
        some 0
      else
        some 1
theorem jm_Way_isCell (i0 : Nat) (a1 : Int) (σ : xa_H) : J 75 0 [(0, xr 7 i0), (1, xi a1)] [] σ (jqP σ) (fm_Way_isCell i0 a1 σ) := by
  unfold fm_Way_isCell
  refine jr_iload_n (e_75 rfl) rfl rfl ?_
  refine jr_callP (as := [xi a1]) (S1 := []) (e_75 rfl) rfl rfl rfl rfl rfl rfl (jm_S_xOf a1 σ) rfl (fun v1 => ?_)
  refine jr_aload_n (e_75 rfl) rfl rfl ?_
  refine jr_geti (e_75 rfl) rfl (by decide +kernel) ?_
  refine jr_bri (c := (σ 7 i0 0) ≤ v1) (pt := 37) (pn := 11) (e_75 rfl) rfl rfl (fun h2 => ?_) (fun h2 => ?_)
  · refine jr_iconst (e_75 rfl) rfl ?_
    exact jr_retPz (e_75 rfl) rfl rfl
  · refine jr_iload_n (e_75 rfl) rfl rfl ?_
    refine jr_callP (as := [xi a1]) (S1 := []) (e_75 rfl) rfl rfl rfl rfl rfl rfl (jm_S_yOf a1 σ) rfl (fun v3 => ?_)
    refine jr_aload_n (e_75 rfl) rfl rfl ?_
    refine jr_geti (e_75 rfl) rfl (by decide +kernel) ?_
    refine jr_bri (c := (σ 7 i0 1) ≤ v3) (pt := 37) (pn := 22) (e_75 rfl) rfl rfl (fun h4 => ?_) (fun h4 => ?_)
    · refine jr_iconst (e_75 rfl) rfl ?_
      exact jr_retPz (e_75 rfl) rfl rfl
    · refine jr_iload_n (e_75 rfl) rfl rfl ?_
      refine jr_callP (as := [xi a1]) (S1 := []) (e_75 rfl) rfl rfl rfl rfl rfl rfl (jm_S_zOf a1 σ) rfl (fun v5 => ?_)
      refine jr_aload_n (e_75 rfl) rfl rfl ?_
      refine jr_geti (e_75 rfl) rfl (by decide +kernel) ?_
      refine jr_bri (c := (σ 7 i0 2) ≤ v5) (pt := 37) (pn := 33) (e_75 rfl) rfl rfl (fun h6 => ?_) (fun h6 => ?_)
      · refine jr_iconst (e_75 rfl) rfl ?_
        exact jr_retPz (e_75 rfl) rfl rfl
      · refine jr_iconst (e_75 rfl) rfl ?_
        refine jr_goto (pc' := 38) (e_75 rfl) rfl ?_
        exact jr_retPz (e_75 rfl) rfl rfl

theorem e_77 {pc : Nat} {en : xa_I} (h : xlk pc xc_77 = some en) : xcd 77 pc = some en := h
noncomputable def fm_Way_kindAt (i0 : Nat) (a1 : Int) (σ : xa_H) : Option (Int) :=
  (fm_S_read 33 i0 a1 σ).bind fun v1 =>
  some v1
theorem jm_Way_kindAt (i0 : Nat) (a1 : Int) (σ : xa_H) : J 77 0 [(0, xr 7 i0), (1, xi a1)] [] σ (jqP σ) (fm_Way_kindAt i0 a1 σ) := by
  unfold fm_Way_kindAt
  refine jr_aload_n (e_77 rfl) rfl rfl ?_
  refine jr_getr (K2 := 33) (i2 := i0) (e_77 rfl) rfl rfl rfl ?_
  refine jr_iload_n (e_77 rfl) rfl rfl ?_
  refine jr_callP (as := [xr 33 i0, xi a1]) (S1 := []) (e_77 rfl) rfl rfl rfl rfl rfl rfl (jm_S_read 33 i0 a1 σ rfl) rfl (fun v1 => ?_)
  exact jr_retP (e_77 rfl) rfl

theorem e_47 {pc : Nat} {en : xa_I} (h : xlk pc xc_47 = some en) : xcd 47 pc = some en := h
noncomputable def fm_Search_drawGrid_11  (K : xa_H → Option (xa_H)) : Nat → Int → xa_H → Option (xa_H)
  | 0, _, _ => none
  | n + 1, x1, sh =>
    if 144 ≤ x1 then
      K sh
    else
      (fm_Way_isCell 0 x1 sh).bind fun v2 =>
      if v2 = 0 then
        xnm (w32 (x1 + 1) : Int) fun v4 =>
        fm_Search_drawGrid_11 K n v4 sh
      else
        (fm_S_read 19 0 x1 sh).bind fun v5 =>
        (fm_Way_kindAt 0 x1 sh).bind fun v6 =>
        (fm_Search_hindranceOf v6).bind fun v7 =>
        (fm_S_write 18 0 v5 v7 sh).bind fun s8 =>
        xnm (w32 (x1 + 1) : Int) fun v9 =>
        fm_Search_drawGrid_11 K n v9 s8
theorem jl_Search_drawGrid_11  (σ : xa_H)  (K : xa_H → Option (xa_H)) (hK11 : ∀ (sz : xa_H), J 47 61 [] [] sz jqV (K sz)) : ∀ (n : Nat) (x1 : Int) (sh : xa_H), J 47 11 [(0, xr 3 0), (1, xi x1)] [] sh jqV (fm_Search_drawGrid_11 K n x1 sh) := by
  intro n
  induction n with
  | zero => intro x1 sh; exact jr_none
  | succ n ih11 =>
    intro x1 sh
    rw [fm_Search_drawGrid_11]
    refine jr_iload_n (e_47 rfl) rfl rfl ?_
    refine jr_sipush (e_47 rfl) rfl ?_
    refine jr_bri (c := 144 ≤ x1) (pt := 61) (pn := 18) (e_47 rfl) rfl rfl (fun h1 => ?_) (fun h1 => ?_)
    · exact jr_sub (show ([0, 1] : List Nat).Nodup from by decide) xsb_n (hK11 sh)
    · refine jr_aload_n (e_47 rfl) rfl rfl ?_
      refine jr_getr (K2 := 7) (i2 := 0) (e_47 rfl) rfl rfl rfl ?_
      refine jr_iload_n (e_47 rfl) rfl rfl ?_
      refine jr_callP (as := [xr 7 0, xi x1]) (S1 := []) (e_47 rfl) rfl rfl rfl rfl rfl rfl (jm_Way_isCell 0 x1 sh) rfl (fun v2 => ?_)
      refine jr_bri (c := v2 = 0) (pt := 55) (pn := 29) (e_47 rfl) rfl rfl (fun h3 => ?_) (fun h3 => ?_)
      · refine jr_iinc (L2 := fun c => [(1, xi c), (0, xr 3 0)]) (e_47 rfl) rfl rfl rfl (fun _ => rfl) (fun v4 => ?_)
        refine jr_goto (pc' := 11) (e_47 rfl) rfl ?_
        exact jr_sub (show ([1, 0] : List Nat).Nodup from by decide) (xsb_c (List.Mem.tail _ (List.Mem.head _)) (xsb_c (List.Mem.head _) xsb_n)) (ih11 v4 sh)
      · refine jr_aload_n (e_47 rfl) rfl rfl ?_
        refine jr_getr (K2 := 18) (i2 := 0) (e_47 rfl) rfl rfl rfl ?_
        refine jr_aload_n (e_47 rfl) rfl rfl ?_
        refine jr_getr (K2 := 19) (i2 := 0) (e_47 rfl) rfl rfl rfl ?_
        refine jr_iload_n (e_47 rfl) rfl rfl ?_
        refine jr_callP (as := [xr 19 0, xi x1]) (S1 := [xr 18 0]) (e_47 rfl) rfl rfl rfl rfl rfl rfl (jm_S_read 19 0 x1 sh rfl) rfl (fun v5 => ?_)
        refine jr_aload_n (e_47 rfl) rfl rfl ?_
        refine jr_getr (K2 := 7) (i2 := 0) (e_47 rfl) rfl rfl rfl ?_
        refine jr_iload_n (e_47 rfl) rfl rfl ?_
        refine jr_callP (as := [xr 7 0, xi x1]) (S1 := [xi v5, xr 18 0]) (e_47 rfl) rfl rfl rfl rfl rfl rfl (jm_Way_kindAt 0 x1 sh) rfl (fun v6 => ?_)
        refine jr_callP (as := [xi v6]) (S1 := [xi v5, xr 18 0]) (e_47 rfl) rfl rfl rfl rfl rfl rfl (jm_Search_hindranceOf v6 sh) rfl (fun v7 => ?_)
        refine jr_callV (as := [xr 18 0, xi v5, xi v7]) (S1 := []) (e_47 rfl) rfl rfl rfl rfl rfl rfl (jm_S_write 18 0 v5 v7 sh rfl rfl) rfl (fun s8 => ?_)
        refine jr_iinc (L2 := fun c => [(1, xi c), (0, xr 3 0)]) (e_47 rfl) rfl rfl rfl (fun _ => rfl) (fun v9 => ?_)
        refine jr_goto (pc' := 11) (e_47 rfl) rfl ?_
        exact jr_sub (show ([1, 0] : List Nat).Nodup from by decide) (xsb_c (List.Mem.tail _ (List.Mem.head _)) (xsb_c (List.Mem.head _) xsb_n)) (ih11 v9 s8)
noncomputable def fm_Search_drawGrid (σ : xa_H) : Option (xa_H) :=
  (fm_Arrays_fill 18 0 32 σ).bind fun s1 =>
  fm_Search_drawGrid_11 (fun (s10 : xa_H) =>
    some s10) xFU 0 s1
theorem jm_Search_drawGrid (σ : xa_H) : J 47 0 [(0, xr 3 0)] [] σ jqV (fm_Search_drawGrid σ) := by
  unfold fm_Search_drawGrid
  refine jr_aload_n (e_47 rfl) rfl rfl ?_
  refine jr_getr (K2 := 18) (i2 := 0) (e_47 rfl) rfl rfl rfl ?_
  refine jr_bipush (e_47 rfl) rfl ?_
  refine jr_callV (as := [xr 18 0, xi 32]) (S1 := []) (e_47 rfl) rfl rfl rfl rfl rfl rfl (jm_Arrays_fill 18 0 32 σ rfl rfl) rfl (fun s1 => ?_)
  refine jr_iconst (e_47 rfl) rfl ?_
  refine jr_istore_n (L' := [(1, xi 0), (0, xr 3 0)]) (e_47 rfl) rfl rfl rfl ?_
  refine jr_sub (show ([1, 0] : List Nat).Nodup from by decide) (xsb_c (List.Mem.tail _ (List.Mem.head _)) (xsb_c (List.Mem.head _) xsb_n)) (jl_Search_drawGrid_11 σ _ (fun s10 => ?_) xFU 0 s1)
  exact jr_retV (e_47 rfl)

theorem e_49 {pc : Nat} {en : xa_I} (h : xlk pc xc_49 = some en) : xcd 49 pc = some en := h
noncomputable def fm_Search_gridAt (a0 : Int) (a1 : Int) (a2 : Int) : Option (Int) :=
  some (w32 ((w32 ((w32 ((w32 (a0 * 11)) + a1)) * 9)) + a2))
theorem jm_Search_gridAt (a0 : Int) (a1 : Int) (a2 : Int) (σ : xa_H) : J 49 0 [(0, xi a0), (1, xi a1), (2, xi a2)] [] σ (jqP σ) (fm_Search_gridAt a0 a1 a2) := by
  unfold fm_Search_gridAt
  refine jr_iload_n (e_49 rfl) rfl rfl ?_
  refine jr_bipush (e_49 rfl) rfl ?_
  refine jr_imul (e_49 rfl) rfl ?_
  refine jr_iload_n (e_49 rfl) rfl rfl ?_
  refine jr_iadd (e_49 rfl) rfl ?_
  refine jr_bipush (e_49 rfl) rfl ?_
  refine jr_imul (e_49 rfl) rfl ?_
  refine jr_iload_n (e_49 rfl) rfl rfl ?_
  refine jr_iadd (e_49 rfl) rfl ?_
  exact jr_retP (e_49 rfl) rfl

theorem e_66 {pc : Nat} {en : xa_I} (h : xlk pc xc_66 = some en) : xcd 66 pc = some en := h
noncomputable def fm_Turns_axisAt (a1 : Int) (a2 : Int) (σ : xa_H) : Option (Int) :=
  (fm_S_read 31 0 (w32 ((w32 (a1 * 3)) + a2)) σ).bind fun v1 =>
  some v1
theorem jm_Turns_axisAt (a1 : Int) (a2 : Int) (σ : xa_H) : J 66 0 [(0, xr 6 0), (1, xi a1), (2, xi a2)] [] σ (jqP σ) (fm_Turns_axisAt a1 a2 σ) := by
  unfold fm_Turns_axisAt
  refine jr_aload_n (e_66 rfl) rfl rfl ?_
  refine jr_getr (K2 := 31) (i2 := 0) (e_66 rfl) rfl rfl rfl ?_
  refine jr_iload_n (e_66 rfl) rfl rfl ?_
  refine jr_iconst (e_66 rfl) rfl ?_
  refine jr_imul (e_66 rfl) rfl ?_
  refine jr_iload_n (e_66 rfl) rfl rfl ?_
  refine jr_iadd (e_66 rfl) rfl ?_
  refine jr_callP (as := [xr 31 0, xi (w32 ((w32 (a1 * 3)) + a2))]) (S1 := []) (e_66 rfl) rfl rfl rfl rfl rfl rfl (jm_S_read 31 0 (w32 ((w32 (a1 * 3)) + a2)) σ rfl) rfl (fun v1 => ?_)
  exact jr_retP (e_66 rfl) rfl

theorem e_61 {pc : Nat} {en : xa_I} (h : xlk pc xc_61 = some en) : xcd 61 pc = some en := h
noncomputable def fm_Thing_along (i0 : Nat) (a2 : Int) (a3 : Int) (a4 : Int) (σ : xa_H) : Option (Int) :=
  (fm_Turns_axisAt a2 a4 σ).bind fun v1 =>
  xnm ((w32 ((if 0 ≤ v1 then v1 else w32 (0 - v1)) - 1)) : Int) fun v2 =>
  (fm_S_read 27 i0 (w32 ((w32 (a3 * 3)) + v2)) σ).bind fun v3 =>
  if v1 ≤ 0 then
    (fm_S_read 29 i0 v2 σ).bind fun v5 =>
    some (w32 (v5 - v3))
  else
    some v3
theorem jm_Thing_along (i0 : Nat) (a2 : Int) (a3 : Int) (a4 : Int) (σ : xa_H) : J 61 0 [(0, xr 5 i0), (1, xr 6 0), (2, xi a2), (3, xi a3), (4, xi a4)] [] σ (jqP σ) (fm_Thing_along i0 a2 a3 a4 σ) := by
  unfold fm_Thing_along
  refine jr_aload_n (e_61 rfl) rfl rfl ?_
  refine jr_iload_n (e_61 rfl) rfl rfl ?_
  refine jr_iload (e_61 rfl) rfl rfl ?_
  refine jr_callP (as := [xr 6 0, xi a2, xi a4]) (S1 := []) (e_61 rfl) rfl rfl rfl rfl rfl rfl (jm_Turns_axisAt a2 a4 σ) rfl (fun v1 => ?_)
  refine jr_istore (L' := [(5, xi v1), (0, xr 5 i0), (1, xr 6 0), (2, xi a2), (3, xi a3), (4, xi a4)]) (e_61 rfl) rfl rfl rfl ?_
  refine jr_iload (e_61 rfl) rfl rfl ?_
  refine jr_prim (as := [xi v1]) (S1 := []) (v := xi (if 0 ≤ v1 then v1 else w32 (0 - v1))) (e_61 rfl) rfl rfl rfl rfl rfl rfl rfl ?_
  refine jr_iconst (e_61 rfl) rfl ?_
  refine jr_isub (e_61 rfl) rfl ?_
  refine jr_nm (fun v2 => ?_)
  refine jr_istore (L' := [(6, xi v2), (5, xi v1), (0, xr 5 i0), (1, xr 6 0), (2, xi a2), (3, xi a3), (4, xi a4)]) (e_61 rfl) rfl rfl rfl ?_
  refine jr_aload_n (e_61 rfl) rfl rfl ?_
  refine jr_getr (K2 := 27) (i2 := i0) (e_61 rfl) rfl rfl rfl ?_
  refine jr_iload_n (e_61 rfl) rfl rfl ?_
  refine jr_iconst (e_61 rfl) rfl ?_
  refine jr_imul (e_61 rfl) rfl ?_
  refine jr_iload (e_61 rfl) rfl rfl ?_
  refine jr_iadd (e_61 rfl) rfl ?_
  refine jr_callP (as := [xr 27 i0, xi (w32 ((w32 (a3 * 3)) + v2))]) (S1 := []) (e_61 rfl) rfl rfl rfl rfl rfl rfl (jm_S_read 27 i0 (w32 ((w32 (a3 * 3)) + v2)) σ rfl) rfl (fun v3 => ?_)
  refine jr_istore (L' := [(7, xi v3), (6, xi v2), (5, xi v1), (0, xr 5 i0), (1, xr 6 0), (2, xi a2), (3, xi a3), (4, xi a4)]) (e_61 rfl) rfl rfl rfl ?_
  refine jr_iload (e_61 rfl) rfl rfl ?_
  refine jr_bri (c := v1 ≤ 0) (pt := 43) (pn := 38) (e_61 rfl) rfl rfl (fun h4 => ?_) (fun h4 => ?_)
  · refine jr_aload_n (e_61 rfl) rfl rfl ?_
    refine jr_getr (K2 := 29) (i2 := i0) (e_61 rfl) rfl rfl rfl ?_
    refine jr_iload (e_61 rfl) rfl rfl ?_
    refine jr_callP (as := [xr 29 i0, xi v2]) (S1 := []) (e_61 rfl) rfl rfl rfl rfl rfl rfl (jm_S_read 29 i0 v2 σ rfl) rfl (fun v5 => ?_)
    refine jr_iload (e_61 rfl) rfl rfl ?_
    refine jr_isub (e_61 rfl) rfl ?_
    exact jr_retP (e_61 rfl) rfl
  · refine jr_iload (e_61 rfl) rfl rfl ?_
    refine jr_goto (pc' := 55) (e_61 rfl) rfl ?_
    exact jr_retP (e_61 rfl) rfl

theorem e_35 {pc : Nat} {en : xa_I} (h : xlk pc xc_35 = some en) : xcd 35 pc = some en := h
noncomputable def fm_Search_about_36 (i1 : Nat) (f2 : Int) (K : xa_H → Option (xa_H)) : Nat → Int → xa_H → Option (xa_H)
  | 0, _, _ => none
  | n + 1, x3, sh =>
    if (sh 5 i1 0) ≤ x3 then
      K sh
    else
      (fm_Thing_along i1 f2 x3 0 sh).bind fun v2 =>
      (fm_Thing_along i1 f2 x3 1 sh).bind fun v3 =>
      (fm_Thing_along i1 f2 x3 2 sh).bind fun v4 =>
      (fm_Search_gridAt v2 v3 v4).bind fun v5 =>
      (fm_S_write 20 0 (w32 ((w32 (f2 * 10)) + x3)) v5 sh).bind fun s6 =>
      xnm (w32 (x3 + 1) : Int) fun v7 =>
      fm_Search_about_36 i1 f2 K n v7 s6
theorem jl_Search_about_36 (i1 : Nat) (f2 : Int) (σ : xa_H)  (K : xa_H → Option (xa_H)) (hK36 : ∀ (sz : xa_H), J 35 99 [(0, xr 3 0), (1, xr 5 i1), (2, xi f2)] [] sz jqV (K sz)) : ∀ (n : Nat) (x3 : Int) (sh : xa_H), J 35 36 [(0, xr 3 0), (1, xr 5 i1), (2, xi f2), (3, xi x3)] [] sh jqV (fm_Search_about_36 i1 f2 K n x3 sh) := by
  intro n
  induction n with
  | zero => intro x3 sh; exact jr_none
  | succ n ih36 =>
    intro x3 sh
    rw [fm_Search_about_36]
    refine jr_iload_n (e_35 rfl) rfl rfl ?_
    refine jr_aload_n (e_35 rfl) rfl rfl ?_
    refine jr_geti (e_35 rfl) rfl (by decide +kernel) ?_
    refine jr_bri (c := (sh 5 i1 0) ≤ x3) (pt := 99) (pn := 44) (e_35 rfl) rfl rfl (fun h1 => ?_) (fun h1 => ?_)
    · exact jr_sub (show ([0, 1, 2, 3] : List Nat).Nodup from by decide) (xsb_c (List.Mem.head _) (xsb_c (List.Mem.tail _ (List.Mem.head _)) (xsb_c (List.Mem.tail _ (List.Mem.tail _ (List.Mem.head _))) xsb_n))) (hK36 sh)
    · refine jr_aload_n (e_35 rfl) rfl rfl ?_
      refine jr_getr (K2 := 20) (i2 := 0) (e_35 rfl) rfl rfl rfl ?_
      refine jr_iload_n (e_35 rfl) rfl rfl ?_
      refine jr_bipush (e_35 rfl) rfl ?_
      refine jr_imul (e_35 rfl) rfl ?_
      refine jr_iload_n (e_35 rfl) rfl rfl ?_
      refine jr_iadd (e_35 rfl) rfl ?_
      refine jr_aload_n (e_35 rfl) rfl rfl ?_
      refine jr_aload_n (e_35 rfl) rfl rfl ?_
      refine jr_getr (K2 := 6) (i2 := 0) (e_35 rfl) rfl rfl rfl ?_
      refine jr_iload_n (e_35 rfl) rfl rfl ?_
      refine jr_iload_n (e_35 rfl) rfl rfl ?_
      refine jr_iconst (e_35 rfl) rfl ?_
      refine jr_callP (as := [xr 5 i1, xr 6 0, xi f2, xi x3, xi 0]) (S1 := [xi (w32 ((w32 (f2 * 10)) + x3)), xr 20 0]) (e_35 rfl) rfl rfl rfl rfl rfl rfl (jm_Thing_along i1 f2 x3 0 sh) rfl (fun v2 => ?_)
      refine jr_aload_n (e_35 rfl) rfl rfl ?_
      refine jr_aload_n (e_35 rfl) rfl rfl ?_
      refine jr_getr (K2 := 6) (i2 := 0) (e_35 rfl) rfl rfl rfl ?_
      refine jr_iload_n (e_35 rfl) rfl rfl ?_
      refine jr_iload_n (e_35 rfl) rfl rfl ?_
      refine jr_iconst (e_35 rfl) rfl ?_
      refine jr_callP (as := [xr 5 i1, xr 6 0, xi f2, xi x3, xi 1]) (S1 := [xi v2, xi (w32 ((w32 (f2 * 10)) + x3)), xr 20 0]) (e_35 rfl) rfl rfl rfl rfl rfl rfl (jm_Thing_along i1 f2 x3 1 sh) rfl (fun v3 => ?_)
      refine jr_aload_n (e_35 rfl) rfl rfl ?_
      refine jr_aload_n (e_35 rfl) rfl rfl ?_
      refine jr_getr (K2 := 6) (i2 := 0) (e_35 rfl) rfl rfl rfl ?_
      refine jr_iload_n (e_35 rfl) rfl rfl ?_
      refine jr_iload_n (e_35 rfl) rfl rfl ?_
      refine jr_iconst (e_35 rfl) rfl ?_
      refine jr_callP (as := [xr 5 i1, xr 6 0, xi f2, xi x3, xi 2]) (S1 := [xi v3, xi v2, xi (w32 ((w32 (f2 * 10)) + x3)), xr 20 0]) (e_35 rfl) rfl rfl rfl rfl rfl rfl (jm_Thing_along i1 f2 x3 2 sh) rfl (fun v4 => ?_)
      refine jr_callP (as := [xi v2, xi v3, xi v4]) (S1 := [xi (w32 ((w32 (f2 * 10)) + x3)), xr 20 0]) (e_35 rfl) rfl rfl rfl rfl rfl rfl (jm_Search_gridAt v2 v3 v4 sh) rfl (fun v5 => ?_)
      refine jr_callV (as := [xr 20 0, xi (w32 ((w32 (f2 * 10)) + x3)), xi v5]) (S1 := []) (e_35 rfl) rfl rfl rfl rfl rfl rfl (jm_S_write 20 0 (w32 ((w32 (f2 * 10)) + x3)) v5 sh rfl rfl) rfl (fun s6 => ?_)
      refine jr_iinc (L2 := fun c => [(3, xi c), (0, xr 3 0), (1, xr 5 i1), (2, xi f2)]) (e_35 rfl) rfl rfl rfl (fun _ => rfl) (fun v7 => ?_)
      refine jr_goto (pc' := 36) (e_35 rfl) rfl ?_
      exact jr_sub (show ([3, 0, 1, 2] : List Nat).Nodup from by decide) (xsb_c (List.Mem.tail _ (List.Mem.head _)) (xsb_c (List.Mem.tail _ (List.Mem.tail _ (List.Mem.head _))) (xsb_c (List.Mem.tail _ (List.Mem.tail _ (List.Mem.tail _ (List.Mem.head _)))) (xsb_c (List.Mem.head _) xsb_n)))) (ih36 v7 s6)
noncomputable def fm_Search_about_28 (i1 : Nat) (K : xa_H → Option (xa_H)) : Nat → Int → xa_H → Option (xa_H)
  | 0, _, _ => none
  | n + 1, x2, sh =>
    if 24 ≤ x2 then
      K sh
    else
      fm_Search_about_36 i1 x2 (fun (s8 : xa_H) =>
        xnm (w32 (x2 + 1) : Int) fun v9 =>
        fm_Search_about_28 i1 K n v9 s8) xFU 0 sh
theorem jl_Search_about_28 (i1 : Nat) (σ : xa_H)  (K : xa_H → Option (xa_H)) (hK28 : ∀ (sz : xa_H), J 35 105 [] [] sz jqV (K sz)) : ∀ (n : Nat) (x2 : Int) (sh : xa_H), J 35 28 [(0, xr 3 0), (1, xr 5 i1), (2, xi x2)] [] sh jqV (fm_Search_about_28 i1 K n x2 sh) := by
  intro n
  induction n with
  | zero => intro x2 sh; exact jr_none
  | succ n ih28 =>
    intro x2 sh
    rw [fm_Search_about_28]
    refine jr_iload_n (e_35 rfl) rfl rfl ?_
    refine jr_bipush (e_35 rfl) rfl ?_
    refine jr_bri (c := 24 ≤ x2) (pt := 105) (pn := 34) (e_35 rfl) rfl rfl (fun h1 => ?_) (fun h1 => ?_)
    · exact jr_sub (show ([0, 1, 2] : List Nat).Nodup from by decide) xsb_n (hK28 sh)
    · refine jr_iconst (e_35 rfl) rfl ?_
      refine jr_istore_n (L' := [(3, xi 0), (0, xr 3 0), (1, xr 5 i1), (2, xi x2)]) (e_35 rfl) rfl rfl rfl ?_
      refine jr_sub (show ([3, 0, 1, 2] : List Nat).Nodup from by decide) (xsb_c (List.Mem.tail _ (List.Mem.head _)) (xsb_c (List.Mem.tail _ (List.Mem.tail _ (List.Mem.head _))) (xsb_c (List.Mem.tail _ (List.Mem.tail _ (List.Mem.tail _ (List.Mem.head _)))) (xsb_c (List.Mem.head _) xsb_n)))) (jl_Search_about_36 i1 x2 σ _ (fun s8 => ?_) xFU 0 sh)
      refine jr_iinc (L2 := fun c => [(2, xi c), (0, xr 3 0), (1, xr 5 i1)]) (e_35 rfl) rfl rfl rfl (fun _ => rfl) (fun v9 => ?_)
      refine jr_goto (pc' := 28) (e_35 rfl) rfl ?_
      exact jr_sub (show ([2, 0, 1] : List Nat).Nodup from by decide) (xsb_c (List.Mem.tail _ (List.Mem.head _)) (xsb_c (List.Mem.tail _ (List.Mem.tail _ (List.Mem.head _))) (xsb_c (List.Mem.head _) xsb_n))) (ih28 v9 s8)
noncomputable def fm_Search_about (i1 : Nat) (σ : xa_H) : Option (xa_H) :=
  if σ 3 0 8 < 0 then
    xnm (xup σ 3 0 8 (i1 : Int)) fun s1 =>
    (fm_Arrays_fill 21 0 (-1) s1).bind fun s2 =>
    (fm_Search_drawGrid s2).bind fun s3 =>
    fm_Search_about_28 i1 (fun (s10 : xa_H) =>
      some s10) xFU 0 s3
  else
    if (σ 3 0 8).toNat = i1 then
      some σ
    else
      xnm (xup σ 3 0 8 (i1 : Int)) fun s12 =>
      (fm_Arrays_fill 21 0 (-1) s12).bind fun s13 =>
      (fm_Search_drawGrid s13).bind fun s14 =>
      fm_Search_about_28 i1 (fun (s15 : xa_H) =>
        some s15) xFU 0 s14
theorem jm_Search_about (i1 : Nat) (σ : xa_H) : J 35 0 [(0, xr 3 0), (1, xr 5 i1)] [] σ jqV (fm_Search_about i1 σ) := by
  unfold fm_Search_about
  refine jr_aload_n (e_35 rfl) rfl rfl ?_
  refine jr_getd (e_35 rfl) rfl rfl (fun h16 => ?_) (fun h16 => ?_)
  · refine jr_aload_n (e_35 rfl) rfl rfl ?_
    refine jr_s (q := (9, [(0, xr 3 0), (1, xr 5 i1)], [], σ)) (e_35 rfl) rfl rfl ?_
    refine jr_aload_n (e_35 rfl) rfl rfl ?_
    refine jr_aload_n (e_35 rfl) rfl rfl ?_
    refine jr_putr (e_35 rfl) rfl rfl rfl ?_
    refine jr_nms (fun s1 => ?_)
    refine jr_aload_n (e_35 rfl) rfl rfl ?_
    refine jr_getr (K2 := 21) (i2 := 0) (e_35 rfl) rfl rfl rfl ?_
    refine jr_iconst (e_35 rfl) rfl ?_
    refine jr_callV (as := [xr 21 0, xi (-1)]) (S1 := []) (e_35 rfl) rfl rfl rfl rfl rfl rfl (jm_Arrays_fill 21 0 (-1) s1 rfl rfl) rfl (fun s2 => ?_)
    refine jr_aload_n (e_35 rfl) rfl rfl ?_
    refine jr_callV (as := [xr 3 0]) (S1 := []) (e_35 rfl) rfl rfl rfl rfl rfl rfl (jm_Search_drawGrid s2) rfl (fun s3 => ?_)
    refine jr_iconst (e_35 rfl) rfl ?_
    refine jr_istore_n (L' := [(2, xi 0), (0, xr 3 0), (1, xr 5 i1)]) (e_35 rfl) rfl rfl rfl ?_
    refine jr_sub (show ([2, 0, 1] : List Nat).Nodup from by decide) (xsb_c (List.Mem.tail _ (List.Mem.head _)) (xsb_c (List.Mem.tail _ (List.Mem.tail _ (List.Mem.head _))) (xsb_c (List.Mem.head _) xsb_n))) (jl_Search_about_28 i1 σ _ (fun s10 => ?_) xFU 0 s3)
    exact jr_retV (e_35 rfl)
  · refine jr_aload_n (e_35 rfl) rfl rfl ?_
    refine jr_acmp (pt := 9) (e_35 rfl) rfl rfl rfl (fun h11 => ?_) (fun h11 => ?_)
    · exact jr_retV (e_35 rfl)
    · refine jr_aload_n (e_35 rfl) rfl rfl ?_
      refine jr_aload_n (e_35 rfl) rfl rfl ?_
      refine jr_putr (e_35 rfl) rfl rfl rfl ?_
      refine jr_nms (fun s12 => ?_)
      refine jr_aload_n (e_35 rfl) rfl rfl ?_
      refine jr_getr (K2 := 21) (i2 := 0) (e_35 rfl) rfl rfl rfl ?_
      refine jr_iconst (e_35 rfl) rfl ?_
      refine jr_callV (as := [xr 21 0, xi (-1)]) (S1 := []) (e_35 rfl) rfl rfl rfl rfl rfl rfl (jm_Arrays_fill 21 0 (-1) s12 rfl rfl) rfl (fun s13 => ?_)
      refine jr_aload_n (e_35 rfl) rfl rfl ?_
      refine jr_callV (as := [xr 3 0]) (S1 := []) (e_35 rfl) rfl rfl rfl rfl rfl rfl (jm_Search_drawGrid s13) rfl (fun s14 => ?_)
      refine jr_iconst (e_35 rfl) rfl ?_
      refine jr_istore_n (L' := [(2, xi 0), (0, xr 3 0), (1, xr 5 i1)]) (e_35 rfl) rfl rfl rfl ?_
      refine jr_sub (show ([2, 0, 1] : List Nat).Nodup from by decide) (xsb_c (List.Mem.tail _ (List.Mem.head _)) (xsb_c (List.Mem.tail _ (List.Mem.tail _ (List.Mem.head _))) (xsb_c (List.Mem.head _) xsb_n))) (jl_Search_about_28 i1 σ _ (fun s15 => ?_) xFU 0 s14)
      exact jr_retV (e_35 rfl)

theorem e_36 {pc : Nat} {en : xa_I} (h : xlk pc xc_36 = some en) : xcd 36 pc = some en := h
noncomputable def fm_Search_wall_2 (i1 : Nat) (K : xa_H → Option (xa_H)) : Nat → Int → xa_H → Option (xa_H)
  | 0, _, _ => none
  | n + 1, x2, sh =>
    if (sh 5 i1 0) ≤ x2 then
      K sh
    else
      (fm_Thing_along i1 (sh 5 i1 2) x2 0 sh).bind fun v2 =>
      (fm_Thing_along i1 (sh 5 i1 2) x2 1 sh).bind fun v3 =>
      (fm_Thing_along i1 (sh 5 i1 2) x2 2 sh).bind fun v4 =>
      (fm_Search_gridAt v2 v3 v4).bind fun v5 =>
      (fm_S_read 19 0 (sh 5 i1 1) sh).bind fun v6 =>
      (fm_S_write 18 0 (w32 (v6 + v5)) 16 sh).bind fun s7 =>
      xnm (w32 (x2 + 1) : Int) fun v8 =>
      fm_Search_wall_2 i1 K n v8 s7
theorem jl_Search_wall_2 (i1 : Nat) (σ : xa_H)  (K : xa_H → Option (xa_H)) (hK2 : ∀ (sz : xa_H), J 36 84 [] [] sz jqV (K sz)) : ∀ (n : Nat) (x2 : Int) (sh : xa_H), J 36 2 [(0, xr 3 0), (1, xr 5 i1), (2, xi x2)] [] sh jqV (fm_Search_wall_2 i1 K n x2 sh) := by
  intro n
  induction n with
  | zero => intro x2 sh; exact jr_none
  | succ n ih2 =>
    intro x2 sh
    rw [fm_Search_wall_2]
    refine jr_iload_n (e_36 rfl) rfl rfl ?_
    refine jr_aload_n (e_36 rfl) rfl rfl ?_
    refine jr_geti (e_36 rfl) rfl (by decide +kernel) ?_
    refine jr_bri (c := (sh 5 i1 0) ≤ x2) (pt := 84) (pn := 10) (e_36 rfl) rfl rfl (fun h1 => ?_) (fun h1 => ?_)
    · exact jr_sub (show ([0, 1, 2] : List Nat).Nodup from by decide) xsb_n (hK2 sh)
    · refine jr_aload_n (e_36 rfl) rfl rfl ?_
      refine jr_aload_n (e_36 rfl) rfl rfl ?_
      refine jr_getr (K2 := 6) (i2 := 0) (e_36 rfl) rfl rfl rfl ?_
      refine jr_aload_n (e_36 rfl) rfl rfl ?_
      refine jr_geti (e_36 rfl) rfl (by decide +kernel) ?_
      refine jr_iload_n (e_36 rfl) rfl rfl ?_
      refine jr_iconst (e_36 rfl) rfl ?_
      refine jr_callP (as := [xr 5 i1, xr 6 0, xi (sh 5 i1 2), xi x2, xi 0]) (S1 := []) (e_36 rfl) rfl rfl rfl rfl rfl rfl (jm_Thing_along i1 (sh 5 i1 2) x2 0 sh) rfl (fun v2 => ?_)
      refine jr_aload_n (e_36 rfl) rfl rfl ?_
      refine jr_aload_n (e_36 rfl) rfl rfl ?_
      refine jr_getr (K2 := 6) (i2 := 0) (e_36 rfl) rfl rfl rfl ?_
      refine jr_aload_n (e_36 rfl) rfl rfl ?_
      refine jr_geti (e_36 rfl) rfl (by decide +kernel) ?_
      refine jr_iload_n (e_36 rfl) rfl rfl ?_
      refine jr_iconst (e_36 rfl) rfl ?_
      refine jr_callP (as := [xr 5 i1, xr 6 0, xi (sh 5 i1 2), xi x2, xi 1]) (S1 := [xi v2]) (e_36 rfl) rfl rfl rfl rfl rfl rfl (jm_Thing_along i1 (sh 5 i1 2) x2 1 sh) rfl (fun v3 => ?_)
      refine jr_aload_n (e_36 rfl) rfl rfl ?_
      refine jr_aload_n (e_36 rfl) rfl rfl ?_
      refine jr_getr (K2 := 6) (i2 := 0) (e_36 rfl) rfl rfl rfl ?_
      refine jr_aload_n (e_36 rfl) rfl rfl ?_
      refine jr_geti (e_36 rfl) rfl (by decide +kernel) ?_
      refine jr_iload_n (e_36 rfl) rfl rfl ?_
      refine jr_iconst (e_36 rfl) rfl ?_
      refine jr_callP (as := [xr 5 i1, xr 6 0, xi (sh 5 i1 2), xi x2, xi 2]) (S1 := [xi v3, xi v2]) (e_36 rfl) rfl rfl rfl rfl rfl rfl (jm_Thing_along i1 (sh 5 i1 2) x2 2 sh) rfl (fun v4 => ?_)
      refine jr_callP (as := [xi v2, xi v3, xi v4]) (S1 := []) (e_36 rfl) rfl rfl rfl rfl rfl rfl (jm_Search_gridAt v2 v3 v4 sh) rfl (fun v5 => ?_)
      refine jr_istore_n (L' := [(3, xi v5), (0, xr 3 0), (1, xr 5 i1), (2, xi x2)]) (e_36 rfl) rfl rfl rfl ?_
      refine jr_aload_n (e_36 rfl) rfl rfl ?_
      refine jr_getr (K2 := 18) (i2 := 0) (e_36 rfl) rfl rfl rfl ?_
      refine jr_aload_n (e_36 rfl) rfl rfl ?_
      refine jr_getr (K2 := 19) (i2 := 0) (e_36 rfl) rfl rfl rfl ?_
      refine jr_aload_n (e_36 rfl) rfl rfl ?_
      refine jr_geti (e_36 rfl) rfl (by decide +kernel) ?_
      refine jr_callP (as := [xr 19 0, xi (sh 5 i1 1)]) (S1 := [xr 18 0]) (e_36 rfl) rfl rfl rfl rfl rfl rfl (jm_S_read 19 0 (sh 5 i1 1) sh rfl) rfl (fun v6 => ?_)
      refine jr_iload_n (e_36 rfl) rfl rfl ?_
      refine jr_iadd (e_36 rfl) rfl ?_
      refine jr_bipush (e_36 rfl) rfl ?_
      refine jr_callV (as := [xr 18 0, xi (w32 (v6 + v5)), xi 16]) (S1 := []) (e_36 rfl) rfl rfl rfl rfl rfl rfl (jm_S_write 18 0 (w32 (v6 + v5)) 16 sh rfl rfl) rfl (fun s7 => ?_)
      refine jr_iinc (L2 := fun c => [(2, xi c), (3, xi v5), (0, xr 3 0), (1, xr 5 i1)]) (e_36 rfl) rfl rfl rfl (fun _ => rfl) (fun v8 => ?_)
      refine jr_goto (pc' := 2) (e_36 rfl) rfl ?_
      exact jr_sub (show ([2, 3, 0, 1] : List Nat).Nodup from by decide) (xsb_c (List.Mem.tail _ (List.Mem.tail _ (List.Mem.head _))) (xsb_c (List.Mem.tail _ (List.Mem.tail _ (List.Mem.tail _ (List.Mem.head _)))) (xsb_c (List.Mem.head _) xsb_n))) (ih2 v8 s7)
noncomputable def fm_Search_wall (i1 : Nat) (σ : xa_H) : Option (xa_H) :=
  fm_Search_wall_2 i1 (fun (s9 : xa_H) =>
    some s9) xFU 0 σ
theorem jm_Search_wall (i1 : Nat) (σ : xa_H) : J 36 0 [(0, xr 3 0), (1, xr 5 i1)] [] σ jqV (fm_Search_wall i1 σ) := by
  unfold fm_Search_wall
  refine jr_iconst (e_36 rfl) rfl ?_
  refine jr_istore_n (L' := [(2, xi 0), (0, xr 3 0), (1, xr 5 i1)]) (e_36 rfl) rfl rfl rfl ?_
  refine jr_sub (show ([2, 0, 1] : List Nat).Nodup from by decide) (xsb_c (List.Mem.tail _ (List.Mem.head _)) (xsb_c (List.Mem.tail _ (List.Mem.tail _ (List.Mem.head _))) (xsb_c (List.Mem.head _) xsb_n))) (jl_Search_wall_2 i1 σ _ (fun s9 => ?_) xFU 0 σ)
  exact jr_retV (e_36 rfl)

theorem e_129 {pc : Nat} {en : xa_I} (h : xlk pc xc_129 = some en) : xcd 129 pc = some en := h
noncomputable def fm_S_has (a0 : Int) (a1 : Int) : Option (Int) :=
  if (xand (xshr a0 a1) 1) = 0 then
    some 0
  else
    some 1
theorem jm_S_has (a0 : Int) (a1 : Int) (σ : xa_H) : J 129 0 [(0, xi a0), (1, xi a1)] [] σ (jqP σ) (fm_S_has a0 a1) := by
  unfold fm_S_has
  refine jr_iload_n (e_129 rfl) rfl rfl ?_
  refine jr_iload_n (e_129 rfl) rfl rfl ?_
  refine jr_ishr (e_129 rfl) rfl ?_
  refine jr_iconst (e_129 rfl) rfl ?_
  refine jr_iand (e_129 rfl) rfl ?_
  refine jr_bri (c := (xand (xshr a0 a1) 1) = 0) (pt := 12) (pn := 8) (e_129 rfl) rfl rfl (fun h1 => ?_) (fun h1 => ?_)
  · refine jr_iconst (e_129 rfl) rfl ?_
    exact jr_retPz (e_129 rfl) rfl rfl
  · refine jr_iconst (e_129 rfl) rfl ?_
    refine jr_goto (pc' := 13) (e_129 rfl) rfl ?_
    exact jr_retPz (e_129 rfl) rfl rfl
