/-! the reference: the next stand; how far stands are from the goal -/
theorem q_Mstep {σ : xa_H} (ht : ymt σ) {m w : Nat} {x y z : Int} (hm : m < 12) (hw : w < 24) (h26 : σ 9 0 26 = x) (h27 : σ 9 0 27 = y) (h28 : σ 9 0 28 = z) (h29 : σ 9 0 29 = (w : Int))
    (hx : -100 ≤ x ∧ x ≤ 100) (hy : -100 ≤ y ∧ y ≤ 100) (hz : -100 ≤ z ∧ z ≤ 100) :
    xW (fm_M_step (m : Int) σ) fun s => xfm [] [26, 27, 28, 29] σ s ∧ s 9 0 26 = x + ydx m ∧ s 9 0 27 = y + ydy m ∧ s 9 0 28 = z + ydz m ∧ s 9 0 29 = ((if m < 6 then w else yn w (m - 6) : Nat) : Int) := by
  have ey : (if (m : Int) = 0 then (-1 : Int) else (if (m : Int) = 1 then 1 else 0)) = ydy m := by
    unfold ydy
    by_cases h0 : m = 0
    · rw [if_pos (by omega), if_pos h0]
    · rw [if_neg (by omega), if_neg h0]
      by_cases h1 : m = 1
      · rw [if_pos (by omega), if_pos h1]
      · rw [if_neg (by omega), if_neg h1]
  have ex : (if (m : Int) = 2 then (-1 : Int) else (if (m : Int) = 3 then 1 else 0)) = ydx m := by
    unfold ydx
    by_cases h0 : m = 2
    · rw [if_pos (by omega), if_pos h0]
    · rw [if_neg (by omega), if_neg h0]
      by_cases h1 : m = 3
      · rw [if_pos (by omega), if_pos h1]
      · rw [if_neg (by omega), if_neg h1]
  have ez : (if (m : Int) = 4 then (1 : Int) else (if (m : Int) = 5 then (-1) else 0)) = ydz m := by
    unfold ydz
    by_cases h0 : m = 4
    · rw [if_pos (by omega), if_pos h0]
    · rw [if_neg (by omega), if_neg h0]
      by_cases h1 : m = 5
      · rw [if_pos (by omega), if_pos h1]
      · rw [if_neg (by omega), if_neg h1]
  have by0 : -1 ≤ ydy m ∧ ydy m ≤ 1 := by unfold ydy; split <;> (try split) <;> omega
  have bx0 : -1 ≤ ydx m ∧ ydx m ≤ 1 := by unfold ydx; split <;> (try split) <;> omega
  have bz0 : -1 ≤ ydz m ∧ ydz m ≤ 1 := by unfold ydz; split <;> (try split) <;> omega
  unfold fm_M_step
  rw [ey, ex, ez]
  refine xW_nm (xW_nm (xW_nm (xW_nm (xW_nm (xW_nm (xW_j ?_))))))
  rw [h27, w32_n (by omega) (by omega), xup_o (σ := σ) (by omega), h26, w32_n (by omega) (by omega), xup_o (by omega), xup_o (σ := σ) (by omega), h28, w32_n (by omega) (by omega)]
  have hf : xfm [] [26, 27, 28, 29] σ (xup (xup (xup σ 9 0 27 (y + ydy m)) 9 0 26 (x + ydx m)) 9 0 28 (z + ydz m)) := xfm_t (xfm_u9 (by decide)) (xfm_t (xfm_u9 (by decide)) (xfm_u9 (by decide)))
  have r26 : xup (xup (xup σ 9 0 27 (y + ydy m)) 9 0 26 (x + ydx m)) 9 0 28 (z + ydz m) 9 0 26 = x + ydx m := by rw [xup_o (by omega), xup_at]
  have r27 : xup (xup (xup σ 9 0 27 (y + ydy m)) 9 0 26 (x + ydx m)) 9 0 28 (z + ydz m) 9 0 27 = y + ydy m := by rw [xup_o (by omega), xup_o (by omega), xup_at]
  have r28 : xup (xup (xup σ 9 0 27 (y + ydy m)) 9 0 26 (x + ydx m)) 9 0 28 (z + ydz m) 9 0 28 = z + ydz m := xup_at
  have r29 : xup (xup (xup σ 9 0 27 (y + ydy m)) 9 0 26 (x + ydx m)) 9 0 28 (z + ydz m) 9 0 29 = (w : Int) := by rw [xup_o (by omega), xup_o (by omega), xup_o (by omega)]; exact h29
  generalize xup (xup (xup σ 9 0 27 (y + ydy m)) 9 0 26 (x + ydx m)) 9 0 28 (z + ydz m) = s at hf r26 r27 r28 r29 ⊢
  have hfin : ∀ v : Int, v = ((if m < 6 then w else yn w (m - 6) : Nat) : Int) → xW (xnm (xup s 9 0 29 v) fun s20 => some s20) fun s => xfm [] [26, 27, 28, 29] σ s ∧ s 9 0 26 = x + ydx m ∧ s 9 0 27 = y + ydy m ∧ s 9 0 28 = z + ydz m ∧ s 9 0 29 = ((if m < 6 then w else yn w (m - 6) : Nat) : Int) := by
    intro v hv
    refine xW_nm (xW_some ⟨xfm_t hf (xfm_u9 (by decide)), ?_, ?_, ?_, ?_⟩)
    · rw [xup_o (by omega)]; exact r26
    · rw [xup_o (by omega)]; exact r27
    · rw [xup_o (by omega)]; exact r28
    · rw [xup_at]; exact hv
  refine xW_if (fun h5 => ?_) (fun h5 => ?_)
  · refine hfin _ ?_
    rw [if_pos (by omega), r29]
  · have e1 : w32 (w32 (w32 (6 * s 9 0 29) + (m : Int)) - 6) = ((6 * w + (m - 6) : Nat) : Int) := by
      rw [r29, w32_n (x := 6 * (w : Int)) (by omega) (by omega), w32_n (x := 6 * (w : Int) + (m : Int)) (by omega) (by omega)]
      exact w32_k (by omega) (by omega)
    rw [e1]
    refine xW_t ⟨by omega, by omega⟩ ?_
    refine hfin _ ?_
    have tn : ∀ j : Nat, ((j : Int)).toNat = j := fun j => rfl
    rw [tn, if_neg (by omega), hf.1 51 (by decide) (by decide), ht.2 _ (by omega), yn_e]
    rfl
/-- what a move leads to, where that fits -/
noncomputable def yng (P : xa_H) (c m : Nat) : Int := match ynx P c m with
  | some c' => @ite Int (yG P c') (Classical.propDecidable _) (ycr c' : Int) (-6)
  | none => -6
theorem q_next {σ P : xa_H} (ht : ymt σ) (hv : yPv P) (hsz : σ 9 0 3 = P 0 0 0 ∧ σ 9 0 4 = P 0 0 1 ∧ σ 9 0 5 = P 0 0 2) (hf : ymf σ P) {r m : Nat} (hr : r < 3456) (hm : m < 12) :
    xW (fm_M_next (r : Int) (m : Int) σ) fun v => xfm [] [26, 27, 28, 29] σ v.2 ∧ v.1 = yng P (yrc r) m := by
  have hz := hv.1
  unfold fm_M_next
  have e1 : xdiv (xrem (r : Int) 144) 24 = ((r % 144 / 24 : Nat) : Int) := by rw [xrem_p (by omega), xdiv_p (by omega)]; omega
  have e2 : xrem (xdiv (xrem (r : Int) 144) 4) 6 = ((r % 144 / 4 % 6 : Nat) : Int) := by rw [xrem_p (a := (r : Int)) (by omega), xdiv_p (by omega), xrem_p (by omega)]; omega
  have e3 : xrem (r : Int) 4 = ((r % 4 : Nat) : Int) := by rw [xrem_p (by omega)]; omega
  have e4 : xdiv (r : Int) 144 = ((r / 144 : Nat) : Int) := by rw [xdiv_p (by omega)]; omega
  rw [e1, e2, e3, e4]
  refine xW_nm (xW_nm (xW_nm (xW_nm ?_)))
  have cw : yrc r % 24 = r / 144 := by unfold yrc; omega
  have cp : yrc r / 24 = r % 144 := by unfold yrc; omega
  have r4 : r % 144 % 4 = r % 4 := by omega
  have cX : yX (yrc r) = ((r % 144 / 24 : Nat) : Int) := by unfold yX; rw [cp]
  have cY : yY (yrc r) = ((r % 144 / 4 % 6 : Nat) : Int) := by unfold yY; rw [cp]
  have cZ : yZ (yrc r) = ((r % 4 : Nat) : Int) := by unfold yZ; rw [cp, r4]
  have f0 : xfm [] [26, 27, 28, 29] σ (xup (xup (xup (xup σ 9 0 26 ((r % 144 / 24 : Nat) : Int)) 9 0 27 ((r % 144 / 4 % 6 : Nat) : Int)) 9 0 28 ((r % 4 : Nat) : Int)) 9 0 29 ((r / 144 : Nat) : Int)) :=
    xfm_t (xfm_u9 (by decide)) (xfm_t (xfm_u9 (by decide)) (xfm_t (xfm_u9 (by decide)) (xfm_u9 (by decide))))
  refine xW_bind (q_Mstep (ymt_f f0 (by decide) ht) hm (w := r / 144) (x := ((r % 144 / 24 : Nat) : Int)) (y := ((r % 144 / 4 % 6 : Nat) : Int)) (z := ((r % 4 : Nat) : Int)) (by omega) ?_ ?_ ?_ ?_ (by omega) (by omega) (by omega)) ?_
  · rw [xup_o (by omega), xup_o (by omega), xup_o (by omega), xup_at]
  · rw [xup_o (by omega), xup_o (by omega), xup_at]
  · rw [xup_o (by omega), xup_at]
  · exact xup_at
  rintro s ⟨f1, g26, g27, g28, g29⟩
  have f2 := xfm_t f0 f1
  have hsz2 : s 9 0 3 = P 0 0 0 ∧ s 9 0 4 = P 0 0 1 ∧ s 9 0 5 = P 0 0 2 := by
    rw [f2.2 0 3 (by decide), f2.2 0 4 (by decide), f2.2 0 5 (by decide)]; exact hsz
  have hqs : qsz (s 9 0 3) (s 9 0 4) (s 9 0 5) := by rw [hsz2.1, hsz2.2.1, hsz2.2.2]; exact hz
  have hcl := q_MisCell hqs (s 9 0 26) (s 9 0 27) (s 9 0 28)
  rw [hsz2.1, hsz2.2.1, hsz2.2.2, g26, g27, g28, ← cX, ← cY, ← cZ] at hcl
  rw [g26, g27, g28, ← cX, ← cY, ← cZ]
  have e70 : s 70 = σ 70 := f2.1 70 (by decide) (by decide)
  by_cases hq : (0 ≤ yX (yrc r) + ydx m ∧ yX (yrc r) + ydx m < P 0 0 0) ∧ (0 ≤ yY (yrc r) + ydy m ∧ yY (yrc r) + ydy m < P 0 0 1) ∧ (0 ≤ yZ (yrc r) + ydz m ∧ yZ (yrc r) + ydz m < P 0 0 2)
  · refine xW_be (hcl.1 hq) (xW_f (by decide) ?_)
    unfold qsz at hz
    refine xW_be (q_at (by omega) (by omega) (by omega)) (xW_nm ?_)
    rw [g29]
    have hyn : ¬ m < 6 → yn (r / 144) (m - 6) < 24 := fun h => yn_r _ (by omega) _ (by omega)
    have hway : (if m < 6 then r / 144 else yn (r / 144) (m - 6)) < 24 := by
      by_cases h6 : m < 6
      · rw [if_pos h6]; omega
      · rw [if_neg h6]; exact hyn h6
    have hnx : ynx P (yrc r) m = some (24 * (ypl (yX (yrc r) + ydx m) (yY (yrc r) + ydy m) (yZ (yrc r) + ydz m)).toNat + (if m < 6 then r / 144 else yn (r / 144) (m - 6))) := by
      unfold ynx
      by_cases h6 : m < 6
      · rw [if_pos h6, if_pos hq, if_pos h6, cw]
      · rw [if_neg h6, if_neg h6, cw, cp]
        have d0 : ydx m = 0 ∧ ydy m = 0 ∧ ydz m = 0 := by
          unfold ydx ydy ydz
          rw [if_neg (by omega), if_neg (by omega), if_neg (by omega), if_neg (by omega), if_neg (by omega), if_neg (by omega)]
          exact ⟨rfl, rfl, rfl⟩
        rw [d0.1, d0.2.1, d0.2.2, cX, cY, cZ]
        have hp0 : (ypl (((r % 144 / 24 : Nat) : Int) + 0) (((r % 144 / 4 % 6 : Nat) : Int) + 0) (((r % 4 : Nat) : Int) + 0)).toNat = r % 144 := by
          unfold ypl
          rw [← r4]
          have : r % 144 < 144 := Nat.mod_lt _ (by decide)
          generalize r % 144 = b at this ⊢
          omega
        rw [hp0]
    generalize (if m < 6 then r / 144 else yn (r / 144) (m - 6)) = w' at hway hnx ⊢
    have hpl : 0 ≤ ypl (yX (yrc r) + ydx m) (yY (yrc r) + ydy m) (yZ (yrc r) + ydz m) ∧ ypl (yX (yrc r) + ydx m) (yY (yrc r) + ydy m) (yZ (yrc r) + ydz m) < 144 := by unfold ypl; omega
    have epl : 24 * (yX (yrc r) + ydx m) + 4 * (yY (yrc r) + ydy m) + (yZ (yrc r) + ydz m) = ypl (yX (yrc r) + ydx m) (yY (yrc r) + ydy m) (yZ (yrc r) + ydz m) := rfl
    rw [epl]
    generalize ypl (yX (yrc r) + ydx m) (yY (yrc r) + ydy m) (yZ (yrc r) + ydz m) = p at hpl hnx ⊢
    have e5 : w32 (w32 (144 * (w' : Int)) + p) = ((144 * w' + p.toNat : Nat) : Int) := w32_2 (by omega) (by omega) (by omega)
    rw [e5]
    have tn : ∀ j : Nat, ((j : Int)).toNat = j := fun j => rfl
    have hcr : ycr (24 * p.toNat + w') = 144 * w' + p.toNat := by unfold ycr; omega
    have hrc : yrc (144 * w' + p.toNat) = 24 * p.toNat + w' := by unfold yrc; omega
    have hff := hf (144 * w' + p.toNat) (by omega)
    rw [hrc] at hff
    rw [tn, e70]
    refine xW_t ⟨by omega, by omega⟩ ?_
    unfold yng
    rw [hnx]
    rcases hff with ⟨h1, h2⟩ | ⟨h1, h2⟩
    · refine xW_f (by omega) (xW_some ⟨f2, ?_⟩)
      show ((144 * w' + p.toNat : Nat) : Int) = @ite Int (yG P (24 * p.toNat + w')) (Classical.propDecidable _) (ycr (24 * p.toNat + w') : Int) (-6)
      rw [if_pos h2, hcr]
    · refine xW_t h1 (xW_some ⟨f2, ?_⟩)
      show (-6 : Int) = @ite Int (yG P (24 * p.toNat + w')) (Classical.propDecidable _) (ycr (24 * p.toNat + w') : Int) (-6)
      rw [if_neg h2]
  · refine xW_be (hcl.2 hq) (xW_t rfl (xW_some ⟨f2, ?_⟩))
    show (-6 : Int) = yng P (yrc r) m
    unfold yng
    cases hnx : ynx P (yrc r) m with
    | none => rfl
    | some c' =>
      dsimp only
      rw [if_neg]
      intro hG
      unfold ynx at hnx
      by_cases h6 : m < 6
      · rw [if_pos h6, if_neg hq] at hnx; cases hnx
      · rw [if_neg h6] at hnx
        have e := Option.some.inj hnx
        have d0 : ydx m = 0 ∧ ydy m = 0 ∧ ydz m = 0 := by
          unfold ydx ydy ydz
          rw [if_neg (by omega), if_neg (by omega), if_neg (by omega), if_neg (by omega), if_neg (by omega), if_neg (by omega)]
          exact ⟨rfl, rfl, rfl⟩
        have hyn := yn_r (yrc r % 24) (by omega) (m - 6) (by omega)
        have hd : c' / 24 = yrc r / 24 := by omega
        have := hG.2.1
        unfold yqin at this
        have h3 : yX c' = yX (yrc r) ∧ yY c' = yY (yrc r) ∧ yZ c' = yZ (yrc r) := by unfold yX yY yZ; rw [hd]; exact ⟨rfl, rfl, rfl⟩
        rw [h3.1, h3.2.1, h3.2.2] at this
        unfold qin at this
        apply hq
        rw [d0.1, d0.2.1, d0.2.2]
        omega
theorem q_undo {m : Nat} (hm : m < 12) : fm_M_undo (m : Int) = some ((yud m : Nat) : Int) := q_opp hm
