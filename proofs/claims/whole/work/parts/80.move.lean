/-! judge and move -/
def ylq (P : xa_H) (w : Nat) (x y z : Int) : Prop := yqin P x y z ∧ ∀ k, k < (P 2 0 0).toNat → yqin P (x + yp P w k 0) (y + yp P w k 1) (z + yp P w k 2)
theorem ylq_fit {P : xa_H} (hA : P 5 0 0 = 0) {w : Nat} {x y z : Int} (h : yfit P w x y z) : ylq P w x y z := ⟨h.1, fun k hk => (h.2 k hk (yon_0 hA k)).1⟩
/-- a row is followed: the first move that can not be, why, the stand -/
noncomputable def yjd (P : xa_H) (s : Nat → Int) : Nat → Nat → Nat → Int × Int × Nat
  | 0, _, c => (-6, -6, c)
  | d + 1, i, c => match ynx P c (ymv (s i)).toNat with
    | none => ((i : Int), 1, c)
    | some c' => if ywhy P (c' % 24) (yX c') (yY c') (yZ c') = 0 then yjd P s d (i + 1) c' else ((i : Int), ywhy P (c' % 24) (yX c') (yY c') (yZ c'), c)
noncomputable def yjdf (f : xa_H) (t : Nat) : Int × Int × Nat := yjd (yPl f t) (f 8 0) (f 7 0 0).toNat 0 (ystd f 0 t)
noncomputable def ajud (f : xa_H) (t w : Int) : Int := if 0 ≤ t ∧ t ≤ 3 then (if 0 ≤ w ∧ w ≤ 1 then (if f 2 t.toNat 1 < 0 then -3 else if yrwf (f 8 0) (f 7 0 0).toNat (f 7 0 0).toNat 0 < 0 then (if w = 0 then (yjdf f t.toNat).1 else (yjdf f t.toNat).2.1) else -5) else -2) else -1
noncomputable def amov (f : xa_H) (t : Int) : Int × xa_H := if 0 ≤ t ∧ t ≤ 3 then (if f 2 t.toNat 1 < 0 then (-3, f) else if yrwf (f 8 0) (f 7 0 0).toNat (f 7 0 0).toNat 0 < 0 ∧ (yjdf f t.toNat).1 < 0 then
  (anum (((yjdf f t.toNat).2.2 / 24 : Nat) : Int), alay1 f t.toNat (((yjdf f t.toNat).2.2 / 24 : Nat) : Int) ((yjdf f t.toNat).2.2 % 24)) else (-5, f)) else (-1, f)
theorem yjd_i {P : xa_H} {s : Nat → Int} : ∀ {d i c : Nat}, ((yjd P s d i c).1 < 0 ∧ (yjd P s d i c).1 = -6 ∧ (yjd P s d i c).2.1 = -6) ∨ (0 ≤ (yjd P s d i c).1 ∧ 1 ≤ (yjd P s d i c).2.1) := by
  intro d
  induction d with
  | zero => intro i c; left; exact ⟨(by show (-6 : Int) < 0; decide), rfl, rfl⟩
  | succ d ih =>
    intro i c
    unfold yjd
    cases ynx P c (ymv (s i)).toNat with
    | none => right; exact ⟨(by show (0 : Int) ≤ (i : Int); omega), (by show (1 : Int) ≤ 1; decide)⟩
    | some c' =>
      dsimp only
      by_cases h : ywhy P (c' % 24) (yX c') (yY c') (yZ c') = 0
      · rw [if_pos h]; exact ih
      · rw [if_neg h]
        right
        refine ⟨by show (0 : Int) ≤ (i : Int); omega, ?_⟩
        show 1 ≤ ywhy P (c' % 24) (yX c') (yY c') (yZ c')
        rcases ywhy_r (P := P) (c' % 24) (yX c') (yY c') (yZ c') with h2 | h2 | h2 <;> omega
def yqs (P : xa_H) (c : Nat) : Prop := c < 3456 ∧ ylq P (c % 24) (yX c) (yY c) (yZ c)
theorem yqs_c {P : xa_H} {c : Nat} (h : yqs P c) : ycell P c := ⟨h.1, h.2.1⟩
theorem yqs_n {P : xa_H} (hz : qsz (P 0 0 0) (P 0 0 1) (P 0 0 2)) (hA : P 5 0 0 = 0) (hD : P 5 0 1 = 0) {c c' m : Nat} (hc : yqs P c) (hm : m < 12) (h : ynx P c m = some c') (hw : ywhy P (c' % 24) (yX c') (yY c') (yZ c') = 0) : yqs P c' :=
  ⟨(ynx_c hz (yqs_c hc) hm h).1, ylq_fit hA ((ywhy_fit hA hD _ _ _ _).mp hw)⟩
theorem yjd_q {P : xa_H} (hz : qsz (P 0 0 0) (P 0 0 1) (P 0 0 2)) (hA : P 5 0 0 = 0) (hD : P 5 0 1 = 0) {s : Nat → Int} {n : Nat} (hs : ∀ i, i < n → 0 ≤ ymv (s i)) : ∀ {d i c : Nat}, i + d = n → yqs P c → yqs P (yjd P s d i c).2.2 := by
  intro d
  induction d with
  | zero => intro i c _ hc; exact hc
  | succ d ih =>
    intro i c hi hc
    have hr := ymv_r (c := s i)
    have h0 := hs i (by omega)
    unfold yjd
    cases hnx : ynx P c (ymv (s i)).toNat with
    | none => exact hc
    | some c' =>
      dsimp only
      by_cases h : ywhy P (c' % 24) (yX c') (yY c') (yZ c') = 0
      · rw [if_pos h]
        exact ih (by omega) (yqs_n hz hA hD hc (by omega) hnx h)
      · rw [if_neg h]; exact hc
theorem ystd_q {f : xa_H} (hv : yv f) {t : Nat} (ht : t < 4) (hl : ¬ f 2 t 1 < 0) : yqs (yPl f t) (ystd f 0 t) ∧ ylie f 0 t := by
  have h := hv.1.2.2.1 t ht
  have hlie : ylie f 0 t := by
    rcases h.2.2.2.1 with h1 | h1
    · have h1 : f 2 t 1 = -6 := h1
      omega
    · exact h1
  obtain ⟨a1, a2, a3, a4, a5, a6⟩ := ystd_r hlie h.2.2.2.2.1
  refine ⟨⟨a1, ?_⟩, hlie⟩
  rw [a4, a5, a6]
  refine ⟨hlie.2.2.1, fun k hk => ?_⟩
  have := hlie.2.2.2 k hk
  have e : ystd f 0 t % 24 = (f (0 + 2) t 2).toNat := by omega
  rw [e]
  exact this
/-- the pad tells moves -/
theorem yrw_mv {f : xa_H} (h : yrwf (f 8 0) (f 7 0 0).toNat (f 7 0 0).toNat 0 < 0) : ∀ i, i < (f 7 0 0).toNat → 0 ≤ ymv (f 8 0 i) := by
  intro i hi
  rcases yrwf_n (s := f 8 0) (n := (f 7 0 0).toNat) (d := (f 7 0 0).toNat) (j := 0) (by omega) h with ⟨_, h⟩ | h
  · exact h i (by omega) hi
  · omega
theorem V_lay2 {f : xa_H} (hv : yv f) {t : Nat} (ht : t < 4) (hn : 1 ≤ f 2 t 0) {c : Nat} (hq : yqs (yPl f t) c) : yv (alay1 f t ((c / 24 : Nat) : Int) (c % 24)) := by
  have hc := hq.1
  refine V_clr (yv_up hv (yval_th (f' := xup (xup f 2 t 1 ((c / 24 : Nat) : Int)) 2 t 2 ((c % 24 : Nat) : Int)) (t := t) hv.1 ?_ ?_ ?_ ?_ ?_ ?_ (fun t' ht' => ?_) ?_) ?_ (fun K' hK => ?_))
  · rw [xup_k (by decide), xup_k (by decide)]
  · rw [xup_k (by decide), xup_k (by decide)]
  · rw [xup_k (by decide), xup_k (by decide)]
  · rw [xup_k (by decide), xup_k (by decide)]
  · rw [xup_k (by decide), xup_k (by decide)]
  · rw [xup_k (by decide), xup_k (by decide)]
  · rw [xup_i (by omega), xup_i (by omega)]
  · obtain ⟨a1, a2, a3, a4, a5, a6, a7⟩ := hv.1.2.2.1 t ht
    have hC : yC (xup (xup f 2 t 1 ((c / 24 : Nat) : Int)) 2 t 2 ((c % 24 : Nat) : Int)) 0 t = yC f 0 t := by unfold yC; rw [xup_k (by decide), xup_k (by decide)]
    have e0 : xup (xup f 2 t 1 ((c / 24 : Nat) : Int)) 2 t 2 ((c % 24 : Nat) : Int) (0 + 2) t 0 = f (0 + 2) t 0 := by rw [xup_o (by omega), xup_o (by omega)]
    have e1 : xup (xup f 2 t 1 ((c / 24 : Nat) : Int)) 2 t 2 ((c % 24 : Nat) : Int) (0 + 2) t 1 = ((c / 24 : Nat) : Int) := by rw [xup_o (by omega)]; exact xup_at
    have e2 : xup (xup f 2 t 1 ((c / 24 : Nat) : Int)) 2 t 2 ((c % 24 : Nat) : Int) (0 + 2) t 2 = ((c % 24 : Nat) : Int) := xup_at
    have e3 : xup (xup f 2 t 1 ((c / 24 : Nat) : Int)) 2 t 2 ((c % 24 : Nat) : Int) (0 + 2) t 3 = f (0 + 2) t 3 := by rw [xup_o (by omega), xup_o (by omega)]
    have k0 : xup (xup f 2 t 1 ((c / 24 : Nat) : Int)) 2 t 2 ((c % 24 : Nat) : Int) 0 = f 0 := by rw [xup_k (by decide), xup_k (by decide)]
    have k5 : xup (xup f 2 t 1 ((c / 24 : Nat) : Int)) 2 t 2 ((c % 24 : Nat) : Int) (0 + 5) = f (0 + 5) := by rw [xup_k (by decide), xup_k (by decide)]
    have k6 : xup (xup f 2 t 1 ((c / 24 : Nat) : Int)) 2 t 2 ((c % 24 : Nat) : Int) (0 + 6) = f (0 + 6) := by rw [xup_k (by decide), xup_k (by decide)]
    refine ⟨by rw [e0]; exact a1, by rw [e0, hC]; exact a2, by rw [e0, k6]; exact a3, Or.inr ?_, by rw [e2]; omega, by rw [e3, k0]; exact a6, by rw [k5]; exact a7⟩
    unfold ylie
    rw [e0, e1, e2, hC, k0]
    have tn : (((c % 24 : Nat) : Int)).toNat = c % 24 := rfl
    have d1 : ((c / 24 : Nat) : Int) / 24 = yX c := by unfold yX; omega
    have d2 : ((c / 24 : Nat) : Int) / 4 % 6 = yY c := by unfold yY; omega
    have d3 : ((c / 24 : Nat) : Int) % 4 = yZ c := by unfold yZ; omega
    rw [tn, d1, d2, d3]
    exact ⟨hn, by omega, hq.2.1, hq.2.2⟩
  · show (0 ≤ xup (xup f 2 t 1 ((c / 24 : Nat) : Int)) 2 t 2 ((c % 24 : Nat) : Int) 7 0 0 ∧ xup (xup f 2 t 1 ((c / 24 : Nat) : Int)) 2 t 2 ((c % 24 : Nat) : Int) 7 0 0 ≤ 60) ∧ ∀ i, (i : Nat) < (xup (xup f 2 t 1 ((c / 24 : Nat) : Int)) 2 t 2 ((c % 24 : Nat) : Int) 7 0 0).toNat → 33 ≤ xup (xup f 2 t 1 ((c / 24 : Nat) : Int)) 2 t 2 ((c % 24 : Nat) : Int) 8 0 i ∧ xup (xup f 2 t 1 ((c / 24 : Nat) : Int)) 2 t 2 ((c % 24 : Nat) : Int) 8 0 i ≤ 126
    have k7 : xup (xup f 2 t 1 ((c / 24 : Nat) : Int)) 2 t 2 ((c % 24 : Nat) : Int) 7 = f 7 := by rw [xup_k (by decide), xup_k (by decide)]
    have k8 : xup (xup f 2 t 1 ((c / 24 : Nat) : Int)) 2 t 2 ((c % 24 : Nat) : Int) 8 = f 8 := by rw [xup_k (by decide), xup_k (by decide)]
    rw [k7, k8]
    exact hv.2.1
  · rw [xup_k (by omega), xup_k (by omega)]
theorem V_mov {f : xa_H} (hv : yv f) (t : Int) : yv (amov f t).2 := by
  unfold amov
  split
  · rename_i ht
    split
    · exact hv
    · rename_i hl
      split
      · rename_i h1
        obtain ⟨q1, q2⟩ := ystd_q hv (show t.toNat < 4 by omega) hl
        have hz : qsz (yPl f t.toNat 0 0 0) (yPl f t.toNat 0 0 1) (yPl f t.toNat 0 0 2) := hv.1.1
        exact V_lay2 hv (by omega) q2.1 (yjd_q hz rfl rfl (yrw_mv h1.1) (by omega) q1)
      · exact hv
  · exact hv
section JC
variable {σ f : xa_H} {t : Nat}
theorem l_judged (hs : yc σ f) (hv : yv f) (ht : t < 4) (hn : 1 ≤ f 2 t 0) (hsc : ysc σ (yPl f t)) (hm : ∀ i, i < (f 7 0 0).toNat → 0 ≤ ymv (f 8 0 i)) {w : Int} {i1 : Nat} :
    ∀ (d j fu c : Nat), j + d = (f 7 0 0).toNat → d < fu → yqs (yPl f t) c → fm_S_judged_16 i1 w σ (some (-6, σ)) fu (c : Int) (j : Int) = some (if w = 0 then (yjd (yPl f t) (f 8 0) d j c).1 else (yjd (yPl f t) (f 8 0) d j c).2.1, σ) := by
  obtain ⟨hp, hg⟩ := ypd_c hs.1 hv
  have hPv := yPl_v hv ht hn
  have hwy : ywy σ (yPl f t) := yst_wy hs.1
  intro d
  induction d with
  | zero =>
    intro j fu c hj hd hc
    obtain ⟨m, rfl⟩ : ∃ m, fu = m + 1 := ⟨fu - 1, by omega⟩
    rw [fm_S_judged_16, hp.1, if_pos (by omega)]
    unfold yjd
    by_cases hw : w = 0
    · rw [if_pos hw]
    · rw [if_neg hw]
  | succ d ih =>
    intro j fu c hj hd hc
    obtain ⟨m, rfl⟩ : ∃ m, fu = m + 1 := ⟨fu - 1, by omega⟩
    have hr := ymv_r (c := f 8 0 j)
    have h0 := hm j (by omega)
    have hgn := hg.1
    rw [fm_S_judged_16, hp.1, if_neg (by omega), q_moveAtC hg hp (by omega), Option.bind_some]
    have e : ymv (f 8 0 j) = (((ymv (f 8 0 j)).toNat : Nat) : Int) := by omega
    rw [e, q_step hs.1.1 hPv.1 hwy hc.1 (by omega), Option.bind_some]
    unfold yjd
    cases hnx : ynx (yPl f t) c (ymv (f 8 0 j)).toNat with
    | none =>
      show ((fm_Search_why (-6) σ).bind _) = _
      rw [q_why_n, Option.bind_some, if_neg (by decide)]
      dsimp only
      by_cases hw : w = 0
      · rw [if_pos hw, if_pos hw]
      · rw [if_neg hw, if_neg hw]
    | some c' =>
      show ((fm_Search_why (c' : Int) σ).bind _) = _
      have hc' := ynx_c hPv.1 (yqs_c hc) (by omega) hnx
      rw [q_why hs.1.1 hPv hsc hc', Option.bind_some]
      dsimp only
      by_cases h : ywhy (yPl f t) (c' % 24) (yX c') (yY c') (yZ c') = 0
      · rw [if_pos h, if_pos h, xnm_e, w32_s (by omega)]
        exact ih (j + 1) m c' (by omega) (by omega) (yqs_n hPv.1 rfl rfl hc (by omega) hnx h)
      · rw [if_neg h, if_neg h]
        by_cases hw : w = 0
        · rw [if_pos hw, if_pos hw]
        · rw [if_neg hw, if_neg hw]
theorem q_stand (hs : yst σ f) (hv : yv f) (ht : t < 4) (hl : ¬ f 2 t 1 < 0) : fm_Thing_stand t σ = some ((ystd f 0 t : Nat) : Int) := by
  have hth := hs.2.1.2.2.1 t ht
  have e4 : 4 * 0 + t = t := by omega
  rw [e4] at hth
  obtain ⟨_, hlie⟩ := ystd_q hv ht hl
  have hw := (hv.1.2.2.1 t ht).2.2.2.2.1
  have h2 := hlie.2.1
  unfold fm_Thing_stand
  rw [hth.1.2.1, hth.1.2.2.1]
  have e : w32 (w32 (f (0 + 2) t 1 * 24) + f (0 + 2) t 2) = ((ystd f 0 t : Nat) : Int) := by
    unfold ystd
    exact w32_2 (by omega) (by omega) (by omega)
  rw [e]
theorem q_judged (hs : yc σ f) (hv : yv f) (ht : t < 4) (hl : ¬ f 2 t 1 < 0) (hm : ∀ i, i < (f 7 0 0).toNat → 0 ≤ ymv (f 8 0 i)) (w : Int) :
    xW (fm_S_judged t w σ) fun r => r.1 = (if w = 0 then (yjdf f t).1 else (yjdf f t).2.1) ∧ yc r.2 f := by
  obtain ⟨q1, q2⟩ := ystd_q hv ht hl
  unfold fm_S_judged
  refine xW_bind (q_about_c hs hv ht q2.1) ?_
  rintro s ⟨b1, b2, b3, b4, b5, _⟩
  refine xW_be (q_stand b1.1 hv ht hl) ?_
  refine xW_eq (l_judged (i1 := t) (w := w) b1 hv ht q2.1 b2 hm (f 7 0 0).toNat 0 xFU (ystd f 0 t) (by omega) (xfu_b (by have := (ypg_v hv).1; omega)) q1) ⟨rfl, b1⟩
end JC
theorem K_judge {σ f : xa_H} (hs : yc σ f) (hv : yv f) (t w : Int) : xW (fm_S_judge t w σ) fun r => r.1 = ajud f t w ∧ yc r.2 f := by
  obtain ⟨hp, hg⟩ := ypd_c hs.1 hv
  have hup : ∀ {g : Int → Option (Int × xa_H)} {Q : Int × xa_H → Prop}, xW (g (if 0 ≤ w ∧ w ≤ 1 then 1 else 0)) Q → xW ((fm_S_isUpTo w 1).bind g) Q := fun h => xW_be (q_upTo w 1) h
  unfold fm_S_judge
  by_cases ht : 0 ≤ t ∧ t ≤ 3
  · have hth := hs.1.2.1.2.2.1 t.toNat (by omega)
    have e4 : 4 * 0 + t.toNat = t.toNat := by omega
    rw [e4] at hth
    have e1 : σ 5 t.toNat 1 = f 2 t.toNat 1 := hth.1.2.1
    refine xW_f (by omega) (xW_f (by omega) (xW_t (by omega) (hup ?_)))
    rw [e4, e1]
    by_cases hw : 0 ≤ w ∧ w ≤ 1
    · rw [if_pos hw]
      refine xW_f (by decide) ?_
      by_cases hl : f 2 t.toNat 1 < 0
      · have eA : ajud f t w = -3 := by unfold ajud; rw [if_pos ht, if_pos hw, if_pos hl]
        rw [eA]
        exact xW_f (by omega) (xW_f (by decide) (xW_some ⟨rfl, hs⟩))
      · refine xW_t (by omega) (xW_t rfl (xW_be (q_rowFaultC hg hp) ?_))
        by_cases hrf : yrwf (f 8 0) (f 7 0 0).toNat (f 7 0 0).toNat 0 < 0
        · have hr6 : yrwf (f 8 0) (f 7 0 0).toNat (f 7 0 0).toNat 0 = -6 := by
            rcases yrwf_r (s := f 8 0) (n := (f 7 0 0).toNat) (d := (f 7 0 0).toNat) (j := 0) with h | h
            · exact h
            · omega
          have eA : ajud f t w = (if w = 0 then (yjdf f t.toNat).1 else (yjdf f t.toNat).2.1) := by unfold ajud; rw [if_pos ht, if_pos hw, if_neg hl, if_pos hrf]
          rw [eA]
          refine xW_t hr6 (xW_b2 (q_judged hs hv (by omega) hl (yrw_mv hrf) w) ?_)
          rintro v s h
          exact xW_some h
        · have eA : ajud f t w = -5 := by unfold ajud; rw [if_pos ht, if_pos hw, if_neg hl, if_neg hrf]
          rw [eA]
          exact xW_f (by omega) (xW_some ⟨rfl, hs⟩)
    · have eA : ajud f t w = -2 := by unfold ajud; rw [if_pos ht, if_neg hw]
      rw [eA, if_neg hw]
      exact xW_t rfl (xW_f (by decide) (xW_some ⟨rfl, hs⟩))
  · have eA : ajud f t w = -1 := by unfold ajud; rw [if_neg ht]
    rw [eA]
    by_cases h1 : t < 0
    · exact xW_t h1 (hup (xW_some ⟨rfl, hs⟩))
    · exact xW_f h1 (xW_t (by omega) (hup (xW_some ⟨rfl, hs⟩)))
theorem K_move {σ f : xa_H} (hs : yc σ f) (hv : yv f) (t : Int) : xW (fm_S_move t σ) fun r => r.1 = (amov f t).1 ∧ yc r.2 (amov f t).2 := by
  obtain ⟨hp, hg⟩ := ypd_c hs.1 hv
  unfold fm_S_move
  by_cases ht : 0 ≤ t ∧ t ≤ 3
  · have hth := hs.1.2.1.2.2.1 t.toNat (by omega)
    have e4 : 4 * 0 + t.toNat = t.toNat := by omega
    rw [e4] at hth
    have e1 : σ 5 t.toNat 1 = f 2 t.toNat 1 := hth.1.2.1
    refine xW_f (by omega) (xW_f (by omega) (xW_t (by omega) (xW_f (by decide) ?_)))
    rw [e4, e1]
    by_cases hl : f 2 t.toNat 1 < 0
    · have eA : amov f t = (-3, f) := by unfold amov; rw [if_pos ht, if_pos hl]
      rw [eA]
      exact xW_f (by omega) (xW_f (by decide) (xW_some ⟨rfl, hs⟩))
    · refine xW_t (by omega) (xW_t rfl (xW_be (q_rowFaultC hg hp) ?_))
      by_cases hrf : yrwf (f 8 0) (f 7 0 0).toNat (f 7 0 0).toNat 0 < 0
      · have hr6 : yrwf (f 8 0) (f 7 0 0).toNat (f 7 0 0).toNat 0 = -6 := by
          rcases yrwf_r (s := f 8 0) (n := (f 7 0 0).toNat) (d := (f 7 0 0).toNat) (j := 0) with h | h
          · exact h
          · omega
        have hm := yrw_mv hrf
        obtain ⟨q1, q2⟩ := ystd_q hv (show t.toNat < 4 by omega) hl
        refine xW_t hr6 (xW_b2 (q_judged hs hv (by omega) hl hm 0) ?_)
        rintro v s ⟨k1, k2⟩
        have k1 : v = (yjdf f t.toNat).1 := k1
        have k2 : yc s f := k2
        by_cases hbad : (yjdf f t.toNat).1 < 0
        · have eA : amov f t = (anum (((yjdf f t.toNat).2.2 / 24 : Nat) : Int), alay1 f t.toNat (((yjdf f t.toNat).2.2 / 24 : Nat) : Int) ((yjdf f t.toNat).2.2 % 24)) := by
            unfold amov; rw [if_pos ht, if_neg hl, if_pos ⟨hrf, hbad⟩]
          have hb6 : (yjdf f t.toNat).1 = -6 := by
            rcases yjd_i (P := yPl f t.toNat) (s := f 8 0) (d := (f 7 0 0).toNat) (i := 0) (c := ystd f 0 t.toNat) with ⟨_, h, _⟩ | ⟨h, _⟩
            · exact h
            · have h : 0 ≤ (yjdf f t.toNat).1 := h
              omega
          rw [eA]
          refine xW_t (k1.trans hb6) (xW_be (q_stand k2.1 hv (by omega) hl) ?_)
          obtain ⟨hp', hg'⟩ := ypd_c k2.1 hv
          have hPv := yPl_v hv (show t.toNat < 4 by omega) q2.1
          have hwy : ywy s (yPl f t.toNat) := yst_wy k2.1
          have hgn := hg.1
          have key : ∀ (d j fu c : Nat) (K : Int → Option (Int × xa_H)), j + d = (f 7 0 0).toNat → d < fu → yqs (yPl f t.toNat) c → (yjd (yPl f t.toNat) (f 8 0) d j c).1 < 0 → fm_S_move_60 t.toNat s K fu (c : Int) (j : Int) = K (((yjd (yPl f t.toNat) (f 8 0) d j c).2.2 : Nat) : Int) := by
            intro d
            induction d with
            | zero =>
              intro j fu c K hj hd hc _
              obtain ⟨m, rfl⟩ : ∃ m, fu = m + 1 := ⟨fu - 1, by omega⟩
              rw [fm_S_move_60, hp'.1, if_pos (by omega)]
              rfl
            | succ d ih =>
              intro j fu c K hj hd hc hneg
              obtain ⟨m, rfl⟩ : ∃ m, fu = m + 1 := ⟨fu - 1, by omega⟩
              have hr := ymv_r (c := f 8 0 j)
              have h0 := hm j (by omega)
              rw [fm_S_move_60, hp'.1, if_neg (by omega), q_moveAtC hg' hp' (by omega), Option.bind_some]
              have e : ymv (f 8 0 j) = (((ymv (f 8 0 j)).toNat : Nat) : Int) := by omega
              rw [e, q_step k2.1.1 hPv.1 hwy hc.1 (by omega), Option.bind_some]
              unfold yjd at hneg ⊢
              cases hnx : ynx (yPl f t.toNat) c (ymv (f 8 0 j)).toNat with
              | none =>
                rw [hnx] at hneg
                have hneg : (j : Int) < 0 := hneg
                omega
              | some c' =>
                rw [hnx] at hneg
                dsimp only at hneg ⊢
                by_cases h : ywhy (yPl f t.toNat) (c' % 24) (yX c') (yY c') (yZ c') = 0
                · rw [if_pos h] at hneg ⊢
                  rw [xnm_e, w32_s (by omega)]
                  exact ih (j + 1) m c' K (by omega) (by omega) (yqs_n hPv.1 rfl rfl hc (by omega) hnx h) hneg
                · rw [if_neg h] at hneg
                  have hneg : (j : Int) < 0 := hneg
                  omega
          have hq := yjd_q hPv.1 rfl rfl hm (i := 0) (d := (f 7 0 0).toNat) (by omega) q1
          have hkey := fun K => key (f 7 0 0).toNat 0 xFU (ystd f 0 t.toNat) K (by omega) (xfu_b (by omega)) q1 hbad
          have hfold : yjd (yPl f t.toNat) (f 8 0) (f 7 0 0).toNat 0 (ystd f 0 t.toNat) = yjdf f t.toNat := rfl
          rw [hfold] at hq
          have hkey' : ∀ K, fm_S_move_60 t.toNat s K xFU ((ystd f 0 t.toNat : Nat) : Int) 0 = K (((yjdf f t.toNat).2.2 : Nat) : Int) := fun K => hkey K
          rw [hkey']
          generalize (yjdf f t.toNat).2.2 = c at hq ⊢
          have hc := hq.1
          have e5 : xdiv (c : Int) 24 = ((c / 24 : Nat) : Int) := by rw [xdiv_p (by omega)]; omega
          have e6 : xrem (c : Int) 24 = ((c % 24 : Nat) : Int) := by rw [xrem_p (by omega)]; omega
          rw [e5, e6]
          have hcl : fm_Pad_clear (xup (xup s 5 t.toNat 1 ((c / 24 : Nat) : Int)) 5 t.toNat 2 ((c % 24 : Nat) : Int)) = some (xup (xup s 5 t.toNat 1 ((c / 24 : Nat) : Int)) 5 t.toNat 2 ((c % 24 : Nat) : Int) 2 0 1, xup (xup (xup s 5 t.toNat 1 ((c / 24 : Nat) : Int)) 5 t.toNat 2 ((c % 24 : Nat) : Int)) 2 0 1 0) := rfl
          refine xW_nm (xW_nm (xW_be2 hcl (xW_be rfl ?_)))
          have er : xup (xup (xup (xup s 5 t.toNat 1 ((c / 24 : Nat) : Int)) 5 t.toNat 2 ((c % 24 : Nat) : Int)) 2 0 1 0) 0 0 1 0 5 t.toNat 1 = ((c / 24 : Nat) : Int) := by
            rw [xup_o (by omega), xup_o (by omega), xup_o (by omega), xup_at]
          rw [er]
          refine xW_be (q_cellOf (by omega) (by omega)) (xW_some ⟨rfl, ?_⟩)
          exact yc_lay1 k2.1 k2.2.1 k2.2.2.1 (by omega) _ _
        · have eA : amov f t = (-5, f) := by unfold amov; rw [if_pos ht, if_neg hl, if_neg (fun q => hbad q.2)]
          rw [eA]
          exact xW_f (by omega) (xW_some ⟨rfl, k2⟩)
      · have eA : amov f t = (-5, f) := by unfold amov; rw [if_pos ht, if_neg hl, if_neg (fun q => hrf q.1)]
        rw [eA]
        exact xW_f (by omega) (xW_some ⟨rfl, hs⟩)
  · have eA : amov f t = (-1, f) := by unfold amov; rw [if_neg ht]
    rw [eA]
    by_cases h1 : t < 0
    · exact xW_t h1 (xW_some ⟨rfl, hs⟩)
    · exact xW_f h1 (xW_t (by omega) (xW_some ⟨rfl, hs⟩))
