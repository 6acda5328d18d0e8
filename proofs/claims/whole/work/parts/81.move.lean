/-! judge and move: the reference -/
theorem ynx_x {P : xa_H} (hz : qsz (P 0 0 0) (P 0 0 1) (P 0 0 2)) {c m c' : Nat} (hc : c < 3456) (h : ynx P c m = some c') (hm : m < 12) : yX c' = yX c + ydx m ∧ yY c' = yY c + ydy m ∧ yZ c' = yZ c + ydz m ∧ c' % 24 = (if m < 6 then c % 24 else yn (c % 24) (m - 6)) := by
  unfold ynx at h
  by_cases h6 : m < 6
  · rw [if_pos h6] at h
    by_cases hq : (0 ≤ yX c + ydx m ∧ yX c + ydx m < P 0 0 0) ∧ (0 ≤ yY c + ydy m ∧ yY c + ydy m < P 0 0 1) ∧ (0 ≤ yZ c + ydz m ∧ yZ c + ydz m < P 0 0 2)
    · rw [if_pos hq] at h
      have e := Option.some.inj h
      obtain ⟨k1, k2, k3, k4, k5⟩ := ycell_of hz (w := c % 24) (by omega) hq
      rw [e] at k2 k3 k4 k5
      rw [if_pos h6]
      exact ⟨k3, k4, k5, k2⟩
    · rw [if_neg hq] at h; cases h
  · rw [if_neg h6] at h
    have e := Option.some.inj h
    have hyn := yn_r (c % 24) (by omega) (m - 6) (by omega)
    have hd : c' / 24 = c / 24 := by omega
    have d0 : ydx m = 0 ∧ ydy m = 0 ∧ ydz m = 0 := by
      unfold ydx ydy ydz
      rw [if_neg (by omega), if_neg (by omega), if_neg (by omega), if_neg (by omega), if_neg (by omega), if_neg (by omega)]
      exact ⟨rfl, rfl, rfl⟩
    have h3 : yX c' = yX c ∧ yY c' = yY c ∧ yZ c' = yZ c := by unfold yX yY yZ; rw [hd]; exact ⟨rfl, rfl, rfl⟩
    rw [d0.1, d0.2.1, d0.2.2, h3.1, h3.2.1, h3.2.2, if_neg h6]
    exact ⟨by omega, by omega, by omega, by omega⟩
theorem ynx_n {P : xa_H} {c m : Nat} (h : ynx P c m = none) : m < 6 ∧ ¬ yqin P (yX c + ydx m) (yY c + ydy m) (yZ c + ydz m) := by
  unfold ynx at h
  by_cases h6 : m < 6
  · rw [if_pos h6] at h
    refine ⟨h6, fun hq => ?_⟩
    have hq : (0 ≤ yX c + ydx m ∧ yX c + ydx m < P 0 0 0) ∧ (0 ≤ yY c + ydy m ∧ yY c + ydy m < P 0 0 1) ∧ (0 ≤ yZ c + ydz m ∧ yZ c + ydz m < P 0 0 2) := hq
    rw [if_pos hq] at h; cases h
  · rw [if_neg h6] at h; cases h
section JM
variable {σ f : xa_H} {t : Nat}
def ygp (s : xa_H) (c : Nat) : Prop := s 9 0 26 = yX c ∧ s 9 0 27 = yY c ∧ s 9 0 28 = yZ c ∧ s 9 0 29 = ((c % 24 : Nat) : Int)
theorem l_goRow (hs0 : ym σ f) (hv : yv f) (ht : t < 4) (hn : 1 ≤ f 2 t 0) (hw0 : ymw σ (yPl f t)) (hm : ∀ i, i < (f 7 0 0).toNat → 0 ≤ ymv (f 8 0 i)) :
    ∀ (d j fu c : Nat) (s : xa_H), j + d = (f 7 0 0).toNat → d < fu → yqs (yPl f t) c → xfm [66, 67, 68] [26, 27, 28, 29, 30, 31] σ s → ygp s c → s 9 0 30 = -6 → s 9 0 31 = -6 →
      xW (fm_M_goRow_70 (t : Int) (fun s10 => some (1, s10)) fu (j : Int) s) fun r => xfm [66, 67, 68] [26, 27, 28, 29, 30, 31] σ r.2 ∧ r.2 9 0 30 = (yjd (yPl f t) (f 8 0) d j c).1 ∧ r.2 9 0 31 = (yjd (yPl f t) (f 8 0) d j c).2.1 ∧
        (((yjd (yPl f t) (f 8 0) d j c).1 < 0 ∧ r.1 = 1 ∧ ygp r.2 (yjd (yPl f t) (f 8 0) d j c).2.2) ∨ (¬ (yjd (yPl f t) (f 8 0) d j c).1 < 0 ∧ r.1 = 0)) := by
  have hp := ypd_m hs0 hv
  have hgn := (ypg_v hv).1
  have hPv := yPl_v hv ht hn
  have tn : ∀ j : Nat, ((j : Int)).toNat = j := fun j => rfl
  intro d
  induction d with
  | zero =>
    intro j fu c s hj hd hc hf hg h30 h31
    obtain ⟨m, rfl⟩ : ∃ m, fu = m + 1 := ⟨fu - 1, by omega⟩
    have e19 : s 9 0 19 = (((f 7 0 0).toNat : Nat) : Int) := by rw [hf.2 0 19 (by decide)]; exact hp.1
    rw [fm_M_goRow_70, e19]
    exact xW_t (by omega) (xW_some ⟨hf, h30, h31, Or.inl ⟨(by show (-6 : Int) < 0; decide), rfl, hg⟩⟩)
  | succ d ih =>
    intro j fu c s hj hd hc hf hg h30 h31
    obtain ⟨m, rfl⟩ : ∃ m, fu = m + 1 := ⟨fu - 1, by omega⟩
    have e19 : s 9 0 19 = (((f 7 0 0).toNat : Nat) : Int) := by rw [hf.2 0 19 (by decide)]; exact hp.1
    have e65 : s 65 = σ 65 := hf.1 65 (by decide) (by decide)
    have hr := ymv_r (c := f 8 0 j)
    have h0 := hm j (by omega)
    rw [fm_M_goRow_70, e19, tn, e65, hp.2 j (by omega)]
    refine xW_f (by omega) (xW_t ⟨by omega, by omega⟩ (xW_be (q_moveOf1 h0) ?_))
    have e : ymv (f 8 0 j) = (((ymv (f 8 0 j)).toNat : Nat) : Int) := by omega
    have hmm : (ymv (f 8 0 j)).toNat < 12 := by omega
    rw [e]
    generalize hmv : (ymv (f 8 0 j)).toNat = mv at hmm ⊢
    have hc24 : c % 24 < 24 := Nat.mod_lt _ (by decide)
    have bX : 0 ≤ yX c ∧ yX c ≤ 5 := by have := hc.1; unfold yX; omega
    have bY : 0 ≤ yY c ∧ yY c ≤ 5 := by have := hc.1; unfold yY; omega
    have bZ : 0 ≤ yZ c ∧ yZ c ≤ 3 := by have := hc.1; unfold yZ; omega
    have bdx : -1 ≤ ydx mv ∧ ydx mv ≤ 1 := by unfold ydx; split <;> (try split) <;> omega
    have bdy : -1 ≤ ydy mv ∧ ydy mv ≤ 1 := by unfold ydy; split <;> (try split) <;> omega
    have bdz : -1 ≤ ydz mv ∧ ydz mv ≤ 1 := by unfold ydz; split <;> (try split) <;> omega
    refine xW_bind (q_Mstep (ymt_f hf (by decide) hs0.1) hmm hc24 hg.1 hg.2.1 hg.2.2.1 hg.2.2.2 (by omega) (by omega) (by omega)) ?_
    rintro s3 ⟨g1, g26, g27, g28, g29⟩
    have hf3 : xfm [66, 67, 68] [26, 27, 28, 29, 30, 31] σ s3 := xfm_t hf (xfm_m g1 (by decide) (by decide))
    have hw3 : (if mv < 6 then c % 24 else yn (c % 24) (mv - 6)) < 24 := by
      by_cases h6 : mv < 6
      · rw [if_pos h6]; exact hc24
      · rw [if_neg h6]; exact yn_r _ hc24 _ (by omega)
    rw [g26, g27, g28, g29]
    have hwa := q_whyAt (t := t) (ym_f hf3 (by decide) (by decide) hs0) hv ht hn (ymw_f hf3 (by decide) (by decide) hw0) hw3 (x := yX c + ydx mv) (y := yY c + ydy mv) (z := yZ c + ydz mv) (by omega) (by omega) (by omega)
    refine xW_b2 hwa ?_
    rintro v s5 ⟨k1, k2⟩
    have k1 : v = ywn (yPl f t) (if mv < 6 then c % 24 else yn (c % 24) (mv - 6)) (yX c + ydx mv) (yY c + ydy mv) (yZ c + ydz mv) (yPl f t 2 0 0).toNat := k1
    have k2 : xfm [66, 67, 68] [] s3 s5 := k2
    rw [ywn_why rfl rfl] at k1
    have hf5 : xfm [66, 67, 68] [26, 27, 28, 29, 30, 31] σ s5 := xfm_t hf3 (xfm_m k2 (by decide) (by decide))
    have hx30 : s5 9 0 30 = -6 := by rw [k2.2 0 30 (by decide), g1.2 0 30 (by decide)]; exact h30
    have hx31 : s5 9 0 31 = -6 := by rw [k2.2 0 31 (by decide), g1.2 0 31 (by decide)]; exact h31
    have hbad : ∀ y : Int, v = y → 0 ≤ y → yjd (yPl f t) (f 8 0) (d + 1) j c = ((j : Int), y, c) → xW (if v < 0 then xnm (w32 ((j : Int) + 1) : Int) fun v7 => fm_M_goRow_70 (t : Int) (fun s10 => some (1, s10)) m v7 s5 else xnm (xup s5 9 0 30 (j : Int)) fun s8 => xnm (xup s8 9 0 31 v) fun s9 => some ((0 : Int), s9))
        fun r => xfm [66, 67, 68] [26, 27, 28, 29, 30, 31] σ r.2 ∧ r.2 9 0 30 = (yjd (yPl f t) (f 8 0) (d + 1) j c).1 ∧ r.2 9 0 31 = (yjd (yPl f t) (f 8 0) (d + 1) j c).2.1 ∧
        (((yjd (yPl f t) (f 8 0) (d + 1) j c).1 < 0 ∧ r.1 = 1 ∧ ygp r.2 (yjd (yPl f t) (f 8 0) (d + 1) j c).2.2) ∨ (¬ (yjd (yPl f t) (f 8 0) (d + 1) j c).1 < 0 ∧ r.1 = 0)) := by
      intro y hy hy0 hj2
      rw [hj2]
      refine xW_f (by omega) (xW_nm (xW_nm (xW_some ⟨xfm_t hf5 (xfm_t (xfm_u9 (by decide)) (xfm_u9 (by decide))), ?_, ?_, Or.inr ⟨?_, rfl⟩⟩)))
      · show xup (xup s5 9 0 30 (j : Int)) 9 0 31 v 9 0 30 = (j : Int)
        rw [xup_o (by omega), xup_at]
      · show xup (xup s5 9 0 30 (j : Int)) 9 0 31 v 9 0 31 = y
        rw [xup_at]; exact hy
      · show ¬ (j : Int) < 0
        omega
    cases hnx : ynx (yPl f t) c mv with
    | none =>
      obtain ⟨n1, n2⟩ := ynx_n hnx
      have hwy1 : ywhy (yPl f t) (if mv < 6 then c % 24 else yn (c % 24) (mv - 6)) (yX c + ydx mv) (yY c + ydy mv) (yZ c + ydz mv) = 1 := if_pos (Or.inl n2)
      rw [hwy1, if_neg (by decide)] at k1
      refine hbad 1 k1 (by decide) ?_
      unfold yjd
      rw [hmv, hnx]
    | some c' =>
      obtain ⟨x1, x2, x3, x4⟩ := ynx_x hPv.1 hc.1 hnx hmm
      rw [← x1, ← x2, ← x3, ← x4] at k1
      by_cases h : ywhy (yPl f t) (c' % 24) (yX c') (yY c') (yZ c') = 0
      · rw [if_pos h] at k1
        have hj2 : yjd (yPl f t) (f 8 0) (d + 1) j c = yjd (yPl f t) (f 8 0) d (j + 1) c' := by
          conv => lhs; unfold yjd
          rw [hmv, hnx]
          dsimp only
          rw [if_pos h]
        rw [hj2]
        refine xW_t (by omega) (xW_nm ?_)
        rw [w32_s (by omega)]
        refine ih (j + 1) m c' s5 (by omega) (by omega) (yqs_n hPv.1 rfl rfl hc hmm hnx h) hf5 ⟨?_, ?_, ?_, ?_⟩ hx30 hx31
        · rw [k2.2 0 26 (by decide), g26]; exact x1.symm
        · rw [k2.2 0 27 (by decide), g27]; exact x2.symm
        · rw [k2.2 0 28 (by decide), g28]; exact x3.symm
        · rw [k2.2 0 29 (by decide), g29, x4]
      · rw [if_neg h] at k1
        refine hbad _ k1 ?_ ?_
        · rcases ywhy_r (P := yPl f t) (c' % 24) (yX c') (yY c') (yZ c') with h2 | h2 | h2 <;> omega
        · unfold yjd
          rw [hmv, hnx]
          dsimp only
          rw [if_neg h]
theorem q_goRow (hs : ym σ f) (hv : yv f) (ht : t < 4) (hl : ¬ f 2 t 1 < 0) (hm : ∀ i, i < (f 7 0 0).toNat → 0 ≤ ymv (f 8 0 i)) :
    xW (fm_M_goRow (t : Int) σ) fun r => ym r.2 f ∧ r.2 9 0 30 = (yjdf f t).1 ∧ r.2 9 0 31 = (yjdf f t).2.1 ∧ (((yjdf f t).1 < 0 ∧ r.1 = 1 ∧ ygp r.2 (yjdf f t).2.2) ∨ (¬ (yjdf f t).1 < 0 ∧ r.1 = 0)) := by
  obtain ⟨q1, q2⟩ := ystd_q hv ht hl
  have hw := (hv.1.2.2.1 t ht).2.2.2.2.1
  obtain ⟨a1, a2, a3, a4, a5, a6⟩ := ystd_r q2 hw
  have h2 := q2.2.1
  unfold fm_M_goRow
  refine xW_bind (q_take0 hs (A := 0) (D := 0)) ?_
  rintro s ⟨b1, b2, b3⟩
  have h62 : s 62 0 t = f 2 t 1 := (b1.2.1.2.2.1 t ht).2.1
  have h63 : s 63 0 t = f 2 t 2 := (b1.2.1.2.2.1 t ht).2.2.1
  have tn : ∀ j : Nat, ((j : Int)).toNat = j := fun j => rfl
  have k62 : ∀ (s' : xa_H), (∃ x y v, s' = xup s 9 x y v) → True := fun _ _ => trivial
  rw [tn, h62]
  have hp0 : 0 ≤ f 2 t 1 := h2.1
  rw [xdiv_p (a := f 2 t 1) (b := 24) hp0]
  refine xW_t ⟨by omega, by omega⟩ (xW_nm (xW_t ⟨by omega, by omega⟩ ?_))
  rw [xup_o (show ¬ (62 = 9 ∧ 0 = 0 ∧ t = 26) by omega), h62, xdiv_p (b := 4) hp0, xrem_p (b := 6) (by omega)]
  refine xW_nm (xW_t ⟨by omega, by omega⟩ ?_)
  rw [xup_o (show ¬ (62 = 9 ∧ 0 = 0 ∧ t = 27) by omega), xup_o (show ¬ (62 = 9 ∧ 0 = 0 ∧ t = 26) by omega), h62, xrem_p (b := 4) hp0]
  refine xW_nm (xW_t ⟨by omega, by omega⟩ ?_)
  rw [xup_o (show ¬ (63 = 9 ∧ 0 = 0 ∧ t = 28) by omega), xup_o (show ¬ (63 = 9 ∧ 0 = 0 ∧ t = 27) by omega), xup_o (show ¬ (63 = 9 ∧ 0 = 0 ∧ t = 26) by omega), h63]
  refine xW_nm (xW_nm (xW_nm ?_))
  refine xW_mono (l_goRow b1 hv ht q2.1 (b3 t) hm (f 7 0 0).toNat 0 xFU (ystd f 0 t) _ (by omega) (xfu_b (by have := (ypg_v hv).1; omega)) q1 ?_ ⟨?_, ?_, ?_, ?_⟩ ?_ ?_) ?_
  · exact xfm_t (xfm_u9 (by decide)) (xfm_t (xfm_u9 (by decide)) (xfm_t (xfm_u9 (by decide)) (xfm_t (xfm_u9 (by decide)) (xfm_t (xfm_u9 (by decide)) (xfm_u9 (by decide))))))
  · rw [xup_o (by omega), xup_o (by omega), xup_o (by omega), xup_o (by omega), xup_o (by omega), xup_at]; exact a4.symm
  · rw [xup_o (by omega), xup_o (by omega), xup_o (by omega), xup_o (by omega), xup_at]; exact a5.symm
  · rw [xup_o (by omega), xup_o (by omega), xup_o (by omega), xup_at]; exact a6.symm
  · rw [xup_o (by omega), xup_o (by omega), xup_at]; exact a3.symm
  · rw [xup_o (by omega), xup_at]
  · exact xup_at
  · rintro r ⟨c1, c2, c3, c4⟩
    exact ⟨ym_f c1 (by decide) (by decide) b1, c2, c3, c4⟩
end JM
theorem M_judge {σ f : xa_H} (hs : ym σ f) (hv : yv f) (t w : Int) : xW (fm_M_judge t w σ) fun r => r.1 = ajud f t w ∧ ym r.2 f := by
  have hp := ypd_m hs hv
  have hg := ypg_v hv
  unfold fm_M_judge
  refine xW_be (q_isThing t) ?_
  by_cases ht : 0 ≤ t ∧ t ≤ 3
  · rw [if_pos ht]
    refine xW_f (by decide) (xW_be (q_in w 0 1) ?_)
    by_cases hw : 0 ≤ w ∧ w ≤ 1
    · rw [if_pos hw]
      refine xW_f (by decide) (xW_t (by omega) ?_)
      rw [(hs.2.1.2.2.1 t.toNat (by omega)).2.1]
      by_cases hl : f 2 t.toNat 1 < 0
      · have eA : ajud f t w = -3 := by unfold ajud; rw [if_pos ht, if_pos hw, if_pos hl]
        rw [eA]
        exact xW_f (by omega) (xW_some ⟨rfl, hs⟩)
      · refine xW_t (by omega) (xW_be (q_rowFaultM hg hp) ?_)
        by_cases hrf : yrwf (f 8 0) (f 7 0 0).toNat (f 7 0 0).toNat 0 < 0
        · have eA : ajud f t w = (if w = 0 then (yjdf f t.toNat).1 else (yjdf f t.toNat).2.1) := by unfold ajud; rw [if_pos ht, if_pos hw, if_neg hl, if_pos hrf]
          rw [eA]
          have hgr := q_goRow (t := t.toNat) hs hv (by omega) hl (yrw_mv hrf)
          have tnn : (t.toNat : Int) = t := by omega
          rw [tnn] at hgr
          refine xW_t hrf (xW_b2 hgr ?_)
          rintro v s ⟨c1, c2, c3, _⟩
          by_cases hw0 : w = 0
          · refine xW_t hw0 (xW_some ⟨?_, c1⟩)
            show s 9 0 30 = _
            rw [if_pos hw0]; exact c2
          · refine xW_f hw0 (xW_some ⟨?_, c1⟩)
            show s 9 0 31 = _
            rw [if_neg hw0]; exact c3
        · have eA : ajud f t w = -5 := by unfold ajud; rw [if_pos ht, if_pos hw, if_neg hl, if_neg hrf]
          rw [eA]
          exact xW_f hrf (xW_some ⟨rfl, hs⟩)
    · have eA : ajud f t w = -2 := by unfold ajud; rw [if_pos ht, if_neg hw]
      rw [eA, if_neg hw]
      exact xW_t rfl (xW_some ⟨rfl, hs⟩)
  · have eA : ajud f t w = -1 := by unfold ajud; rw [if_neg ht]
    rw [eA, if_neg ht]
    exact xW_t rfl (xW_some ⟨rfl, hs⟩)
theorem M_move {σ f : xa_H} (hs : ym σ f) (hv : yv f) (t : Int) : xW (fm_M_move t σ) fun r => r.1 = (amov f t).1 ∧ ym r.2 (amov f t).2 := by
  have hp := ypd_m hs hv
  have hg := ypg_v hv
  unfold fm_M_move
  refine xW_be (q_isThing t) ?_
  by_cases ht : 0 ≤ t ∧ t ≤ 3
  · rw [if_pos ht]
    refine xW_f (by decide) (xW_t (by omega) ?_)
    rw [(hs.2.1.2.2.1 t.toNat (by omega)).2.1]
    by_cases hl : f 2 t.toNat 1 < 0
    · have eA : amov f t = (-3, f) := by unfold amov; rw [if_pos ht, if_pos hl]
      rw [eA]
      exact xW_f (by omega) (xW_some ⟨rfl, hs⟩)
    · refine xW_t (by omega) (xW_be (q_rowFaultM hg hp) ?_)
      by_cases hrf : yrwf (f 8 0) (f 7 0 0).toNat (f 7 0 0).toNat 0 < 0
      · have hm := yrw_mv hrf
        obtain ⟨q1, q2⟩ := ystd_q hv (show t.toNat < 4 by omega) hl
        have hgr := q_goRow (t := t.toNat) hs hv (by omega) hl hm
        have tnn : (t.toNat : Int) = t := by omega
        rw [tnn] at hgr
        refine xW_f (by omega) (xW_b2 hgr ?_)
        rintro v s ⟨c1, c2, c3, c4⟩
        have c1 : ym s f := c1
        rcases c4 with ⟨hbad, hv1, hgp⟩ | ⟨hbad, hv0⟩
        · have eA : amov f t = (anum (((yjdf f t.toNat).2.2 / 24 : Nat) : Int), alay1 f t.toNat (((yjdf f t.toNat).2.2 / 24 : Nat) : Int) ((yjdf f t.toNat).2.2 % 24)) := by
            unfold amov; rw [if_pos ht, if_neg hl, if_pos ⟨hrf, hbad⟩]
          rw [eA]
          have hPz : qsz (yPl f t.toNat 0 0 0) (yPl f t.toNat 0 0 1) (yPl f t.toNat 0 0 2) := hv.1.1
          have hq := yjd_q hPz rfl rfl hm (i := 0) (d := (f 7 0 0).toNat) (by omega) q1
          have hfold : yjd (yPl f t.toNat) (f 8 0) (f 7 0 0).toNat 0 (ystd f 0 t.toNat) = yjdf f t.toNat := rfl
          rw [hfold] at hq
          have hgp : ygp s (yjdf f t.toNat).2.2 := hgp
          generalize (yjdf f t.toNat).2.2 = c at hq hgp ⊢
          obtain ⟨g26, g27, g28, g29⟩ := hgp
          have hc := hq.1
          refine xW_f (by have hv1 : v = 1 := hv1; omega) ?_
          rw [g26, g27, g28]
          have bX : 0 ≤ yX c ∧ yX c ≤ 5 := by unfold yX; omega
          have bY : 0 ≤ yY c ∧ yY c ≤ 5 := by unfold yY; omega
          have bZ : 0 ≤ yZ c ∧ yZ c ≤ 3 := by unfold yZ; omega
          refine xW_be (q_at (by omega) (by omega) (by omega)) ?_
          have epl : 24 * yX c + 4 * yY c + yZ c = ((c / 24 : Nat) : Int) := by unfold yX yY yZ; omega
          rw [epl]
          refine xW_t (by omega) (xW_nm (xW_t (by omega) ?_))
          rw [xup_o (show ¬ (9 = 62 ∧ 0 = 0 ∧ 29 = t.toNat) by omega), g29]
          refine xW_nm (xW_nm (xW_t (by omega) ?_))
          have er : xup (xup (xup s 62 0 t.toNat ((c / 24 : Nat) : Int)) 63 0 t.toNat ((c % 24 : Nat) : Int)) 9 0 19 0 62 0 t.toNat = ((c / 24 : Nat) : Int) := by
            rw [xup_o (by omega), xup_o (by omega), xup_at]
          rw [er]
          refine xW_be (q_numberOf (by omega) (by omega)) (xW_some ⟨rfl, ?_⟩)
          exact ym_clr (ym_2 (ym_2 c1 (by omega) (Or.inl ⟨rfl, rfl⟩)) (by omega) (Or.inr (Or.inl ⟨rfl, rfl⟩)))
        · have eA : amov f t = (-5, f) := by unfold amov; rw [if_pos ht, if_neg hl, if_neg (fun q => hbad q.2)]
          rw [eA]
          exact xW_t hv0 (xW_some ⟨rfl, c1⟩)
      · have eA : amov f t = (-5, f) := by unfold amov; rw [if_pos ht, if_neg hl, if_neg (fun q => hrf q.1)]
        rw [eA]
        have := yrwf_r (s := f 8 0) (n := (f 7 0 0).toNat) (d := (f 7 0 0).toNat) (j := 0)
        exact xW_t (by omega) (xW_some ⟨rfl, hs⟩)
  · have eA : amov f t = (-1, f) := by unfold amov; rw [if_neg ht]
    rw [eA, if_neg ht]
    exact xW_t rfl (xW_some ⟨rfl, hs⟩)
