/-! a thing is laid: the reference -/
theorem q_moveOf1 {c : Int} (h : 0 ≤ ymv c) : fm_M_moveOf c = some (ymv c) := by rw [q_moveOf, if_neg (by omega)]
theorem ym_f {L M : List Nat} {σ σ' f : xa_H} (h : xfm L M σ σ') (hL : ∀ K ∈ L, K ∈ [66, 67, 68, 69, 70, 71, 72, 73, 74]) (hM : ∀ s ∈ M, s ∈ [23, 24, 26, 27, 28, 29, 30, 31, 36, 37]) (hs : ym σ f) : ym σ' f := by
  have h' := xfm_m h hL hM
  obtain ⟨a1, a2, a3, a4⟩ := hs
  refine ⟨ymt_f h' (by decide) a1, ?_, ?_, fun n hn => ?_⟩
  · unfold yrf at a2 ⊢
    rw [h'.1 53 (by decide) (by decide), h'.1 54 (by decide) (by decide), h'.1 62 (by decide) (by decide), h'.1 63 (by decide) (by decide), h'.1 64 (by decide) (by decide), h'.1 60 (by decide) (by decide), h'.1 61 (by decide) (by decide), h'.1 59 (by decide) (by decide), h'.1 55 (by decide) (by decide), h'.1 56 (by decide) (by decide), h'.1 57 (by decide) (by decide), h'.1 58 (by decide) (by decide), h'.2 0 3 (by decide), h'.2 0 4 (by decide), h'.2 0 5 (by decide)]
    exact a2
  · unfold ypd at a3 ⊢
    rw [h'.1 65 (by decide) (by decide), h'.2 0 19 (by decide)]
    exact a3
  · obtain ⟨k1, k2⟩ := a4 n hn
    rw [h'.1 76 (by decide) (by decide)]
    refine ⟨k1, fun h9 => ?_⟩
    have := k2 h9
    unfold ykp at this ⊢
    rw [h'.1 75 (by decide) (by decide)]
    exact this
/-- with nothing off, nothing filled -/
theorem q_take0 {σ f : xa_H} (hs : ym σ f) {A D : Nat} : xW (fm_M_takeOff (A : Int) (D : Int) σ) fun s => ym s f ∧ xfm [69] [23, 24] σ s ∧ ∀ t, ymw s (ypr f 0 t (ykd f 0) (A : Int) (D : Int)) := by
  refine xW_mono (q_takeOff (A : Int) (D : Int) σ) ?_
  rintro s ⟨a1, a2, a3, a4⟩
  have h1 := ym_f a1 (by decide) (by decide) hs
  exact ⟨h1, a1, fun t => yrf_mw h1.2.1 a2 a3 a4⟩
theorem q_whyAt {σ f : xa_H} (hs : ym σ f) (hv : yv f) {t : Nat} (ht : t < 4) (hn : 1 ≤ f 2 t 0) (hw : ymw σ (yPl f t)) {w : Nat} (hw24 : w < 24) {x y z : Int} (hx : -10 ≤ x ∧ x ≤ 10) (hy : -10 ≤ y ∧ y ≤ 10) (hz : -10 ≤ z ∧ z ≤ 10) :
    xW (fm_M_whyAt (t : Int) (w : Int) x y z σ) fun r => r.1 = ywn (yPl f t) w x y z (f 2 t 0).toNat ∧ xfm [66, 67, 68] [] σ r.2 := by
  have hPv := yPl_v hv ht hn
  have hmc : ymc σ (yPl f t) t := yrf_mc hs.2.1 (hv.1.2.2.1 t ht) ht
  unfold fm_M_whyAt
  refine xW_bind (q_lay hs.1 hPv hmc hw24) ?_
  rintro s ⟨a1, a2⟩
  refine xW_be (q_whyNot hPv (ymc_f a1 (by decide) hmc) (ymw_f a1 (by decide) (by decide) hw) hw24 a2 hx hy hz) (xW_some ⟨rfl, a1⟩)
theorem q_rowFault1 {σ : xa_H} {s : Nat → Int} {n : Nat} (hg : ypg s n) (hp : ypm σ s n) : ∃ v, fm_M_rowFault 1 σ = some v ∧ (v < 0 ↔ (yrwf s n n 0 < 0 ∧ ytrn s n)) := by
  have hn := hg.1
  have tn : ∀ j : Nat, ((j : Int)).toNat = j := fun j => rfl
  unfold fm_M_rowFault
  rw [q_rowFaultM hg hp, Option.bind_some]
  by_cases hrf : yrwf s n n 0 < 0
  · have hm : ∀ i, i < n → 0 ≤ ymv (s i) := by
      intro i hi
      rcases yrwf_n (s := s) (n := n) (d := n) (j := 0) (by omega) hrf with ⟨_, h⟩ | h
      · exact h i (by omega) hi
      · omega
    have key : ∀ (d j fu : Nat), j + d = n → d < fu → (∀ k, k < j → 6 ≤ ymv (s k)) → ∃ v, fm_M_rowFault_7 1 σ (fun v => some v) fu (yrwf s n n 0) (j : Int) = some v ∧ (v < 0 ↔ ytrn s n) := by
      intro d
      induction d with
      | zero =>
        intro j fu hj hd hall
        obtain ⟨m, rfl⟩ : ∃ m, fu = m + 1 := ⟨fu - 1, by omega⟩
        have : j = n := by omega
        subst this
        refine ⟨_, by rw [fm_M_rowFault_7, hp.1, if_pos (by omega)], ?_⟩
        exact ⟨fun _ => hall, fun _ => hrf⟩
      | succ d ih =>
        intro j fu hj hd hall
        obtain ⟨m, rfl⟩ : ∃ m, fu = m + 1 := ⟨fu - 1, by omega⟩
        have hr := ymv_r (c := s j)
        have h0 := hm j (by omega)
        rw [fm_M_rowFault_7, hp.1, if_neg (by omega), if_neg (by decide), if_neg (by omega), if_pos ⟨by omega, by omega⟩, tn, hp.2 j (by omega), q_moveOf1 h0, Option.bind_some]
        by_cases h6 : 6 ≤ ymv (s j)
        · rw [if_pos h6, xnm_e, w32_s (by omega)]
          refine ih (j + 1) m (by omega) (by omega) (fun k hk => ?_)
          by_cases hkj : k = j
          · rw [hkj]; exact h6
          · exact hall k (by omega)
        · rw [if_neg h6, xnm_e, w32_s (by omega)]
          obtain ⟨m2, rfl⟩ : ∃ m2, m = m2 + 1 := ⟨m - 1, by omega⟩
          refine ⟨(j : Int), ?_, fun h => by omega, fun h => absurd (h j (by omega)) h6⟩
          rw [fm_M_rowFault_7, hp.1]
          by_cases hjn : (n : Int) ≤ ((j + 1 : Nat) : Int)
          · rw [if_pos hjn]
          · rw [if_neg hjn, if_neg (by decide), if_pos (by omega)]
    obtain ⟨v, h1, h2⟩ := key n 0 xFU (by omega) (xfu_b (by omega)) (fun k hk => by omega)
    exact ⟨v, h1, h2.trans ⟨fun h => ⟨hrf, h⟩, fun h => h.2⟩⟩
  · refine ⟨yrwf s n n 0, ?_, ⟨fun h => absurd h hrf, fun h => absurd h.1 hrf⟩⟩
    obtain ⟨m, hm⟩ : ∃ m, xFU = m + 1 := ⟨xFU - 1, by unfold xFU; rfl⟩
    rw [hm, fm_M_rowFault_7, hp.1]
    by_cases h0 : (n : Int) ≤ 0
    · rw [if_pos h0]
    · rw [if_neg h0, if_neg (by decide), if_pos (by omega)]
theorem l_lay45 {σ : xa_H} {s : Nat → Int} {n : Nat} (ht : ymt σ) (hg : ypg s n) (hp : ypm σ s n) (htr : ytrn s n) {f1 f2 : Int} {K : Int → Option (Int × xa_H)} : fm_M_lay_45 f1 f2 σ K xFU 0 0 = K ((ywy0 s n : Nat) : Int) := by
  have hn := hg.1
  have tn : ∀ j : Nat, ((j : Int)).toNat = j := fun j => rfl
  have key : ∀ (d j fu : Nat), j + d = n → d < fu → fm_M_lay_45 f1 f2 σ K fu ((ywy0 s j : Nat) : Int) (j : Int) = K ((ywy0 s n : Nat) : Int) := by
    intro d
    induction d with
    | zero =>
      intro j fu hj hd
      obtain ⟨m, rfl⟩ : ∃ m, fu = m + 1 := ⟨fu - 1, by omega⟩
      have : j = n := by omega
      subst this
      rw [fm_M_lay_45, hp.1, if_pos (by omega)]
    | succ d ih =>
      intro j fu hj hd
      obtain ⟨m, rfl⟩ : ∃ m, fu = m + 1 := ⟨fu - 1, by omega⟩
      have hr := ymv_r (c := s j)
      have h6 := htr j (by omega)
      have hw := ywy0_r (s := s) (i := j) (fun k hk => htr k (by omega))
      have hnext := ih (j + 1) m (by omega) (by omega)
      have hs : ywy0 s (j + 1) = yn (ywy0 s j) ((ymv (s j)).toNat - 6) := rfl
      generalize ywy0 s j = w at hw hs ⊢
      have e1 : w32 (w32 (w32 (6 * (w : Int)) + ymv (s j)) - 6) = ((6 * w + ((ymv (s j)).toNat - 6) : Nat) : Int) := by
        rw [w32_n (x := 6 * (w : Int)) (by omega) (by omega), w32_n (x := 6 * (w : Int) + ymv (s j)) (by omega) (by omega)]
        exact w32_k (by omega) (by omega)
      rw [fm_M_lay_45, hp.1, if_neg (by omega), if_pos ⟨by omega, by omega⟩, tn, hp.2 j (by omega), q_moveOf1 (by omega), Option.bind_some, e1, if_pos ⟨by omega, by omega⟩, tn, xnm_e, xnm_e, w32_s (by omega), ht.2 _ (by omega)]
      have e2 : ynxl.getD (6 * w + ((ymv (s j)).toNat - 6)) 0 = ywy0 s (j + 1) := by rw [hs, yn_e]; rfl
      rw [e2]
      exact hnext
  have h0 := key n 0 xFU (by omega) (xfu_b (by omega))
  exact h0
theorem ym_clr {σ f : xa_H} (hs : ym σ f) : ym (xup σ 9 0 19 0) (aclr f) := ym_pad hs (xfm_u9 (by decide)) (aclr_q f) (ypd_0 xup_at)
theorem M_lay {σ f : xa_H} (hs : ym σ f) (hv : yv f) (t c : Int) : xW (fm_M_lay t c σ) fun r => r.1 = (alay f t c).1 ∧ ym r.2 (alay f t c).2 := by
  obtain ⟨p1, p2⟩ := q_cellNo hs hv c
  have hp := ypd_m hs hv
  have hg := ypg_v hv
  unfold fm_M_lay
  refine xW_be (q_isThing t) ?_
  by_cases ht : 0 ≤ t ∧ t ≤ 3
  · rw [if_pos ht]
    refine xW_f (by decide) ?_
    by_cases hc : ycel f c
    · have hr := ypn_r hv hc
      have hc10 : 0 ≤ f 2 t.toNat 0 ∧ f 2 t.toNat 0 ≤ 10 := (hv.1.2.2.1 t.toNat (by omega)).1
      refine xW_be (p1 hc).1 (xW_f (by decide) (xW_t (by omega) ?_))
      rw [(hs.2.1.2.2.1 t.toNat (by omega)).1]
      by_cases h0 : f 2 t.toNat 0 = 0
      · have eA : alay f t c = (-3, f) := by unfold alay; rw [if_pos ⟨ht, hc⟩, if_pos h0]
        rw [eA]
        exact xW_t h0 (xW_some ⟨rfl, hs⟩)
      · refine xW_f h0 ?_
        obtain ⟨v, e1, e2⟩ := q_rowFault1 hg hp
        refine xW_be e1 ?_
        by_cases hv0 : v < 0
        · obtain ⟨hrf, htr⟩ := e2.mp hv0
          refine xW_t hv0 ?_
          rw [l_lay45 hs.1 hg hp htr]
          have hw24 := ywy0_r htr
          generalize hww : ywy0 (f 8 0) (f 7 0 0).toNat = w at hw24
          refine xW_bind (q_take0 hs (A := 0) (D := 0)) ?_
          rintro s9 ⟨b1, b2, b3⟩
          have tnn : (t.toNat : Int) = t := by omega
          have hrange := hc.2
          have hz := hv.1.1
          unfold qin at hrange
          unfold qsz at hz
          have ed : xdiv c 100 = c / 100 := xdiv_p hc.1
          have ed2 : xrem (xdiv c 10) 10 = c / 10 % 10 := by rw [xdiv_p hc.1, xrem_p (by omega)]
          have ed3 : xrem c 10 = c % 10 := xrem_p hc.1
          rw [ed, ed2, ed3]
          have hwa := q_whyAt (t := t.toNat) (w := w) b1 hv (by omega) (by omega) (b3 t.toNat) hw24 (x := c / 100) (y := c / 10 % 10) (z := c % 10) (by omega) (by omega) (by omega)
          rw [tnn] at hwa
          refine xW_b2 hwa ?_
          rintro x s11 ⟨g1, g2⟩
          have g1 : x = ywn (yPl f t.toNat) w (c / 100) (c / 10 % 10) (c % 10) (f 2 t.toNat 0).toNat := g1
          have g2 : xfm [66, 67, 68] [] s9 s11 := g2
          have b11 := ym_f g2 (by decide) (by decide) b1
          have hfe : x < 0 ↔ yfit (yPl f t.toNat) w (c / 100) (c / 10 % 10) (c % 10) := by rw [g1]; exact ywn_fit
          by_cases hx : x < 0
          · have eA : alay f t c = (1, alay1 f t.toNat (ypn c) w) := by
              unfold alay
              rw [if_pos ⟨ht, hc⟩, if_neg h0, if_pos (by rw [hww]; exact ⟨hrf, htr, hfe.mp hx⟩), hww]
            rw [eA]
            refine xW_t hx (xW_be (p1 hc).2 (xW_t (by omega) (xW_nm (xW_t (by omega) (xW_nm (xW_nm (xW_some ⟨rfl, ?_⟩)))))))
            exact ym_clr (ym_2 (ym_2 b11 (by omega) (Or.inl ⟨rfl, rfl⟩)) (by omega) (Or.inr (Or.inl ⟨rfl, rfl⟩)))
          · have eA : alay f t c = (-5, f) := by
              unfold alay
              rw [if_pos ⟨ht, hc⟩, if_neg h0, if_neg (by rw [hww]; exact fun q => hx (hfe.mpr q.2.2))]
            rw [eA]
            exact xW_f hx (xW_some ⟨rfl, b11⟩)
        · have eA : alay f t c = (-5, f) := by
            unfold alay
            rw [if_pos ⟨ht, hc⟩, if_neg h0, if_neg (fun q => hv0 (e2.mpr ⟨q.1, q.2.1⟩))]
          rw [eA]
          exact xW_f hv0 (xW_some ⟨rfl, hs⟩)
    · have eA : alay f t c = (-1, f) := if_neg (fun h => hc h.2)
      rw [eA]
      exact xW_be (p2 hc) (xW_t rfl (xW_some ⟨rfl, hs⟩))
  · have eA : alay f t c = (-1, f) := if_neg (fun h => ht h.1)
    rw [eA, if_neg ht]
    exact xW_t rfl (xW_some ⟨rfl, hs⟩)
