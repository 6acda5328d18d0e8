/-! a thing is laid -/
noncomputable def yPl (f : xa_H) (t : Nat) : xa_H := ypr f 0 t (ykd f 0) 0 0
theorem yPl_v {f : xa_H} (hv : yv f) {t : Nat} (ht : t < 4) (hn : 1 ≤ f 2 t 0) : yPv (yPl f t) := ypr_v (b := 0) hv.1 ht hn (ykd_v hv.1) (by decide) (by decide)
theorem yon_0 {P : xa_H} (h : P 5 0 0 = 0) (k : Nat) : yon P k := by
  right
  rw [h]
  exact Nat.zero_testBit _
theorem yopn_0 {P : xa_H} (h : P 5 0 1 = 0) (q : Int) : yopn P q ↔ P 1 0 q.toNat = 0 := by
  unfold yopn
  rw [h]
  constructor
  · rintro (h1 | ⟨_, h2⟩)
    · exact h1
    · have : ((0 : Int)).toNat.testBit ((P 1 0 q.toNat).toNat - 2) = false := Nat.zero_testBit _
      rw [this] at h2; cases h2
  · intro h1; exact Or.inl h1
theorem ywn_why {P : xa_H} (hA : P 5 0 0 = 0) (hD : P 5 0 1 = 0) (w : Nat) (x y z : Int) : ywn P w x y z (P 2 0 0).toNat = if ywhy P w x y z = 0 then -6 else ywhy P w x y z := by
  have h1 : yoto P w x y z (P 2 0 0).toNat ↔ yout P w x y z := by
    constructor
    · rintro (h | ⟨k, a, _, b⟩)
      · exact Or.inl h
      · exact Or.inr ⟨k, a, b⟩
    · rintro (h | ⟨k, a, b⟩)
      · exact Or.inl h
      · exact Or.inr ⟨k, a, yon_0 hA k, b⟩
  have h2 : ysto P w x y z (P 2 0 0).toNat ↔ ysht P w x y z := by
    constructor
    · rintro ⟨k, a, _, b⟩
      exact ⟨k, a, fun h => b ((yopn_0 hD _).mpr h)⟩
    · rintro ⟨k, a, b⟩
      exact ⟨k, a, yon_0 hA k, fun h => b ((yopn_0 hD _).mp h)⟩
  unfold ywn ywhy
  by_cases a : yout P w x y z
  · rw [if_pos (h1.mpr a), if_pos a, if_neg (by decide)]
  · rw [if_neg (fun h => a (h1.mp h)), if_neg a]
    by_cases b : ysht P w x y z
    · rw [if_pos (h2.mpr b), if_pos b, if_neg (by decide)]
    · rw [if_neg (fun h => b (h2.mp h)), if_neg b, if_pos rfl]
theorem ywhy_r {P : xa_H} (w : Nat) (x y z : Int) : ywhy P w x y z = 0 ∨ ywhy P w x y z = 1 ∨ ywhy P w x y z = 2 := by
  unfold ywhy
  by_cases a : yout P w x y z
  · rw [if_pos a]; exact Or.inr (Or.inl rfl)
  · rw [if_neg a]
    by_cases b : ysht P w x y z
    · rw [if_pos b]; exact Or.inr (Or.inr rfl)
    · rw [if_neg b]; exact Or.inl rfl
theorem ywhy_fit {P : xa_H} (hA : P 5 0 0 = 0) (hD : P 5 0 1 = 0) (w : Nat) (x y z : Int) : ywhy P w x y z = 0 ↔ yfit P w x y z := by
  rw [← ywn_fit, ywn_why hA hD]
  rcases ywhy_r (P := P) w x y z with h | h | h <;> rw [h] <;> decide
/-- the row's turns -/
def ytrn (s : Nat → Int) (n : Nat) : Prop := ∀ i, i < n → 6 ≤ ymv (s i)
noncomputable def ywy0 (s : Nat → Int) : Nat → Nat
  | 0 => 0
  | i + 1 => yn (ywy0 s i) ((ymv (s i)).toNat - 6)
theorem ywy0_r {s : Nat → Int} : ∀ {i : Nat}, (∀ k, k < i → 6 ≤ ymv (s k)) → ywy0 s i < 24 := by
  intro i
  induction i with
  | zero => intro _; show (0 : Nat) < 24; decide
  | succ i ih =>
    intro h
    have h1 := ih (fun k hk => h k (by omega))
    have h2 := h i (by omega)
    have h3 := ymv_r (c := s i)
    exact yn_r _ h1 _ (by omega)
theorem q_turned {σ : xa_H} {s : Nat → Int} {n : Nat} (ht : yct σ) (hg : ypg s n) (hp : ypc σ s n) (hm : ∀ i, i < n → 0 ≤ ymv (s i)) : (ytrn s n → fm_S_turnedByPad σ = some ((ywy0 s n : Nat) : Int)) ∧ (¬ ytrn s n → fm_S_turnedByPad σ = some (-5)) := by
  have hn := hg.1
  have key : ∀ (d j fu : Nat), j + d = n → d < fu → (∀ k, k < j → 6 ≤ ymv (s k)) →
      (ytrn s n → fm_S_turnedByPad_4 σ (fun v => some v) fu ((ywy0 s j : Nat) : Int) (j : Int) = some ((ywy0 s n : Nat) : Int)) ∧ (¬ ytrn s n → fm_S_turnedByPad_4 σ (fun v => some v) fu ((ywy0 s j : Nat) : Int) (j : Int) = some (-5)) := by
    intro d
    induction d with
    | zero =>
      intro j fu hj hd hall
      obtain ⟨m, rfl⟩ : ∃ m, fu = m + 1 := ⟨fu - 1, by omega⟩
      have : j = n := by omega
      subst this
      rw [fm_S_turnedByPad_4, hp.1, if_pos (by omega)]
      exact ⟨fun _ => rfl, fun h => absurd hall h⟩
    | succ d ih =>
      intro j fu hj hd hall
      obtain ⟨m, rfl⟩ : ∃ m, fu = m + 1 := ⟨fu - 1, by omega⟩
      have hr := ymv_r (c := s j)
      have h0 := hm j (by omega)
      rw [fm_S_turnedByPad_4, hp.1, if_neg (by omega), q_moveAtC hg hp (by omega), Option.bind_some, w32_n (x := ymv (s j) - 6) (by omega) (by omega), xnm_e]
      by_cases h6 : 6 ≤ ymv (s j)
      · have e : ymv (s j) - 6 = (((ymv (s j)).toNat - 6 : Nat) : Int) := by omega
        rw [if_pos (by omega), e, q_after ht (ywy0_r hall) (by omega), Option.bind_some, xnm_e, w32_s (by omega)]
        refine ih (j + 1) m (by omega) (by omega) (fun k hk => ?_)
        by_cases hkj : k = j
        · rw [hkj]; exact h6
        · exact hall k (by omega)
      · rw [if_neg (by omega)]
        exact ⟨fun h => absurd (h j (by omega)) h6, fun _ => rfl⟩
  unfold fm_S_turnedByPad
  exact key n 0 xFU (by omega) (xfu_b (by omega)) (fun k hk => by omega)
/-- the place and the way are set, the pad is empty -/
noncomputable def alay1 (f : xa_H) (t : Nat) (p : Int) (w : Nat) : xa_H := aclr (xup (xup f 2 t 1 p) 2 t 2 (w : Int))
noncomputable def alay (f : xa_H) (t c : Int) : Int × xa_H :=
  @ite (Int × xa_H) ((0 ≤ t ∧ t ≤ 3) ∧ ycel f c) (Classical.propDecidable _) (if f 2 t.toNat 0 = 0 then (-3, f) else
    @ite (Int × xa_H) (yrwf (f 8 0) (f 7 0 0).toNat (f 7 0 0).toNat 0 < 0 ∧ ytrn (f 8 0) (f 7 0 0).toNat ∧ yfit (yPl f t.toNat) (ywy0 (f 8 0) (f 7 0 0).toNat) (c / 100) (c / 10 % 10) (c % 10)) (Classical.propDecidable _)
      (1, alay1 f t.toNat (ypn c) (ywy0 (f 8 0) (f 7 0 0).toNat)) (-5, f)) (-1, f)
/-- a thing that fits lies well -/
theorem V_lay1 {f : xa_H} (hv : yv f) {t : Nat} (ht : t < 4) (hn : 1 ≤ f 2 t 0) {p : Int} {w : Nat} (hw : w < 24) (hp : 0 ≤ p ∧ p < 144) (hfit : yfit (yPl f t) w (p / 24) (p / 4 % 6) (p % 4)) : yv (alay1 f t p w) := by
  refine V_clr (yv_up hv (yval_th (f' := xup (xup f 2 t 1 p) 2 t 2 (w : Int)) (t := t) hv.1 ?_ ?_ ?_ ?_ ?_ ?_ (fun t' ht' => ?_) ?_) ?_ (fun K' hK => ?_))
  · rw [xup_k (by decide), xup_k (by decide)]
  · rw [xup_k (by decide), xup_k (by decide)]
  · rw [xup_k (by decide), xup_k (by decide)]
  · rw [xup_k (by decide), xup_k (by decide)]
  · rw [xup_k (by decide), xup_k (by decide)]
  · rw [xup_k (by decide), xup_k (by decide)]
  · rw [xup_i (by omega), xup_i (by omega)]
  · obtain ⟨a1, a2, a3, a4, a5, a6, a7⟩ := hv.1.2.2.1 t ht
    have hC : yC (xup (xup f 2 t 1 p) 2 t 2 (w : Int)) 0 t = yC f 0 t := by unfold yC; rw [xup_k (by decide), xup_k (by decide)]
    have e0 : xup (xup f 2 t 1 p) 2 t 2 (w : Int) (0 + 2) t 0 = f (0 + 2) t 0 := by rw [xup_o (by omega), xup_o (by omega)]
    have e1 : xup (xup f 2 t 1 p) 2 t 2 (w : Int) (0 + 2) t 1 = p := by rw [xup_o (by omega)]; exact xup_at
    have e2 : xup (xup f 2 t 1 p) 2 t 2 (w : Int) (0 + 2) t 2 = (w : Int) := xup_at
    have e3 : xup (xup f 2 t 1 p) 2 t 2 (w : Int) (0 + 2) t 3 = f (0 + 2) t 3 := by rw [xup_o (by omega), xup_o (by omega)]
    have k0 : xup (xup f 2 t 1 p) 2 t 2 (w : Int) 0 = f 0 := by rw [xup_k (by decide), xup_k (by decide)]
    have k5 : xup (xup f 2 t 1 p) 2 t 2 (w : Int) (0 + 5) = f (0 + 5) := by rw [xup_k (by decide), xup_k (by decide)]
    have k6 : xup (xup f 2 t 1 p) 2 t 2 (w : Int) (0 + 6) = f (0 + 6) := by rw [xup_k (by decide), xup_k (by decide)]
    refine ⟨by rw [e0]; exact a1, by rw [e0, hC]; exact a2, by rw [e0, k6]; exact a3, Or.inr ?_, by rw [e2]; omega, by rw [e3, k0]; exact a6, by rw [k5]; exact a7⟩
    unfold ylie
    rw [e0, e1, e2, hC, k0]
    refine ⟨hn, hp, hfit.1, fun k hk => ?_⟩
    have := (hfit.2 k hk (yon_0 rfl k)).1
    have tn : (((w : Nat) : Int)).toNat = w := rfl
    rw [tn]
    exact this
  · show (0 ≤ xup (xup f 2 t 1 p) 2 t 2 (w : Int) 7 0 0 ∧ xup (xup f 2 t 1 p) 2 t 2 (w : Int) 7 0 0 ≤ 60) ∧ ∀ i, (i : Nat) < (xup (xup f 2 t 1 p) 2 t 2 (w : Int) 7 0 0).toNat → 33 ≤ xup (xup f 2 t 1 p) 2 t 2 (w : Int) 8 0 i ∧ xup (xup f 2 t 1 p) 2 t 2 (w : Int) 8 0 i ≤ 126
    have k7 : xup (xup f 2 t 1 p) 2 t 2 (w : Int) 7 = f 7 := by rw [xup_k (by decide), xup_k (by decide)]
    have k8 : xup (xup f 2 t 1 p) 2 t 2 (w : Int) 8 = f 8 := by rw [xup_k (by decide), xup_k (by decide)]
    rw [k7, k8]
    exact hv.2.1
  · rw [xup_k (by omega), xup_k (by omega)]
theorem V_lay {f : xa_H} (hv : yv f) (t c : Int) : yv (alay f t c).2 := by
  unfold alay
  by_cases h : (0 ≤ t ∧ t ≤ 3) ∧ ycel f c
  · rw [if_pos h]
    by_cases h0 : f 2 t.toNat 0 = 0
    · rw [if_pos h0]; exact hv
    · rw [if_neg h0]
      by_cases h1 : yrwf (f 8 0) (f 7 0 0).toNat (f 7 0 0).toNat 0 < 0 ∧ ytrn (f 8 0) (f 7 0 0).toNat ∧ yfit (yPl f t.toNat) (ywy0 (f 8 0) (f 7 0 0).toNat) (c / 100) (c / 10 % 10) (c % 10)
      · rw [if_pos h1]
        have hr := ypn_r hv h.2
        have hc := (hv.1.2.2.1 t.toNat (by omega)).1
        have hc : 0 ≤ f 2 t.toNat 0 ∧ f 2 t.toNat 0 ≤ 10 := hc
        refine V_lay1 hv (by omega) (by omega) (ywy0_r h1.2.1) ⟨hr.1, hr.2.1⟩ ?_
        rw [hr.2.2.1, hr.2.2.2.1, hr.2.2.2.2]
        exact h1.2.2
      · rw [if_neg h1]; exact hv
  · rw [if_neg h]; exact hv
/-- the class is told where a thing lies -/
theorem yc_lay1 {σ f : xa_H} (hs : yst σ f) (hc : yca σ f) (hf : yfl σ) {t : Nat} (ht : t < 4) (p : Int) (w : Nat) : yc (xup (xup (xup (xup σ 5 t 1 p) 5 t 2 (w : Int)) 2 0 1 0) 0 0 1 0) (alay1 f t p w) := by
  have a1 := yst_5 (yst_5 hs ht (Or.inl rfl) (v := p)) ht (Or.inr (Or.inl rfl)) (v := (w : Int))
  have a2 := yca_5 (t := t) (v := (w : Int)) (Or.inr (Or.inl rfl)) (yca_5 (t := t) (v := p) (Or.inl rfl) hc)
  have a3 : yfl (xup (xup σ 5 t 1 p) 5 t 2 (w : Int)) := yfl_k (by rw [xup_k (by decide), xup_k (by decide)]) (by rw [xup_k (by decide), xup_k (by decide)]) (by rw [xup_k (by decide), xup_k (by decide)]) hf
  unfold alay1
  generalize xup (xup σ 5 t 1 p) 5 t 2 (w : Int) = s at a1 a2 a3 ⊢
  generalize xup (xup f 2 t 1 p) 2 t 2 (w : Int) = f' at a1 a2 ⊢
  have hfx : xfs [2] [] s (xup s 2 0 1 0) := xfs_up (by decide) (by decide)
  have b1 : yst (xup s 2 0 1 0) (aclr f') := by
    refine yst_pad a1 (fun K k1 _ => xup_k k1) (aclr_q f') (ypd_0 xup_at)
  have b2 : yca (xup s 2 0 1 0) (aclr f') := yca_f hfx (by decide) (by decide) (yca_e (yeqA_b (aclr_q f') (by decide)) a2)
  exact yc_fg b1 b2 (yfl_f hfx (by decide) (by decide) a3)
theorem xfs_yfl {L M : List Nat} {σ σ' f : xa_H} (h : xfs L M σ σ') (hL : 22 ∉ L ∧ 23 ∉ L) (hM : 10 ∉ M) (hf : yfl σ) : yfl σ' := yfl_f h hL hM hf
/-- after a look at a thing the class is as it was -/
theorem q_about_c {σ f : xa_H} (hs : yc σ f) (hv : yv f) {t : Nat} (ht : t < 4) (hn : 1 ≤ f 2 t 0) : xW (fm_Search_about t σ) fun s => yc s f ∧ ysc s (yPl f t) ∧ yhc s (yPl f t) ∧ s 3 0 8 = (t : Int) ∧ xfs [18, 20, 21] [8] σ s ∧ (σ 3 0 8 < 0 → ∀ c, c < 3456 → s 21 0 c = -1) := by
  refine xW_mono (q_about hs.1 hv hs.2.1 ht hn) ?_
  rintro s ⟨a1, a2, a3, a4, a5⟩
  refine ⟨⟨yst_f (xfc_s a1 (by decide)) hs.1, Or.inr (Or.inr ⟨t, ht, a4, hn, a2, a3⟩), yfl_f a1 (by decide) (by decide) hs.2.2.1, yan_f (a1.1 0 (by decide) (by decide)) (a1.1 12 (by decide) (by decide)) hs.2.2.2⟩, a2, a3, a4, a1, a5⟩
theorem K_lay {σ f : xa_H} (hs : yc σ f) (hv : yv f) (t c : Int) : xW (fm_S_lay t c σ) fun r => r.1 = (alay f t c).1 ∧ yc r.2 (alay f t c).2 := by
  obtain ⟨p1, p2⟩ := q_placeOf hs.1 hv c
  obtain ⟨hp, hg⟩ := ypd_c hs.1 hv
  have hpl : ∃ x, fm_Way_placeOf 0 c σ = some x := by
    cases Classical.em (ycel f c) with
    | inl h => exact ⟨_, p1 h⟩
    | inr h => exact ⟨_, p2 h⟩
  unfold fm_S_lay
  by_cases h : (0 ≤ t ∧ t ≤ 3) ∧ ycel f c
  · have hr := ypn_r hv h.2
    have hth := hs.1.2.1.2.2.1 t.toNat (by omega)
    have e4 : 4 * 0 + t.toNat = t.toNat := by omega
    rw [e4] at hth
    have e0 : σ 5 t.toNat 0 = f 2 t.toNat 0 := hth.1.1
    have hc10 : 0 ≤ f 2 t.toNat 0 ∧ f 2 t.toNat 0 ≤ 10 := (hv.1.2.2.1 t.toNat (by omega)).1
    refine xW_f (by omega) (xW_f (by omega) (xW_t (by omega) (xW_be (p1 h.2) (xW_t hr.1 ?_))))
    rw [e4, e0]
    by_cases h0 : f 2 t.toNat 0 = 0
    · have eA : alay f t c = (-3, f) := by unfold alay; rw [if_pos h, if_pos h0]
      rw [eA]
      exact xW_t h0 (xW_some ⟨rfl, hs⟩)
    · refine xW_f h0 (xW_be (q_rowFaultC hg hp) (xW_j ?_))
      by_cases hrf : yrwf (f 8 0) (f 7 0 0).toNat (f 7 0 0).toNat 0 < 0
      · have hr6 : yrwf (f 8 0) (f 7 0 0).toNat (f 7 0 0).toNat 0 = -6 := by
          rcases yrwf_r (s := f 8 0) (n := (f 7 0 0).toNat) (d := (f 7 0 0).toNat) (j := 0) with h | h
          · exact h
          · omega
        have hm : ∀ i, i < (f 7 0 0).toNat → 0 ≤ ymv (f 8 0 i) := by
          intro i hi
          rcases yrwf_n (s := f 8 0) (n := (f 7 0 0).toNat) (d := (f 7 0 0).toNat) (j := 0) (by omega) hrf with ⟨_, h⟩ | h
          · exact h i (by omega) hi
          · omega
        obtain ⟨t1, t2⟩ := q_turned hs.1.1 hg hp hm
        refine xW_t hr6 ?_
        by_cases htr : ytrn (f 8 0) (f 7 0 0).toNat
        · refine xW_be (t1 htr) (xW_t (by omega) ?_)
          have hw24 := ywy0_r htr
          generalize hww : ywy0 (f 8 0) (f 7 0 0).toNat = w at hw24
          refine xW_bind (q_about_c hs hv (by omega) (by omega)) ?_
          rintro s ⟨b1, b2, b3, b4, b5, _⟩
          have ew : w32 (w32 (ypn c * 24) + (w : Int)) = ((24 * (ypn c).toNat + w : Nat) : Int) := w32_2 (by omega) (by omega) (by omega)
          have hd : (24 * (ypn c).toNat + w) / 24 = (ypn c).toNat := by omega
          have hmd : (24 * (ypn c).toNat + w) % 24 = w := by omega
          have cX : yX (24 * (ypn c).toNat + w) = c / 100 := by unfold yX; rw [hd]; omega
          have cY : yY (24 * (ypn c).toNat + w) = c / 10 % 10 := by unfold yY; rw [hd]; omega
          have cZ : yZ (24 * (ypn c).toNat + w) = c % 10 := by unfold yZ; rw [hd]; omega
          have hcell : ycell (yPl f t.toNat) (24 * (ypn c).toNat + w) := ⟨by omega, by rw [cX, cY, cZ]; exact h.2.2⟩
          rw [ew]
          have hPv := yPl_v hv (show t.toNat < 4 by omega) (by omega)
          refine xW_be (q_why b1.1.1 hPv b2 hcell) ?_
          rw [hmd, cX, cY, cZ]
          have hfe := ywhy_fit (P := yPl f t.toNat) rfl rfl w (c / 100) (c / 10 % 10) (c % 10)
          refine xW_if (fun hz => ?_) (fun hz => ?_)
          · have eA : alay f t c = (1, alay1 f t.toNat (ypn c) w) := by
              unfold alay
              rw [if_pos h, if_neg h0, if_pos (by rw [hww]; exact ⟨hrf, htr, hfe.mp hz⟩), hww]
            rw [eA]
            have hcl : fm_Pad_clear (xup (xup s 5 t.toNat 1 (ypn c)) 5 t.toNat 2 (w : Int)) = some (xup (xup s 5 t.toNat 1 (ypn c)) 5 t.toNat 2 (w : Int) 2 0 1, xup (xup (xup s 5 t.toNat 1 (ypn c)) 5 t.toNat 2 (w : Int)) 2 0 1 0) := rfl
            refine xW_nm (xW_nm (xW_be2 hcl (xW_be rfl (xW_some ⟨rfl, ?_⟩))))
            exact yc_lay1 b1.1 b1.2.1 b1.2.2.1 (by omega) _ _
          · have eA : alay f t c = (-5, f) := by
              unfold alay
              rw [if_pos h, if_neg h0, if_neg (by rw [hww]; exact fun q => hz (hfe.mpr q.2.2))]
            rw [eA]
            exact xW_some ⟨rfl, b1⟩
        · have eA : alay f t c = (-5, f) := by
            unfold alay
            rw [if_pos h, if_neg h0, if_neg (fun q => htr q.2.1)]
          rw [eA]
          exact xW_be (t2 htr) (xW_f (by decide) (xW_some ⟨rfl, hs⟩))
      · have eA : alay f t c = (-5, f) := by
          unfold alay
          rw [if_pos h, if_neg h0, if_neg (fun q => hrf q.1)]
        rw [eA]
        exact xW_f (by omega) (xW_f (by decide) (xW_some ⟨rfl, hs⟩))
  · have eA : alay f t c = (-1, f) := if_neg h
    rw [eA]
    obtain ⟨x, hx⟩ := hpl
    by_cases h1 : t < 0
    · exact xW_t h1 (xW_be hx (xW_some ⟨rfl, hs⟩))
    · by_cases h2 : 4 ≤ t
      · exact xW_f h1 (xW_t h2 (xW_be hx (xW_some ⟨rfl, hs⟩)))
      · exact xW_f h1 (xW_f h2 (xW_t (by omega) (xW_be (p2 (fun hc => h ⟨by omega, hc⟩)) (xW_f (by decide) (xW_some ⟨rfl, hs⟩)))))
