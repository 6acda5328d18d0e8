/-! where things lie: goal, lay, judge, move -/
theorem yst_5 {σ f : xa_H} (hs : yst σ f) {t j : Nat} {v : Int} (ht : t < 4) (hj : j = 1 ∨ j = 2 ∨ j = 3) : yst (xup σ 5 t j v) (xup f 2 t j v) := by
  have hk : ∀ K', ¬ K' = 5 → xup σ 5 t j v K' = σ K' := fun K' a => xup_k a
  have hC : ∀ t', yC (xup f 2 t j v) 0 t' = yC f 0 t' := by
    intro t'
    unfold yC
    rw [xup_k (by decide)]
  refine yst_up hs ⟨hk 31 (by decide), hk 32 (by decide), hk 19 (by decide)⟩ ?_ ?_ ?_ (fun K' hK' i' _ _ => by rw [hk K' (by omega)]) (fun K' hK' i' h4 _ => by rw [xup_i (by omega)]) (fun K' h => xup_k (by omega))
  · obtain ⟨b1, b2, b3, b4⟩ := hs.2.1
    refine ⟨?_, ?_, fun t' ht' => ?_, ?_⟩
    · rw [hk 7 (by decide), xup_k (by decide)]; exact b1
    · rw [hk 33 (by decide), xup_k (by decide)]; exact b2
    · obtain ⟨⟨c0, c1, c2, c3⟩, d2, d3, d4⟩ := b3 t' ht'
      have e0 : xup f 2 t j v (0 + 2) t' 0 = f (0 + 2) t' 0 := by rw [xup_o (by omega)]
      refine ⟨?_, ?_, ?_, ?_⟩
      · have hx : ∀ j', σ 5 (4 * 0 + t') j' = f (0 + 2) t' j' → xup σ 5 t j v 5 (4 * 0 + t') j' = xup f 2 t j v (0 + 2) t' j' := by
          intro j' h
          rw [xup_v, xup_v, h]
          by_cases hh : t' = t ∧ j' = j
          · rw [if_pos (by omega), if_pos (by omega)]
          · rw [if_neg (by omega), if_neg (by omega)]
        exact ⟨hx 0 c0, hx 1 c1, hx 2 c2, hx 3 c3⟩
      · rw [hk 30 (by decide), xup_k (by decide)]; exact d2
      · rw [hk 27 (by decide), hk 28 (by decide), e0, xup_k (show ¬ 0 + 6 = 2 by decide)]; exact d3
      · rw [hk 29 (by decide), e0, hC]; exact d4
    · rw [hk 25 (by decide), hk 26 (by decide), xup_k (by decide), xup_k (by decide)]; exact b4
  · intro p m hp hm
    rw [hk 34 (by decide), hs.2.2.1 p m hp hm]
    exact (ybs_e (by rw [xup_k (by decide)])).symm
  · unfold ypd
    rw [hk 2 (by decide), hk 17 (by decide), xup_k (by decide), xup_k (by decide)]
    exact hs.2.2.2.1
theorem ym_2 {σ f : xa_H} (hs : ym σ f) {t K j : Nat} {v : Int} (ht : t < 4) (hj : (K = 62 ∧ j = 1) ∨ (K = 63 ∧ j = 2) ∨ (K = 64 ∧ j = 3)) : ym (xup σ K 0 t v) (xup f 2 t j v) := by
  have hk : ∀ K', ¬ K' = K → xup σ K 0 t v K' = σ K' := fun K' a => xup_k a
  refine ym_up hs ⟨hk 50 (by omega), hk 51 (by omega), hk 75 (by omega), hk 76 (by omega)⟩ ?_ ?_ (fun K' h => xup_k (by omega))
  · obtain ⟨b1, b2, b3, b4, b5, b6⟩ := hs.2.1
    refine ⟨?_, ?_, fun t' ht' => ?_, ?_, ?_, ?_⟩
    · rw [hk 9 (by omega), xup_k (by decide)]; exact b1
    · rw [hk 53 (by omega), xup_k (by decide)]; exact b2
    · obtain ⟨c0, c1, c2, c3⟩ := b3 t' ht'
      have hx : ∀ K' j', σ K' 0 t' = f 2 t' j' → (K' = K ↔ j' = j) → xup σ K 0 t v K' 0 t' = xup f 2 t j v 2 t' j' := by
        intro K' j' h hi
        rw [xup_v, xup_v, h]
        by_cases hh : t' = t ∧ j' = j
        · rw [if_pos ⟨hi.mpr hh.2, rfl, hh.1⟩, if_pos ⟨rfl, hh⟩]
        · rw [if_neg (fun q => hh ⟨q.2.2, hi.mp q.1⟩), if_neg (fun q => hh q.2)]
      refine ⟨hx 54 0 c0 (by omega), hx 62 1 c1 (by omega), hx 63 2 c2 (by omega), hx 64 3 c3 (by omega)⟩
    · rw [hk 60 (by omega), hk 61 (by omega), xup_k (by decide), xup_k (by decide)]; exact b4
    · rw [hk 59 (by omega), xup_k (by decide)]; exact b5
    · rw [hk 55 (by omega), hk 56 (by omega), hk 57 (by omega), hk 58 (by omega), xup_k (by decide)]; exact b6
  · unfold ypd
    rw [hk 9 (by omega), hk 65 (by omega), xup_k (by decide), xup_k (by decide)]
    exact hs.2.2.1
/-- one thing has changed: where it lies, its goal -/
theorem yval_th {f f' : xa_H} (hv : yval f 0) (h0 : f' 0 = f 0) (h1 : f' 1 = f 1) (h3 : f' 3 = f 3) (h4 : f' 4 = f 4) (h5 : f' 5 = f 5) (h6 : f' 6 = f 6) {t : Nat} (ht : ∀ t', ¬ t' = t → f' 2 t' = f 2 t') (hn : ythv f' 0 t) : yval f' 0 := by
  obtain ⟨k1, k2, k3, k4⟩ := hv
  refine ⟨by rw [h0]; exact k1, by show ∀ q, q < 144 → 0 ≤ f' 1 0 q ∧ f' 1 0 q ≤ 5; rw [h1]; exact k2, fun t' ht' => ?_, ?_⟩
  · by_cases he : t' = t
    · rw [he]; exact hn
    · have hC : yC f' 0 t' = yC f 0 t' := by
        funext k a
        show f' 6 (10 * t' + k) a = f 6 (10 * t' + k) a
        rw [h6]
      have e2 : f' (0 + 2) t' = f (0 + 2) t' := ht t' he
      obtain ⟨a1, a2, a3, a4, a5, a6, a7⟩ := k3 t' ht'
      refine ⟨by rw [e2]; exact a1, by rw [e2, hC]; exact a2, ?_, ?_, by rw [e2]; exact a5, by rw [e2, h0]; exact a6, ?_⟩
      · rw [e2]
        show ∀ k, k < (f (0 + 2) t' 0).toNat → f' 6 (10 * t' + k) 3 = -6 ∨ (0 ≤ f' 6 (10 * t' + k) 3 ∧ f' 6 (10 * t' + k) 3 ≤ 3)
        rw [h6]; exact a3
      · rw [e2]
        rcases a4 with a4 | a4
        · exact Or.inl a4
        · right
          unfold ylie
          rw [e2, h0, hC]
          exact a4
      · show ∀ i, i < 4 → 0 ≤ f' 5 t' i ∧ f' 5 t' i ≤ 9
        rw [h5]; exact a7
  · show ∀ i, i < 4 → (0 ≤ f' 3 0 i ∧ f' 3 0 i ≤ 9) ∧ (0 ≤ f' 4 0 i ∧ f' 4 0 i ≤ 9)
    rw [h3, h4]; exact k4
/-- the goal -/
noncomputable def agoal (f : xa_H) (t c : Int) : Int × xa_H := @ite (Int × xa_H) ((0 ≤ t ∧ t ≤ 3) ∧ ycel f c) (Classical.propDecidable _) (anum (f 2 t.toNat 3), xup f 2 t.toNat 3 (ypn c)) (-1, f)
theorem V_goal {f : xa_H} (hv : yv f) (t c : Int) : yv (agoal f t c).2 := by
  unfold agoal
  by_cases h : (0 ≤ t ∧ t ≤ 3) ∧ ycel f c
  · rw [if_pos h]
    have hr := ypn_r hv h.2
    refine yv_up hv (yval_th (f' := xup f 2 t.toNat 3 (ypn c)) (t := t.toNat) hv.1 (xup_k (by decide)) (xup_k (by decide)) (xup_k (by decide)) (xup_k (by decide)) (xup_k (by decide)) (xup_k (by decide)) (fun t' ht' => xup_i (by omega)) ?_) ?_ (fun K' hK => xup_k (by omega))
    · obtain ⟨a1, a2, a3, a4, a5, a6, a7⟩ := hv.1.2.2.1 t.toNat (by omega)
      have hC : yC (xup f 2 t.toNat 3 (ypn c)) 0 t.toNat = yC f 0 t.toNat := by unfold yC; rw [xup_k (by decide)]
      have e0 : xup f 2 t.toNat 3 (ypn c) (0 + 2) t.toNat 0 = f (0 + 2) t.toNat 0 := by rw [xup_o (by omega)]
      have e1 : xup f 2 t.toNat 3 (ypn c) (0 + 2) t.toNat 1 = f (0 + 2) t.toNat 1 := by rw [xup_o (by omega)]
      have e2 : xup f 2 t.toNat 3 (ypn c) (0 + 2) t.toNat 2 = f (0 + 2) t.toNat 2 := by rw [xup_o (by omega)]
      have e3 : xup f 2 t.toNat 3 (ypn c) (0 + 2) t.toNat 3 = ypn c := xup_at
      refine ⟨by rw [e0]; exact a1, by rw [e0, hC]; exact a2, by rw [e0, xup_k (by decide)]; exact a3, ?_, by rw [e2]; exact a5, ?_, by rw [xup_k (by decide)]; exact a7⟩
      · rw [e1]
        rcases a4 with a4 | a4
        · exact Or.inl a4
        · right
          unfold ylie
          rw [e0, e1, e2, hC, xup_k (by decide)]
          exact a4
      · rw [e3, xup_k (by decide)]
        refine ⟨⟨hr.1, hr.2.1⟩, ?_⟩
        rw [hr.2.2.1, hr.2.2.2.1, hr.2.2.2.2]
        exact h.2.2
    · show (0 ≤ xup f 2 t.toNat 3 (ypn c) 7 0 0 ∧ xup f 2 t.toNat 3 (ypn c) 7 0 0 ≤ 60) ∧ ∀ i, (i : Nat) < (xup f 2 t.toNat 3 (ypn c) 7 0 0).toNat → 33 ≤ xup f 2 t.toNat 3 (ypn c) 8 0 i ∧ xup f 2 t.toNat 3 (ypn c) 8 0 i ≤ 126
      rw [xup_k (by decide), xup_k (by decide)]
      exact hv.2.1
  · rw [if_neg h]; exact hv
/-- the class after an answer is forgotten -/
theorem yc_fg {σ f : xa_H} (h1 : yst σ f) (h2 : yca σ f) (h3 : yfl σ) : yc (xup σ 0 0 1 0) f := by
  have hfx : xfs [0] [] σ (xup σ 0 0 1 0) := xfs_up (by decide) (by decide)
  exact ⟨yst_f (xfc_s hfx (by decide)) h1, yca_f hfx (by decide) (by decide) h2, yfl_f hfx (by decide) (by decide) h3, Or.inl xup_at⟩
theorem yca_5 {σ f : xa_H} {t j : Nat} {v : Int} (hj : j = 1 ∨ j = 2 ∨ j = 3) (h : yca σ f) : yca (xup σ 5 t j v) (xup f 2 t j v) := by
  have h' := yca_k (f' := xup f 2 t j v) (xup_k (by decide)) (xup_k (by decide)) (xup_k (by decide)) (fun t' => xup_o (by omega)) h
  unfold yca at h' ⊢
  rw [xup_k (show ¬ 3 = 5 by decide)]
  rcases h' with a | a | ⟨t', a1, a2, a3, a4, a5⟩
  · exact Or.inl a
  · exact Or.inr (Or.inl a)
  · refine Or.inr (Or.inr ⟨t', a1, a2, a3, ?_, ?_⟩)
    · obtain ⟨⟨i, b1, b2, b3⟩, b4, b5⟩ := a4
      refine ⟨⟨i, ?_, ?_, ?_⟩, ?_, ?_⟩
      · rw [xup_k (show ¬ 3 = 5 by decide)]; exact b1
      · rw [xup_o (by omega)]; exact b2
      · rw [xup_k (show ¬ 28 = 5 by decide)]; exact b3
      · rw [xup_k (show ¬ 18 = 5 by decide)]; exact b4
      · rw [xup_k (show ¬ 20 = 5 by decide)]; exact b5
    · unfold yhc
      rw [xup_k (show ¬ 21 = 5 by decide)]
      exact a5
theorem yfl_k {σ σ' : xa_H} (h3 : σ' 3 = σ 3) (h22 : σ' 22 = σ 22) (h23 : σ' 23 = σ 23) (h : yfl σ) : yfl σ' := by
  unfold yfl
  rw [h3, h22, h23]
  exact h
theorem K_goal {σ f : xa_H} (hs : yc σ f) (hv : yv f) (t c : Int) : xW (fm_S_goal t c σ) fun r => r.1 = (agoal f t c).1 ∧ yc r.2 (agoal f t c).2 := by
  obtain ⟨p1, p2⟩ := q_placeOf hs.1 hv c
  have hfg : ∀ s : xa_H, fm_Answer_forget s = some (xup s 0 0 1 0) := fun _ => rfl
  have hpl : ∃ x, fm_Way_placeOf 0 c σ = some x := by
    cases Classical.em (ycel f c) with
    | inl h => exact ⟨_, p1 h⟩
    | inr h => exact ⟨_, p2 h⟩
  unfold fm_S_goal
  by_cases h : (0 ≤ t ∧ t ≤ 3) ∧ ycel f c
  · have eA : agoal f t c = (anum (f 2 t.toNat 3), xup f 2 t.toNat 3 (ypn c)) := if_pos h
    have hr := ypn_r hv h.2
    have hth := hs.1.2.1.2.2.1 t.toNat (by omega)
    have hg := (hv.1.2.2.1 t.toNat (by omega)).2.2.2.2.2.1.1
    have hg : 0 ≤ f 2 t.toNat 3 ∧ f 2 t.toNat 3 < 144 := hg
    have e3 : σ 5 (4 * 0 + t.toNat) 3 = f 2 t.toNat 3 := hth.1.2.2.2
    rw [eA]
    refine xW_f (by omega) (xW_f (by omega) (xW_t (by omega) (xW_be (p1 h.2) (xW_t hr.1 (xW_nm (xW_nm (xW_be (hfg _) ?_)))))))
    rw [e3]
    refine xW_be (q_cellOf hg.1 hg.2) (xW_some ⟨rfl, ?_⟩)
    have e4 : 4 * 0 + t.toNat = t.toNat := by omega
    rw [e4]
    refine yc_fg (yst_5 hs.1 (by omega) (Or.inr (Or.inr rfl))) (yca_5 (Or.inr (Or.inr rfl)) hs.2.1) (yfl_k (xup_k (by decide)) (xup_k (by decide)) (xup_k (by decide)) hs.2.2.1)
  · have eA : agoal f t c = (-1, f) := if_neg h
    rw [eA]
    obtain ⟨x, hx⟩ := hpl
    by_cases h1 : t < 0
    · exact xW_t h1 (xW_be hx (xW_some ⟨rfl, hs⟩))
    · by_cases h2 : 4 ≤ t
      · exact xW_f h1 (xW_t h2 (xW_be hx (xW_some ⟨rfl, hs⟩)))
      · refine xW_f h1 (xW_f h2 (xW_t (by omega) (xW_be (p2 (fun hc => h ⟨by omega, hc⟩)) (xW_f (by decide) (xW_some ⟨rfl, hs⟩)))))
theorem q_isThing (t : Int) : fm_M_isThing t = some (if 0 ≤ t ∧ t ≤ 3 then 1 else 0) := by
  unfold fm_M_isThing
  rw [q_in, Option.bind_some]
  by_cases h : 0 ≤ t ∧ t ≤ 3
  · rw [if_pos h]; rfl
  · rw [if_neg h]; rfl
theorem M_goal {σ f : xa_H} (hs : ym σ f) (hv : yv f) (t c : Int) : xW (fm_M_goal t c σ) fun r => r.1 = (agoal f t c).1 ∧ ym r.2 (agoal f t c).2 := by
  obtain ⟨p1, p2⟩ := q_cellNo hs hv c
  unfold fm_M_goal
  refine xW_be (q_isThing t) ?_
  by_cases ht : 0 ≤ t ∧ t ≤ 3
  · rw [if_pos ht]
    refine xW_f (by decide) ?_
    by_cases hc : ycel f c
    · have eA : agoal f t c = (anum (f 2 t.toNat 3), xup f 2 t.toNat 3 (ypn c)) := if_pos ⟨ht, hc⟩
      have hg : 0 ≤ f 2 t.toNat 3 ∧ f 2 t.toNat 3 < 144 := (hv.1.2.2.1 t.toNat (by omega)).2.2.2.2.2.1.1
      rw [eA]
      refine xW_be (p1 hc).1 (xW_f (by decide) (xW_t (by omega) ?_))
      rw [(hs.2.1.2.2.1 t.toNat (by omega)).2.2.2]
      refine xW_be (q_numberOf hg.1 hg.2) (xW_be (p1 hc).2 (xW_t (by omega) (xW_nm (xW_some ⟨rfl, ?_⟩))))
      exact ym_2 hs (by omega) (Or.inr (Or.inr ⟨rfl, rfl⟩))
    · have eA : agoal f t c = (-1, f) := if_neg (fun h => hc h.2)
      rw [eA]
      exact xW_be (p2 hc) (xW_t rfl (xW_some ⟨rfl, hs⟩))
  · have eA : agoal f t c = (-1, f) := if_neg (fun h => ht h.1)
    rw [eA, if_neg ht]
    exact xW_t rfl (xW_some ⟨rfl, hs⟩)
