/-! room, on both sides -/
noncomputable def yroom (f : xa_H) (t : Nat) (w : Int) : Int := if w = 0 then ((yrch (yPl f t) (ystd f 0 t) : Nat) : Int) else if w = 1 then ((yscr (yPl f t) (f 2 t 2).toNat (f 2 t 1 / 24) (f 2 t 1 / 4 % 6) (f 2 t 1 % 4) (f 2 t 0).toNat : Nat) : Int) else ((ytb (yPl f t) (f 2 t 2).toNat 144 : Nat) : Int)
noncomputable def aroom (f : xa_H) (t w : Int) : Int := if 0 ≤ t ∧ t ≤ 3 then (if 0 ≤ w ∧ w ≤ 2 then (if f 2 t.toNat 1 < 0 then -3 else yroom f t.toNat w) else -2) else -1
section RM
variable {σ f : xa_H}
theorem l_room (hs : yc σ f) (hv : yv f) {t : Nat} (ht : t < 4) (hl : ¬ f 2 t 1 < 0) {w : Int} (hw : 0 ≤ w ∧ w ≤ 2) : xW (if w = 1 then (fm_S_scrapes t σ).bind fun v17 => some (v17, σ)
              else
                (fm_Search_about t σ).bind fun s18 =>
                (fm_Search_off 0 0 s18).bind fun s19 =>
                if w = 2 then
                  xb2 (fm_S_turnable t s19) fun v21 s22 =>
                  some (v21, s22)
                else
                  (fm_Thing_stand t s19).bind fun v23 =>
                  xb2 (fm_Search_flood v23 (-6) s19) fun v24 s25 =>
                  some ((s25 3 0 10), s25)) fun r => r.1 = yroom f t w ∧ yc r.2 f := by
  obtain ⟨hq, hlie⟩ := ystd_q hv ht hl
  have hn1 : 1 ≤ f 2 t 0 := hlie.1
  have hP := yPl_v hv ht hn1
  have hth := hv.1.2.2.1 t ht
  have hwr : 0 ≤ f 2 t 2 ∧ f 2 t 2 ≤ 23 := hth.2.2.2.2.1
  have hpr : 0 ≤ f 2 t 1 ∧ f 2 t 1 < 144 := hlie.2.1
  have hyt := hs.1.2.1.2.2.1 t ht
  have e4 : 4 * 0 + t = t := by omega
  rw [e4] at hyt
  have hy : yth σ t (f 2 t 0).toNat (yC f 0 t) := yclt_th hyt hth hn1
  obtain ⟨⟨c0, c1, c2, c3⟩, _⟩ := hyt
  have c0 : σ 5 t 0 = f 2 t 0 := c0
  have c1 : σ 5 t 1 = f 2 t 1 := c1
  have c2 : σ 5 t 2 = f 2 t 2 := c2
  by_cases h1 : w = 1
  · have eA : yroom f t w = ((yscr (yPl f t) (f 2 t 2).toNat (f 2 t 1 / 24) (f 2 t 1 / 4 % 6) (f 2 t 1 % 4) (f 2 t 0).toNat : Nat) : Int) := by unfold yroom; rw [if_neg (by omega), if_pos h1]
    rw [eA]
    obtain ⟨p, hp⟩ : ∃ p : Nat, f 2 t 1 = (p : Int) := ⟨(f 2 t 1).toNat, by omega⟩
    have hx : f 2 t 1 / 24 = ((p / 24 : Nat) : Int) ∧ f 2 t 1 / 4 % 6 = ((p / 4 % 6 : Nat) : Int) ∧ f 2 t 1 % 4 = ((p % 4 : Nat) : Int) := by rw [hp]; omega
    have hsc := q_scrapesC (P := yPl f t) (w := (f 2 t 2).toNat) (p := p) hs.1.1 hP (by omega) hy ⟨c0, by rw [c1]; exact hp, by rw [c2]; omega⟩ (by omega) hx hs.1.2.1.1 (fun q hq => hs.1.2.1.2.1 q hq)
    exact xW_t h1 (xW_be hsc (xW_some ⟨rfl, hs⟩))
  · refine xW_f h1 ?_
    by_cases h2 : w = 2
    · have eA : yroom f t w = ((ytb (yPl f t) (f 2 t 2).toNat 144 : Nat) : Int) := by unfold yroom; rw [if_neg (by omega), if_neg h1]
      rw [eA]
      refine xW_bind (q_about_c hs hv ht hn1) ?_
      rintro s7 ⟨a1, a2, a3, a4, a5, _⟩
      have hoff : xW (fm_Search_off 0 0 s7) fun σ' => xfs [] [9] s7 σ' ∧ σ' 3 0 9 = ((yhn 0 0 5 : Nat) : Int) := q_off (A := 0) (D := 0) (by decide) (by decide) s7
      refine xW_bind hoff ?_
      rintro s8 ⟨b1, b2⟩
      have h8 := yc_off a1 b1 (by decide)
      have hsc8 := ysc_f b1 (by decide) (by decide) a2
      have hhc8 := yhc_f b1 (by decide) a3
      have hyt8 := h8.1.2.1.2.2.1 t ht
      rw [e4] at hyt8
      have c28 : s8 5 t 2 = (((f 2 t 2).toNat : Nat) : Int) := by
        have : s8 5 t 2 = f 2 t 2 := hyt8.1.2.2.1
        omega
      refine xW_t h2 (xW_b2 (q_turnableC h8.1.1 hP hsc8 hhc8 b2 (yst_wy h8.1) (by omega) c28) ?_)
      rintro v s22 ⟨d1, d2, d3⟩
      exact xW_some ⟨d1, yc_up h8 d2 (by decide) (by decide) ht hn1 (by rw [b1.2 0 8 (by decide)]; exact a4) hsc8 d3 (yfl_f d2 (by decide) (by decide) h8.2.2.1)⟩
    · have eA : yroom f t w = ((yrch (yPl f t) (ystd f 0 t) : Nat) : Int) := by unfold yroom; rw [if_pos (by omega)]
      rw [eA]
      simp only [if_neg h2]
      exact l_come hs hv ht hl
theorem K_room (hs : yc σ f) (hv : yv f) (t w : Int) : xW (fm_S_room t w σ) fun r => r.1 = aroom f t w ∧ yc r.2 f := by
  unfold fm_S_room aroom
  rw [q_upTo]
  by_cases h : 0 ≤ t ∧ t ≤ 3
  · rw [if_pos h]
    refine xW_f (by omega) (xW_f (by omega) (xW_t (by omega) (xW_be rfl ?_)))
    by_cases hw : 0 ≤ w ∧ w ≤ 2
    · rw [if_pos hw, if_pos hw]
      obtain ⟨u, hu⟩ : ∃ u : Nat, t = (u : Int) := ⟨t.toNat, by omega⟩
      subst hu
      have tn : ((u : Int)).toNat = u := rfl
      have e4 : 4 * 0 + u = u := by omega
      have h51 : σ 5 u 1 = f 2 u 1 := by
        have := (hs.1.2.1.2.2.1 u (by omega)).1.2.1
        rw [e4] at this
        exact this
      rw [tn, e4, h51]
      refine xW_f (by decide) ?_
      by_cases hl : f 2 u 1 < 0
      · rw [if_pos hl]
        exact xW_f (by omega) (xW_f (by decide) (xW_some ⟨rfl, hs⟩))
      · rw [if_neg hl]
        exact xW_t (by omega) (xW_t rfl (l_room hs hv (by omega) hl hw))
    · rw [if_neg hw, if_neg hw]
      exact xW_t rfl (xW_f (by decide) (xW_some ⟨rfl, hs⟩))
  · rw [if_neg h]
    by_cases d : t < 0
    · exact xW_t d (xW_be rfl (xW_some ⟨rfl, hs⟩))
    · exact xW_f d (xW_t (by omega) (xW_be rfl (xW_some ⟨rfl, hs⟩)))
theorem M_room (hs : ym σ f) (hv : yv f) (t w : Int) : xW (fm_M_room t w σ) fun r => r.1 = aroom f t w ∧ ym r.2 f := by
  unfold fm_M_room aroom
  refine xW_be (q_isThing t) ?_
  by_cases h : 0 ≤ t ∧ t ≤ 3
  · rw [if_pos h, if_pos h]
    refine xW_f (by decide) (xW_be (q_in w 0 2) ?_)
    by_cases hw : 0 ≤ w ∧ w ≤ 2
    · rw [if_pos hw, if_pos hw]
      obtain ⟨u, hu⟩ : ∃ u : Nat, t = (u : Int) := ⟨t.toNat, by omega⟩
      subst hu
      have tn : ((u : Int)).toNat = u := rfl
      have h62 := (hs.2.1.2.2.1 u (by omega)).2.1
      rw [tn, h62]
      refine xW_f (by decide) (xW_t ⟨by omega, by omega⟩ ?_)
      by_cases hl : f 2 u 1 < 0
      · rw [if_pos hl]
        exact xW_f (by omega) (xW_some ⟨rfl, hs⟩)
      · rw [if_neg hl]
        refine xW_t (by omega) ?_
        have hu4 : u < 4 := by omega
        by_cases h0 : w = 0
        · have eA : yroom f u w = ((yrch (yPl f u) (ystd f 0 u) : Nat) : Int) := by unfold yroom; rw [if_pos h0]
          rw [eA]
          exact xW_t h0 (xW_b2 (q_comesTo hs hv hu4 hl) (fun v s q => xW_some q))
        · by_cases h1 : w = 1
          · have eA : yroom f u w = ((yscr (yPl f u) (f 2 u 2).toNat (f 2 u 1 / 24) (f 2 u 1 / 4 % 6) (f 2 u 1 % 4) (f 2 u 0).toNat : Nat) : Int) := by unfold yroom; rw [if_neg h0, if_pos h1]
            rw [eA]
            exact xW_f h0 (xW_t h1 (xW_b2 (q_scrapesM hs hv hu4 hl) (fun v s q => xW_some q)))
          · have eA : yroom f u w = ((ytb (yPl f u) (f 2 u 2).toNat 144 : Nat) : Int) := by unfold yroom; rw [if_neg h0, if_neg h1]
            rw [eA]
            exact xW_f h0 (xW_f h1 (xW_b2 (q_turnableM hs hv hu4 hl) (fun v s q => xW_some q)))
    · rw [if_neg hw, if_neg hw]
      exact xW_t rfl (xW_some ⟨rfl, hs⟩)
  · rw [if_neg h, if_neg h]
    exact xW_t rfl (xW_some ⟨rfl, hs⟩)
end RM
