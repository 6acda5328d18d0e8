/-! the reference: why not, what fits, the next stand -/
def yoto (P : xa_H) (w : Nat) (x y z : Int) (j : Nat) : Prop := ¬ yqin P x y z ∨ ∃ k, k < j ∧ yon P k ∧ ¬ yqin P (x + yp P w k 0) (y + yp P w k 1) (z + yp P w k 2)
def ysto (P : xa_H) (w : Nat) (x y z : Int) (j : Nat) : Prop := ∃ k, k < j ∧ yon P k ∧ ¬ yopn P (ypl (x + yp P w k 0) (y + yp P w k 1) (z + yp P w k 2))
noncomputable def ywn (P : xa_H) (w : Nat) (x y z : Int) (j : Nat) : Int :=
  @ite Int (yoto P w x y z j) (Classical.propDecidable _) 1 (@ite Int (ysto P w x y z j) (Classical.propDecidable _) 2 (-6))
theorem q_isOn {σ P : xa_H} {t : Nat} (hv : yPv P) (hc : ymc σ P t) (hw : ymw σ P) {k : Nat} (hk : k < (P 2 0 0).toNat) :
    (yon P k → fm_M_isOn (t : Int) (k : Int) σ = some 1) ∧ (¬ yon P k → fm_M_isOn (t : Int) (k : Int) σ = some 0) := by
  obtain ⟨ht5, h1, h2⟩ := hc
  obtain ⟨_, _, _, h3⟩ := h2 k hk
  have hn := hv.2.2.1
  have hg := hv.2.2.2.2.1 k hk
  have hA := hv.2.2.2.2.2.1
  have e : w32 (w32 (10 * (t : Int)) + (k : Int)) = ((10 * t + k : Nat) : Int) := w32_2 (by omega) (by omega) (by omega)
  have tn : ∀ j : Nat, ((j : Int)).toNat = j := fun j => rfl
  unfold fm_M_isOn
  rw [e, if_pos ⟨by omega, by omega⟩, xnm_e, tn]
  rcases h3 with ⟨h4, h5⟩ | ⟨h4, h5⟩
  · rw [if_pos h5]
    refine ⟨fun _ => rfl, fun hn => absurd (Or.inl h4) hn⟩
  · rw [if_neg (by omega), hw.2.1.1, h5]
    have e2 : P 5 0 0 = (((P 5 0 0).toNat : Nat) : Int) := by omega
    have e3 : P 4 k 0 - 1 = (((P 4 k 0).toNat - 1 : Nat) : Int) := by omega
    have hq := q_has (s := (P 5 0 0).toNat) (b := (P 4 k 0).toNat - 1) (by omega) (by omega)
    rw [← e2, ← e3] at hq
    unfold fm_S_has at hq
    unfold yon
    cases hb : (P 5 0 0).toNat.testBit ((P 4 k 0).toNat - 1) with
    | false =>
      rw [hb] at hq
      refine ⟨fun _ => ?_, fun hn => absurd (Or.inr rfl) hn⟩
      by_cases h0 : xand (xshr (P 5 0 0) (P 4 k 0 - 1)) 1 = 0
      · rw [if_pos h0]
      · rw [if_neg h0] at hq; cases hq
    | true =>
      rw [hb] at hq
      refine ⟨fun hy => ?_, fun _ => ?_⟩
      · rcases hy with h | h
        · omega
        · cases h
      · by_cases h0 : xand (xshr (P 5 0 0) (P 4 k 0 - 1)) 1 = 0
        · rw [if_pos h0] at hq; cases hq
        · rw [if_neg h0]
theorem xand_01 {a b : Int} (h : fm_S_has a b = some 1) : ¬ xand (xshr a b) 1 = 0 := by
  intro h0
  unfold fm_S_has at h
  rw [if_pos h0] at h
  cases h
theorem q_isOpen {σ P : xa_H} (hv : yPv P) (hw : ymw σ P) {q : Nat} (hq : q < 144) : (yopn P (q : Int) → fm_M_isOpen (q : Int) σ = some 1) ∧ (¬ yopn P (q : Int) → fm_M_isOpen (q : Int) σ = some 0) := by
  have hk := hv.2.1 q hq
  have hD := hv.2.2.2.2.2.2
  have tn : ∀ j : Nat, ((j : Int)).toNat = j := fun j => rfl
  unfold fm_M_isOpen yopn
  rw [if_pos ⟨by omega, by omega⟩, xnm_e, if_pos ⟨by omega, by omega⟩, tn]
  rcases hw.2.2 q hq with ⟨h1, h2⟩ | ⟨h1, h2⟩
  · rw [if_pos h1, h2]
    by_cases h0 : P 1 0 q = 0
    · rw [if_pos h0]
      exact ⟨fun _ => rfl, fun hn => absurd (Or.inl h0) hn⟩
    · rw [if_neg h0]
      by_cases h3 : P 1 0 q ≤ 1
      · rw [if_pos h3]
        refine ⟨fun h => ?_, fun _ => rfl⟩
        rcases h with h | ⟨h, _⟩
        · exact absurd h h0
        · omega
      · rw [if_neg h3, hw.2.1.2]
        have e2 : P 5 0 1 = (((P 5 0 1).toNat : Nat) : Int) := by omega
        have e3 : w32 (P 1 0 q - 2) = (((P 1 0 q).toNat - 2 : Nat) : Int) := w32_k (by omega) (by omega)
        have e4 : xand (xshr (((P 5 0 1).toNat : Nat) : Int) (((P 1 0 q).toNat - 2 : Nat) : Int)) 1 = (((P 5 0 1).toNat >>> ((P 1 0 q).toNat - 2) % 2 : Nat) : Int) := by
          rw [xshr_n (by omega) (by omega)]
          have h5 : (P 5 0 1).toNat >>> ((P 1 0 q).toNat - 2) < 2147483648 := by
            rw [Nat.shiftRight_eq_div_pow]
            exact Nat.lt_of_le_of_lt (Nat.div_le_self _ _) (by omega)
          have := xand_n (a := (P 5 0 1).toNat >>> ((P 1 0 q).toNat - 2)) (b := 1) h5 (by decide)
          rw [Nat.and_one_is_mod] at this
          exact this
        have e5 : (P 5 0 1).toNat.testBit ((P 1 0 q).toNat - 2) = decide ((P 5 0 1).toNat >>> ((P 1 0 q).toNat - 2) % 2 = 1) := by
          rw [Nat.testBit_eq_decide_div_mod_eq, Nat.shiftRight_eq_div_pow]
        rw [e3, e2, e4]
        have tt : ((((P 5 0 1).toNat : Nat) : Int)).toNat = (P 5 0 1).toNat := rfl
        rw [tt, e5]
        by_cases hb : (P 5 0 1).toNat >>> ((P 1 0 q).toNat - 2) % 2 = 1
        · rw [if_pos (by omega), decide_eq_true hb]
          exact ⟨fun _ => rfl, fun hn => absurd (Or.inr ⟨by omega, rfl⟩) hn⟩
        · rw [if_neg (by omega), decide_eq_false hb]
          refine ⟨fun h => ?_, fun _ => rfl⟩
          rcases h with h | ⟨_, h⟩
          · exact absurd h h0
          · cases h
  · rw [if_neg (by omega), h2]
    refine ⟨fun h => ?_, fun _ => rfl⟩
    rcases h with h | ⟨h, _⟩
    · omega
    · omega
theorem ywn_1 {P : xa_H} {w : Nat} {x y z : Int} {i j : Nat} (hij : i ≤ j) (h : ywn P w x y z i = 1) : ywn P w x y z j = 1 := by
  unfold ywn at h ⊢
  by_cases h1 : yoto P w x y z i
  · have : yoto P w x y z j := by
      rcases h1 with h1 | ⟨k, h2, h3⟩
      · exact Or.inl h1
      · exact Or.inr ⟨k, by omega, h3⟩
    rw [if_pos this]
  · rw [if_neg h1] at h
    by_cases h2 : ysto P w x y z i
    · rw [if_pos h2] at h; omega
    · rw [if_neg h2] at h; omega
theorem q_whyNot {σ P : xa_H} {t : Nat} (hv : yPv P) (hc : ymc σ P t) (hw : ymw σ P) {w : Nat} (hw24 : w < 24) (hl : ylc σ P w) {x y z : Int} (hx : -10 ≤ x ∧ x ≤ 10) (hy : -10 ≤ y ∧ y ≤ 10) (hz : -10 ≤ z ∧ z ≤ 10) :
    fm_M_whyNot (t : Int) x y z σ = some (ywn P w x y z (P 2 0 0).toNat) := by
  have hn := hv.2.2.1
  have ht5 := hc.1
  have hs := hv.1
  have hsz : qsz (σ 9 0 3) (σ 9 0 4) (σ 9 0 5) := by rw [hw.1.1, hw.1.2.1, hw.1.2.2]; exact hs
  have hcell : ∀ a b c : Int, (yqin P a b c → fm_M_isCell a b c σ = some 1) ∧ (¬ yqin P a b c → fm_M_isCell a b c σ = some 0) := by
    intro a b c
    have := q_MisCell hsz a b c
    rw [hw.1.1, hw.1.2.1, hw.1.2.2] at this
    exact this
  have tn : ∀ j : Nat, ((j : Int)).toNat = j := fun j => rfl
  have key : ∀ (d j n : Nat), j + d = (P 2 0 0).toNat → d < n → fm_M_whyNot_22 (t : Int) x y z σ (fun v => some v) n (ywn P w x y z j) (j : Int) = some (ywn P w x y z (P 2 0 0).toNat) := by
    intro d
    induction d with
    | zero =>
      intro j n hj hd
      obtain ⟨m, rfl⟩ : ∃ m, n = m + 1 := ⟨n - 1, by omega⟩
      have : j = (P 2 0 0).toNat := by omega
      subst this
      rw [fm_M_whyNot_22, tn, if_pos ⟨by omega, by omega⟩, hc.2.1, if_pos (by omega)]
    | succ d ih =>
      intro j n hj hd
      obtain ⟨m, rfl⟩ : ∃ m, n = m + 1 := ⟨n - 1, by omega⟩
      have hjn : j < (P 2 0 0).toNat := by omega
      rw [fm_M_whyNot_22, tn, if_pos ⟨by omega, by omega⟩, hc.2.1, if_neg (by omega), tn]
      by_cases h1 : ywn P w x y z j = 1
      · rw [if_pos h1, ywn_1 (j := (P 2 0 0).toNat) (by omega) h1, h1]
      · rw [if_neg h1]
        have hno : ¬ yoto P w x y z j := fun h => h1 (if_pos h)
        have hnext := ih (j + 1) m (by omega) (by omega)
        have hj10 : 0 ≤ (j : Int) ∧ (j : Int) < 10 := ⟨by omega, by omega⟩
        obtain ⟨o1, o2⟩ := q_isOn hv hc hw hjn
        by_cases hon : yon P j
        · rw [o1 hon, Option.bind_some, if_neg (by decide), if_pos hj10, if_pos hj10, if_pos hj10]
          obtain ⟨l0, l1, l2⟩ := hl j hjn
          have p0 := yp_r hv hw24 hjn (a := 0) (by decide)
          have p1 := yp_r hv hw24 hjn (a := 1) (by decide)
          have p2 := yp_r hv hw24 hjn (a := 2) (by decide)
          rw [l0, l1, l2, w32_n (x := x + yp P w j 0) (by omega) (by omega), w32_n (x := y + yp P w j 1) (by omega) (by omega), w32_n (x := z + yp P w j 2) (by omega) (by omega)]
          obtain ⟨c1, c2⟩ := hcell (x + yp P w j 0) (y + yp P w j 1) (z + yp P w j 2)
          by_cases hin : yqin P (x + yp P w j 0) (y + yp P w j 1) (z + yp P w j 2)
          · rw [c1 hin, Option.bind_some, if_neg (by decide), if_pos hj10, if_pos hj10, if_pos hj10]
            have hno' : ¬ yoto P w x y z (j + 1) := by
              rintro (h | ⟨k, h2, h3, h4⟩)
              · exact hno (Or.inl h)
              · by_cases hkj : k = j
                · rw [hkj] at h4; exact h4 hin
                · exact hno (Or.inr ⟨k, by omega, h3, h4⟩)
            have hin' : qin (P 0 0 0) (P 0 0 1) (P 0 0 2) (x + yp P w j 0) (y + yp P w j 1) (z + yp P w j 2) := hin
            unfold qin at hin'
            unfold qsz at hs
            rw [q_at (by omega) (by omega) (by omega), Option.bind_some]
            have epl : 24 * (x + yp P w j 0) + 4 * (y + yp P w j 1) + (z + yp P w j 2) = (((ypl (x + yp P w j 0) (y + yp P w j 1) (z + yp P w j 2)).toNat : Nat) : Int) := by unfold ypl; omega
            have epl2 : (((ypl (x + yp P w j 0) (y + yp P w j 1) (z + yp P w j 2)).toNat : Nat) : Int) = ypl (x + yp P w j 0) (y + yp P w j 1) (z + yp P w j 2) := by unfold ypl; omega
            have hlt : (ypl (x + yp P w j 0) (y + yp P w j 1) (z + yp P w j 2)).toNat < 144 := by unfold ypl; omega
            rw [epl]
            obtain ⟨a1, a2⟩ := q_isOpen hv hw hlt
            rw [epl2] at a1 a2
            by_cases hop : yopn P (ypl (x + yp P w j 0) (y + yp P w j 1) (z + yp P w j 2))
            · rw [epl2, a1 hop, Option.bind_some, if_neg (by decide), xnm_e, w32_s (by omega)]
              have e : ywn P w x y z j = ywn P w x y z (j + 1) := by
                unfold ywn
                rw [if_neg hno, if_neg hno']
                have : ysto P w x y z j ↔ ysto P w x y z (j + 1) := by
                  constructor
                  · rintro ⟨k, h2, h3⟩; exact ⟨k, by omega, h3⟩
                  · rintro ⟨k, h2, h3, h4⟩
                    by_cases hkj : k = j
                    · rw [hkj] at h4; exact absurd hop h4
                    · exact ⟨k, by omega, h3, h4⟩
                by_cases h5 : ysto P w x y z j
                · rw [if_pos h5, if_pos (this.mp h5)]
                · rw [if_neg h5, if_neg (fun h => h5 (this.mpr h))]
              rw [e]; exact hnext
            · rw [epl2, a2 hop, Option.bind_some, if_pos rfl, xnm_e, w32_s (by omega)]
              have e : ywn P w x y z (j + 1) = 2 := by
                unfold ywn
                rw [if_neg hno', if_pos ⟨j, by omega, hon, hop⟩]
              rw [e] at hnext; exact hnext
          · rw [c2 hin, Option.bind_some, if_pos rfl, xnm_e, w32_s (by omega)]
            have e : ywn P w x y z (j + 1) = 1 := if_pos (Or.inr ⟨j, by omega, hon, hin⟩)
            rw [e] at hnext; exact hnext
        · rw [o2 hon, Option.bind_some, if_pos rfl, xnm_e, w32_s (by omega)]
          have e : ywn P w x y z j = ywn P w x y z (j + 1) := by
            unfold ywn
            have t1 : yoto P w x y z j ↔ yoto P w x y z (j + 1) := by
              constructor
              · rintro (h | ⟨k, h2, h3⟩)
                · exact Or.inl h
                · exact Or.inr ⟨k, by omega, h3⟩
              · rintro (h | ⟨k, h2, h3, h4⟩)
                · exact Or.inl h
                · by_cases hkj : k = j
                  · rw [hkj] at h3; exact absurd h3 hon
                  · exact Or.inr ⟨k, by omega, h3, h4⟩
            have t2 : ysto P w x y z j ↔ ysto P w x y z (j + 1) := by
              constructor
              · rintro ⟨k, h2, h3⟩; exact ⟨k, by omega, h3⟩
              · rintro ⟨k, h2, h3, h4⟩
                by_cases hkj : k = j
                · rw [hkj] at h3; exact absurd h3 hon
                · exact ⟨k, by omega, h3, h4⟩
            rw [if_neg hno, if_neg (fun h => hno (t1.mpr h))]
            by_cases h5 : ysto P w x y z j
            · rw [if_pos h5, if_pos (t2.mp h5)]
            · rw [if_neg h5, if_neg (fun h => h5 (t2.mpr h))]
          rw [e]; exact hnext
  unfold fm_M_whyNot
  obtain ⟨c1, c2⟩ := hcell x y z
  have h0 := key (P 2 0 0).toNat 0 xFU (by omega) (xfu_b (by omega))
  have e0 : ((0 : Nat) : Int) = 0 := rfl
  rw [e0] at h0
  by_cases hin : yqin P x y z
  · rw [c1 hin, Option.bind_some, if_neg (by decide), xnm_e]
    have e : ywn P w x y z 0 = -6 := by
      unfold ywn
      rw [if_neg, if_neg]
      · rintro ⟨k, h, _⟩; omega
      · rintro (h | ⟨k, h, _⟩)
        · exact h hin
        · omega
    rw [e] at h0; exact h0
  · rw [c2 hin, Option.bind_some, if_pos rfl, xnm_e]
    have e : ywn P w x y z 0 = 1 := if_pos (Or.inl hin)
    rw [e] at h0; exact h0
theorem ywn_fit {P : xa_H} {w : Nat} {x y z : Int} : (ywn P w x y z (P 2 0 0).toNat < 0 ↔ yfit P w x y z) := by
  unfold ywn
  by_cases h1 : yoto P w x y z (P 2 0 0).toNat
  · rw [if_pos h1]
    constructor
    · intro h; omega
    · rintro ⟨h2, h3⟩
      rcases h1 with h1 | ⟨k, h4, h5, h6⟩
      · exact absurd h2 h1
      · exact absurd (h3 k h4 h5).1 h6
  · rw [if_neg h1]
    by_cases h2 : ysto P w x y z (P 2 0 0).toNat
    · rw [if_pos h2]
      constructor
      · intro h; omega
      · rintro ⟨h3, h4⟩
        obtain ⟨k, h5, h6, h7⟩ := h2
        exact absurd (h4 k h5 h6).2 h7
    · rw [if_neg h2]
      refine ⟨fun _ => ⟨?_, fun k hk hon => ⟨?_, ?_⟩⟩, fun _ => by decide⟩
      · cases Classical.em (yqin P x y z) with
        | inl h => exact h
        | inr h => exact absurd (Or.inl h) h1
      · cases Classical.em (yqin P (x + yp P w k 0) (y + yp P w k 1) (z + yp P w k 2)) with
        | inl h => exact h
        | inr h => exact absurd (Or.inr ⟨k, hk, hon, h⟩) h1
      · cases Classical.em (yopn P (ypl (x + yp P w k 0) (y + yp P w k 1) (z + yp P w k 2))) with
        | inl h => exact h
        | inr h => exact absurd ⟨k, hk, hon, h⟩ h2
/-- stands by the reference's number -/
def yrc (r : Nat) : Nat := 24 * (r % 144) + r / 144
def ycr (c : Nat) : Nat := 144 * (c % 24) + c / 24
theorem yrc_r {r : Nat} (h : r < 3456) : yrc r < 3456 ∧ ycr (yrc r) = r := by unfold yrc ycr; omega
theorem ycr_r {c : Nat} (h : c < 3456) : ycr c < 3456 ∧ yrc (ycr c) = c := by unfold yrc ycr; omega
/-- which stands fit, as the reference tells it -/
def ymf (σ P : xa_H) : Prop := ∀ r, r < 3456 → (σ 70 0 r = 1 ∧ yG P (yrc r)) ∨ (σ 70 0 r = 0 ∧ ¬ yG P (yrc r))
theorem q_findFits {σ P : xa_H} {t : Nat} (ht : ymt σ) (hv : yPv P) (hc : ymc σ P t) (hw : ymw σ P) : xW (fm_M_findFits (t : Int) σ) fun s => xfm [66, 67, 68, 70] [] σ s ∧ ymf s P := by
  unfold fm_M_findFits
  refine xfor0 (fun n (j : Int) (g : xa_H) => fm_M_findFits_2 (t : Int) (fun s => some s) n j g) 24
    (fun j g => xfm [66, 67, 68, 70] [] σ g ∧ ∀ r, r < 144 * j → (g 70 0 r = 1 ∧ yG P (yrc r)) ∨ (g 70 0 r = 0 ∧ ¬ yG P (yrc r)))
    _ (xfu_b (by omega)) ?_ ?_ σ ⟨xfm_r _ _ _, fun r hr => by omega⟩
  · rintro fu j g hj ⟨i1, i2⟩ ih
    show xW (fm_M_findFits_2 (t : Int) (fun s => some s) (fu + 1) (j : Int) g) _
    rw [fm_M_findFits_2]
    refine xW_f (by omega) (xW_bind (q_lay (ymt_f i1 (by decide) ht) hv (ymc_f i1 (by decide) hc) hj) ?_)
    rintro s ⟨f1, f2⟩
    refine xfor0 (fun n (q : Int) (h : xa_H) => fm_M_findFits_16 (t : Int) (j : Int) (fun s8 => xnm (w32 ((j : Int) + 1) : Int) fun v9 => fm_M_findFits_2 (t : Int) (fun s => some s) fu v9 s8) n q h) 144
      (fun q h => xfm [70] [] s h ∧ ∀ r, r < 144 * j + q → (h 70 0 r = 1 ∧ yG P (yrc r)) ∨ (h 70 0 r = 0 ∧ ¬ yG P (yrc r)))
      _ (xfu_b (by omega)) ?_ ?_ s ⟨xfm_r _ _ _, fun r hr => by rw [f1.1 70 (by decide) (by decide)]; exact i2 r (by omega)⟩
    · rintro fu2 q h hq ⟨k1, k2⟩ ih2
      show xW (fm_M_findFits_16 (t : Int) (j : Int) _ (fu2 + 1) (q : Int) h) _
      rw [fm_M_findFits_16]
      have fall : xfm [66, 67, 68, 70] [] σ h := xfm_t i1 (xfm_t (xfm_m f1 (by decide) (by decide)) (xfm_m k1 (by decide) (by decide)))
      have e1 : xdiv (q : Int) 24 = ((q / 24 : Nat) : Int) := by rw [xdiv_p (by omega)]; omega
      have e2 : xrem (xdiv (q : Int) 4) 6 = ((q / 4 % 6 : Nat) : Int) := by rw [xdiv_p (by omega), xrem_p (by omega)]; omega
      have e3 : xrem (q : Int) 4 = ((q % 4 : Nat) : Int) := by rw [xrem_p (by omega)]; omega
      have hl : ylc h P j := by
        unfold ylc
        rw [k1.1 66 (by decide) (by decide), k1.1 67 (by decide) (by decide), k1.1 68 (by decide) (by decide)]
        exact f2
      refine xW_f (by omega) ?_
      rw [e1, e2, e3]
      refine xW_be (q_whyNot hv (ymc_f fall (by decide) hc) (ymw_f fall (by decide) (by decide) hw) hj hl (by omega) (by omega) (by omega)) ?_
      have e4 : w32 (w32 (144 * (j : Int)) + (q : Int)) = ((144 * j + q : Nat) : Int) := w32_2 (by omega) (by omega) (by omega)
      have tn : ∀ j : Nat, ((j : Int)).toNat = j := fun j => rfl
      rw [e4, tn]
      have hyrc : yrc (144 * j + q) = 24 * q + j := by unfold yrc; omega
      have hGe : yG P (yrc (144 * j + q)) ↔ yfit P j ((q / 24 : Nat) : Int) ((q / 4 % 6 : Nat) : Int) ((q % 4 : Nat) : Int) := by
        rw [hyrc]
        have a1 : (24 * q + j) % 24 = j := by omega
        have a2 : (24 * q + j) / 24 = q := by omega
        unfold yG yX yY yZ
        rw [a1, a2]
        exact ⟨fun h => h.2, fun h => ⟨by omega, h⟩⟩
      have hin : 0 ≤ ((144 * j + q : Nat) : Int) ∧ ((144 * j + q : Nat) : Int) < 3456 := ⟨by omega, by omega⟩
      have hstep : ∀ v : Int, (v = 1 ∧ yG P (yrc (144 * j + q))) ∨ (v = 0 ∧ ¬ yG P (yrc (144 * j + q))) → ∀ r, r < 144 * j + (q + 1) → (xup h 70 0 (144 * j + q) v 70 0 r = 1 ∧ yG P (yrc r)) ∨ (xup h 70 0 (144 * j + q) v 70 0 r = 0 ∧ ¬ yG P (yrc r)) := by
        intro v hv' r hr
        by_cases hrq : r = 144 * j + q
        · rw [hrq, xup_at]; exact hv'
        · rw [xup_o (by omega)]; exact k2 r (by omega)
      refine xW_if (fun hge => ?_) (fun hlt => ?_)
      · refine xW_t hin (xW_nm (xW_nm ?_))
        rw [w32_s (j := q) (by omega)]
        refine ih2 _ ⟨xfm_t k1 (xfm_up (by decide) (by decide)), hstep _ (Or.inr ⟨rfl, fun hG => ?_⟩)⟩
        have := ywn_fit.mpr (hGe.mp hG)
        omega
      · refine xW_t hin (xW_nm (xW_nm ?_))
        rw [w32_s (j := q) (by omega)]
        exact ih2 _ ⟨xfm_t k1 (xfm_up (by decide) (by decide)), hstep _ (Or.inl ⟨rfl, hGe.mpr (ywn_fit.mp (by omega))⟩)⟩
    · rintro fu2 h ⟨k1, k2⟩
      show xW (fm_M_findFits_16 (t : Int) (j : Int) _ (fu2 + 1) ((144 : Nat) : Int) h) _
      rw [fm_M_findFits_16]
      refine xW_t (by omega) (xW_nm ?_)
      rw [w32_s (by omega)]
      refine ih h ⟨xfm_t i1 (xfm_t (xfm_m f1 (by decide) (by decide)) (xfm_m k1 (by decide) (by decide))), fun r hr => k2 r (by omega)⟩
  · rintro fu g ⟨i1, i2⟩
    show xW (fm_M_findFits_2 (t : Int) (fun s => some s) (fu + 1) ((24 : Nat) : Int) g) _
    rw [fm_M_findFits_2]
    exact xW_t (by omega) (xW_some ⟨i1, fun r hr => i2 r (by omega)⟩)
