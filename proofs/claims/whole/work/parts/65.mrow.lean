/-! the reference: the moves of the row; what is taken off; how many stands it comes to -/
theorem q_Msign {m : Nat} (hm : m < 12) : fm_M_signOf (m : Int) = some (ysg m) := by
  have e9 : w32 (w32 (88 + ((9 : Nat) : Int)) - 9) = 88 := by rw [w32_n (x := 88 + ((9 : Nat) : Int)) (by decide) (by decide), w32_n (by decide) (by decide)]; decide
  have e10 : w32 (w32 (88 + ((10 : Nat) : Int)) - 9) = 89 := by rw [w32_n (x := 88 + ((10 : Nat) : Int)) (by decide) (by decide), w32_n (by decide) (by decide)]; decide
  have e11 : w32 (w32 (88 + ((11 : Nat) : Int)) - 9) = 90 := by rw [w32_n (x := 88 + ((11 : Nat) : Int)) (by decide) (by decide), w32_n (by decide) (by decide)]; decide
  have e6 : w32 (w32 (120 + ((6 : Nat) : Int)) - 6) = 120 := by rw [w32_n (x := 120 + ((6 : Nat) : Int)) (by decide) (by decide), w32_n (by decide) (by decide)]; decide
  have e7 : w32 (w32 (120 + ((7 : Nat) : Int)) - 6) = 121 := by rw [w32_n (x := 120 + ((7 : Nat) : Int)) (by decide) (by decide), w32_n (by decide) (by decide)]; decide
  have e8 : w32 (w32 (120 + ((8 : Nat) : Int)) - 6) = 122 := by rw [w32_n (x := 120 + ((8 : Nat) : Int)) (by decide) (by decide), w32_n (by decide) (by decide)]; decide
  have : m = 0 ∨ m = 1 ∨ m = 2 ∨ m = 3 ∨ m = 4 ∨ m = 5 ∨ m = 6 ∨ m = 7 ∨ m = 8 ∨ m = 9 ∨ m = 10 ∨ m = 11 := by omega
  unfold fm_M_signOf ysg xmoves
  rcases this with h | h | h | h | h | h | h | h | h | h | h | h <;> subst h
  · rw [if_pos (by decide)]; rfl
  · rw [if_neg (by decide), if_pos (by decide)]; rfl
  · rw [if_neg (by decide), if_neg (by decide), if_pos (by decide)]; rfl
  · rw [if_neg (by decide), if_neg (by decide), if_neg (by decide), if_pos (by decide)]; rfl
  · rw [if_neg (by decide), if_neg (by decide), if_neg (by decide), if_neg (by decide), if_pos (by decide)]; rfl
  · rw [if_neg (by decide), if_neg (by decide), if_neg (by decide), if_neg (by decide), if_neg (by decide), if_pos (by decide)]; rfl
  · rw [if_neg (by decide), if_neg (by decide), if_neg (by decide), if_neg (by decide), if_neg (by decide), if_neg (by decide), if_neg (by decide), e6]; rfl
  · rw [if_neg (by decide), if_neg (by decide), if_neg (by decide), if_neg (by decide), if_neg (by decide), if_neg (by decide), if_neg (by decide), e7]; rfl
  · rw [if_neg (by decide), if_neg (by decide), if_neg (by decide), if_neg (by decide), if_neg (by decide), if_neg (by decide), if_neg (by decide), e8]; rfl
  · rw [if_neg (by decide), if_neg (by decide), if_neg (by decide), if_neg (by decide), if_neg (by decide), if_neg (by decide), if_pos (by decide), e9]; rfl
  · rw [if_neg (by decide), if_neg (by decide), if_neg (by decide), if_neg (by decide), if_neg (by decide), if_neg (by decide), if_pos (by decide), e10]; rfl
  · rw [if_neg (by decide), if_neg (by decide), if_neg (by decide), if_neg (by decide), if_neg (by decide), if_neg (by decide), if_pos (by decide), e11]; rfl
section MR
variable {P : xa_H} {gl : Nat → Prop} {w : Nat → Nat}
theorem yng_s {c m c' : Nat} (h : ynx P c m = some c') (hG : yG P c') : yng P c m = (ycr c' : Int) := by
  unfold yng
  rw [h]
  exact if_pos hG
theorem yng_c {c m : Nat} : (∃ c', ynx P c m = some c' ∧ yG P c' ∧ yng P c m = (ycr c' : Int)) ∨ ((∀ c', ynx P c m = some c' → ¬ yG P c') ∧ yng P c m = -6) := by
  cases hnx : ynx P c m with
  | none =>
    right
    refine ⟨fun c' h => (by cases h), ?_⟩
    unfold yng
    rw [hnx]
  | some c' =>
    cases Classical.em (yG P c') with
    | inl h => exact Or.inl ⟨c', rfl, h, yng_s hnx h⟩
    | inr h =>
      right
      refine ⟨fun c2 h2 hG => h (Option.some.inj h2 ▸ hG), ?_⟩
      unfold yng
      rw [hnx]
      exact if_neg h
/-- what the reference has at hand once it has found the distances -/
def ymo (σ P : xa_H) (gl : Nat → Prop) (w : Nat → Nat) : Prop := ymt σ ∧ (σ 9 0 3 = P 0 0 0 ∧ σ 9 0 4 = P 0 0 1 ∧ σ 9 0 5 = P 0 0 2) ∧ ymf σ P ∧ ymk σ (ycn P) w ∧ σ 9 0 36 = ((ycn P : Nat) : Int) ∧ yoff P gl w (σ 71 0)
theorem ymo_f {σ σ' : xa_H} (h : xfm [] [26, 27, 28, 29] σ σ') (hm : ymo σ P gl w) : ymo σ' P gl w := by
  obtain ⟨h1, h2, h3, h4, h5, h6⟩ := hm
  refine ⟨ymt_f h (by decide) h1, ?_, ?_, ymk_f h (by decide) (by decide) h4, ?_, ?_⟩
  · rw [h.2 0 3 (by decide), h.2 0 4 (by decide), h.2 0 5 (by decide)]; exact h2
  · unfold ymf; rw [h.1 70 (by decide) (by decide)]; exact h3
  · rw [h.2 0 36 (by decide)]; exact h5
  · rw [h.1 71 (by decide) (by decide)]; exact h6
theorem q_best {σ : xa_H} (hv : yPv P) (hm : ymo σ P gl w) {c d m v : Nat} (hd : ydi (yG P) (ynx P) gl w c d) (hfst : yfst (yG P) (ynx P) gl w c d m v) :
    xW (fm_M_bestMove (ycr c : Int) σ) fun r => r.1 = (m : Int) ∧ xfm [] [26, 27, 28, 29] σ r.2 := by
  have hG := ydi_G hd
  obtain ⟨c1, c2⟩ := ycr_r hG.1
  obtain ⟨f1, f2, d', f3, f4, f5⟩ := hfst
  have hcd : ∀ s : xa_H, ymo s P gl w → s 71 0 (ycr c) = (d : Int) ∧ d < 1000000000000000 := by
    intro s hs
    rcases hs.2.2.2.2.2 c hG.1 with ⟨d2, k1, k2, k3⟩ | ⟨_, k2⟩
    · have := ydi_1 hd k1
      subst this
      exact ⟨k2, k3⟩
    · obtain ⟨L, e, k3, k4, _⟩ := hd.1
      exact absurd k4 (k2 L e k3)
  have key : ∀ (e j n : Nat) (s : xa_H), j + e = m → e < n → xfm [] [26, 27, 28, 29] σ s → xW (fm_M_bestMove_9 (ycr c : Int) (fun v15 s16 => some (v15, s16)) n (j : Int) (yng P c j) s) fun r => r.1 = (m : Int) ∧ xfm [] [26, 27, 28, 29] σ r.2 := by
    intro e
    induction e with
    | zero =>
      intro j n s hj hn hs
      obtain ⟨n', rfl⟩ : ∃ n', n = n' + 1 := ⟨n - 1, by omega⟩
      have : j = m := by omega
      subst this
      have hms := ymo_f hs hm
      obtain ⟨a1, a2⟩ := hcd s hms
      have hGv := ydi_G f3
      obtain ⟨b1, b2⟩ := ycr_r hGv.1
      rw [fm_M_bestMove_9, yng_s f2 hGv]
      refine xW_j (xW_f (by omega) (xW_t ⟨by omega, by omega⟩ (xW_be (q_costOf hms.2.2.2.1 hms.2.2.2.2.1 f1) (xW_t ⟨by omega, by omega⟩ ?_))))
      have tn : ∀ j : Nat, ((j : Int)).toNat = j := fun j => rfl
      have hwr := ymk_r hms.2.2.2.1 j
      have hod : s 71 0 (ycr v) = (d' : Int) := by
        rcases hms.2.2.2.2.2 v hGv.1 with ⟨d2, k1, k2, k3⟩ | ⟨_, k2⟩
        · have := ydi_1 f3 k1
          subst this
          exact k2
        · obtain ⟨L, e, k3, k4, _⟩ := f3.1
          exact absurd k4 (k2 L e k3)
      rw [tn, tn, hod, a1, w64_n (by omega) (by omega)]
      refine xW_t ?_ (xW_some ⟨rfl, hs⟩)
      unfold xcmp
      rw [if_neg (by omega), if_pos (by omega)]
    | succ e ih =>
      intro j n s hj hn hs
      obtain ⟨n', rfl⟩ : ∃ n', n = n' + 1 := ⟨n - 1, by omega⟩
      have hms := ymo_f hs hm
      obtain ⟨a1, a2⟩ := hcd s hms
      have hgo : ∀ s' : xa_H, xfm [] [26, 27, 28, 29] σ s' → xW (xb2 (fm_M_next (ycr c : Int) ((j + 1 : Nat) : Int) s') fun v13 s14 => fm_M_bestMove_9 (ycr c : Int) (fun v15 s16 => some (v15, s16)) n' ((j + 1 : Nat) : Int) v13 s14) fun r => r.1 = (m : Int) ∧ xfm [] [26, 27, 28, 29] σ r.2 := by
        intro s' hs'
        have hms' := ymo_f hs' hm
        refine xW_b2 (q_next hms'.1 hv hms'.2.1 hms'.2.2.1 c1 (m := j + 1) (by omega)) ?_
        rintro x s2 ⟨k1, k2⟩
        have k2 : x = yng P (yrc (ycr c)) (j + 1) := k2
        rw [c2] at k2
        rw [k2]
        exact ih (j + 1) n' s2 (by omega) (by omega) (xfm_t hs' k1)
      rw [fm_M_bestMove_9]
      rcases yng_c (P := P) (c := c) (m := j) with ⟨c', h1, h2, h3⟩ | ⟨h1, h2⟩
      · rw [h3]
        obtain ⟨b1, b2⟩ := ycr_r h2.1
        refine xW_j (xW_f (by omega) (xW_t ⟨by omega, by omega⟩ (xW_be (q_costOf hms.2.2.2.1 hms.2.2.2.2.1 (by omega)) (xW_t ⟨by omega, by omega⟩ ?_))))
        have tn : ∀ j : Nat, ((j : Int)).toNat = j := fun j => rfl
        have hwr := ymk_r hms.2.2.2.1 j
        rw [tn, tn, a1]
        refine xW_f ?_ (xW_nm ?_)
        · intro h0
          rcases hms.2.2.2.2.2 c' h2.1 with ⟨d2, k1, k2, k3⟩ | ⟨k1, _⟩
          · rw [k2, w64_n (by omega) (by omega)] at h0
            refine f5 j c' d2 (by omega) h1 k1 ?_
            unfold xcmp at h0
            split at h0
            · omega
            · split at h0
              · omega
              · omega
          · rw [k1, w64_n (by omega) (by omega)] at h0
            unfold xcmp at h0
            split at h0
            · omega
            · split at h0
              · omega
              · omega
        · rw [w32_s (by omega)]
          exact hgo s hs
      · rw [h2]
        refine xW_j (xW_t (by decide) (xW_nm ?_))
        rw [w32_s (by omega)]
        exact hgo s hs
  unfold fm_M_bestMove
  refine xW_b2 (q_next hm.1 hv hm.2.1 hm.2.2.1 c1 (m := 0) (by decide)) ?_
  rintro x s2 ⟨k1, k2⟩
  have k2 : x = yng P (yrc (ycr c)) 0 := k2
  rw [c2] at k2
  rw [k2]
  exact key m 0 xFU s2 (by omega) (xfu_b (by omega)) k1
/-- the i-th move -/
def yith (L : List Nat) (i : Int) : Int → Prop := fun v => v = if 0 ≤ i ∧ i < (L.length : Int) then ysg (L.getD i.toNat 0) else -6
theorem q_moveAt {σ : xa_H} (hv : yPv P) (hm : ymo σ P gl w) {t c d : Nat} {L : List Nat} (hL : ygre (yG P) (ynx P) gl w c d L) (hlen : L.length < 3456) {i : Int} (hi : -2147483648 ≤ i ∧ i ≤ 2147483647)
    (ht5 : t < 5) (h62 : σ 62 0 t = ((c / 24 : Nat) : Int)) (h63 : σ 63 0 t = ((c % 24 : Nat) : Int)) :
    xW (fm_M_moveAt (t : Int) i σ) fun r => yith L i r.1 ∧ xfm [] [26, 27, 28, 29] σ r.2 := by
  have hG := ydi_G (ygre_d hL)
  have hst : fm_M_standOf (t : Int) σ = some (ycr c : Int) := by
    have hc := hG.1
    have tn : ∀ j : Nat, ((j : Int)).toNat = j := fun j => rfl
    unfold fm_M_standOf
    rw [if_pos ⟨by omega, by omega⟩, if_pos ⟨by omega, by omega⟩, tn, h62, h63]
    have e : w32 (w32 (144 * ((c % 24 : Nat) : Int)) + ((c / 24 : Nat) : Int)) = ((ycr c : Nat) : Int) := by
      unfold ycr
      exact w32_2 (by omega) (by omega) (by omega)
    rw [e]
  unfold fm_M_moveAt
  refine xW_be hst ?_
  have key : ∀ (r : List Nat) (k c d n : Nat) (s : xa_H), ygre (yG P) (ynx P) gl w c d r → r.length < n → k + r.length < 3456 → xfm [] [26, 27, 28, 29] σ s →
      xW (fm_M_moveAt_9 i (fun s10 => some ((-6), s10)) n (ycr c : Int) (k : Int) s) fun v => (v.1 = if (k : Int) ≤ i ∧ i < (k : Int) + (r.length : Int) then ysg (r.getD (i - (k : Int)).toNat 0) else -6) ∧ xfm [] [26, 27, 28, 29] σ v.2 := by
    intro r
    induction r with
    | nil =>
      rintro k c d n s ⟨h1, h2⟩ hn hk hs
      obtain ⟨n', rfl⟩ : ∃ n', n = n' + 1 := ⟨n - 1, by omega⟩
      have hGc := ydi_G h1
      obtain ⟨c1, c2⟩ := ycr_r hGc.1
      have hms := ymo_f hs hm
      have hlen0 : (([] : List Nat).length : Int) = 0 := rfl
      rw [fm_M_moveAt_9, hlen0]
      refine xW_if (fun hlt => xW_some ⟨?_, hs⟩) (fun hge => xW_t ⟨by omega, by omega⟩ ?_)
      · show (-6 : Int) = _
        rw [if_neg (by omega)]
      · have tn : ∀ j : Nat, ((j : Int)).toNat = j := fun j => rfl
        have h0 : s 71 0 (ycr c) = 0 := by
          rcases hms.2.2.2.2.2 c hGc.1 with ⟨d2, k1, k2, k3⟩ | ⟨_, k2⟩
          · have := ydi_1 h1 k1
            subst this
            rw [k2, h2]; rfl
          · obtain ⟨L, e, k3, k4, _⟩ := h1.1
            exact absurd k4 (k2 L e k3)
        rw [tn, h0]
        refine xW_t (by decide) (xW_some ⟨?_, hs⟩)
        show (-6 : Int) = _
        rw [if_neg (by omega)]
    | cons m r ih =>
      rintro k c d n s h hn hk hs
      have h0 := h
      obtain ⟨h1, h2, v, d', h3, h4, h5⟩ := h
      have hl1 : (m :: r).length = r.length + 1 := rfl
      obtain ⟨n', rfl⟩ : ∃ n', n = n' + 1 := ⟨n - 1, by omega⟩
      have hGc := ydi_G h1
      obtain ⟨c1, c2⟩ := ycr_r hGc.1
      have hms := ymo_f hs hm
      rw [fm_M_moveAt_9]
      refine xW_if (fun hlt => xW_some ⟨?_, hs⟩) (fun hge => xW_t ⟨by omega, by omega⟩ ?_)
      · show (-6 : Int) = _
        rw [if_neg (by omega)]
      · have tn : ∀ j : Nat, ((j : Int)).toNat = j := fun j => rfl
        have hod : s 71 0 (ycr c) = (d : Int) := by
          rcases hms.2.2.2.2.2 c hGc.1 with ⟨d2, k1, k2, k3⟩ | ⟨_, k2⟩
          · have := ydi_1 h1 k1
            subst this
            exact k2
          · obtain ⟨L, e, k3, k4, _⟩ := h1.1
            exact absurd k4 (k2 L e k3)
        rw [tn, hod]
        refine xW_f ?_ ?_
        · unfold xcmp
          rw [if_neg (by omega), if_neg (by omega)]
          decide
        refine xW_b2 (q_best hv hms h1 h3) ?_
        rintro x s4 ⟨k1, k2⟩
        have k1 : x = (m : Int) := k1
        have k2 : xfm [] [26, 27, 28, 29] s s4 := k2
        subst k1
        have hs4 := xfm_t hs k2
        have hms4 := ymo_f hs4 hm
        refine xW_if (fun he => ?_) (fun hne => ?_)
        · refine xW_be (q_Msign h3.1) (xW_some ⟨?_, hs4⟩)
          show ysg m = _
          rw [if_pos ⟨by omega, by omega⟩]
          have : (i - (k : Int)).toNat = 0 := by omega
          rw [this]; rfl
        · refine xW_b2 (q_next hms4.1 hv hms4.2.1 hms4.2.2.1 c1 h3.1) ?_
          rintro y s8 ⟨g1, g2⟩
          have g2 : y = yng P (yrc (ycr c)) m := g2
          have g1 : xfm [] [26, 27, 28, 29] s4 s8 := g1
          rw [c2, yng_s h3.2.1 (ydi_G (ygre_d h5))] at g2
          subst g2
          refine xW_nm ?_
          rw [w32_s (by omega)]
          refine xW_mono (ih (k + 1) v d' n' s8 h5 (by omega) (by omega) (xfm_t hs4 g1)) ?_
          rintro ⟨z, s9⟩ ⟨j1, j2⟩
          refine ⟨?_, j2⟩
          have j1 : z = if ((k + 1 : Nat) : Int) ≤ i ∧ i < ((k + 1 : Nat) : Int) + (r.length : Int) then ysg (r.getD (i - ((k + 1 : Nat) : Int)).toNat 0) else -6 := j1
          show z = if (k : Int) ≤ i ∧ i < (k : Int) + ((m :: r).length : Int) then ysg ((m :: r).getD (i - (k : Int)).toNat 0) else -6
          rw [j1]
          by_cases hc : ((k + 1 : Nat) : Int) ≤ i ∧ i < ((k + 1 : Nat) : Int) + (r.length : Int)
          · rw [if_pos hc, if_pos ⟨by omega, by omega⟩]
            have e : (i - (k : Int)).toNat = (i - ((k + 1 : Nat) : Int)).toNat + 1 := by omega
            rw [e]; rfl
          · rw [if_neg hc, if_neg (by omega)]
  refine xW_mono (key L 0 c d xFU σ hL (xfu_b (by omega)) (by omega) (xfm_r _ _ _)) ?_
  rintro ⟨z, s⟩ ⟨j1, j2⟩
  refine ⟨?_, j2⟩
  have j1 : z = if ((0 : Nat) : Int) ≤ i ∧ i < ((0 : Nat) : Int) + (L.length : Int) then ysg (L.getD (i - ((0 : Nat) : Int)).toNat 0) else -6 := j1
  show z = if 0 ≤ i ∧ i < (L.length : Int) then ysg (L.getD i.toNat 0) else -6
  rw [j1]
  by_cases hc : 0 ≤ i ∧ i < (L.length : Int)
  · rw [if_pos hc, if_pos ⟨by omega, by omega⟩]
    have e : (i - ((0 : Nat) : Int)).toNat = i.toNat := by omega
    rw [e]
  · rw [if_neg hc, if_neg (by omega)]
end MR
theorem q_takeOff (a b : Int) (σ : xa_H) : xW (fm_M_takeOff a b σ) fun s => xfm [69] [23, 24] σ s ∧ s 9 0 23 = a ∧ s 9 0 24 = b ∧ ∀ q, q < 144 → s 69 0 q = 0 := by
  unfold fm_M_takeOff
  refine xW_nm (xW_nm ?_)
  refine xfor0 (fun fu (j : Int) (g : xa_H) => fm_M_takeOff_12 (fun s => some s) fu j g) 144
    (fun j g => xfm [69] [23, 24] σ g ∧ g 9 0 23 = a ∧ g 9 0 24 = b ∧ ∀ q, q < j → g 69 0 q = 0) _ (xfu_b (by omega)) ?_ ?_ _ ⟨xfm_t (xfm_u9 (by decide)) (xfm_u9 (by decide)), by rw [xup_o (by omega), xup_at], xup_at, fun q hq => by omega⟩
  · rintro fu j g hj ⟨i1, i2, i3, i4⟩ ih
    show xW (fm_M_takeOff_12 (fun s => some s) (fu + 1) (j : Int) g) _
    have tn : ∀ j : Nat, ((j : Int)).toNat = j := fun j => rfl
    have e02 : (0 : Int) % 2 = 0 := rfl
    rw [fm_M_takeOff_12, tn, e02]
    refine xW_f (by omega) (xW_t ⟨by omega, by omega⟩ (xW_nm (xW_nm ?_)))
    rw [w32_s (by omega)]
    refine ih _ ⟨xfm_t i1 (xfm_up (by decide) (by decide)), ?_, ?_, fun q hq => ?_⟩
    · rw [xup_o (by omega)]; exact i2
    · rw [xup_o (by omega)]; exact i3
    · by_cases hqj : q = j
      · rw [hqj, xup_at]
      · rw [xup_o (by omega)]; exact i4 q (by omega)
  · rintro fu g h
    show xW (fm_M_takeOff_12 (fun s => some s) (fu + 1) ((144 : Nat) : Int) g) _
    rw [fm_M_takeOff_12]
    exact xW_t (by omega) (xW_some h)
