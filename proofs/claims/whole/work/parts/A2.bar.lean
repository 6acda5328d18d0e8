/-! bars along one axis or another: a bar along x, turned otherwise -/
def yphl1 : List Nat := [3, 10, 9, 15, 13, 16, 0, 21, 1, 20, 22, 5, 19, 23, 2, 6, 18, 4, 11, 7, 14, 12, 8, 17]
def yphl2 : List Nat := [2, 9, 12, 13, 14, 0, 8, 20, 19, 23, 3, 1, 5, 21, 22, 18, 4, 6, 7, 17, 15, 10, 16, 11]
def yph (a w : Nat) : Nat := if a = 0 then w else if a = 1 then yphl1.getD w 0 else yphl2.getD w 0
def yax (a w : Nat) : Nat := if (ya0 w 0).natAbs = a + 1 then 0 else if (ya0 w 1).natAbs = a + 1 then 1 else 2
theorem yph_r : ∀ a, a < 3 → ∀ w, w < 24 → yph a w < 24 := by decide +kernel
theorem yph_1 : yph 1 0 = yn 0 2 := by rw [yn_e]; decide +kernel
theorem yph_2 : yph 2 0 = yn 0 1 := by rw [yn_e]; decide +kernel
theorem yph_n : ∀ a, a < 3 → ∀ w, w < 24 → ∀ t, t < 6 → yn (yph a w) t = yph a (yn w t) := by rw [yn_e]; decide +kernel
theorem yax_r {a w : Nat} : yax a w < 3 := by
  unfold yax
  split
  · decide
  · split <;> decide
theorem yax_p : ∀ a, a < 3 → ∀ w, w < 24 → yax 0 (yph a w) = yax a w := by decide +kernel
theorem yax_e : ∀ a : Nat, a < 3 → ∀ w, w < 24 → ∀ b, b < 3 → ((ya w b = (a : Int) + 1 ∨ ya w b = -((a : Int) + 1)) ↔ b = yax a w) := by rw [ya_e]; decide +kernel
section BG
variable {f : xa_H} {m a : Nat} {D : Int}
theorem ygr_bar {s : Nat} : ∀ n, 1 ≤ n → ygr (fun k s => if s = a then (k : Int) else 0) s n = if s = a then (n : Int) - 1 else 0 := by
  intro n
  induction n with
  | zero => intro h; omega
  | succ n ih =>
    intro _
    unfold ygr
    by_cases h0 : n = 0
    · subst h0
      by_cases hs : s = a
      · simp only [if_pos hs, ygr]
        decide
      · simp only [if_neg hs, ygr]
        decide
    · have e := ih (by omega)
      rw [e]
      by_cases hs : s = a
      · simp only [if_pos hs]
        rw [if_pos (by omega)]
        omega
      · simp only [if_neg hs]
        decide
theorem yat_bar {w k b : Nat} (ha : a < 3) (hw : w < 24) (hb : b < 3) (hm : 1 ≤ m) : yat (fun k s => if s = a then (k : Int) else 0) m w k b = if b = yax a w then (if 0 < ya w b then (k : Int) else (m : Int) - 1 - k) else 0 := by
  have he := yax_e a ha w hw b hb
  have hr := ya_r w hw b hb
  unfold yat
  by_cases hp : 0 < ya w b
  · rw [if_pos hp, if_pos hp]
    by_cases h : b = yax a w
    · rw [if_pos h]
      have := he.mpr h
      exact if_pos (by omega)
    · rw [if_neg h]
      exact if_neg (fun q => h (he.mp (Or.inl (by omega))))
  · rw [if_neg hp, if_neg hp, ygr_bar m hm]
    by_cases h : b = yax a w
    · rw [if_pos h]
      have := he.mpr h
      have e : (-ya w b).toNat - 1 = a := by omega
      rw [e, if_pos rfl]
      show (m : Int) - 1 - (if a = a then (k : Int) else 0) = _
      rw [if_pos rfl]
    · rw [if_neg h]
      have e : ¬ (-ya w b).toNat - 1 = a := fun q => h (he.mp (Or.inr (by omega)))
      rw [if_neg e]
      show (0 : Int) - (if (-ya w b).toNat - 1 = a then (k : Int) else 0) = 0
      rw [if_neg e]
      rfl
theorem ybp_v (hz : qsz (f 0 0 0) (f 0 0 1) (f 0 0 2)) (hk : ∀ q, q < 144 → 0 ≤ f 1 0 q ∧ f 1 0 q ≤ 5) (hm : 1 ≤ m ∧ m ≤ 6) (hD : 0 ≤ D ∧ D ≤ 15) : yPv (ybp f m a D) := by
  have e2 : ybp f m a D 2 0 0 = (m : Int) := rfl
  refine ⟨hz, hk, by rw [e2]; omega, ⟨fun k hk' b _ => ?_, fun b _ => ⟨0, by rw [e2]; omega, ?_⟩⟩, fun k _ => ?_, ⟨Int.le_refl (0 : Int), (by decide : (0 : Int) ≤ 15)⟩, hD⟩
  · rw [e2] at hk'
    show 0 ≤ (if b = a then (k : Int) else 0) ∧ (if b = a then (k : Int) else 0) ≤ 5
    by_cases h : b = a
    · rw [if_pos h]; omega
    · rw [if_neg h]; omega
  · show (if b = a then ((0 : Nat) : Int) else 0) = 0
    by_cases h : b = a
    · rw [if_pos h]; rfl
    · rw [if_neg h]
  · exact ⟨Int.le_refl (0 : Int), (by decide : (0 : Int) ≤ 4)⟩
/-- a bar along axis b from a corner -/
def ybfa (f : xa_H) (m : Nat) (D : Int) (b : Nat) (x y z : Int) : Prop := qin (f 0 0 0) (f 0 0 1) (f 0 0 2) x y z ∧ ∀ j : Nat, j < m →
  qin (f 0 0 0) (f 0 0 1) (f 0 0 2) (x + if 0 = b then (j : Int) else 0) (y + if 1 = b then (j : Int) else 0) (z + if 2 = b then (j : Int) else 0) ∧
  yopn (ybp f m 0 D) (ypl (x + if 0 = b then (j : Int) else 0) (y + if 1 = b then (j : Int) else 0) (z + if 2 = b then (j : Int) else 0))
theorem yp_bar {w k b : Nat} (ha : a < 3) (hw : w < 24) (hb : b < 3) (hm : 1 ≤ m) (hk : k < m) : ∃ j : Nat, j < m ∧ (if 0 < ya w (yax a w) then j = k else j = m - 1 - k) ∧ yp (ybp f m a D) w k b = if b = yax a w then (j : Int) else 0 := by
  have h := yat_bar (k := k) ha hw hb hm
  have e : yp (ybp f m a D) w k b = yat (fun k s => if s = a then (k : Int) else 0) m w k b := rfl
  rw [e, h]
  by_cases hp : 0 < ya w (yax a w)
  · refine ⟨k, hk, by rw [if_pos hp], ?_⟩
    by_cases hb' : b = yax a w
    · rw [if_pos hb', if_pos hb', hb', if_pos hp]
    · rw [if_neg hb', if_neg hb']
  · refine ⟨m - 1 - k, by omega, by rw [if_neg hp], ?_⟩
    by_cases hb' : b = yax a w
    · rw [if_pos hb', if_pos hb', hb', if_neg hp]; omega
    · rw [if_neg hb', if_neg hb']
theorem yp_bar3 {w k : Nat} (ha : a < 3) (hw : w < 24) (hm : 1 ≤ m) (hk : k < m) : ∃ j : Nat, j < m ∧ (if 0 < ya w (yax a w) then j = k else j = m - 1 - k) ∧
    yp (ybp f m a D) w k 0 = (if 0 = yax a w then (j : Int) else 0) ∧ yp (ybp f m a D) w k 1 = (if 1 = yax a w then (j : Int) else 0) ∧ yp (ybp f m a D) w k 2 = (if 2 = yax a w then (j : Int) else 0) := by
  obtain ⟨j0, h1, h2, h3⟩ := yp_bar (f := f) (D := D) (b := 0) ha hw (by decide) hm hk
  obtain ⟨j1, k1, k2, k3⟩ := yp_bar (f := f) (D := D) (b := 1) ha hw (by decide) hm hk
  obtain ⟨j2, l1, l2, l3⟩ := yp_bar (f := f) (D := D) (b := 2) ha hw (by decide) hm hk
  have e1 : j1 = j0 := by
    by_cases hp : 0 < ya w (yax a w)
    · rw [if_pos hp] at h2 k2; omega
    · rw [if_neg hp] at h2 k2; omega
  have e2 : j2 = j0 := by
    by_cases hp : 0 < ya w (yax a w)
    · rw [if_pos hp] at h2 l2; omega
    · rw [if_neg hp] at h2 l2; omega
  subst e1
  subst e2
  exact ⟨_, h1, h2, h3, k3, l3⟩
theorem yfit_bar {w : Nat} {x y z : Int} (ha : a < 3) (hw : w < 24) (hm : 1 ≤ m) : yfit (ybp f m a D) w x y z ↔ ybfa f m D (yax a w) x y z := by
  have e2 : (ybp f m a D 2 0 0).toNat = m := rfl
  constructor
  · rintro ⟨h1, h2⟩
    refine ⟨h1, fun j hj => ?_⟩
    obtain ⟨j', k1, k2, k3, k4, k5⟩ := yp_bar3 (f := f) (D := D) (k := if 0 < ya w (yax a w) then j else m - 1 - j) ha hw hm (by split <;> omega)
    have e : j' = j := by
      by_cases hp : 0 < ya w (yax a w)
      · rw [if_pos hp, if_pos hp] at k2; exact k2
      · rw [if_neg hp, if_neg hp] at k2; omega
    subst e
    have h := h2 (if 0 < ya w (yax a w) then j' else m - 1 - j') (by rw [e2]; split <;> omega) (Or.inl rfl)
    rw [k3, k4, k5] at h
    exact h
  · rintro ⟨h1, h2⟩
    refine ⟨h1, fun k hk _ => ?_⟩
    rw [e2] at hk
    obtain ⟨j', k1, k2, k3, k4, k5⟩ := yp_bar3 (f := f) (D := D) (k := k) ha hw hm hk
    rw [k3, k4, k5]
    exact h2 j' k1
/-- stands of a bar along axis a, and of the bar along x -/
def yrl (a c c' : Nat) : Prop := c / 24 = c' / 24 ∧ c' % 24 = yph a (c % 24)
theorem yrl_G {c c' : Nat} (ha : a < 3) (hm : 1 ≤ m) (hr : yrl a c c') : yG (ybp f m a D) c ↔ yG (ybp f m 0 D) c' := by
  obtain ⟨h1, h2⟩ := hr
  unfold yG
  have eX : yX c = yX c' := by unfold yX; rw [h1]
  have eY : yY c = yY c' := by unfold yY; rw [h1]
  have eZ : yZ c = yZ c' := by unfold yZ; rw [h1]
  rw [yfit_bar ha (by omega) hm, yfit_bar (a := 0) (by decide) (by omega) hm, h2, yax_p a ha (c % 24) (by omega), eX, eY, eZ]
  refine ⟨fun h => ⟨by omega, h.2⟩, fun h => ⟨by omega, h.2⟩⟩
theorem yrl_n {c c' k : Nat} (ha : a < 3) (hk : k < 12) (hr : yrl a c c') : (ynx (ybp f m a D) c k = none ∧ ynx (ybp f m 0 D) c' k = none) ∨ ∃ s s', ynx (ybp f m a D) c k = some s ∧ ynx (ybp f m 0 D) c' k = some s' ∧ yrl a s s' := by
  obtain ⟨h1, h2⟩ := hr
  have eX : yX c = yX c' := by unfold yX; rw [h1]
  have eY : yY c = yY c' := by unfold yY; rw [h1]
  have eZ : yZ c = yZ c' := by unfold yZ; rw [h1]
  have hp := yph_r a ha (c % 24) (by omega)
  unfold ynx
  by_cases hk6 : k < 6
  · rw [if_pos hk6, if_pos hk6, eX, eY, eZ]
    by_cases hc : (0 ≤ yX c' + ydx k ∧ yX c' + ydx k < f 0 0 0) ∧ (0 ≤ yY c' + ydy k ∧ yY c' + ydy k < f 0 0 1) ∧ (0 ≤ yZ c' + ydz k ∧ yZ c' + ydz k < f 0 0 2)
    · right
      refine ⟨_, _, if_pos hc, if_pos hc, ?_, ?_⟩
      · omega
      · rw [show (24 * (ypl (yX c' + ydx k) (yY c' + ydy k) (yZ c' + ydz k)).toNat + c' % 24) % 24 = c' % 24 by omega, show (24 * (ypl (yX c' + ydx k) (yY c' + ydy k) (yZ c' + ydz k)).toNat + c % 24) % 24 = c % 24 by omega]
        exact h2
    · left
      exact ⟨if_neg hc, if_neg hc⟩
  · right
    rw [if_neg hk6, if_neg hk6]
    have r1 := yn_r (c % 24) (by omega) (k - 6) (by omega)
    have r2 := yn_r (c' % 24) (by omega) (k - 6) (by omega)
    refine ⟨_, _, rfl, rfl, by omega, ?_⟩
    rw [show (24 * (c' / 24) + yn (c' % 24) (k - 6)) % 24 = yn (c' % 24) (k - 6) by omega, show (24 * (c / 24) + yn (c % 24) (k - 6)) % 24 = yn (c % 24) (k - 6) by omega, h2]
    exact yph_n a ha (c % 24) (by omega) (k - 6) (by omega)
theorem yrl_go (ha : a < 3) (hm : 1 ≤ m) {g : Int} : ∀ {L : List Nat} {c c' : Nat}, yrl a c c' → ((∃ e, ygo (yG (ybp f m a D)) (ynx (ybp f m a D)) c L e ∧ ygl g e) ↔ ∃ e, ygo (yG (ybp f m 0 D)) (ynx (ybp f m 0 D)) c' L e ∧ ygl g e) := by
  intro L
  induction L with
  | nil =>
    intro c c' hr
    have hG := yrl_G (f := f) (D := D) ha hm hr
    constructor
    · rintro ⟨e, ⟨h1, h2⟩, h3⟩
      subst h2
      refine ⟨c', ⟨hG.mp h1, rfl⟩, ?_⟩
      unfold ygl at h3 ⊢
      rw [← hr.1]; exact h3
    · rintro ⟨e, ⟨h1, h2⟩, h3⟩
      subst h2
      refine ⟨c, ⟨hG.mpr h1, rfl⟩, ?_⟩
      unfold ygl at h3 ⊢
      rw [hr.1]; exact h3
  | cons k r ih =>
    intro c c' hr
    have hG := yrl_G (f := f) (D := D) ha hm hr
    constructor
    · rintro ⟨e, ⟨h1, h2, s, h3, h4⟩, h5⟩
      rcases yrl_n (f := f) (m := m) (D := D) ha h2 hr with ⟨n1, n2⟩ | ⟨s1, s2, n1, n2, n3⟩
      · rw [n1] at h3; cases h3
      · rw [n1] at h3
        have e3 := Option.some.inj h3
        subst e3
        obtain ⟨e', k1, k2⟩ := (ih n3).mp ⟨e, h4, h5⟩
        exact ⟨e', ⟨hG.mp h1, h2, s2, n2, k1⟩, k2⟩
    · rintro ⟨e, ⟨h1, h2, s, h3, h4⟩, h5⟩
      rcases yrl_n (f := f) (m := m) (D := D) ha h2 hr with ⟨n1, n2⟩ | ⟨s1, s2, n1, n2, n3⟩
      · rw [n2] at h3; cases h3
      · rw [n2] at h3
        have e3 := Option.some.inj h3
        subst e3
        obtain ⟨e', k1, k2⟩ := (ih n3).mpr ⟨e, h4, h5⟩
        exact ⟨e', ⟨hG.mpr h1, h2, s1, n1, k1⟩, k2⟩
theorem yrl_goes (ha : a < 3) (hm : 1 ≤ m) {g : Int} {c c' : Nat} (hr : yrl a c c') : ygoes (ybp f m a D) c g ↔ ygoes (ybp f m 0 D) c' g := by
  constructor
  · rintro ⟨L, e, h1, h2⟩
    obtain ⟨e', k1, k2⟩ := (yrl_go ha hm hr).mp ⟨e, h1, h2⟩
    exact ⟨L, e', k1, k2⟩
  · rintro ⟨L, e, h1, h2⟩
    obtain ⟨e', k1, k2⟩ := (yrl_go ha hm hr).mpr ⟨e, h1, h2⟩
    exact ⟨L, e', k1, k2⟩
/-- the bar's start, as the class takes it -/
def ybc (f : xa_H) (a : Nat) : Nat := 24 * (f 2 0 1).toNat + yph a 0
theorem ybc_r (ha : a < 3) : yrl a (24 * (f 2 0 1).toNat) (ybc f a) := by
  have h := yph_r a ha 0 (by decide)
  unfold yrl ybc
  refine ⟨by omega, ?_⟩
  rw [show (24 * (f 2 0 1).toNat) % 24 = 0 by omega]
  omega
theorem ybf0_c (ha : a < 3) (hm : 1 ≤ m) : ybf0 f m a D ↔ yG (ybp f m 0 D) (ybc f a) := yrl_G ha hm (ybc_r ha)
theorem ygoes_G {P : xa_H} {s : Nat} {g : Int} (h : ygoes P s g) : yG P s := by
  obtain ⟨L, e, h1, _⟩ := h
  exact ygo_G h1
theorem ybg_c {D : Nat} (hm : 1 ≤ m) {s : Nat} (hs : (yG (ybp f m 0 (D : Int)) (ybc f 0) ∧ s = ybc f 0) ∨ (¬ yG (ybp f m 0 (D : Int)) (ybc f 0) ∧ yG (ybp f m 0 (D : Int)) (ybc f 1) ∧ s = ybc f 1) ∨ (¬ yG (ybp f m 0 (D : Int)) (ybc f 0) ∧ ¬ yG (ybp f m 0 (D : Int)) (ybc f 1) ∧ s = ybc f 2)) : ybg f m D ↔ ygoes (ybp f m 0 (D : Int)) s (f 2 0 3) := by
  have c0 := ybf0_c (f := f) (m := m) (D := (D : Int)) (a := 0) (by decide) hm
  have c1 := ybf0_c (f := f) (m := m) (D := (D : Int)) (a := 1) (by decide) hm
  have c2 := ybf0_c (f := f) (m := m) (D := (D : Int)) (a := 2) (by decide) hm
  have g0 := yrl_goes (f := f) (m := m) (D := (D : Int)) (g := f 2 0 3) (a := 0) (by decide) hm (ybc_r (f := f) (by decide))
  have g1 := yrl_goes (f := f) (m := m) (D := (D : Int)) (g := f 2 0 3) (a := 1) (by decide) hm (ybc_r (f := f) (by decide))
  have g2 := yrl_goes (f := f) (m := m) (D := (D : Int)) (g := f 2 0 3) (a := 2) (by decide) hm (ybc_r (f := f) (by decide))
  constructor
  · rintro ⟨a, h1, h2, h3, h4⟩
    have ha : a = 0 ∨ a = 1 ∨ a = 2 := by omega
    rcases ha with e | e | e
    · subst e
      rcases hs with ⟨k1, k2⟩ | ⟨k1, _⟩ | ⟨k1, _⟩
      · rw [k2]; exact g0.mp h4
      · exact absurd (c0.mp h3) k1
      · exact absurd (c0.mp h3) k1
    · subst e
      rcases hs with ⟨k1, k2⟩ | ⟨k1, k2, k3⟩ | ⟨k1, k2, k3⟩
      · exact absurd (c0.mpr k1) (h2 0 (by decide))
      · rw [k3]; exact g1.mp h4
      · exact absurd (c1.mp h3) k2
    · subst e
      rcases hs with ⟨k1, k2⟩ | ⟨k1, k2, k3⟩ | ⟨k1, k2, k3⟩
      · exact absurd (c0.mpr k1) (h2 0 (by decide))
      · exact absurd (c1.mpr k2) (h2 1 (by decide))
      · rw [k3]; exact g2.mp h4
  · intro h
    have hG := ygoes_G h
    rcases hs with ⟨k1, k2⟩ | ⟨k1, k2, k3⟩ | ⟨k1, k2, k3⟩
    · rw [k2] at h
      exact ⟨0, by decide, fun a' h' => by omega, c0.mpr k1, g0.mpr h⟩
    · rw [k3] at h
      refine ⟨1, by decide, fun a' h' => ?_, c1.mpr k2, g1.mpr h⟩
      have : a' = 0 := by omega
      subst this
      exact fun q => k1 (c0.mp q)
    · rw [k3] at h hG
      refine ⟨2, by decide, fun a' h' => ?_, c2.mpr hG, g2.mpr h⟩
      have : a' = 0 ∨ a' = 1 := by omega
      rcases this with e | e
      · subst e; exact fun q => k1 (c0.mp q)
      · subst e; exact fun q => k2 (c1.mp q)
end BG
