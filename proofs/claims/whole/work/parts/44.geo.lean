/-! the ways to be turned, things, what fits: apart from states -/
def yaxl : List Int := [1, 2, 3, 1, -3, 2, 3, 2, -1, -2, 1, 3, 1, 3, -2, -3, 2, 1, 2, -1, 3, 1, -2, -3, 2, -3, -1, 3, 1, 2, -2, -3, 1, -3, -1, 2, -1, 2, -3, -2, 3, -1, 3, -1, -2, -1, -2, 3, -3, 1, -2, 2, 3, 1, -3, -2, -1, 2, 1, -3, 3, -2, 1, -2, -1, -3, -1, -3, -2, -1, 3, 2]
def ynxl : List Nat := [1, 2, 3, 4, 5, 6, 7, 8, 9, 0, 10, 11, 9, 12, 13, 14, 0, 8, 10, 9, 15, 13, 16, 0, 0, 13, 16, 7, 17, 14, 11, 0, 10, 16, 12, 17, 8, 14, 0, 17, 11, 15, 4, 18, 19, 1, 20, 21, 19, 22, 2, 6, 1, 18, 20, 19, 23, 2, 3, 1, 21, 1, 20, 3, 22, 5, 18, 6, 1, 5, 21, 23, 23, 5, 21, 22, 2, 19, 3, 23, 18, 21, 4, 2, 2, 21, 4, 20, 6, 22, 22, 20, 6, 23, 18, 3, 5, 3, 22, 18, 19, 4, 6, 4, 5, 19, 23, 20, 16, 15, 8, 11, 7, 13, 17, 16, 12, 8, 9, 7, 14, 7, 17, 9, 15, 10, 13, 11, 7, 10, 14, 12, 12, 10, 14, 15, 8, 16, 15, 17, 11, 12, 13, 9]
def ytbl : List Int := [1, 0, 0, 0, 1, 0, 0, 0, 1, 1, 0, 0, 0, 0, -1, 0, 1, 0, 0, 0, 1, 0, 1, 0, -1, 0, 0, 0, -1, 0, 1, 0, 0, 0, 0, 1, 1, 0, 0, 0, 0, 1, 0, -1, 0, 0, 0, -1, 0, 1, 0, 1, 0, 0, 0, 1, 0, -1, 0, 0, 0, 0, 1, 1, 0, 0, 0, -1, 0, 0, 0, -1, 0, 1, 0, 0, 0, -1, -1, 0, 0, 0, 0, 1, 1, 0, 0, 0, 1, 0, 0, -1, 0, 0, 0, -1, 1, 0, 0, 0, 0, -1, -1, 0, 0, 0, 1, 0, -1, 0, 0, 0, 1, 0, 0, 0, -1, 0, -1, 0, 0, 0, 1, -1, 0, 0, 0, 0, 1, -1, 0, 0, 0, -1, 0, -1, 0, 0, 0, -1, 0, 0, 0, 1, 0, 0, -1, 1, 0, 0, 0, -1, 0, 0, 1, 0, 0, 0, 1, 1, 0, 0, 0, 0, -1, 0, -1, 0, -1, 0, 0, 0, 1, 0, 1, 0, 0, 0, 0, -1, 0, 0, 1, 0, -1, 0, 1, 0, 0, 0, -1, 0, -1, 0, 0, 0, 0, -1, -1, 0, 0, 0, 0, -1, 0, -1, 0, -1, 0, 0, 0, 0, 1, 0, 1, 0]
/-- which of the told axes stands at an axis (less: mirrored); the way after a turn; the table's entries -/
def ya0 (w a : Nat) : Int := yaxl.getD (3 * w + a) 0
def yn0 (w t : Nat) : Nat := ynxl.getD (6 * w + t) 0
def yt0 (w a c : Nat) : Int := ytbl.getD (9 * w + 3 * a + c) 0
/-- the same, closed: not to be unfolded -/
noncomputable def ya : Nat → Nat → Int := (Classical.choice ⟨⟨ya0, rfl⟩⟩ : { f : Nat → Nat → Int // f = ya0 }).1
noncomputable def yn : Nat → Nat → Nat := (Classical.choice ⟨⟨yn0, rfl⟩⟩ : { f : Nat → Nat → Nat // f = yn0 }).1
noncomputable def yt : Nat → Nat → Nat → Int := (Classical.choice ⟨⟨yt0, rfl⟩⟩ : { f : Nat → Nat → Nat → Int // f = yt0 }).1
theorem ya_e : ya = ya0 := (Classical.choice ⟨⟨ya0, rfl⟩⟩ : { f : Nat → Nat → Int // f = ya0 }).2
theorem yn_e : yn = yn0 := (Classical.choice ⟨⟨yn0, rfl⟩⟩ : { f : Nat → Nat → Nat // f = yn0 }).2
theorem yt_e : yt = yt0 := (Classical.choice ⟨⟨yt0, rfl⟩⟩ : { f : Nat → Nat → Nat → Int // f = yt0 }).2
theorem ya_r : ∀ w, w < 24 → ∀ a, a < 3 → (1 ≤ ya w a ∧ ya w a ≤ 3) ∨ (-3 ≤ ya w a ∧ ya w a ≤ -1) := by rw [ya_e]; decide +kernel
theorem yn_r : ∀ w, w < 24 → ∀ t, t < 6 → yn w t < 24 := by rw [yn_e]; decide +kernel
theorem yn_u : ∀ w, w < 24 → ∀ t, t < 3 → yn (yn w t) (t + 3) = w ∧ yn (yn w (t + 3)) t = w := by rw [yn_e]; decide +kernel
theorem yt_a : ∀ w, w < 24 → ∀ a, a < 3 → ∀ c, c < 3 → yt w a c = if ya w a = (c : Int) + 1 then 1 else if ya w a = -(c : Int) - 1 then -1 else 0 := by rw [yt_e, ya_e]; decide +kernel
/-- the greatest of each axis; where a cube is from the least corner -/
def ygr (C : Nat → Nat → Int) (a : Nat) : Nat → Int
  | 0 => 0
  | n + 1 => if ygr C a n < C n a then C n a else ygr C a n
noncomputable def yat (C : Nat → Nat → Int) (n w k a : Nat) : Int :=
  if 0 < ya w a then C k ((ya w a).toNat - 1) else ygr C ((-ya w a).toNat - 1) n - C k ((-ya w a).toNat - 1)
def ysv (n : Nat) (C : Nat → Nat → Int) : Prop := (∀ k, k < n → ∀ a, a < 3 → 0 ≤ C k a ∧ C k a ≤ 5) ∧ (∀ a, a < 3 → ∃ k, k < n ∧ C k a = 0)
theorem ygr_le {C : Nat → Nat → Int} {a b : Nat} : ∀ {n : Nat}, (∀ k, k < n → 0 ≤ C k a ∧ C k a ≤ (b : Int)) → (0 ≤ ygr C a n ∧ ygr C a n ≤ (b : Int)) ∧ ∀ k, k < n → C k a ≤ ygr C a n := by
  intro n
  induction n with
  | zero => intro _; refine ⟨⟨by unfold ygr; omega, by unfold ygr; omega⟩, fun k hk => by omega⟩
  | succ n ih =>
    intro h
    obtain ⟨⟨h1, h2⟩, h3⟩ := ih (fun k hk => h k (by omega))
    have hn := h n (by omega)
    unfold ygr
    by_cases hc : ygr C a n < C n a
    · rw [if_pos hc]
      refine ⟨⟨hn.1, hn.2⟩, fun k hk => ?_⟩
      by_cases hkn : k = n
      · subst hkn; omega
      · have := h3 k (by omega); omega
    · rw [if_neg hc]
      refine ⟨⟨h1, h2⟩, fun k hk => ?_⟩
      by_cases hkn : k = n
      · subst hkn; omega
      · exact h3 k (by omega)
theorem ygr_ex {C : Nat → Nat → Int} {a : Nat} : ∀ {n : Nat}, (∀ k, k < n → 0 ≤ C k a) → 0 < n → ∃ k, k < n ∧ C k a = ygr C a n := by
  intro n
  induction n with
  | zero => intro _ h; omega
  | succ n ih =>
    intro h _
    unfold ygr
    by_cases hc : ygr C a n < C n a
    · rw [if_pos hc]; exact ⟨n, by omega, rfl⟩
    · rw [if_neg hc]
      cases hn : n with
      | zero => subst hn; exact ⟨0, by omega, by have h0 := h 0 (by omega); unfold ygr at hc ⊢; omega⟩
      | succ m =>
        obtain ⟨k, h1, h2⟩ := ih (fun k hk => h k (by omega)) (by omega)
        subst hn
        exact ⟨k, by omega, h2⟩
theorem yat_r {C : Nat → Nat → Int} {n w k a : Nat} (hs : ysv n C) (hw : w < 24) (hk : k < n) (ha : a < 3) : 0 ≤ yat C n w k a ∧ yat C n w k a ≤ 5 := by
  obtain ⟨h1, h2⟩ := hs
  have hr := ya_r w hw a ha
  unfold yat
  by_cases hp : 0 < ya w a
  · rw [if_pos hp]
    exact h1 k hk _ (by omega)
  · rw [if_neg hp]
    have h3 := ygr_le (b := 5) (fun k hk => h1 k hk ((-ya w a).toNat - 1) (by omega))
    have h4 := h3.2 k hk
    have h5 := h1 k hk ((-ya w a).toNat - 1) (by omega)
    omega
/-- a problem: 0 the size, 1 kinds of places, 2 how many cubes, 3 the cubes as told, 4 their groups, 5 parts and doors that are off -/
def yPv (P : xa_H) : Prop := qsz (P 0 0 0) (P 0 0 1) (P 0 0 2) ∧ (∀ q, q < 144 → 0 ≤ P 1 0 q ∧ P 1 0 q ≤ 5) ∧ (1 ≤ P 2 0 0 ∧ P 2 0 0 ≤ 10) ∧ ysv (P 2 0 0).toNat (P 3) ∧
  (∀ k, k < (P 2 0 0).toNat → 0 ≤ P 4 k 0 ∧ P 4 k 0 ≤ 4) ∧ (0 ≤ P 5 0 0 ∧ P 5 0 0 ≤ 15) ∧ (0 ≤ P 5 0 1 ∧ P 5 0 1 ≤ 15)
def yqin (P : xa_H) (x y z : Int) : Prop := qin (P 0 0 0) (P 0 0 1) (P 0 0 2) x y z
def yon (P : xa_H) (k : Nat) : Prop := P 4 k 0 = 0 ∨ (P 5 0 0).toNat.testBit ((P 4 k 0).toNat - 1) = false
def yopn (P : xa_H) (q : Int) : Prop := P 1 0 q.toNat = 0 ∨ (2 ≤ P 1 0 q.toNat ∧ (P 5 0 1).toNat.testBit ((P 1 0 q.toNat).toNat - 2) = true)
def ypl (x y z : Int) : Int := 24 * x + 4 * y + z
noncomputable def yp (P : xa_H) (w k a : Nat) : Int := yat (P 3) (P 2 0 0).toNat w k a
def yfit (P : xa_H) (w : Nat) (x y z : Int) : Prop := yqin P x y z ∧ ∀ k, k < (P 2 0 0).toNat → yon P k → yqin P (x + yp P w k 0) (y + yp P w k 1) (z + yp P w k 2) ∧ yopn P (ypl (x + yp P w k 0) (y + yp P w k 1) (z + yp P w k 2))
def yX (c : Nat) : Int := ((c / 24 / 24 : Nat) : Int)
def yY (c : Nat) : Int := ((c / 24 / 4 % 6 : Nat) : Int)
def yZ (c : Nat) : Int := ((c / 24 % 4 : Nat) : Int)
def yG (P : xa_H) (c : Nat) : Prop := c < 3456 ∧ yfit P (c % 24) (yX c) (yY c) (yZ c)
def ydx (m : Nat) : Int := if m = 2 then -1 else if m = 3 then 1 else 0
def ydy (m : Nat) : Int := if m = 0 then -1 else if m = 1 then 1 else 0
def ydz (m : Nat) : Int := if m = 4 then 1 else if m = 5 then -1 else 0
noncomputable def ynx (P : xa_H) (c m : Nat) : Option Nat :=
  if m < 6 then (if (0 ≤ yX c + ydx m ∧ yX c + ydx m < P 0 0 0) ∧ (0 ≤ yY c + ydy m ∧ yY c + ydy m < P 0 0 1) ∧ (0 ≤ yZ c + ydz m ∧ yZ c + ydz m < P 0 0 2) then some (24 * (ypl (yX c + ydx m) (yY c + ydy m) (yZ c + ydz m)).toNat + c % 24) else none)
  else some (24 * (c / 24) + yn (c % 24) (m - 6))
def yud (m : Nat) : Nat := if m < 6 then (if m % 2 = 0 then m + 1 else m - 1) else if m < 9 then m + 3 else m - 3
theorem yud_r {m : Nat} (h : m < 12) : yud m < 12 := by unfold yud; split <;> (try split) <;> omega
theorem yud_u {m : Nat} (h : m < 12) : yud (yud m) = m := (by decide : ∀ m, m < 12 → yud (yud m) = m) m h
def ycell (P : xa_H) (c : Nat) : Prop := c < 3456 ∧ yqin P (yX c) (yY c) (yZ c)
theorem yG_cell {P : xa_H} {c : Nat} (h : yG P c) : ycell P c := ⟨h.1, h.2.1⟩
theorem ycell_of {P : xa_H} (hs : qsz (P 0 0 0) (P 0 0 1) (P 0 0 2)) {x y z : Int} {w : Nat} (hw : w < 24) (h : yqin P x y z) :
    ycell P (24 * (ypl x y z).toNat + w) ∧ (24 * (ypl x y z).toNat + w) % 24 = w ∧ yX (24 * (ypl x y z).toNat + w) = x ∧ yY (24 * (ypl x y z).toNat + w) = y ∧ yZ (24 * (ypl x y z).toNat + w) = z := by
  have hq : qin (P 0 0 0) (P 0 0 1) (P 0 0 2) x y z := h
  unfold qin at hq
  unfold qsz at hs
  have e0 : (24 * (ypl x y z).toNat + w) / 24 = (ypl x y z).toNat := by omega
  have e1 : (ypl x y z).toNat = 24 * x.toNat + 4 * y.toNat + z.toNat := by unfold ypl; omega
  have eX : yX (24 * (ypl x y z).toNat + w) = x := by unfold yX; rw [e0, e1]; omega
  have eY : yY (24 * (ypl x y z).toNat + w) = y := by unfold yY; rw [e0, e1]; omega
  have eZ : yZ (24 * (ypl x y z).toNat + w) = z := by unfold yZ; rw [e0, e1]; omega
  refine ⟨⟨by omega, ?_⟩, by omega, eX, eY, eZ⟩
  rw [eX, eY, eZ]
  exact h
theorem yc_pl {P : xa_H} {c : Nat} (h : ycell P c) : c = 24 * (ypl (yX c) (yY c) (yZ c)).toNat + c % 24 := by
  obtain ⟨h1, h2⟩ := h
  unfold ypl yX yY yZ
  omega
/-- a move and back -/
theorem ynx_u {P : xa_H} (hs : qsz (P 0 0 0) (P 0 0 1) (P 0 0 2)) {c m c' : Nat} (hc : ycell P c) (hm : m < 12) (h : ynx P c m = some c') : ycell P c' ∧ ynx P c' (yud m) = some c := by
  have hpl := yc_pl hc
  obtain ⟨h1, h2⟩ := hc
  have h2' : (0 ≤ yX c ∧ yX c < P 0 0 0) ∧ (0 ≤ yY c ∧ yY c < P 0 0 1) ∧ (0 ≤ yZ c ∧ yZ c < P 0 0 2) := h2
  unfold ynx at h
  by_cases hm6 : m < 6
  · rw [if_pos hm6] at h
    by_cases hq : (0 ≤ yX c + ydx m ∧ yX c + ydx m < P 0 0 0) ∧ (0 ≤ yY c + ydy m ∧ yY c + ydy m < P 0 0 1) ∧ (0 ≤ yZ c + ydz m ∧ yZ c + ydz m < P 0 0 2)
    · rw [if_pos hq] at h
      have e := Option.some.inj h
      obtain ⟨k1, k2, k3, k4, k5⟩ := ycell_of hs (w := c % 24) (by omega) hq
      rw [e] at k1 k2 k3 k4 k5
      refine ⟨k1, ?_⟩
      have hu : yud m < 6 ∧ ydx (yud m) = - ydx m ∧ ydy (yud m) = - ydy m ∧ ydz (yud m) = - ydz m :=
        (by decide : ∀ m, m < 6 → yud m < 6 ∧ ydx (yud m) = - ydx m ∧ ydy (yud m) = - ydy m ∧ ydz (yud m) = - ydz m) m hm6
      obtain ⟨u1, u2, u3, u4⟩ := hu
      unfold ynx
      have eX : yX c' + ydx (yud m) = yX c := by rw [k3, u2]; omega
      have eY : yY c' + ydy (yud m) = yY c := by rw [k4, u3]; omega
      have eZ : yZ c' + ydz (yud m) = yZ c := by rw [k5, u4]; omega
      rw [if_pos u1, eX, eY, eZ, if_pos h2', k2, ← hpl]
    · rw [if_neg hq] at h; cases h
  · rw [if_neg hm6] at h
    have e := Option.some.inj h
    have hr := yn_r (c % 24) (by omega) (m - 6) (by omega)
    have e1 : c' / 24 = c / 24 := by omega
    have e2 : c' % 24 = yn (c % 24) (m - 6) := by omega
    refine ⟨⟨by omega, ?_⟩, ?_⟩
    · have : yX c' = yX c ∧ yY c' = yY c ∧ yZ c' = yZ c := by unfold yX yY yZ; rw [e1]; exact ⟨rfl, rfl, rfl⟩
      rw [this.1, this.2.1, this.2.2]; exact h2
    · unfold ynx
      have hu : ¬ yud m < 6 := by unfold yud; rw [if_neg hm6]; split <;> omega
      rw [if_neg hu, e1, e2]
      have hb : yn (yn (c % 24) (m - 6)) (yud m - 6) = c % 24 := by
        by_cases h9 : m < 9
        · have := (yn_u (c % 24) (by omega) (m - 6) (by omega)).1
          have e3 : yud m - 6 = m - 6 + 3 := by unfold yud; rw [if_neg hm6, if_pos h9]; omega
          rw [e3]; exact this
        · have := (yn_u (c % 24) (by omega) (m - 9) (by omega)).2
          have e3 : yud m - 6 = m - 9 := by unfold yud; rw [if_neg hm6, if_neg h9]; omega
          have e4 : m - 6 = m - 9 + 3 := by omega
          rw [e3, e4]; exact this
      rw [hb]
      congr 1
      omega
theorem ynx_c {P : xa_H} (hs : qsz (P 0 0 0) (P 0 0 1) (P 0 0 2)) {c m c' : Nat} (hc : ycell P c) (hm : m < 12) (h : ynx P c m = some c') : ycell P c' := (ynx_u hs hc hm h).1
theorem ynx_b {P : xa_H} (hs : qsz (P 0 0 0) (P 0 0 1) (P 0 0 2)) {c m c' : Nat} (hc : ycell P c) (hm : m < 12) (h : ynx P c (yud m) = some c') : ynx P c' m = some c := by
  have := (ynx_u hs hc (yud_r hm) h).2
  rw [yud_u hm] at this
  exact this
