theorem w32_k {x : Int} {k : Nat} (h : x = (k : Int)) (hk : k < 2147483648) : w32 x = (k : Int) := by
  subst h
  exact w32_n (by omega) (by omega)
theorem w32_2 {x y : Int} {k : Nat} (h : x + y = (k : Int)) (hx : -1000000000 ≤ x ∧ x ≤ 1000000000) (hk : k < 2147483648) : w32 (w32 x + y) = (k : Int) := by
  rw [w32_n (x := x) (by omega) (by omega)]
  exact w32_k h hk
theorem xnm_e {α β : Type} (e : α) (K : α → β) : xnm e K = K e := rfl
/-! the class's search: what hinders a thing at a stand -/
theorem rd11 {i j : Nat} {σ : xa_H} (h : j < 256) : fm_S_read 11 i (j : Int) σ = some (σ 11 i j) := by
  have h2 : j < xalen 11 := h
  rw [q_rd (by omega) (by omega)]; rfl
theorem wr11 {i j : Nat} {v : Int} {σ : xa_H} (h : j < 256) : fm_S_write 11 i (j : Int) v σ = some (xup σ 11 i j v) := by
  have h2 : j < xalen 11 := h
  rw [q_wr (by omega) (by omega)]; rfl
theorem rd12 {i j : Nat} {σ : xa_H} (h : j < 3456) : fm_S_read 12 i (j : Int) σ = some (σ 12 i j) := by
  have h2 : j < xalen 12 := h
  rw [q_rd (by omega) (by omega)]; rfl
theorem wr12 {i j : Nat} {v : Int} {σ : xa_H} (h : j < 3456) : fm_S_write 12 i (j : Int) v σ = some (xup σ 12 i j v) := by
  have h2 : j < xalen 12 := h
  rw [q_wr (by omega) (by omega)]; rfl
theorem rd13 {i j : Nat} {σ : xa_H} (h : j < 12) : fm_S_read 13 i (j : Int) σ = some (σ 13 i j) := by
  have h2 : j < xalen 13 := h
  rw [q_rd (by omega) (by omega)]; rfl
theorem wr13 {i j : Nat} {v : Int} {σ : xa_H} (h : j < 12) : fm_S_write 13 i (j : Int) v σ = some (xup σ 13 i j v) := by
  have h2 : j < xalen 13 := h
  rw [q_wr (by omega) (by omega)]; rfl
theorem rd14 {i j : Nat} {σ : xa_H} (h : j < 3456) : fm_S_read 14 i (j : Int) σ = some (σ 14 i j) := by
  have h2 : j < xalen 14 := h
  rw [q_rd (by omega) (by omega)]; rfl
theorem wr14 {i j : Nat} {v : Int} {σ : xa_H} (h : j < 3456) : fm_S_write 14 i (j : Int) v σ = some (xup σ 14 i j v) := by
  have h2 : j < xalen 14 := h
  rw [q_wr (by omega) (by omega)]; rfl
theorem rd15 {i j : Nat} {σ : xa_H} (h : j < 3456) : fm_S_read 15 i (j : Int) σ = some (σ 15 i j) := by
  have h2 : j < xalen 15 := h
  rw [q_rd (by omega) (by omega)]; rfl
theorem wr15 {i j : Nat} {v : Int} {σ : xa_H} (h : j < 3456) : fm_S_write 15 i (j : Int) v σ = some (xup σ 15 i j v) := by
  have h2 : j < xalen 15 := h
  rw [q_wr (by omega) (by omega)]; rfl
theorem rd16 {i j : Nat} {σ : xa_H} (h : j < 3456) : fm_S_read 16 i (j : Int) σ = some (σ 16 i j) := by
  have h2 : j < xalen 16 := h
  rw [q_rd (by omega) (by omega)]; rfl
theorem wr16 {i j : Nat} {v : Int} {σ : xa_H} (h : j < 3456) : fm_S_write 16 i (j : Int) v σ = some (xup σ 16 i j v) := by
  have h2 : j < xalen 16 := h
  rw [q_wr (by omega) (by omega)]; rfl
theorem rd17 {i j : Nat} {σ : xa_H} (h : j < 60) : fm_S_read 17 i (j : Int) σ = some (σ 17 i j) := by
  have h2 : j < xalen 17 := h
  rw [q_rd (by omega) (by omega)]; rfl
theorem wr17 {i j : Nat} {v : Int} {σ : xa_H} (h : j < 60) : fm_S_write 17 i (j : Int) v σ = some (xup σ 17 i j v) := by
  have h2 : j < xalen 17 := h
  rw [q_wr (by omega) (by omega)]; rfl
theorem rd18 {i j : Nat} {σ : xa_H} (h : j < 1089) : fm_S_read 18 i (j : Int) σ = some (σ 18 i j) := by
  have h2 : j < xalen 18 := h
  rw [q_rd (by omega) (by omega)]; rfl
theorem wr18 {i j : Nat} {v : Int} {σ : xa_H} (h : j < 1089) : fm_S_write 18 i (j : Int) v σ = some (xup σ 18 i j v) := by
  have h2 : j < xalen 18 := h
  rw [q_wr (by omega) (by omega)]; rfl
theorem rd19 {i j : Nat} {σ : xa_H} (h : j < 144) : fm_S_read 19 i (j : Int) σ = some (σ 19 i j) := by
  have h2 : j < xalen 19 := h
  rw [q_rd (by omega) (by omega)]; rfl
theorem wr19 {i j : Nat} {v : Int} {σ : xa_H} (h : j < 144) : fm_S_write 19 i (j : Int) v σ = some (xup σ 19 i j v) := by
  have h2 : j < xalen 19 := h
  rw [q_wr (by omega) (by omega)]; rfl
theorem rd20 {i j : Nat} {σ : xa_H} (h : j < 240) : fm_S_read 20 i (j : Int) σ = some (σ 20 i j) := by
  have h2 : j < xalen 20 := h
  rw [q_rd (by omega) (by omega)]; rfl
theorem wr20 {i j : Nat} {v : Int} {σ : xa_H} (h : j < 240) : fm_S_write 20 i (j : Int) v σ = some (xup σ 20 i j v) := by
  have h2 : j < xalen 20 := h
  rw [q_wr (by omega) (by omega)]; rfl
theorem rd21 {i j : Nat} {σ : xa_H} (h : j < 3456) : fm_S_read 21 i (j : Int) σ = some (σ 21 i j) := by
  have h2 : j < xalen 21 := h
  rw [q_rd (by omega) (by omega)]; rfl
theorem wr21 {i j : Nat} {v : Int} {σ : xa_H} (h : j < 3456) : fm_S_write 21 i (j : Int) v σ = some (xup σ 21 i j v) := by
  have h2 : j < xalen 21 := h
  rw [q_wr (by omega) (by omega)]; rfl
theorem rd22 {i j : Nat} {σ : xa_H} (h : j < 3456) : fm_S_read 22 i (j : Int) σ = some (σ 22 i j) := by
  have h2 : j < xalen 22 := h
  rw [q_rd (by omega) (by omega)]; rfl
theorem wr22 {i j : Nat} {v : Int} {σ : xa_H} (h : j < 3456) : fm_S_write 22 i (j : Int) v σ = some (xup σ 22 i j v) := by
  have h2 : j < xalen 22 := h
  rw [q_wr (by omega) (by omega)]; rfl
theorem rd23 {i j : Nat} {σ : xa_H} (h : j < 3456) : fm_S_read 23 i (j : Int) σ = some (σ 23 i j) := by
  have h2 : j < xalen 23 := h
  rw [q_rd (by omega) (by omega)]; rfl
theorem wr23 {i j : Nat} {v : Int} {σ : xa_H} (h : j < 3456) : fm_S_write 23 i (j : Int) v σ = some (xup σ 23 i j v) := by
  have h2 : j < xalen 23 := h
  rw [q_wr (by omega) (by omega)]; rfl
theorem rd25 {i j : Nat} {σ : xa_H} (h : j < 4) : fm_S_read 25 i (j : Int) σ = some (σ 25 i j) := by
  have h2 : j < xalen 25 := h
  rw [q_rd (by omega) (by omega)]; rfl
theorem wr25 {i j : Nat} {v : Int} {σ : xa_H} (h : j < 4) : fm_S_write 25 i (j : Int) v σ = some (xup σ 25 i j v) := by
  have h2 : j < xalen 25 := h
  rw [q_wr (by omega) (by omega)]; rfl
theorem rd26 {i j : Nat} {σ : xa_H} (h : j < 4) : fm_S_read 26 i (j : Int) σ = some (σ 26 i j) := by
  have h2 : j < xalen 26 := h
  rw [q_rd (by omega) (by omega)]; rfl
theorem wr26 {i j : Nat} {v : Int} {σ : xa_H} (h : j < 4) : fm_S_write 26 i (j : Int) v σ = some (xup σ 26 i j v) := by
  have h2 : j < xalen 26 := h
  rw [q_wr (by omega) (by omega)]; rfl
theorem rd27 {i j : Nat} {σ : xa_H} (h : j < 30) : fm_S_read 27 i (j : Int) σ = some (σ 27 i j) := by
  have h2 : j < xalen 27 := h
  rw [q_rd (by omega) (by omega)]; rfl
theorem wr27 {i j : Nat} {v : Int} {σ : xa_H} (h : j < 30) : fm_S_write 27 i (j : Int) v σ = some (xup σ 27 i j v) := by
  have h2 : j < xalen 27 := h
  rw [q_wr (by omega) (by omega)]; rfl
theorem rd28 {i j : Nat} {σ : xa_H} (h : j < 10) : fm_S_read 28 i (j : Int) σ = some (σ 28 i j) := by
  have h2 : j < xalen 28 := h
  rw [q_rd (by omega) (by omega)]; rfl
theorem wr28 {i j : Nat} {v : Int} {σ : xa_H} (h : j < 10) : fm_S_write 28 i (j : Int) v σ = some (xup σ 28 i j v) := by
  have h2 : j < xalen 28 := h
  rw [q_wr (by omega) (by omega)]; rfl
theorem rd29 {i j : Nat} {σ : xa_H} (h : j < 3) : fm_S_read 29 i (j : Int) σ = some (σ 29 i j) := by
  have h2 : j < xalen 29 := h
  rw [q_rd (by omega) (by omega)]; rfl
theorem wr29 {i j : Nat} {v : Int} {σ : xa_H} (h : j < 3) : fm_S_write 29 i (j : Int) v σ = some (xup σ 29 i j v) := by
  have h2 : j < xalen 29 := h
  rw [q_wr (by omega) (by omega)]; rfl
theorem rd30 {i j : Nat} {σ : xa_H} (h : j < 4) : fm_S_read 30 i (j : Int) σ = some (σ 30 i j) := by
  have h2 : j < xalen 30 := h
  rw [q_rd (by omega) (by omega)]; rfl
theorem wr30 {i j : Nat} {v : Int} {σ : xa_H} (h : j < 4) : fm_S_write 30 i (j : Int) v σ = some (xup σ 30 i j v) := by
  have h2 : j < xalen 30 := h
  rw [q_wr (by omega) (by omega)]; rfl
theorem rd31 {i j : Nat} {σ : xa_H} (h : j < 72) : fm_S_read 31 i (j : Int) σ = some (σ 31 i j) := by
  have h2 : j < xalen 31 := h
  rw [q_rd (by omega) (by omega)]; rfl
theorem wr31 {i j : Nat} {v : Int} {σ : xa_H} (h : j < 72) : fm_S_write 31 i (j : Int) v σ = some (xup σ 31 i j v) := by
  have h2 : j < xalen 31 := h
  rw [q_wr (by omega) (by omega)]; rfl
theorem rd32 {i j : Nat} {σ : xa_H} (h : j < 144) : fm_S_read 32 i (j : Int) σ = some (σ 32 i j) := by
  have h2 : j < xalen 32 := h
  rw [q_rd (by omega) (by omega)]; rfl
theorem wr32 {i j : Nat} {v : Int} {σ : xa_H} (h : j < 144) : fm_S_write 32 i (j : Int) v σ = some (xup σ 32 i j v) := by
  have h2 : j < xalen 32 := h
  rw [q_wr (by omega) (by omega)]; rfl
theorem rd33 {i j : Nat} {σ : xa_H} (h : j < 144) : fm_S_read 33 i (j : Int) σ = some (σ 33 i j) := by
  have h2 : j < xalen 33 := h
  rw [q_rd (by omega) (by omega)]; rfl
theorem wr33 {i j : Nat} {v : Int} {σ : xa_H} (h : j < 144) : fm_S_write 33 i (j : Int) v σ = some (xup σ 33 i j v) := by
  have h2 : j < xalen 33 := h
  rw [q_wr (by omega) (by omega)]; rfl
theorem rd34 {i j : Nat} {σ : xa_H} (h : j < 864) : fm_S_read 34 i (j : Int) σ = some (σ 34 i j) := by
  have h2 : j < xalen 34 := h
  rw [q_rd (by omega) (by omega)]; rfl
theorem wr34 {i j : Nat} {v : Int} {σ : xa_H} (h : j < 864) : fm_S_write 34 i (j : Int) v σ = some (xup σ 34 i j v) := by
  have h2 : j < xalen 34 := h
  rw [q_wr (by omega) (by omega)]; rfl
def ygi (x y z : Int) : Int := (x * 11 + y) * 9 + z
/-- the class's tables -/
def yct (σ : xa_H) : Prop := (∀ j, j < 72 → σ 31 0 j = yaxl.getD j 0) ∧ (∀ j, j < 144 → σ 32 0 j = ((ynxl.getD j 0 : Nat) : Int)) ∧ (∀ p, p < 144 → σ 19 0 p = ygi ((p / 24 : Nat) : Int) ((p / 4 % 6 : Nat) : Int) ((p % 4 : Nat) : Int)) ∧ ∀ k, k < 10 → σ 28 12 k = 0
theorem q_gridAt {x y z : Int} (hx : 0 ≤ x ∧ x < 100) (hy : 0 ≤ y ∧ y < 100) (hz : 0 ≤ z ∧ z < 100) : fm_Search_gridAt x y z = some (ygi x y z) := by
  unfold fm_Search_gridAt ygi
  simp only [w32_d]
  congr 1
  omega
theorem q_after {σ : xa_H} (ht : yct σ) {w t : Nat} (hw : w < 24) (h : t < 6) : fm_Turns_after (w : Int) (t : Int) σ = some ((yn w t : Nat) : Int) := by
  unfold fm_Turns_after
  have e : w32 (w32 ((w : Int) * 6) + (t : Int)) = ((6 * w + t : Nat) : Int) := by simp only [w32_d]; omega
  rw [e, rd32 (show 6 * w + t < 144 by omega), Option.bind_some, ht.2.1 _ (by omega), yn_e]
  rfl
theorem q_axisAt {σ : xa_H} (ht : yct σ) {w a : Nat} (hw : w < 24) (ha : a < 3) : fm_Turns_axisAt (w : Int) (a : Int) σ = some (ya w a) := by
  unfold fm_Turns_axisAt
  have e : w32 (w32 ((w : Int) * 3) + (a : Int)) = ((3 * w + a : Nat) : Int) := by simp only [w32_d]; omega
  rw [e, rd31 (show 3 * w + a < 72 by omega), Option.bind_some, ht.1 _ (by omega), ya_e]
  rfl
/-- a thing of the class as told -/
def yth (σ : xa_H) (i n : Nat) (C : Nat → Nat → Int) : Prop := n ≤ 10 ∧ ysv n C ∧ (∀ k, k < n → ∀ a, a < 3 → σ 27 i (3 * k + a) = C k a) ∧ (∀ a, a < 3 → σ 29 i a = ygr C a n)
theorem q_along {σ : xa_H} (ht : yct σ) {i n w k a : Nat} {C : Nat → Nat → Int} (h : yth σ i n C) (hw : w < 24) (hk : k < n) (ha : a < 3) :
    fm_Thing_along i (w : Int) (k : Int) (a : Int) σ = some (yat C n w k a) := by
  obtain ⟨hn, hs, hC, hg⟩ := h
  have hr := ya_r w hw a ha
  unfold fm_Thing_along
  rw [q_axisAt ht hw ha, Option.bind_some]
  rw [xnm_e]
  unfold yat
  generalize ya w a = v at hr ⊢
  by_cases hp : 0 < v
  · have e : w32 ((if 0 ≤ v then v else w32 (0 - v)) - 1) = ((v.toNat - 1 : Nat) : Int) := by
      rw [if_pos (by omega)]; simp only [w32_d]; omega
    rw [e]
    have hb : v.toNat - 1 < 3 := by omega
    generalize v.toNat - 1 = b at hb ⊢
    have e2 : w32 (w32 ((k : Int) * 3) + ((b : Nat) : Int)) = ((3 * k + b : Nat) : Int) := by simp only [w32_d]; omega
    rw [e2, rd27 (show 3 * k + b < 30 by omega), Option.bind_some, if_neg (by omega), if_pos hp, hC k hk _ hb]
  · have e : w32 ((if 0 ≤ v then v else w32 (0 - v)) - 1) = (((-v).toNat - 1 : Nat) : Int) := by
      rw [if_neg (by omega)]; simp only [w32_d]; omega
    rw [e]
    have hb : (-v).toNat - 1 < 3 := by omega
    generalize (-v).toNat - 1 = b at hb ⊢
    have e2 : w32 (w32 ((k : Int) * 3) + ((b : Nat) : Int)) = ((3 * k + b : Nat) : Int) := by simp only [w32_d]; omega
    have h3 := ygr_le (b := 5) (fun k hk => hs.1 k hk b hb)
    have h5 := hs.1 k hk b hb
    rw [e2, rd27 (show 3 * k + b < 30 by omega), Option.bind_some, if_pos (by omega), if_neg hp, rd29 (show b < 3 from hb), Option.bind_some, hC k hk _ hb, hg _ hb, w32_n (by omega) (by omega)]
/-- what hinders a cube, and a thing -/
def yh (e : Int) : Nat := if e = 0 then 0 else if e = 1 then 16 else 1 <<< (e.toNat - 2)
theorem yh_r {e : Int} (h : 0 ≤ e ∧ e ≤ 5) : yh e < 32 := by
  have : e = 0 ∨ e = 1 ∨ e = 2 ∨ e = 3 ∨ e = 4 ∨ e = 5 := by omega
  rcases this with h | h | h | h | h | h <;> subst h <;> decide
def ygc (P : xa_H) (x y z : Int) : Nat := if (0 ≤ x ∧ x < P 0 0 0) ∧ (0 ≤ y ∧ y < P 0 0 1) ∧ (0 ≤ z ∧ z < P 0 0 2) then yh (P 1 0 (ypl x y z).toNat) else 32
theorem ygc_r {P : xa_H} (hv : yPv P) (x y z : Int) : ygc P x y z < 64 := by
  unfold ygc
  split
  · rename_i h
    have hs := hv.1
    unfold qsz at hs
    have := yh_r (hv.2.1 (ypl x y z).toNat (by unfold ypl; omega))
    omega
  · omega
noncomputable def yH (P : xa_H) (c k : Nat) : Nat := ygc P (yX c + yp P (c % 24) k 0) (yY c + yp P (c % 24) k 1) (yZ c + yp P (c % 24) k 2)
def yseen (H g : Nat → Nat) : Nat → Nat
  | 0 => 0
  | k + 1 => yseen H g k ||| (H k <<< (6 * g k))
noncomputable def yV (P : xa_H) (c : Nat) : Nat := yseen (yH P c) (fun k => (P 4 k 0).toNat) (P 2 0 0).toNat
theorem yseen_b {H g : Nat → Nat} {i : Nat} : ∀ {n : Nat}, (yseen H g n).testBit i = true ↔ ∃ k, k < n ∧ (H k <<< (6 * g k)).testBit i = true := by
  intro n
  induction n with
  | zero =>
    unfold yseen
    rw [Nat.zero_testBit]
    constructor
    · intro h; cases h
    · rintro ⟨k, h, _⟩; omega
  | succ n ih =>
    unfold yseen
    rw [Nat.testBit_or, Bool.or_eq_true, ih]
    constructor
    · rintro (⟨k, h1, h2⟩ | h)
      · exact ⟨k, by omega, h2⟩
      · exact ⟨n, by omega, h⟩
    · rintro ⟨k, h1, h2⟩
      by_cases hk : k = n
      · subst hk; exact Or.inr h2
      · exact Or.inl ⟨k, by omega, h2⟩
theorem sh_lt {h g : Nat} (hh : h < 64) (hg : g ≤ 4) : h <<< (6 * g) < 1073741824 := by
  rw [Nat.shiftLeft_eq]
  have : 2 ^ (6 * g) ≤ 2 ^ 24 := Nat.pow_le_pow_right (by decide) (by omega)
  have h2 : h * 2 ^ (6 * g) ≤ 63 * 2 ^ 24 := Nat.mul_le_mul (by omega) this
  have h3 : (63 : Nat) * 2 ^ 24 < 1073741824 := by decide
  omega
theorem yseen_r {H g : Nat → Nat} : ∀ {n : Nat}, (∀ k, k < n → H k < 64 ∧ g k ≤ 4) → yseen H g n < 1073741824 := by
  intro n
  induction n with
  | zero => intro _; unfold yseen; omega
  | succ n ih =>
    intro h
    unfold yseen
    exact Nat.or_lt_two_pow (n := 30) (ih (fun k hk => h k (by omega))) (sh_lt (h n (by omega)).1 (h n (by omega)).2)
theorem yV_r {P : xa_H} (hv : yPv P) (c : Nat) : yV P c < 1073741824 := by
  refine yseen_r (fun k hk => ⟨ygc_r hv _ _ _, ?_⟩)
  have := hv.2.2.2.2.1 k hk
  show (P 4 k 0).toNat ≤ 4
  omega
def ybs (P : xa_H) (p m : Nat) : Int :=
  if (0 ≤ ((p / 24 : Nat) : Int) + ydx m ∧ ((p / 24 : Nat) : Int) + ydx m < P 0 0 0) ∧ (0 ≤ ((p / 4 % 6 : Nat) : Int) + ydy m ∧ ((p / 4 % 6 : Nat) : Int) + ydy m < P 0 0 1) ∧ (0 ≤ ((p % 4 : Nat) : Int) + ydz m ∧ ((p % 4 : Nat) : Int) + ydz m < P 0 0 2)
  then ypl (((p / 24 : Nat) : Int) + ydx m) (((p / 4 % 6 : Nat) : Int) + ydy m) (((p % 4 : Nat) : Int) + ydz m) else -6
/-- the way of the class -/
def ywy (σ P : xa_H) : Prop := (σ 7 0 0 = P 0 0 0 ∧ σ 7 0 1 = P 0 0 1 ∧ σ 7 0 2 = P 0 0 2) ∧ (∀ p m, p < 144 → m < 6 → σ 34 0 (6 * p + m) = ybs P p m)
/-- the search is about the problem -/
def ysc (σ P : xa_H) : Prop :=
  (∃ i : Nat, σ 3 0 8 = (i : Int) ∧ σ 5 i 0 = P 2 0 0 ∧ ∀ k, k < (P 2 0 0).toNat → σ 28 i k = P 4 k 0) ∧
  (∀ x y z : Nat, x < 11 → y < 11 → z < 9 → σ 18 0 ((x * 11 + y) * 9 + z) = ((ygc P (x : Int) (y : Int) (z : Int) : Nat) : Int)) ∧
  (∀ w k, w < 24 → k < (P 2 0 0).toNat → σ 20 0 (10 * w + k) = ygi (yp P w k 0) (yp P w k 1) (yp P w k 2))
def yhc (σ P : xa_H) : Prop := ∀ c, ycell P c → σ 21 0 c = -1 ∨ σ 21 0 c = ((yV P c : Nat) : Int)
theorem yp_r {P : xa_H} (hv : yPv P) {w k a : Nat} (hw : w < 24) (hk : k < (P 2 0 0).toNat) (ha : a < 3) : 0 ≤ yp P w k a ∧ yp P w k a ≤ 5 := yat_r hv.2.2.2.1 hw hk ha
theorem ygi_s {x y z a b c : Int} (hx : 0 ≤ x ∧ x ≤ 5) (hy : 0 ≤ y ∧ y ≤ 5) (hz : 0 ≤ z ∧ z ≤ 3) (ha : 0 ≤ a ∧ a ≤ 5) (hb : 0 ≤ b ∧ b ≤ 5) (hc : 0 ≤ c ∧ c ≤ 5) :
    w32 (ygi x y z + ygi a b c) = ((((x + a).toNat * 11 + (y + b).toNat) * 9 + (z + c).toNat : Nat) : Int) := by
  unfold ygi
  rw [w32_n (by omega) (by omega)]
  omega
theorem ygi_b {x y z a b c : Int} (hx : 0 ≤ x ∧ x ≤ 5) (hy : 0 ≤ y ∧ y ≤ 5) (hz : 0 ≤ z ∧ z ≤ 3) (ha : 0 ≤ a ∧ a ≤ 5) (hb : 0 ≤ b ∧ b ≤ 5) (hc : 0 ≤ c ∧ c ≤ 5) :
    ((x + a).toNat * 11 + (y + b).toNat) * 9 + (z + c).toNat < 1089 ∧ (x + a).toNat < 11 ∧ (y + b).toNat < 11 ∧ (z + c).toNat < 9 := by omega
theorem l_look {σ P : xa_H} (hv : yPv P) (hs : ysc σ P) {c : Nat} (hc : ycell P c) : ∀ d j n : Nat, j + d = (P 2 0 0).toNat → d < n →
    fm_Search_lookAt_33 (ygi (yX c) (yY c) (yZ c)) ((10 * (c % 24) : Nat) : Int) σ (fun v => some v) n ((yseen (yH P c) (fun k => (P 4 k 0).toNat) j : Nat) : Int) (j : Int) = some ((yV P c : Nat) : Int) := by
  obtain ⟨⟨i, s1, s2, s3⟩, s4, s5⟩ := hs
  obtain ⟨hc1, hc2⟩ := hc
  have hc2 : qin (P 0 0 0) (P 0 0 1) (P 0 0 2) (yX c) (yY c) (yZ c) := hc2
  have hz := hv.1
  unfold qin at hc2
  unfold qsz at hz
  have hn := hv.2.2.1
  have e8 : (σ 3 0 8).toNat = i := by rw [s1]; rfl
  intro d
  induction d with
  | zero =>
    intro j n hj hd
    obtain ⟨m, rfl⟩ : ∃ m, n = m + 1 := ⟨n - 1, by omega⟩
    rw [fm_Search_lookAt_33, if_neg (by omega), e8, if_pos (by rw [s2]; omega)]
    have : j = (P 2 0 0).toNat := by omega
    subst this
    rfl
  | succ d ih =>
    intro j n hj hd
    obtain ⟨m, rfl⟩ : ∃ m, n = m + 1 := ⟨n - 1, by omega⟩
    have hjn : j < (P 2 0 0).toNat := by omega
    rw [fm_Search_lookAt_33, if_neg (by omega), e8, if_neg (by rw [s2]; omega)]
    have e1 : w32 (((10 * (c % 24) : Nat) : Int) + (j : Int)) = ((10 * (c % 24) + j : Nat) : Int) := w32_k (by omega) (by omega)
    rw [e1, rd20 (show 10 * (c % 24) + j < 240 by omega), Option.bind_some, s5 _ _ (by omega) hjn]
    have p0 := yp_r hv (w := c % 24) (by omega) hjn (a := 0) (by decide)
    have p1 := yp_r hv (w := c % 24) (by omega) hjn (a := 1) (by decide)
    have p2 := yp_r hv (w := c % 24) (by omega) hjn (a := 2) (by decide)
    have b0 : 0 ≤ yX c ∧ yX c ≤ 5 := by omega
    have b1 : 0 ≤ yY c ∧ yY c ≤ 5 := by omega
    have b2 : 0 ≤ yZ c ∧ yZ c ≤ 3 := by omega
    have e2 := ygi_s b0 b1 b2 p0 p1 p2
    have x3 := ygi_b b0 b1 b2 p0 p1 p2
    rw [e2, rd18 (show ((yX c + yp P (c % 24) j 0).toNat * 11 + (yY c + yp P (c % 24) j 1).toNat) * 9 + (yZ c + yp P (c % 24) j 2).toNat < 1089 from x3.1), Option.bind_some,
      s4 _ _ _ x3.2.1 x3.2.2.1 x3.2.2.2, if_neg (by omega), rd28 (show j < 10 by omega), Option.bind_some, s3 j hjn]
    have x0 : ((yX c + yp P (c % 24) j 0).toNat : Int) = yX c + yp P (c % 24) j 0 := by omega
    have x1 : ((yY c + yp P (c % 24) j 1).toNat : Int) = yY c + yp P (c % 24) j 1 := by omega
    have x2 : ((yZ c + yp P (c % 24) j 2).toNat : Int) = yZ c + yp P (c % 24) j 2 := by omega
    rw [x0, x1, x2]
    have hg := hv.2.2.2.2.1 j hjn
    have e3 : w32 (P 4 j 0 * 6) = ((6 * (P 4 j 0).toNat : Nat) : Int) := w32_k (by omega) (by omega)
    have hH : yH P c j < 64 := ygc_r hv _ _ _
    have hsl := sh_lt (g := (P 4 j 0).toNat) hH (by omega)
    have e4 : xshl ((ygc P (yX c + yp P (c % 24) j 0) (yY c + yp P (c % 24) j 1) (yZ c + yp P (c % 24) j 2) : Nat) : Int) ((6 * (P 4 j 0).toNat : Nat) : Int) = ((yH P c j <<< (6 * (P 4 j 0).toNat) : Nat) : Int) :=
      xshl_n (by omega) (by show yH P c j <<< _ < _; omega) (by show yH P c j < _; omega)
    have hr : yseen (yH P c) (fun k => (P 4 k 0).toNat) j < 1073741824 := yseen_r (fun k hk => ⟨ygc_r hv _ _ _, by
      have := hv.2.2.2.2.1 k (by omega)
      show (P 4 k 0).toNat ≤ 4
      omega⟩)
    rw [e3, e4, xor2_n (by omega) (by omega)]
    rw [xnm_e, xnm_e, w32_s (by omega)]
    exact ih (j + 1) m (by omega) (by omega)
theorem q_lookAt {σ P : xa_H} (ht : yct σ) (hv : yPv P) (hs : ysc σ P) {c : Nat} (hc : ycell P c) : fm_Search_lookAt (c : Int) σ = some ((yV P c : Nat) : Int) := by
  obtain ⟨i, s1, s2, s3⟩ := hs.1
  have hc1 := hc.1
  unfold fm_Search_lookAt
  have e1 : xdiv (c : Int) 24 = ((c / 24 : Nat) : Int) := by rw [xdiv_p (by omega)]; omega
  have e2 : w32 (xrem (c : Int) 24 * 10) = ((10 * (c % 24) : Nat) : Int) := by rw [xrem_p (by omega)]; exact w32_k (by omega) (by omega)
  rw [if_neg (by omega), e1, rd19 (show c / 24 < 144 by omega), Option.bind_some, ht.2.2.1 _ (by omega), e2, xnm_e]
  have h := l_look hv hs hc (P 2 0 0).toNat 0 xFU (by omega) (by have := hv.2.2.1; exact xfu_b (by omega))
  have e3 : ((yseen (yH P c) (fun k => (P 4 k 0).toNat) 0 : Nat) : Int) = 0 := rfl
  have e4 : ((0 : Nat) : Int) = 0 := rfl
  rw [e3, e4] at h
  exact h
