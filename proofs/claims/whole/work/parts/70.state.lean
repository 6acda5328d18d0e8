/-! what both sides tell: the state f. 0 size, 1 kinds, 2 things (cubes, place, way, goal), 3 doors' costs, 4 moves' costs, 5 parts' costs, 6 cubes (x, y, z, part), 7 how many signs, 8 signs, 9 kept; images at 10 and 20 -/
def yC (f : xa_H) (b t : Nat) : Nat → Nat → Int := fun k a => f (b + 6) (10 * t + k) a
/-- the problem of a thing: e the kinds of places -/
def ypr (f : xa_H) (b t : Nat) (e : Nat → Int) (A D : Int) : xa_H := fun K i s =>
  match K with
  | 0 => f b 0 s
  | 1 => e s
  | 2 => f (b + 2) t 0
  | 3 => f (b + 6) (10 * t + i) s
  | 4 => if f (b + 6) (10 * t + i) 3 < 0 then 0 else f (b + 6) (10 * t + i) 3 + 1
  | 5 => if s = 0 then A else D
  | _ => 0
def ykd (f : xa_H) (b : Nat) : Nat → Int := fun q => f (b + 1) 0 q
/-- a thing lies: all its cubes in cells -/
def ylie (f : xa_H) (b t : Nat) : Prop := 1 ≤ f (b + 2) t 0 ∧ (0 ≤ f (b + 2) t 1 ∧ f (b + 2) t 1 < 144) ∧ qin (f b 0 0) (f b 0 1) (f b 0 2) (f (b + 2) t 1 / 24) (f (b + 2) t 1 / 4 % 6) (f (b + 2) t 1 % 4) ∧
  ∀ k, k < (f (b + 2) t 0).toNat → qin (f b 0 0) (f b 0 1) (f b 0 2) (f (b + 2) t 1 / 24 + yat (yC f b t) (f (b + 2) t 0).toNat (f (b + 2) t 2).toNat k 0)
    (f (b + 2) t 1 / 4 % 6 + yat (yC f b t) (f (b + 2) t 0).toNat (f (b + 2) t 2).toNat k 1) (f (b + 2) t 1 % 4 + yat (yC f b t) (f (b + 2) t 0).toNat (f (b + 2) t 2).toNat k 2)
def ythv (f : xa_H) (b t : Nat) : Prop := (0 ≤ f (b + 2) t 0 ∧ f (b + 2) t 0 ≤ 10) ∧ (1 ≤ f (b + 2) t 0 → ysv (f (b + 2) t 0).toNat (yC f b t)) ∧
  (∀ k, k < (f (b + 2) t 0).toNat → f (b + 6) (10 * t + k) 3 = -6 ∨ (0 ≤ f (b + 6) (10 * t + k) 3 ∧ f (b + 6) (10 * t + k) 3 ≤ 3)) ∧
  (f (b + 2) t 1 = -6 ∨ ylie f b t) ∧ (0 ≤ f (b + 2) t 2 ∧ f (b + 2) t 2 ≤ 23) ∧
  ((0 ≤ f (b + 2) t 3 ∧ f (b + 2) t 3 < 144) ∧ qin (f b 0 0) (f b 0 1) (f b 0 2) (f (b + 2) t 3 / 24) (f (b + 2) t 3 / 4 % 6) (f (b + 2) t 3 % 4)) ∧
  ∀ i, i < 4 → 0 ≤ f (b + 5) t i ∧ f (b + 5) t i ≤ 9
def yval (f : xa_H) (b : Nat) : Prop := qsz (f b 0 0) (f b 0 1) (f b 0 2) ∧ (∀ q, q < 144 → 0 ≤ f (b + 1) 0 q ∧ f (b + 1) 0 q ≤ 5) ∧ (∀ t, t < 4 → ythv f b t) ∧
  ∀ i, i < 4 → (0 ≤ f (b + 3) 0 i ∧ f (b + 3) 0 i ≤ 9) ∧ (0 ≤ f (b + 4) 0 i ∧ f (b + 4) 0 i ≤ 9)
def yv (f : xa_H) : Prop := yval f 0 ∧ ((0 ≤ f 7 0 0 ∧ f 7 0 0 ≤ 60) ∧ ∀ i, (i : Nat) < (f 7 0 0).toNat → 33 ≤ f 8 0 i ∧ f 8 0 i ≤ 126) ∧ ∀ n, n < 2 → f 9 n 0 = 0 ∨ (f 9 n 0 = 1 ∧ yval f (10 * n + 10))
/-- a stair of the class -/
def yclt (σ : xa_H) (i : Nat) (f : xa_H) (b t : Nat) : Prop := (σ 5 i 0 = f (b + 2) t 0 ∧ σ 5 i 1 = f (b + 2) t 1 ∧ σ 5 i 2 = f (b + 2) t 2 ∧ σ 5 i 3 = f (b + 2) t 3) ∧
  (∀ j, j < 4 → σ 30 i j = f (b + 5) t j) ∧
  (∀ k, k < (f (b + 2) t 0).toNat → (∀ a, a < 3 → σ 27 i (3 * k + a) = f (b + 6) (10 * t + k) a) ∧ σ 28 i k = if f (b + 6) (10 * t + k) 3 < 0 then 0 else f (b + 6) (10 * t + k) 3 + 1) ∧
  ∀ a, a < 3 → σ 29 i a = ygr (yC f b t) a (f (b + 2) t 0).toNat
def ycl (σ : xa_H) (s : Nat) (f : xa_H) (b : Nat) : Prop := (σ 7 s 0 = f b 0 0 ∧ σ 7 s 1 = f b 0 1 ∧ σ 7 s 2 = f b 0 2) ∧ (∀ q, q < 144 → σ 33 s q = f (b + 1) 0 q) ∧ (∀ t, t < 4 → yclt σ (4 * s + t) f b t) ∧
  ∀ i, i < 4 → σ 25 s i = f (b + 3) 0 i ∧ σ 26 s i = f (b + 4) 0 i
def ypd (σ : xa_H) (K Kn sl : Nat) (f : xa_H) : Prop := σ Kn 0 sl = f 7 0 0 ∧ ∀ i, (i : Nat) < (f 7 0 0).toNat → σ K 0 i = f 8 0 i
/-- the class but for what it has looked up -/
def yst (σ f : xa_H) : Prop := yct σ ∧ ycl σ 0 f 0 ∧ (∀ p m, p < 144 → m < 6 → σ 34 0 (6 * p + m) = ybs (ypr f 0 0 (ykd f 0) 0 0) p m) ∧ ypd σ 17 2 1 f ∧
  ∀ n, n < 2 → σ 4 (n + 1) 4 = f 9 n 0 ∧ (f 9 n 0 = 1 → ycl σ (n + 1) f (10 * n + 10))
/-- what the search has at hand -/
def yca (σ f : xa_H) : Prop := σ 3 0 8 < 0 ∨ σ 3 0 8 = 12 ∨ ∃ t : Nat, t < 4 ∧ σ 3 0 8 = (t : Int) ∧ 1 ≤ f 2 t 0 ∧ ysc σ (ypr f 0 t (ykd f 0) 0 0) ∧ yhc σ (ypr f 0 t (ykd f 0) 0 0)
/-- the reference -/
def yrf (σ f : xa_H) : Prop := (σ 9 0 3 = f 0 0 0 ∧ σ 9 0 4 = f 0 0 1 ∧ σ 9 0 5 = f 0 0 2) ∧ (∀ q, q < 144 → σ 53 0 q = f 1 0 q) ∧ (∀ t, t < 4 → σ 54 0 t = f 2 t 0 ∧ σ 62 0 t = f 2 t 1 ∧ σ 63 0 t = f 2 t 2 ∧ σ 64 0 t = f 2 t 3) ∧
  (∀ i, i < 4 → σ 60 0 i = f 3 0 i ∧ σ 61 0 i = f 4 0 i) ∧ (∀ t i, t < 4 → i < 4 → σ 59 0 (4 * t + i) = f 5 t i) ∧
  ∀ t k, t < 4 → k < 10 → σ 55 0 (10 * t + k) = f 6 (10 * t + k) 0 ∧ σ 56 0 (10 * t + k) = f 6 (10 * t + k) 1 ∧ σ 57 0 (10 * t + k) = f 6 (10 * t + k) 2 ∧ σ 58 0 (10 * t + k) = f 6 (10 * t + k) 3
def ykp (σ : xa_H) (n : Nat) (f : xa_H) (b : Nat) : Prop := (∀ a, a < 3 → σ 75 0 (420 * n + a) = f b 0 a) ∧ (∀ q, q < 144 → σ 75 0 (420 * n + 3 + q) = f (b + 1) 0 q) ∧
  (∀ t, t < 4 → (∀ j, j < 4 → σ 75 0 (420 * n + 147 + 6 * t + j) = f (b + 2) t j) ∧ σ 75 0 (420 * n + 147 + 6 * t + 4) = f (b + 3) 0 t ∧ σ 75 0 (420 * n + 147 + 6 * t + 5) = f (b + 4) 0 t) ∧
  (∀ k a, k < 40 → a < 4 → σ 75 0 (420 * n + 171 + 4 * k + a) = f (b + 6) k a) ∧ ∀ t i, t < 4 → i < 4 → σ 75 0 (420 * n + 331 + 4 * t + i) = f (b + 5) t i
def ym (σ f : xa_H) : Prop := ymt σ ∧ yrf σ f ∧ ypd σ 65 9 19 f ∧ ∀ n, n < 2 → σ 76 0 n = f 9 n 0 ∧ (f 9 n 0 = 1 → ykp σ n f (10 * n + 10))
section SP
variable {f : xa_H} {b t : Nat} {e : Nat → Int} {A D : Int}
/-- the problem of a thing that was told is a good one -/
theorem ypr_v (hv : yval f b) (ht : t < 4) (hn : 1 ≤ f (b + 2) t 0) (he : ∀ q, q < 144 → 0 ≤ e q ∧ e q ≤ 5) (hA : 0 ≤ A ∧ A ≤ 15) (hD : 0 ≤ D ∧ D ≤ 15) : yPv (ypr f b t e A D) := by
  obtain ⟨h1, h2, h3, h4⟩ := hv
  obtain ⟨k1, k2, k3, _⟩ := h3 t ht
  refine ⟨h1, he, ⟨hn, k1.2⟩, k2 hn, ?_, hA, hD⟩
  intro k hk
  have hk : k < (f (b + 2) t 0).toNat := hk
  show 0 ≤ (if f (b + 6) (10 * t + k) 3 < 0 then 0 else f (b + 6) (10 * t + k) 3 + 1) ∧ (if f (b + 6) (10 * t + k) 3 < 0 then 0 else f (b + 6) (10 * t + k) 3 + 1) ≤ 4
  rcases k3 k hk with h | h
  · rw [if_pos (by omega)]; omega
  · rw [if_neg (by omega)]; omega
theorem ykd_v (hv : yval f b) : ∀ q, q < 144 → 0 ≤ ykd f b q ∧ ykd f b q ≤ 5 := hv.2.1
theorem ypr_z : qsz (f b 0 0) (f b 0 1) (f b 0 2) → qsz (ypr f b t e A D 0 0 0) (ypr f b t e A D 0 0 1) (ypr f b t e A D 0 0 2) := fun h => h
/-- where it lies -/
def ystd (f : xa_H) (b t : Nat) : Nat := 24 * (f (b + 2) t 1).toNat + (f (b + 2) t 2).toNat
theorem ystd_r (hl : ylie f b t) (hw : 0 ≤ f (b + 2) t 2 ∧ f (b + 2) t 2 ≤ 23) : ystd f b t < 3456 ∧ ((ystd f b t / 24 : Nat) : Int) = f (b + 2) t 1 ∧ ((ystd f b t % 24 : Nat) : Int) = f (b + 2) t 2 ∧
    yX (ystd f b t) = f (b + 2) t 1 / 24 ∧ yY (ystd f b t) = f (b + 2) t 1 / 4 % 6 ∧ yZ (ystd f b t) = f (b + 2) t 1 % 4 := by
  obtain ⟨_, h2, _⟩ := hl
  have hd : ystd f b t / 24 = (f (b + 2) t 1).toNat := by unfold ystd; omega
  have hm : ystd f b t % 24 = (f (b + 2) t 2).toNat := by unfold ystd; omega
  refine ⟨by unfold ystd; omega, by omega, by omega, ?_, ?_, ?_⟩
  · unfold yX; rw [hd]; omega
  · unfold yY; rw [hd]; omega
  · unfold yZ; rw [hd]; omega
theorem ystd_c (hl : ylie f b t) (hw : 0 ≤ f (b + 2) t 2 ∧ f (b + 2) t 2 ≤ 23) : ycell (ypr f b t e A D) (ystd f b t) := by
  obtain ⟨h1, h2, h3, h4, h5, h6⟩ := ystd_r hl hw
  refine ⟨h1, ?_⟩
  rw [h4, h5, h6]
  exact hl.2.2.1
theorem ygoal_c (ht : ythv f b t) (hz : qsz (f b 0 0) (f b 0 1) (f b 0 2)) : ∀ w, w < 24 → ycell (ypr f b t e A D) (24 * (f (b + 2) t 3).toNat + w) := by
  intro w hw
  obtain ⟨_, _, _, _, _, ⟨h1, h2⟩, _⟩ := ht
  have hd : (24 * (f (b + 2) t 3).toNat + w) / 24 = (f (b + 2) t 3).toNat := by omega
  refine ⟨by omega, ?_⟩
  have e1 : yX (24 * (f (b + 2) t 3).toNat + w) = f (b + 2) t 3 / 24 := by unfold yX; rw [hd]; omega
  have e2 : yY (24 * (f (b + 2) t 3).toNat + w) = f (b + 2) t 3 / 4 % 6 := by unfold yY; rw [hd]; omega
  have e3 : yZ (24 * (f (b + 2) t 3).toNat + w) = f (b + 2) t 3 % 4 := by unfold yZ; rw [hd]; omega
  rw [e1, e2, e3]
  exact h2
end SP
/-- the thing of the class is as told -/
theorem yclt_th {σ f : xa_H} {i b t : Nat} (h : yclt σ i f b t) (hv : ythv f b t) (hn : 1 ≤ f (b + 2) t 0) : yth σ i (f (b + 2) t 0).toNat (yC f b t) := by
  obtain ⟨_, _, h3, h4⟩ := h
  refine ⟨by have := hv.1; omega, hv.2.1 hn, fun k hk a ha => (h3 k hk).1 a ha, h4⟩
/-- the thing of the reference -/
theorem yrf_mc {σ f : xa_H} {t : Nat} (h : yrf σ f) (hv : ythv f 0 t) (ht : t < 4) {e : Nat → Int} {A D : Int} : ymc σ (ypr f 0 t e A D) t := by
  obtain ⟨_, _, h3, _, _, h6⟩ := h
  refine ⟨by omega, (h3 t ht).1, fun k hk => ?_⟩
  have hk : k < (f 2 t 0).toNat := hk
  have h10 : (f (0 + 2) t 0) ≤ 10 := hv.1.2
  have h10' : f 2 t 0 ≤ 10 := h10
  obtain ⟨a1, a2, a3, a4⟩ := h6 t k ht (by omega)
  refine ⟨a1, a2, a3, ?_⟩
  show ((if f 6 (10 * t + k) 3 < 0 then 0 else f 6 (10 * t + k) 3 + 1) = 0 ∧ σ 58 0 (10 * t + k) < 0) ∨ (1 ≤ (if f 6 (10 * t + k) 3 < 0 then 0 else f 6 (10 * t + k) 3 + 1) ∧ σ 58 0 (10 * t + k) = (if f 6 (10 * t + k) 3 < 0 then 0 else f 6 (10 * t + k) 3 + 1) - 1)
  rw [a4]
  by_cases hc : f 6 (10 * t + k) 3 < 0
  · rw [if_pos hc]; exact Or.inl ⟨rfl, hc⟩
  · rw [if_neg hc]; right; omega
theorem yrf_mw {σ f : xa_H} {t : Nat} (h : yrf σ f) {A D : Int} (hA : σ 9 0 23 = A) (hD : σ 9 0 24 = D) (hf : ∀ q, q < 144 → σ 69 0 q = 0) : ymw σ (ypr f 0 t (ykd f 0) A D) := by
  refine ⟨h.1, ⟨hA, hD⟩, fun q hq => Or.inl ⟨hf q hq, h.2.1 q hq⟩⟩
/-- frames -/
def xfc (σ σ' : xa_H) : Prop := ∀ K, K ∉ [0, 1, 3, 11, 12, 13, 14, 15, 16, 18, 20, 21, 22, 23] → ∀ i, i < 12 ∨ K = 28 → σ' K i = σ K i
theorem xfc_r (σ : xa_H) : xfc σ σ := fun _ _ _ _ => rfl
theorem xfc_t {σ σ1 σ2 : xa_H} (h : xfc σ σ1) (h2 : xfc σ1 σ2) : xfc σ σ2 := fun K hK i hi => (h2 K hK i hi).trans (h K hK i hi)
theorem xfc_s {L M : List Nat} {σ σ' : xa_H} (h : xfs L M σ σ') (hL : ∀ K ∈ L, K ∈ [0, 1, 3, 11, 12, 13, 14, 15, 16, 18, 20, 21, 22, 23]) : xfc σ σ' := by
  intro K hK i _
  rw [h.1 K (fun q => hK (hL K q)) (fun e => hK (by rw [e]; decide))]
theorem yclt_f {σ σ' f : xa_H} {i b t : Nat} (h : xfc σ σ') (hi : i < 12) (hc : yclt σ i f b t) : yclt σ' i f b t := by
  unfold yclt
  rw [h 5 (by decide) i (Or.inl hi), h 30 (by decide) i (Or.inl hi), h 27 (by decide) i (Or.inl hi), h 28 (by decide) i (Or.inl hi), h 29 (by decide) i (Or.inl hi)]
  exact hc
theorem ycl_f {σ σ' f : xa_H} {s b : Nat} (h : xfc σ σ') (hs : s < 3) (hc : ycl σ s f b) : ycl σ' s f b := by
  obtain ⟨h1, h2, h3, h4⟩ := hc
  refine ⟨?_, ?_, fun t ht => yclt_f h (by omega) (h3 t ht), ?_⟩
  · rw [h 7 (by decide) s (by omega)]; exact h1
  · rw [h 33 (by decide) s (by omega)]; exact h2
  · rw [h 25 (by decide) s (by omega), h 26 (by decide) s (by omega)]; exact h4
theorem yst_f {σ σ' f : xa_H} (h : xfc σ σ') (hc : yst σ f) : yst σ' f := by
  obtain ⟨h1, h2, h3, h4, h5⟩ := hc
  refine ⟨?_, ycl_f h (by decide) h2, ?_, ?_, ?_⟩
  · unfold yct
    rw [h 31 (by decide) 0 (by decide), h 32 (by decide) 0 (by decide), h 19 (by decide) 0 (by decide), h 28 (by decide) 12 (by decide)]
    exact h1
  · rw [h 34 (by decide) 0 (by decide)]; exact h3
  · unfold ypd
    rw [h 2 (by decide) 0 (by decide), h 17 (by decide) 0 (by decide)]
    exact h4
  · intro n hn
    obtain ⟨k1, k2⟩ := h5 n hn
    rw [h 4 (by decide) (n + 1) (by omega)]
    exact ⟨k1, fun h9 => ycl_f h (by omega) (k2 h9)⟩
/-- the way of the class, for any thing -/
theorem yst_wy {σ f : xa_H} (h : yst σ f) {t : Nat} {e : Nat → Int} {A D : Int} : ywy σ (ypr f 0 t e A D) := ⟨h.2.1.1, h.2.2.1⟩
