/-! the reference: how cubes lie, what fits -/
def xfm (L M : List Nat) (σ σ' : xa_H) : Prop := (∀ K, K ∉ L → ¬ K = 9 → σ' K = σ K) ∧ (∀ i s, s ∉ M → σ' 9 i s = σ 9 i s)
theorem xfm_r (L M : List Nat) (σ : xa_H) : xfm L M σ σ := ⟨fun _ _ _ => rfl, fun _ _ _ => rfl⟩
theorem xfm_t {L M : List Nat} {σ σ1 σ2 : xa_H} (h : xfm L M σ σ1) (h2 : xfm L M σ1 σ2) : xfm L M σ σ2 :=
  ⟨fun K h1 h3 => (h2.1 K h1 h3).trans (h.1 K h1 h3), fun i s h1 => (h2.2 i s h1).trans (h.2 i s h1)⟩
theorem xfm_m {L M L' M' : List Nat} {σ σ' : xa_H} (h : xfm L M σ σ') (hL : ∀ K ∈ L, K ∈ L') (hM : ∀ K ∈ M, K ∈ M') : xfm L' M' σ σ' :=
  ⟨fun K h1 h3 => h.1 K (fun q => h1 (hL K q)) h3, fun i s h1 => h.2 i s (fun q => h1 (hM s q))⟩
theorem xfm_up {L M : List Nat} {σ : xa_H} {K i s : Nat} {v : Int} (h : K ∈ L) (h3 : ¬ K = 9) : xfm L M σ (xup σ K i s v) := by
  constructor
  · intro K' h1 _
    funext i' s'
    rw [xup_o]
    rintro ⟨e, -⟩; subst e; exact h1 h
  · intro i' s' _
    rw [xup_o]
    rintro ⟨e, -⟩; exact h3 e.symm
theorem xfm_u9 {L M : List Nat} {σ : xa_H} {i s : Nat} {v : Int} (h : s ∈ M) : xfm L M σ (xup σ 9 i s v) := by
  constructor
  · intro K' _ h3
    funext i' s'
    rw [xup_o]
    rintro ⟨e, -⟩; exact h3 e
  · intro i' s' h1
    rw [xup_o]
    rintro ⟨-, -, e⟩; subst e; exact h1 h
/-- the reference's tables -/
def ymt (σ : xa_H) : Prop := (∀ j, j < 216 → σ 50 0 j = ytbl.getD j 0) ∧ (∀ j, j < 144 → σ 51 0 j = ((ynxl.getD j 0 : Nat) : Int))
/-- a thing of the reference -/
def ymc (σ P : xa_H) (t : Nat) : Prop := t < 5 ∧ σ 54 0 t = P 2 0 0 ∧ (∀ k, k < (P 2 0 0).toNat → σ 55 0 (10 * t + k) = P 3 k 0 ∧ σ 56 0 (10 * t + k) = P 3 k 1 ∧ σ 57 0 (10 * t + k) = P 3 k 2 ∧
  ((P 4 k 0 = 0 ∧ σ 58 0 (10 * t + k) < 0) ∨ (1 ≤ P 4 k 0 ∧ σ 58 0 (10 * t + k) = P 4 k 0 - 1)))
/-- the way of the reference, with what is off and what is filled -/
def ymw (σ P : xa_H) : Prop := (σ 9 0 3 = P 0 0 0 ∧ σ 9 0 4 = P 0 0 1 ∧ σ 9 0 5 = P 0 0 2) ∧ (σ 9 0 23 = P 5 0 0 ∧ σ 9 0 24 = P 5 0 1) ∧
  (∀ q, q < 144 → (σ 69 0 q = 0 ∧ σ 53 0 q = P 1 0 q) ∨ (σ 69 0 q = 1 ∧ P 1 0 q = 1))
section MF
variable {L M : List Nat} {σ σ' P : xa_H}
theorem ymt_f (h : xfm L M σ σ') (hL : 50 ∉ L ∧ 51 ∉ L) (ht : ymt σ) : ymt σ' := by
  unfold ymt
  rw [h.1 50 hL.1 (by decide), h.1 51 hL.2 (by decide)]
  exact ht
theorem ymc_f {t : Nat} (h : xfm L M σ σ') (hL : 54 ∉ L ∧ 55 ∉ L ∧ 56 ∉ L ∧ 57 ∉ L ∧ 58 ∉ L) (hc : ymc σ P t) : ymc σ' P t := by
  unfold ymc
  rw [h.1 54 hL.1 (by decide), h.1 55 hL.2.1 (by decide), h.1 56 hL.2.2.1 (by decide), h.1 57 hL.2.2.2.1 (by decide), h.1 58 hL.2.2.2.2 (by decide)]
  exact hc
theorem ymw_f (h : xfm L M σ σ') (hL : 69 ∉ L ∧ 53 ∉ L) (hM : 3 ∉ M ∧ 4 ∉ M ∧ 5 ∉ M ∧ 23 ∉ M ∧ 24 ∉ M) (hc : ymw σ P) : ymw σ' P := by
  unfold ymw
  rw [h.1 69 hL.1 (by decide), h.1 53 hL.2 (by decide), h.2 0 3 hM.1, h.2 0 4 hM.2.1, h.2 0 5 hM.2.2.1, h.2 0 23 hM.2.2.2.1, h.2 0 24 hM.2.2.2.2]
  exact hc
end MF
noncomputable def yrow (C : Nat → Nat → Int) (w a k : Nat) : Int := if 0 < ya w a then C k ((ya w a).toNat - 1) else - C k ((-ya w a).toNat - 1)
theorem yrow_e {C : Nat → Nat → Int} {w a : Nat} (hw : w < 24) (ha : a < 3) (k : Nat) : yt w a 0 * C k 0 + yt w a 1 * C k 1 + yt w a 2 * C k 2 = yrow C w a k := by
  have h0 := yt_a w hw a ha 0 (by decide)
  have h1 := yt_a w hw a ha 1 (by decide)
  have h2 := yt_a w hw a ha 2 (by decide)
  have hr := ya_r w hw a ha
  unfold yrow
  rw [h0, h1, h2]
  generalize ya w a = v at hr ⊢
  have : v = 1 ∨ v = 2 ∨ v = 3 ∨ v = -1 ∨ v = -2 ∨ v = -3 := by omega
  rcases this with h | h | h | h | h | h <;> subst h <;> simp
theorem yrow_r {C : Nat → Nat → Int} {n w a k : Nat} (hs : ysv n C) (hw : w < 24) (ha : a < 3) (hk : k < n) : -5 ≤ yrow C w a k ∧ yrow C w a k ≤ 5 := by
  have hr := ya_r w hw a ha
  unfold yrow
  by_cases hp : 0 < ya w a
  · rw [if_pos hp]
    have := hs.1 k hk ((ya w a).toNat - 1) (by omega)
    omega
  · rw [if_neg hp]
    have := hs.1 k hk ((-ya w a).toNat - 1) (by omega)
    omega
theorem q_row {σ P : xa_H} {t : Nat} (ht : ymt σ) (hv : yPv P) (hc : ymc σ P t) {w a k : Nat} (hw : w < 24) (ha : a < 3) (hk : k < (P 2 0 0).toNat) : fm_M_row (w : Int) (a : Int) ((10 * t + k : Nat) : Int) σ = some (yrow (P 3) w a k) := by
  obtain ⟨ht5, h1, h2⟩ := hc
  obtain ⟨c0, c1, c2, _⟩ := h2 k hk
  have hn := hv.2.2.1
  have hC := hv.2.2.2.1.1 k hk
  have b0 := hC 0 (by decide)
  have b1 := hC 1 (by decide)
  have b2 := hC 2 (by decide)
  unfold fm_M_row
  have e1 : w32 (w32 (9 * (w : Int)) + w32 (3 * (a : Int))) = ((9 * w + 3 * a : Nat) : Int) := by
    rw [w32_n (x := 3 * (a : Int)) (by omega) (by omega)]
    exact w32_2 (by omega) (by omega) (by omega)
  rw [xnm_e, e1]
  have e2 : w32 (((9 * w + 3 * a : Nat) : Int) + 1) = ((9 * w + 3 * a + 1 : Nat) : Int) := w32_k (by omega) (by omega)
  have e3 : w32 (((9 * w + 3 * a : Nat) : Int) + 2) = ((9 * w + 3 * a + 2 : Nat) : Int) := w32_k (by omega) (by omega)
  rw [e2, e3, if_pos ⟨by omega, by omega⟩, if_pos ⟨by omega, by omega⟩, if_pos ⟨by omega, by omega⟩, if_pos ⟨by omega, by omega⟩, if_pos ⟨by omega, by omega⟩, if_pos ⟨by omega, by omega⟩]
  have t0 : ∀ j : Nat, ((j : Int)).toNat = j := fun j => rfl
  rw [t0, t0, t0, t0, c0, c1, c2, ht.1 _ (by omega), ht.1 _ (by omega), ht.1 _ (by omega)]
  have y0 : ytbl.getD (9 * w + 3 * a) 0 = yt w a 0 := by rw [yt_e]; rfl
  have y1 : ytbl.getD (9 * w + 3 * a + 1) 0 = yt w a 1 := by rw [yt_e]; rfl
  have y2 : ytbl.getD (9 * w + 3 * a + 2) 0 = yt w a 2 := by rw [yt_e]; rfl
  rw [y0, y1, y2, ← yrow_e hw ha k]
  have hx : ∀ c, c < 3 → yt w a c = 0 ∨ yt w a c = 1 ∨ yt w a c = -1 := by
    intro c hc
    rw [yt_a w hw a ha c hc]
    split
    · exact Or.inr (Or.inl rfl)
    · split
      · exact Or.inr (Or.inr rfl)
      · exact Or.inl rfl
  have m0 : -5 ≤ yt w a 0 * P 3 k 0 ∧ yt w a 0 * P 3 k 0 ≤ 5 := by
    rcases hx 0 (by decide) with h | h | h <;> rw [h] <;> omega
  have m1 : -5 ≤ yt w a 1 * P 3 k 1 ∧ yt w a 1 * P 3 k 1 ≤ 5 := by
    rcases hx 1 (by decide) with h | h | h <;> rw [h] <;> omega
  have m2 : -5 ≤ yt w a 2 * P 3 k 2 ∧ yt w a 2 * P 3 k 2 ≤ 5 := by
    rcases hx 2 (by decide) with h | h | h <;> rw [h] <;> omega
  generalize yt w a 0 * P 3 k 0 = A at m0 ⊢
  generalize yt w a 1 * P 3 k 1 = B at m1 ⊢
  generalize yt w a 2 * P 3 k 2 = D at m2 ⊢
  rw [w32_n (x := A) (by omega) (by omega), w32_n (x := B) (by omega) (by omega), w32_n (x := D) (by omega) (by omega), w32_n (x := A + B) (by omega) (by omega), w32_n (by omega) (by omega)]
def ymn (f : Nat → Int) : Nat → Int
  | 0 => 9
  | n + 1 => if ymn f n ≤ f n then ymn f n else f n
theorem ymn_le {f : Nat → Int} : ∀ {n : Nat}, ymn f n ≤ 9 ∧ ∀ k, k < n → ymn f n ≤ f k := by
  intro n
  induction n with
  | zero => exact ⟨by unfold ymn; omega, fun k hk => by omega⟩
  | succ n ih =>
    obtain ⟨h1, h2⟩ := ih
    unfold ymn
    by_cases hc : ymn f n ≤ f n
    · rw [if_pos hc]
      refine ⟨h1, fun k hk => ?_⟩
      by_cases hkn : k = n
      · rw [hkn]; exact hc
      · exact h2 k (by omega)
    · rw [if_neg hc]
      refine ⟨by omega, fun k hk => ?_⟩
      by_cases hkn : k = n
      · rw [hkn]; exact Int.le_refl _
      · have := h2 k (by omega); omega
theorem ymn_ex {f : Nat → Int} : ∀ {n : Nat}, ymn f n = 9 ∨ ∃ k, k < n ∧ f k = ymn f n := by
  intro n
  induction n with
  | zero => exact Or.inl rfl
  | succ n ih =>
    unfold ymn
    by_cases hc : ymn f n ≤ f n
    · rw [if_pos hc]
      rcases ih with h | ⟨k, h1, h2⟩
      · exact Or.inl h
      · exact Or.inr ⟨k, by omega, h2⟩
    · rw [if_neg hc]
      exact Or.inr ⟨n, by omega, rfl⟩
theorem yat_row {C : Nat → Nat → Int} {n w a k : Nat} (hs : ysv n C) (hw : w < 24) (ha : a < 3) (hk : k < n) : yrow C w a k - ymn (yrow C w a) n = yat C n w k a := by
  have hr := ya_r w hw a ha
  have hle := ymn_le (f := yrow C w a) (n := n)
  have hex := ymn_ex (f := yrow C w a) (n := n)
  have hrk := yrow_r hs hw ha hk
  have hlk := hle.2 k hk
  have h9 : ¬ ymn (yrow C w a) n = 9 := by omega
  unfold yat
  by_cases hp : 0 < ya w a
  · rw [if_pos hp]
    have hrw : ∀ k', yrow C w a k' = C k' ((ya w a).toNat - 1) := fun k' => if_pos hp
    obtain ⟨k0, h1, h2⟩ := hs.2 ((ya w a).toNat - 1) (by omega)
    have h3 := hle.2 k0 h1
    rw [hrw k0, h2] at h3
    rcases hex with h | ⟨k1, h4, h5⟩
    · exact absurd h h9
    · have h6 := hs.1 k1 h4 ((ya w a).toNat - 1) (by omega)
      rw [hrw k1] at h5
      rw [hrw k]
      omega
  · rw [if_neg hp]
    have hrw : ∀ k', yrow C w a k' = - C k' ((-ya w a).toNat - 1) := fun k' => if_neg hp
    have hg := ygr_le (C := C) (a := (-ya w a).toNat - 1) (b := 5) (n := n) (fun k hk => hs.1 k hk _ (by omega))
    obtain ⟨k0, h1, h2⟩ := ygr_ex (C := C) (a := (-ya w a).toNat - 1) (n := n) (fun k hk => (hs.1 k hk _ (by omega)).1) (by omega)
    have h3 := hle.2 k0 h1
    rw [hrw k0, h2] at h3
    rcases hex with h | ⟨k1, h4, h5⟩
    · exact absurd h h9
    · have h6 := hg.2 k1 h4
      rw [hrw k1] at h5
      rw [hrw k]
      omega
/-- the cubes as they lie -/
def ylc (σ P : xa_H) (w : Nat) : Prop := ∀ k, k < (P 2 0 0).toNat → σ 66 0 k = yp P w k 0 ∧ σ 67 0 k = yp P w k 1 ∧ σ 68 0 k = yp P w k 2
theorem l_lay1 {σ P : xa_H} {t : Nat} (ht : ymt σ) (hv : yPv P) (hc : ymc σ P t) {w : Nat} (hw : w < 24) {K : Int → Int → Int → xa_H → Option xa_H} {Q : xa_H → Prop}
    (hK : ∀ s, xfm [66, 67, 68] [] σ s → (∀ k, k < (P 2 0 0).toNat → s 66 0 k = yrow (P 3) w 0 k ∧ s 67 0 k = yrow (P 3) w 1 k ∧ s 68 0 k = yrow (P 3) w 2 k) →
      xW (K (ymn (yrow (P 3) w 0) (P 2 0 0).toNat) (ymn (yrow (P 3) w 1) (P 2 0 0).toNat) (ymn (yrow (P 3) w 2) (P 2 0 0).toNat) s) Q) :
    xW (fm_M_layCubes_14 (t : Int) (w : Int) K xFU 9 9 9 0 σ) Q := by
  have hn := hv.2.2.1
  have ht5 := hc.1
  refine xfor0 (fun n (j : Int) (g : Int × Int × Int × xa_H) => fm_M_layCubes_14 (t : Int) (w : Int) K n g.1 g.2.1 g.2.2.1 j g.2.2.2) (P 2 0 0).toNat
    (fun j g => g.1 = ymn (yrow (P 3) w 0) j ∧ g.2.1 = ymn (yrow (P 3) w 1) j ∧ g.2.2.1 = ymn (yrow (P 3) w 2) j ∧ xfm [66, 67, 68] [] σ g.2.2.2 ∧ ∀ k, k < j → g.2.2.2 66 0 k = yrow (P 3) w 0 k ∧ g.2.2.2 67 0 k = yrow (P 3) w 1 k ∧ g.2.2.2 68 0 k = yrow (P 3) w 2 k)
    _ (xfu_b (by omega)) ?_ ?_ (9, 9, 9, σ) ⟨rfl, rfl, rfl, xfm_r _ _ _, fun k hk => by omega⟩
  · rintro fu j ⟨x, y, z, g⟩ hj ⟨i1, i2, i3, i4, i5⟩ ih
    show xW (fm_M_layCubes_14 (t : Int) (w : Int) K (fu + 1) x y z (j : Int) g) Q
    have i4 : xfm [66, 67, 68] [] σ g := i4
    have i1 : x = ymn (yrow (P 3) w 0) j := i1
    have i2 : y = ymn (yrow (P 3) w 1) j := i2
    have i3 : z = ymn (yrow (P 3) w 2) j := i3
    have tn : ∀ j : Nat, ((j : Int)).toNat = j := fun j => rfl
    have e54 : g 54 0 t = P 2 0 0 := by rw [i4.1 54 (by decide) (by decide)]; exact hc.2.1
    rw [fm_M_layCubes_14, tn, tn, e54]
    have ev : w32 (w32 (10 * (t : Int)) + (j : Int)) = ((10 * t + j : Nat) : Int) := w32_2 (by omega) (by omega) (by omega)
    rw [ev]
    have hj10 : 0 ≤ (j : Int) ∧ (j : Int) < 10 := ⟨by omega, by omega⟩
    refine xW_t ⟨by omega, by omega⟩ (xW_f (by omega) (xW_nm ?_))
    refine xW_be (q_row (ymt_f i4 (by decide) ht) hv (ymc_f i4 (by decide) hc) hw (by decide) hj) (xW_t hj10 (xW_nm ?_))
    have f1 : xfm [66, 67, 68] [] σ (xup g 66 0 j (yrow (P 3) w 0 j)) := xfm_t i4 (xfm_up (by decide) (by decide))
    refine xW_be (q_row (ymt_f f1 (by decide) ht) hv (ymc_f f1 (by decide) hc) hw (by decide) hj) (xW_t hj10 (xW_nm ?_))
    have f2 : xfm [66, 67, 68] [] σ (xup (xup g 66 0 j (yrow (P 3) w 0 j)) 67 0 j (yrow (P 3) w 1 j)) := xfm_t f1 (xfm_up (by decide) (by decide))
    refine xW_be (q_row (ymt_f f2 (by decide) ht) hv (ymc_f f2 (by decide) hc) hw (by decide) hj) (xW_t hj10 (xW_nm ?_))
    have f3 : xfm [66, 67, 68] [] σ (xup (xup (xup g 66 0 j (yrow (P 3) w 0 j)) 67 0 j (yrow (P 3) w 1 j)) 68 0 j (yrow (P 3) w 2 j)) := xfm_t f2 (xfm_up (by decide) (by decide))
    have r66 : xup (xup (xup g 66 0 j (yrow (P 3) w 0 j)) 67 0 j (yrow (P 3) w 1 j)) 68 0 j (yrow (P 3) w 2 j) 66 0 j = yrow (P 3) w 0 j := by rw [xup_o (by omega), xup_o (by omega), xup_at]
    have r67 : xup (xup (xup g 66 0 j (yrow (P 3) w 0 j)) 67 0 j (yrow (P 3) w 1 j)) 68 0 j (yrow (P 3) w 2 j) 67 0 j = yrow (P 3) w 1 j := by rw [xup_o (by omega), xup_at]
    have r68 : xup (xup (xup g 66 0 j (yrow (P 3) w 0 j)) 67 0 j (yrow (P 3) w 1 j)) 68 0 j (yrow (P 3) w 2 j) 68 0 j = yrow (P 3) w 2 j := xup_at
    have hall : ∀ k, k < j + 1 → xup (xup (xup g 66 0 j (yrow (P 3) w 0 j)) 67 0 j (yrow (P 3) w 1 j)) 68 0 j (yrow (P 3) w 2 j) 66 0 k = yrow (P 3) w 0 k ∧
        xup (xup (xup g 66 0 j (yrow (P 3) w 0 j)) 67 0 j (yrow (P 3) w 1 j)) 68 0 j (yrow (P 3) w 2 j) 67 0 k = yrow (P 3) w 1 k ∧ xup (xup (xup g 66 0 j (yrow (P 3) w 0 j)) 67 0 j (yrow (P 3) w 1 j)) 68 0 j (yrow (P 3) w 2 j) 68 0 k = yrow (P 3) w 2 k := by
      intro k hk
      by_cases hkj : k = j
      · rw [hkj]; exact ⟨r66, r67, r68⟩
      · obtain ⟨a1, a2, a3⟩ := i5 k (by omega)
        refine ⟨?_, ?_, ?_⟩
        · rw [xup_o (by omega), xup_o (by omega), xup_o (by omega)]; exact a1
        · rw [xup_o (by omega), xup_o (by omega), xup_o (by omega)]; exact a2
        · rw [xup_o (by omega), xup_o (by omega), xup_o (by omega)]; exact a3
    generalize xup (xup (xup g 66 0 j (yrow (P 3) w 0 j)) 67 0 j (yrow (P 3) w 1 j)) 68 0 j (yrow (P 3) w 2 j) = g' at f3 r66 r67 r68 hall ⊢
    rw [r66, r67, r68]
    refine xW_t hj10 (xW_j ?_)
    have key3 : ∀ a b : Int, a = ymn (yrow (P 3) w 0) (j + 1) → b = ymn (yrow (P 3) w 1) (j + 1) →
        xW (if 0 ≤ (j : Int) ∧ (j : Int) < 10 then (if z ≤ yrow (P 3) w 2 j then xnm (w32 ((j : Int) + 1) : Int) fun v18 => fm_M_layCubes_14 (t : Int) (w : Int) K fu a b z v18 g'
          else if 0 ≤ (j : Int) ∧ (j : Int) < 10 then xnm (yrow (P 3) w 2 j : Int) fun v19 => xnm (w32 ((j : Int) + 1) : Int) fun v20 => fm_M_layCubes_14 (t : Int) (w : Int) K fu a b v19 v20 g' else none) else none) Q := by
      intro a b ha hb
      refine xW_t hj10 (xW_if (fun hz => ?_) (fun hz => xW_t hj10 ?_))
      · refine xW_nm ?_
        rw [w32_s (by omega)]
        refine ih (a, b, z, g') ⟨ha, hb, ?_, f3, hall⟩
        show z = if ymn (yrow (P 3) w 2) j ≤ yrow (P 3) w 2 j then ymn (yrow (P 3) w 2) j else yrow (P 3) w 2 j
        rw [← i3, if_pos hz]
      · refine xW_nm (xW_nm ?_)
        rw [w32_s (by omega)]
        refine ih (a, b, yrow (P 3) w 2 j, g') ⟨ha, hb, ?_, f3, hall⟩
        show yrow (P 3) w 2 j = if ymn (yrow (P 3) w 2) j ≤ yrow (P 3) w 2 j then ymn (yrow (P 3) w 2) j else yrow (P 3) w 2 j
        rw [← i3, if_neg hz]
    have key2 : ∀ a : Int, a = ymn (yrow (P 3) w 0) (j + 1) →
        xW (if 0 ≤ (j : Int) ∧ (j : Int) < 10 then xj (fun (v14 : Int) => if 0 ≤ (j : Int) ∧ (j : Int) < 10 then (if z ≤ yrow (P 3) w 2 j then xnm (w32 ((j : Int) + 1) : Int) fun v18 => fm_M_layCubes_14 (t : Int) (w : Int) K fu a v14 z v18 g'
          else if 0 ≤ (j : Int) ∧ (j : Int) < 10 then xnm (yrow (P 3) w 2 j : Int) fun v19 => xnm (w32 ((j : Int) + 1) : Int) fun v20 => fm_M_layCubes_14 (t : Int) (w : Int) K fu a v14 v19 v20 g' else none) else none) fun K15 =>
          if y ≤ yrow (P 3) w 1 j then K15 y else if 0 ≤ (j : Int) ∧ (j : Int) < 10 then K15 (yrow (P 3) w 1 j) else none else none) Q := by
      intro a ha
      refine xW_t hj10 (xW_j (xW_if (fun hy => ?_) (fun hy => xW_t hj10 ?_)))
      · refine key3 a y ha ?_
        show y = if ymn (yrow (P 3) w 1) j ≤ yrow (P 3) w 1 j then ymn (yrow (P 3) w 1) j else yrow (P 3) w 1 j
        rw [← i2, if_pos hy]
      · refine key3 a (yrow (P 3) w 1 j) ha ?_
        show yrow (P 3) w 1 j = if ymn (yrow (P 3) w 1) j ≤ yrow (P 3) w 1 j then ymn (yrow (P 3) w 1) j else yrow (P 3) w 1 j
        rw [← i2, if_neg hy]
    refine xW_if (fun hx => ?_) (fun hx => xW_t hj10 ?_)
    · refine key2 x ?_
      show x = if ymn (yrow (P 3) w 0) j ≤ yrow (P 3) w 0 j then ymn (yrow (P 3) w 0) j else yrow (P 3) w 0 j
      rw [← i1, if_pos hx]
    · refine key2 (yrow (P 3) w 0 j) ?_
      show yrow (P 3) w 0 j = if ymn (yrow (P 3) w 0) j ≤ yrow (P 3) w 0 j then ymn (yrow (P 3) w 0) j else yrow (P 3) w 0 j
      rw [← i1, if_neg hx]
  · rintro fu ⟨x, y, z, g⟩ ⟨i1, i2, i3, i4, i5⟩
    show xW (fm_M_layCubes_14 (t : Int) (w : Int) K (fu + 1) x y z (((P 2 0 0).toNat : Nat) : Int) g) Q
    have i4 : xfm [66, 67, 68] [] σ g := i4
    have i1 : x = ymn (yrow (P 3) w 0) (P 2 0 0).toNat := i1
    have i2 : y = ymn (yrow (P 3) w 1) (P 2 0 0).toNat := i2
    have i3 : z = ymn (yrow (P 3) w 2) (P 2 0 0).toNat := i3
    have tn : ∀ j : Nat, ((j : Int)).toNat = j := fun j => rfl
    have e54 : g 54 0 t = P 2 0 0 := by rw [i4.1 54 (by decide) (by decide)]; exact hc.2.1
    rw [fm_M_layCubes_14, tn, e54, i1, i2, i3]
    exact xW_t ⟨by omega, by omega⟩ (xW_t (by omega) (hK g i4 i5))
theorem q_lay {σ P : xa_H} {t : Nat} (ht : ymt σ) (hv : yPv P) (hc : ymc σ P t) {w : Nat} (hw : w < 24) : xW (fm_M_layCubes (t : Int) (w : Int) σ) fun s => xfm [66, 67, 68] [] σ s ∧ ylc s P w := by
  have hn := hv.2.2.1
  have ht5 := hc.1
  unfold fm_M_layCubes
  refine l_lay1 ht hv hc hw ?_
  intro s f1 hrow
  have hmn : ∀ a, a < 3 → -5 ≤ ymn (yrow (P 3) w a) (P 2 0 0).toNat ∧ ymn (yrow (P 3) w a) (P 2 0 0).toNat ≤ 9 := by
    intro a ha
    refine ⟨?_, ymn_le.1⟩
    rcases ymn_ex (f := yrow (P 3) w a) (n := (P 2 0 0).toNat) with h | ⟨k, h1, h2⟩
    · omega
    · have := yrow_r hv.2.2.2.1 hw ha h1
      omega
  have m0 := hmn 0 (by decide)
  have m1 := hmn 1 (by decide)
  have m2 := hmn 2 (by decide)
  have hat : ∀ k a, k < (P 2 0 0).toNat → a < 3 → w32 (yrow (P 3) w a k - ymn (yrow (P 3) w a) (P 2 0 0).toNat) = yp P w k a := by
    intro k a hk ha
    have h1 := yat_row hv.2.2.2.1 hw ha hk
    have h2 := hmn a ha
    have h3 := yrow_r hv.2.2.2.1 hw ha hk
    rw [w32_n (by omega) (by omega), h1]
    rfl
  refine xfor0 (fun n (j : Int) (g : xa_H) => fm_M_layCubes_163 (t : Int) (ymn (yrow (P 3) w 0) (P 2 0 0).toNat) (ymn (yrow (P 3) w 1) (P 2 0 0).toNat) (ymn (yrow (P 3) w 2) (P 2 0 0).toNat) (fun s => some s) n j g) (P 2 0 0).toNat
    (fun j g => xfm [66, 67, 68] [] σ g ∧ (∀ k, k < j → g 66 0 k = yp P w k 0 ∧ g 67 0 k = yp P w k 1 ∧ g 68 0 k = yp P w k 2) ∧ ∀ k, j ≤ k → k < (P 2 0 0).toNat → g 66 0 k = yrow (P 3) w 0 k ∧ g 67 0 k = yrow (P 3) w 1 k ∧ g 68 0 k = yrow (P 3) w 2 k)
    _ (xfu_b (by omega)) ?_ ?_ s ⟨f1, fun k hk => by omega, fun k _ hk => hrow k hk⟩
  · rintro fu j g hj ⟨i1, i2, i3⟩ ih
    show xW (fm_M_layCubes_163 (t : Int) _ _ _ (fun s => some s) (fu + 1) (j : Int) g) _
    have tn : ∀ j : Nat, ((j : Int)).toNat = j := fun j => rfl
    have e54 : g 54 0 t = P 2 0 0 := by rw [i1.1 54 (by decide) (by decide)]; exact hc.2.1
    rw [fm_M_layCubes_163, tn, tn, e54]
    have hj10 : 0 ≤ (j : Int) ∧ (j : Int) < 10 := ⟨by omega, by omega⟩
    obtain ⟨a0, a1, a2⟩ := i3 j (Nat.le_refl _) hj
    refine xW_t ⟨by omega, by omega⟩ (xW_f (by omega) (xW_t hj10 (xW_t hj10 (xW_nm (xW_t hj10 (xW_t hj10 (xW_nm (xW_t hj10 (xW_t hj10 (xW_nm (xW_nm ?_)))))))))))
    rw [w32_s (by omega)]
    refine ih _ ⟨xfm_t i1 (xfm_t (xfm_up (by decide) (by decide)) (xfm_t (xfm_up (by decide) (by decide)) (xfm_up (by decide) (by decide)))), ?_, ?_⟩
    · intro k hk
      by_cases hkj : k = j
      · rw [hkj]
        refine ⟨?_, ?_, ?_⟩
        · rw [xup_o (by omega), xup_o (by omega), xup_at, a0]; exact hat j 0 hj (by decide)
        · rw [xup_o (by omega), xup_at, xup_o (by omega), a1]; exact hat j 1 hj (by decide)
        · rw [xup_at, xup_o (by omega), xup_o (by omega), a2]; exact hat j 2 hj (by decide)
      · obtain ⟨b0, b1, b2⟩ := i2 k (by omega)
        refine ⟨?_, ?_, ?_⟩
        · rw [xup_o (by omega), xup_o (by omega), xup_o (by omega)]; exact b0
        · rw [xup_o (by omega), xup_o (by omega), xup_o (by omega)]; exact b1
        · rw [xup_o (by omega), xup_o (by omega), xup_o (by omega)]; exact b2
    · intro k hk1 hk2
      obtain ⟨b0, b1, b2⟩ := i3 k (by omega) hk2
      refine ⟨?_, ?_, ?_⟩
      · rw [xup_o (by omega), xup_o (by omega), xup_o (by omega)]; exact b0
      · rw [xup_o (by omega), xup_o (by omega), xup_o (by omega)]; exact b1
      · rw [xup_o (by omega), xup_o (by omega), xup_o (by omega)]; exact b2
  · rintro fu g ⟨i1, i2, i3⟩
    show xW (fm_M_layCubes_163 (t : Int) _ _ _ (fun s => some s) (fu + 1) (((P 2 0 0).toNat : Nat) : Int) g) _
    have tn : ∀ j : Nat, ((j : Int)).toNat = j := fun j => rfl
    have e54 : g 54 0 t = P 2 0 0 := by rw [i1.1 54 (by decide) (by decide)]; exact hc.2.1
    rw [fm_M_layCubes_163, tn, e54]
    exact xW_t ⟨by omega, by omega⟩ (xW_t (by omega) (xW_some ⟨i1, i2⟩))
