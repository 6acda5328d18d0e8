/-! what is asked, told apart from both sides -/
def ygoes (P : xa_H) (s0 : Nat) (g : Int) : Prop := ∃ L e, ygo (yG P) (ynx P) s0 L e ∧ ygl g e
/-- it goes with parts and doors off -/
def ygw (f : xa_H) (t : Nat) (A D : Nat) : Prop := ygoes (ypr f 0 t (ykd f 0) (A : Int) (D : Int)) (ystd f 0 t) (f 2 t 3)
def ymcs (f : xa_H) (i : Nat) : Nat := (f 4 0 i).toNat
/-- an answer that is a row -/
def yra (σ P : xa_H) (s0 : Nat) (g : Int) (c : Nat → Nat) (tot : List Nat → Int) : Prop :=
  (¬ ygoes P s0 g ∧ σ 0 0 2 = 0 ∧ σ 0 0 3 = -6) ∨ ∃ L, yopt (yG P) (ynx P) (ygl g) c s0 L ∧ yrw σ L ∧ σ 0 0 3 = tot L
/-- the cost of a set: 16 times parts, and doors -/
def ystc (f : xa_H) (t set : Nat) : Nat → Nat
  | 0 => 0
  | i + 1 => ystc f t set i + ((if set.testBit i = true then (f 3 0 i).toNat else 0) + (if (set / 16).testBit i = true then (f 5 t i).toNat else 0))
def ycst (f : xa_H) (t set : Nat) : Nat := ystc f t set 4
/-- the least set -/
def ylst (f : xa_H) (t set : Nat) : Prop := set < 256 ∧ ygw f t (set / 16) (set % 16) ∧ ∀ s', s' < 256 → ygw f t (s' / 16) (s' % 16) → ycst f t set < ycst f t s' ∨ (ycst f t set = ycst f t s' ∧ set ≤ s')
/-- a bar -/
def ybp (f : xa_H) (m a : Nat) (D : Int) : xa_H := fun K i s =>
  match K with
  | 0 => f 0 0 s
  | 1 => f 1 0 s
  | 2 => (m : Int)
  | 3 => if s = a then (i : Int) else 0
  | 4 => 0
  | 5 => if s = 0 then 0 else D
  | _ => 0
def ybf0 (f : xa_H) (m a : Nat) (D : Int) : Prop := yG (ybp f m a D) (24 * (f 2 0 1).toNat)
def ybg (f : xa_H) (m : Nat) (D : Nat) : Prop := ∃ a, a < 3 ∧ (∀ a', a' < a → ¬ ybf0 f m a' (D : Int)) ∧ ybf0 f m a (D : Int) ∧ ygoes (ybp f m a (D : Int)) (24 * (f 2 0 1).toNat) (f 2 0 3)
def ybl (f : xa_H) (D n : Nat) : Prop := n ≤ 6 ∧ (∀ m, n < m → m ≤ 6 → ¬ ybg f m D) ∧ (n = 0 ∨ ybg f n D)
/-- things among others -/
def yfil (f : xa_H) (t left q : Nat) : Prop := ∃ o, o < 4 ∧ ¬ o = t ∧ left.testBit o = true ∧ ∃ k, k < (f 2 o 0).toNat ∧
  (q : Int) = ypl (f 2 o 1 / 24 + yat (yC f 0 o) (f 2 o 0).toNat (f 2 o 2).toNat k 0) (f 2 o 1 / 4 % 6 + yat (yC f 0 o) (f 2 o 0).toNat (f 2 o 2).toNat k 1) (f 2 o 1 % 4 + yat (yC f 0 o) (f 2 o 0).toNat (f 2 o 2).toNat k 2)
noncomputable def ywe (f : xa_H) (W : Nat → Prop) : Nat → Int := fun q => @ite Int (W q) (Classical.propDecidable _) 1 (f 1 0 q)
def yga (f : xa_H) (t left : Nat) : Prop := ygoes (ypr f 0 t (ywe f (yfil f t left)) 0 0) (ystd f 0 t) (f 2 t 3)
def yft (f : xa_H) (left t : Nat) : Prop := t < 4 ∧ left.testBit t = true ∧ yga f t left ∧ ∀ t', t' < t → ¬ (left.testBit t' = true ∧ yga f t' left)
/-- the order that is taken, as far as it goes, and what is left then -/
def yord (f : xa_H) : Nat → List Nat → Nat → Prop
  | left, [], rest => left = rest
  | left, t :: r, rest => yft f left t ∧ yord f (left ^^^ (left &&& 1 <<< t)) r rest
def yordA (f : xa_H) (set : Nat) (L : List Nat) : Prop := yord f set L 0
/-- came: how many, and in all of them -/
noncomputable def ycm (f : xa_H) (t : Nat) : Nat → Nat × Nat
  | 0 => (0, 15)
  | n + 1 => @ite (Nat × Nat) (ygw f t 0 n) (Classical.propDecidable _) ((ycm f t n).1 + 1, (ycm f t n).2 &&& n) (ycm f t n)
/-- what an answer holds, by what was asked -/
def yspec (a t A D : Nat) (f σ : xa_H) : Prop :=
  match a with
  | 1 => yra σ (ypr f 0 t (ykd f 0) (A : Int) (D : Int)) (ystd f 0 t) (f 2 t 3) (fun _ => 0) (fun L => (L.length : Int))
  | 2 => yra σ (ypr f 0 t (ykd f 0) (A : Int) (D : Int)) (ystd f 0 t) (f 2 t 3) (ycs (ymcs f) (ycn (ypr f 0 t (ykd f 0) (A : Int) (D : Int)))) (fun L => (ysum (ycs (ymcs f) (ycn (ypr f 0 t (ykd f 0) (A : Int) (D : Int)))) L : Int))
  | 3 => (¬ ygw f t 15 15 ∧ σ 0 0 2 = 0) ∨ ∃ set, ylst f t set ∧ σ 0 0 2 = 3 ∧ σ 12 0 0 = (ycst f t set : Int) ∧ σ 12 0 1 = ((set / 16 : Nat) : Int) ∧ σ 12 0 2 = ((set % 16 : Nat) : Int)
  | 4 => ∃ n, ybl f D n ∧ ((n = 0 ∧ σ 0 0 2 = 0) ∨ (0 < n ∧ σ 0 0 2 = 1 ∧ σ 12 0 0 = (n : Int)))
  | 5 => (∃ L, yordA f D L ∧ σ 0 0 2 = (L.length : Int) ∧ ∀ k, k < L.length → σ 12 0 k = ((L.getD k 0 : Nat) : Int)) ∨ ((¬ ∃ L, yordA f D L) ∧ σ 0 0 2 = 0)
  | 6 => σ 12 0 0 = (((ycm f t 16).1 : Nat) : Int) ∧ ((0 < (ycm f t 16).1 ∧ σ 0 0 2 = 2 ∧ σ 12 0 1 = (((ycm f t 16).2 : Nat) : Int)) ∨ ((ycm f t 16).1 = 0 ∧ σ 0 0 2 = 1))
  | _ => False
def yan (σ f : xa_H) : Prop := σ 0 0 1 = 0 ∨ ∃ a t A D : Nat, a ≤ 6 ∧ t < 4 ∧ A < 16 ∧ D < 16 ∧ σ 0 0 1 = ((((a * 4 + t) * 16 + A) * 16 + D : Nat) : Int) ∧ yspec a t A D f σ
/-- the whole of the class -/
def yc (σ f : xa_H) : Prop := yst σ f ∧ yca σ f ∧ yfl σ ∧ yan σ f
/-- what f says of one stair alone -/
def yeq (f f' : xa_H) (b : Nat) : Prop := ∀ K, b ≤ K → K ≤ b + 6 → f' K = f K
section YE
variable {f f' : xa_H} {b : Nat}
theorem yeq_c (h : yeq f f' b) (t : Nat) : yC f' b t = yC f b t := by
  unfold yC
  rw [h (b + 6) (by omega) (by omega)]
theorem ylie_e (h : yeq f f' b) {t : Nat} (hl : ylie f b t) : ylie f' b t := by
  unfold ylie
  rw [h b (by omega) (by omega), h (b + 2) (by omega) (by omega), yeq_c h]
  exact hl
theorem ythv_e (h : yeq f f' b) {t : Nat} (hl : ythv f b t) : ythv f' b t := by
  obtain ⟨h1, h2, h3, h4, h5, h6, h7⟩ := hl
  have e0 := h b (by omega) (by omega)
  have e2 := h (b + 2) (by omega) (by omega)
  have e5 := h (b + 5) (by omega) (by omega)
  have e6 := h (b + 6) (by omega) (by omega)
  refine ⟨by rw [e2]; exact h1, by rw [e2, yeq_c h]; exact h2, by rw [e2, e6]; exact h3, ?_, by rw [e2]; exact h5, by rw [e0, e2]; exact h6, by rw [e5]; exact h7⟩
  rw [e2]
  rcases h4 with h4 | h4
  · exact Or.inl h4
  · exact Or.inr (ylie_e h h4)
theorem yval_e (h : yeq f f' b) (hv : yval f b) : yval f' b := by
  obtain ⟨h1, h2, h3, h4⟩ := hv
  refine ⟨by rw [h b (by omega) (by omega)]; exact h1, by rw [h (b + 1) (by omega) (by omega)]; exact h2, fun t ht => ythv_e h (h3 t ht), ?_⟩
  rw [h (b + 3) (by omega) (by omega), h (b + 4) (by omega) (by omega)]
  exact h4
theorem yclt_e {σ : xa_H} {i t : Nat} (h : yeq f f' b) (hc : yclt σ i f b t) : yclt σ i f' b t := by
  unfold yclt
  rw [h (b + 2) (by omega) (by omega), h (b + 5) (by omega) (by omega), h (b + 6) (by omega) (by omega), yeq_c h]
  exact hc
theorem ycl_e {σ : xa_H} {s : Nat} (h : yeq f f' b) (hc : ycl σ s f b) : ycl σ s f' b := by
  obtain ⟨h1, h2, h3, h4⟩ := hc
  refine ⟨by rw [h b (by omega) (by omega)]; exact h1, by rw [h (b + 1) (by omega) (by omega)]; exact h2, fun t ht => yclt_e h (h3 t ht), ?_⟩
  rw [h (b + 3) (by omega) (by omega), h (b + 4) (by omega) (by omega)]
  exact h4
theorem ykp_e {σ : xa_H} {n : Nat} (h : yeq f f' b) (hc : ykp σ n f b) : ykp σ n f' b := by
  unfold ykp
  rw [h b (by omega) (by omega), h (b + 1) (by omega) (by omega), h (b + 2) (by omega) (by omega), h (b + 3) (by omega) (by omega), h (b + 4) (by omega) (by omega), h (b + 5) (by omega) (by omega), h (b + 6) (by omega) (by omega)]
  exact hc
theorem yrf_e {σ : xa_H} (h : yeq f f' 0) (hc : yrf σ f) : yrf σ f' := by
  unfold yrf
  rw [h 0 (by omega) (by omega), h 1 (by omega) (by omega), h 2 (by omega) (by omega), h 3 (by omega) (by omega), h 4 (by omega) (by omega), h 5 (by omega) (by omega), h 6 (by omega) (by omega)]
  exact hc
theorem ypr_e (h : yeq f f' 0) (t : Nat) (e : Nat → Int) (A D : Int) : ypr f' 0 t e A D = ypr f 0 t e A D := by
  unfold ypr
  rw [h 0 (by omega) (by omega), h (0 + 2) (by omega) (by omega), h (0 + 6) (by omega) (by omega)]
theorem ykd_e (h : yeq f f' 0) : ykd f' 0 = ykd f 0 := by
  unfold ykd
  rw [h (0 + 1) (by omega) (by omega)]
theorem yca_e {σ : xa_H} (h : yeq f f' 0) (hc : yca σ f) : yca σ f' := by
  rcases hc with h1 | h1 | ⟨t, h1, h2, h3, h4⟩
  · exact Or.inl h1
  · exact Or.inr (Or.inl h1)
  · refine Or.inr (Or.inr ⟨t, h1, h2, ?_, ?_⟩)
    · rw [h 2 (by omega) (by omega)]; exact h3
    · rw [ykd_e h, ypr_e h]; exact h4
/-- the pad alone has changed -/
def yeqA (f f' : xa_H) : Prop := ∀ K, ¬ K = 7 → ¬ K = 8 → f' K = f K
theorem yeqA_b (h : yeqA f f') (hb : b = 0 ∨ b = 10 ∨ b = 20) : yeq f f' b := fun K h1 h2 => h K (by omega) (by omega)
theorem ygw_e (h : yeq f f' 0) {t A D : Nat} : ygw f' t A D ↔ ygw f t A D := by
  unfold ygw ystd
  rw [ykd_e h, ypr_e h, h (0 + 2) (by omega) (by omega)]
theorem ycst_e (h : yeq f f' 0) {t set : Nat} : ycst f' t set = ycst f t set := by
  have : ∀ n, ystc f' t set n = ystc f t set n := by
    intro n
    induction n with
    | zero => rfl
    | succ n ih =>
      unfold ystc
      rw [ih, h 3 (by omega) (by omega), h 5 (by omega) (by omega)]
  exact this 4
theorem ylst_e (h : yeq f f' 0) {t set : Nat} (hl : ylst f t set) : ylst f' t set := by
  obtain ⟨h1, h2, h3⟩ := hl
  refine ⟨h1, (ygw_e h).mpr h2, fun s' hs hg => ?_⟩
  rw [ycst_e h, ycst_e h]
  exact h3 s' hs ((ygw_e h).mp hg)
theorem ybp_e (h : yeq f f' 0) {m a : Nat} {D : Int} : ybp f' m a D = ybp f m a D := by
  unfold ybp
  rw [h 0 (by omega) (by omega), h 1 (by omega) (by omega)]
theorem ybl_e (h : yeq f f' 0) {D n : Nat} : ybl f' D n = ybl f D n := by
  unfold ybl ybg ybf0
  simp only [ybp_e h, h 2 (by omega) (by omega)]
theorem yga_e (h : yeq f f' 0) {t left : Nat} : yga f' t left = yga f t left := by
  have e1 : yfil f' t left = yfil f t left := by
    unfold yfil
    simp only [h 2 (by omega) (by omega), yeq_c h]
  have e2 : ywe f' (yfil f t left) = ywe f (yfil f t left) := by
    unfold ywe
    rw [h 1 (by omega) (by omega)]
  unfold yga
  rw [e1, e2, ypr_e h]
  unfold ystd
  rw [h (0 + 2) (by omega) (by omega)]
theorem yord_e (h : yeq f f' 0) : ∀ {L : List Nat} {left rest : Nat}, yord f' left L rest ↔ yord f left L rest := by
  intro L
  induction L with
  | nil => intro left rest; exact Iff.rfl
  | cons t r ih =>
    intro left rest
    have : yft f' left t ↔ yft f left t := by
      unfold yft
      simp only [yga_e h]
    show yft f' left t ∧ _ ↔ yft f left t ∧ _
    rw [this, ih]
theorem ycm_e (h : yeq f f' 0) {t : Nat} : ∀ n, ycm f' t n = ycm f t n := by
  intro n
  induction n with
  | zero => rfl
  | succ n ih =>
    unfold ycm
    rw [ih]
    by_cases hg : ygw f t 0 n
    · rw [if_pos hg, if_pos ((ygw_e h).mpr hg)]
    · rw [if_neg hg, if_neg (fun q => hg ((ygw_e h).mp q))]
theorem yspec_e (h : yeq f f' 0) {a t A D : Nat} {σ : xa_H} (hs : yspec a t A D f σ) : yspec a t A D f' σ := by
  have eS : ystd f' 0 t = ystd f 0 t := by unfold ystd; rw [h (0 + 2) (by omega) (by omega)]
  have e2 := h 2 (by omega) (by omega)
  match a, hs with
  | 1, hs =>
    show yra σ _ _ _ _ _
    rw [ykd_e h, ypr_e h, eS, e2]
    exact hs
  | 2, hs =>
    have em : ymcs f' = ymcs f := by unfold ymcs; rw [h 4 (by omega) (by omega)]
    show yra σ _ _ _ _ _
    rw [ykd_e h, ypr_e h, eS, e2, em]
    exact hs
  | 3, hs =>
    rcases hs with ⟨h1, h2⟩ | ⟨set, h1, h2, h3, h4⟩
    · exact Or.inl ⟨fun q => h1 ((ygw_e h).mp q), h2⟩
    · refine Or.inr ⟨set, ylst_e h h1, h2, ?_, h4⟩
      rw [ycst_e h]; exact h3
  | 4, hs =>
    obtain ⟨n, h1, h2⟩ := hs
    exact ⟨n, by rw [ybl_e h]; exact h1, h2⟩
  | 5, hs =>
    rcases hs with ⟨L, h1, h2⟩ | ⟨h1, h2⟩
    · exact Or.inl ⟨L, (yord_e h).mpr h1, h2⟩
    · exact Or.inr ⟨fun ⟨L, q⟩ => h1 ⟨L, (yord_e h).mp q⟩, h2⟩
  | 6, hs =>
    show σ 12 0 0 = (((ycm f' t 16).1 : Nat) : Int) ∧ ((0 < (ycm f' t 16).1 ∧ σ 0 0 2 = 2 ∧ σ 12 0 1 = (((ycm f' t 16).2 : Nat) : Int)) ∨ ((ycm f' t 16).1 = 0 ∧ σ 0 0 2 = 1))
    rw [ycm_e h]
    exact hs
  | 0, hs => exact hs
  | (n + 7), hs => exact hs
theorem yan_e {σ : xa_H} (h : yeq f f' 0) (hs : yan σ f) : yan σ f' := by
  rcases hs with h1 | ⟨a, t, A, D, h1, h2, h3, h4, h5, h6⟩
  · exact Or.inl h1
  · exact Or.inr ⟨a, t, A, D, h1, h2, h3, h4, h5, yspec_e h h6⟩
end YE
/-- an answer speaks of its own cells alone -/
theorem yspec_f {f σ σ' : xa_H} (h0 : ∀ s, ¬ s = 1 → σ' 0 0 s = σ 0 0 s) (h12 : σ' 12 = σ 12) {a t A D : Nat} (hs : yspec a t A D f σ) : yspec a t A D f σ' := by
  have hrw : ∀ {L}, yrw σ L → yrw σ' L := by
    intro L hL
    unfold yrw
    rw [h12, h0 2 (by decide)]
    exact hL
  match a, hs with
  | 1, hs =>
    rcases hs with ⟨k1, k2, k3⟩ | ⟨L, k1, k2, k3⟩
    · exact Or.inl ⟨k1, by rw [h0 2 (by decide)]; exact k2, by rw [h0 3 (by decide)]; exact k3⟩
    · exact Or.inr ⟨L, k1, hrw k2, by rw [h0 3 (by decide)]; exact k3⟩
  | 2, hs =>
    rcases hs with ⟨k1, k2, k3⟩ | ⟨L, k1, k2, k3⟩
    · exact Or.inl ⟨k1, by rw [h0 2 (by decide)]; exact k2, by rw [h0 3 (by decide)]; exact k3⟩
    · exact Or.inr ⟨L, k1, hrw k2, by rw [h0 3 (by decide)]; exact k3⟩
  | 3, hs =>
    show (¬ ygw f t 15 15 ∧ σ' 0 0 2 = 0) ∨ ∃ set, ylst f t set ∧ σ' 0 0 2 = 3 ∧ σ' 12 0 0 = (ycst f t set : Int) ∧ σ' 12 0 1 = ((set / 16 : Nat) : Int) ∧ σ' 12 0 2 = ((set % 16 : Nat) : Int)
    rw [h12, h0 2 (by decide)]
    exact hs
  | 4, hs =>
    show ∃ n, ybl f D n ∧ ((n = 0 ∧ σ' 0 0 2 = 0) ∨ (0 < n ∧ σ' 0 0 2 = 1 ∧ σ' 12 0 0 = (n : Int)))
    rw [h12, h0 2 (by decide)]
    exact hs
  | 5, hs =>
    show (∃ L, yordA f D L ∧ σ' 0 0 2 = (L.length : Int) ∧ ∀ k, k < L.length → σ' 12 0 k = ((L.getD k 0 : Nat) : Int)) ∨ ((¬ ∃ L, yordA f D L) ∧ σ' 0 0 2 = 0)
    rw [h12, h0 2 (by decide)]
    exact hs
  | 6, hs =>
    show σ' 12 0 0 = (((ycm f t 16).1 : Nat) : Int) ∧ ((0 < (ycm f t 16).1 ∧ σ' 0 0 2 = 2 ∧ σ' 12 0 1 = (((ycm f t 16).2 : Nat) : Int)) ∨ ((ycm f t 16).1 = 0 ∧ σ' 0 0 2 = 1))
    rw [h12, h0 2 (by decide)]
    exact hs
  | 0, hs => exact hs
  | (n + 7), hs => exact hs
theorem yan_f {σ σ' f : xa_H} (h0 : σ' 0 = σ 0) (h12 : σ' 12 = σ 12) (h : yan σ f) : yan σ' f := by
  rcases h with h1 | ⟨a, t, A, D, h1, h2, h3, h4, h5, h6⟩
  · left; rw [h0]; exact h1
  · right
    exact ⟨a, t, A, D, h1, h2, h3, h4, by rw [h0]; exact h5, yspec_f (fun s _ => by rw [h0]) h12 h6⟩
