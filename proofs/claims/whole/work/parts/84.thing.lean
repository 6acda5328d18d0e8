/-! things are told and asked after, on both sides -/
theorem ygr_c {C C' : Nat → Nat → Int} {a : Nat} : ∀ {n : Nat}, (∀ k, k < n → C k a = C' k a) → ygr C a n = ygr C' a n := by
  intro n
  induction n with
  | zero => intro _; rfl
  | succ n ih =>
    intro h
    unfold ygr
    rw [ih (fun k hk => h k (by omega)), h n (by omega)]
theorem yat_c {C C' : Nat → Nat → Int} {n w k a : Nat} (h : ∀ k, k < n → ∀ a, C k a = C' k a) (hk : k < n) : yat C n w k a = yat C' n w k a := by
  unfold yat
  rw [h k hk ((ya w a).toNat - 1), h k hk ((-ya w a).toNat - 1), ygr_c (fun k hk => h k hk ((-ya w a).toNat - 1))]
theorem ysv_c {C C' : Nat → Nat → Int} {n : Nat} (h : ∀ k, k < n → ∀ a, C k a = C' k a) (hs : ysv n C) : ysv n C' := by
  refine ⟨fun k hk a ha => by rw [← h k hk a]; exact hs.1 k hk a ha, fun a ha => ?_⟩
  obtain ⟨k, h1, h2⟩ := hs.2 a ha
  exact ⟨k, h1, by rw [← h k h1 a]; exact h2⟩
theorem ytf0_n {s : Nat → Int} {E : Int} {n : Nat} : ∀ {d j : Nat}, j + d = n → ytf0 s E d j < 0 → (∀ i, j ≤ i → i < n → ystn s i) ∧ E < 0 := by
  intro d
  induction d with
  | zero => intro j hj h; exact ⟨fun i h1 h2 => by omega, h⟩
  | succ d ih =>
    intro j hj h
    unfold ytf0 at h
    by_cases hc : ystn s j
    · rw [if_pos hc] at h
      obtain ⟨h1, h2⟩ := ih (by omega) h
      refine ⟨fun i hi hin => ?_, h2⟩
      by_cases hij : i = j
      · rw [hij]; exact hc
      · exact h1 i (by omega) hin
    · rw [if_neg hc] at h; omega
theorem ythf_n {s : Nat → Int} {n : Nat} (h : ythf s n < 0) : (∀ i, i < n → ystn s i) ∧ yzero s n := by
  unfold ythf at h
  obtain ⟨h1, h2⟩ := ytf0_n (n := n) (by omega) h
  refine ⟨fun i hi => h1 i (by omega) hi, ?_⟩
  by_cases hz : yzero s n
  · exact hz
  · rw [if_neg hz] at h2; omega
theorem ythf_4 {s : Nat → Int} {n : Nat} (h : ythf s n < 0) : n % 4 = 0 ∧ 1 ≤ n ∧ n ≤ 40 := by
  obtain ⟨h1, h2, h3, _⟩ := ythf_n h
  refine ⟨h3, h2, ?_⟩
  have := (h1 (n - 1) (by omega)).1
  omega
def yCs (s : Nat → Int) : Nat → Nat → Int := fun k a => s (4 * k + a) - 48
theorem yCs_s {s : Nat → Int} {n : Nat} (h : ythf s n < 0) : ysv (n / 4) (yCs s) := by
  obtain ⟨h1, h2, h3, h4⟩ := ythf_n h
  refine ⟨fun k hk a ha => ?_, fun a ha => ?_⟩
  · have := ((h1 (4 * k + a) (by omega)).2.2 (by omega)).1
    unfold yCs
    omega
  · obtain ⟨k, k1, k2⟩ := h4 a ha
    refine ⟨k, by omega, ?_⟩
    unfold yCs
    omega
/-- the state with a thing told -/
def atin (f : xa_H) (t n : Nat) : xa_H := fun K i s => if K = 6 ∧ 10 * t ≤ i ∧ i < 10 * t + n then (if s = 3 then (if f 8 0 (4 * (i - 10 * t) + 3) = 45 then -6 else f 8 0 (4 * (i - 10 * t) + 3) - 97) else f 8 0 (4 * (i - 10 * t) + s) - 48) else f K i s
noncomputable def athg1 (f : xa_H) (t : Nat) : xa_H := aclr (xup (xup (atin f t ((f 7 0 0).toNat / 4)) 2 t 0 (((f 7 0 0).toNat / 4 : Nat) : Int)) 2 t 1 (-6))
noncomputable def athing (f : xa_H) (t : Int) : Int × xa_H := if 0 ≤ t ∧ t ≤ 3 then (if ythf (f 8 0) (f 7 0 0).toNat < 0 then ((((f 7 0 0).toNat / 4 : Nat) : Int), athg1 f t.toNat) else (-5, f)) else (-1, f)
section TG
variable {f : xa_H} {t : Nat}
theorem athg_k {K : Nat} (h2 : ¬ K = 2) (h6 : ¬ K = 6) (h7 : ¬ K = 7) : athg1 f t K = f K := by
  funext i s
  unfold athg1 aclr
  rw [xup_o (by omega), xup_o (by omega), xup_o (by omega)]
  unfold atin
  rw [if_neg (by omega)]
theorem athg_2 {i s : Nat} : athg1 f t 2 i s = if i = t ∧ s = 0 then (((f 7 0 0).toNat / 4 : Nat) : Int) else if i = t ∧ s = 1 then -6 else f 2 i s := by
  unfold athg1 aclr
  rw [xup_o (by omega), xup_v, xup_v]
  by_cases h1 : i = t ∧ s = 1
  · rw [if_pos (by omega), if_neg (by omega), if_pos h1]
  · rw [if_neg (by omega)]
    by_cases h0 : i = t ∧ s = 0
    · rw [if_pos (by omega), if_pos h0]
    · rw [if_neg (by omega), if_neg h0, if_neg h1]
      unfold atin
      rw [if_neg (by omega)]
theorem athg_6 {i s : Nat} : athg1 f t 6 i s = if 10 * t ≤ i ∧ i < 10 * t + (f 7 0 0).toNat / 4 then (if s = 3 then (if f 8 0 (4 * (i - 10 * t) + 3) = 45 then -6 else f 8 0 (4 * (i - 10 * t) + 3) - 97) else f 8 0 (4 * (i - 10 * t) + s) - 48) else f 6 i s := by
  unfold athg1 aclr
  rw [xup_o (by omega), xup_o (by omega), xup_o (by omega)]
  unfold atin
  by_cases h : 10 * t ≤ i ∧ i < 10 * t + (f 7 0 0).toNat / 4
  · rw [if_pos ⟨rfl, h⟩, if_pos h]
  · rw [if_neg (fun q => h q.2), if_neg h]
theorem athg_7 : athg1 f t 7 0 0 = 0 := by unfold athg1 aclr; exact xup_at
theorem athg_n {k s : Nat} (hk : k < (f 7 0 0).toNat / 4) : athg1 f t 6 (10 * t + k) s = if s = 3 then (if f 8 0 (4 * k + 3) = 45 then -6 else f 8 0 (4 * k + 3) - 97) else f 8 0 (4 * k + s) - 48 := by
  rw [athg_6, if_pos (by omega), show 10 * t + k - 10 * t = k by omega]
theorem athg_o {t' k s : Nat} (h : ¬ t' = t ∨ (f 7 0 0).toNat / 4 ≤ k) (hk : k < 10) (hn : (f 7 0 0).toNat / 4 ≤ 10) : athg1 f t 6 (10 * t' + k) s = f 6 (10 * t' + k) s := by
  rw [athg_6, if_neg (by omega)]
theorem athg_C : ∀ k, k < (f 7 0 0).toNat / 4 → ∀ a, a < 3 → yC (athg1 f t) 0 t k a = yCs (f 8 0) k a := by
  intro k hk a ha
  show athg1 f t 6 (10 * t + k) a = f 8 0 (4 * k + a) - 48
  rw [athg_n hk, if_neg (by omega)]
end TG
theorem ygr_a {C C' : Nat → Nat → Int} {n a : Nat} (ha : a < 3) (h : ∀ k, k < n → ∀ a, a < 3 → C k a = C' k a) : ygr C a n = ygr C' a n := ygr_c (fun k hk => h k hk a ha)
theorem ysv_a {C C' : Nat → Nat → Int} {n : Nat} (h : ∀ k, k < n → ∀ a, a < 3 → C k a = C' k a) (hs : ysv n C) : ysv n C' := by
  refine ⟨fun k hk a ha => by rw [← h k hk a ha]; exact hs.1 k hk a ha, fun a ha => ?_⟩
  obtain ⟨k, h1, h2⟩ := hs.2 a ha
  exact ⟨k, h1, by rw [← h k h1 a ha]; exact h2⟩
/-- a thing that was not told anew -/
theorem ythv_o {f f' : xa_H} {t : Nat} (h0 : f' 0 = f 0) (h2 : f' 2 t = f 2 t) (h5 : f' 5 t = f 5 t) (h6 : ∀ k, k < (f 2 t 0).toNat → f' 6 (10 * t + k) = f 6 (10 * t + k)) (hv : ythv f 0 t) : ythv f' 0 t := by
  obtain ⟨k1, k2, k3, k4, k5, k6, k7⟩ := hv
  have e2 : f' (0 + 2) t = f (0 + 2) t := h2
  have e0 : f' 0 = f 0 := h0
  have e5 : f' (0 + 5) t = f (0 + 5) t := h5
  have eC : ∀ k, k < (f (0 + 2) t 0).toNat → ∀ a, yC f 0 t k a = yC f' 0 t k a := by
    intro k hk a
    show f 6 (10 * t + k) a = f' 6 (10 * t + k) a
    rw [h6 k hk]
  refine ⟨by rw [e2]; exact k1, fun h => ?_, fun k hk => ?_, ?_, by rw [e2]; exact k5, by rw [e2, e0]; exact k6, by rw [e5]; exact k7⟩
  · rw [e2] at h ⊢
    exact ysv_c eC (k2 h)
  · rw [e2] at hk
    have : f' (0 + 6) (10 * t + k) = f (0 + 6) (10 * t + k) := h6 k hk
    rw [this]
    exact k3 k hk
  · rw [e2]
    rcases k4 with h | ⟨l1, l2, l3, l4⟩
    · exact Or.inl h
    · right
      refine ⟨by rw [e2]; exact l1, by rw [e2]; exact l2, by rw [e2, e0]; exact l3, fun k hk => ?_⟩
      rw [e2] at hk
      rw [e2, e0, ← yat_c eC hk, ← yat_c eC hk, ← yat_c eC hk]
      exact l4 k hk
theorem V_thg {f : xa_H} (hv : yv f) {t : Nat} (ht : t < 4) (hh : ythf (f 8 0) (f 7 0 0).toNat < 0) : yv (athg1 f t) := by
  have hg := ypg_v hv
  obtain ⟨n4, n1, n40⟩ := ythf_4 hh
  obtain ⟨hst, _⟩ := ythf_n hh
  obtain ⟨k1, k2, k3, k4⟩ := hv.1
  refine yv_up hv ⟨by rw [athg_k (by decide) (by decide) (by decide)]; exact k1, by rw [athg_k (by decide) (by decide) (by decide)]; exact k2, fun t' ht' => ?_, by rw [athg_k (by decide) (by decide) (by decide), athg_k (by decide) (by decide) (by decide)]; exact k4⟩ ?_ (fun K hK => athg_k (by omega) (by omega) (by omega))
  · by_cases htt : t' = t
    · subst htt
      obtain ⟨d1, d2, d3, d4, d5, d6, d7⟩ := k3 t' ht'
      have e0 : athg1 f t' (0 + 2) t' 0 = (((f 7 0 0).toNat / 4 : Nat) : Int) := by rw [athg_2, if_pos ⟨rfl, rfl⟩]
      have e1 : athg1 f t' (0 + 2) t' 1 = -6 := by rw [athg_2, if_neg (by omega), if_pos ⟨rfl, rfl⟩]
      have e2 : athg1 f t' (0 + 2) t' 2 = f 2 t' 2 := by rw [athg_2, if_neg (by omega), if_neg (by omega)]
      have e3 : athg1 f t' (0 + 2) t' 3 = f 2 t' 3 := by rw [athg_2, if_neg (by omega), if_neg (by omega)]
      have tn : ((((f 7 0 0).toNat / 4 : Nat) : Int)).toNat = (f 7 0 0).toNat / 4 := rfl
      refine ⟨by rw [e0]; omega, fun _ => ?_, fun k hk => ?_, Or.inl e1, by rw [e2]; exact d5, ?_, ?_⟩
      · rw [e0, tn]
        exact ysv_a (fun k hk a ha => (athg_C k hk a ha).symm) (yCs_s hh)
      · rw [e0, tn] at hk
        have e : athg1 f t' (0 + 6) (10 * t' + k) 3 = if f 8 0 (4 * k + 3) = 45 then -6 else f 8 0 (4 * k + 3) - 97 := by
          have := athg_n (f := f) (t := t') (s := 3) hk
          rw [if_pos rfl] at this
          exact this
        rw [e]
        have h3 := (hst (4 * k + 3) (by omega)).2.1 (by omega)
        by_cases h45 : f 8 0 (4 * k + 3) = 45
        · rw [if_pos h45]; exact Or.inl rfl
        · rw [if_neg h45]; right; omega
      · rw [e3, athg_k (by decide) (by decide) (by decide)]; exact d6
      · rw [athg_k (show ¬ 0 + 5 = 2 by decide) (by decide) (by decide)]; exact d7
    · refine ythv_o (athg_k (by decide) (by decide) (by decide)) ?_ ?_ (fun k hk => ?_) (k3 t' ht')
      · funext s
        rw [athg_2, if_neg (fun q => htt q.1), if_neg (fun q => htt q.1)]
      · rw [athg_k (by decide) (by decide) (by decide)]
      · funext s
        have : f 2 t' 0 ≤ 10 := (k3 t' ht').1.2
        exact athg_o (Or.inl htt) (by omega) (by omega)
  · rw [athg_7]
    exact ⟨by decide, fun i hi => by have : i < 0 := hi; omega⟩
theorem V_thing {f : xa_H} (hv : yv f) (t : Int) : yv (athing f t).2 := by
  unfold athing
  split
  · split
    · exact V_thg hv (by omega) (by assumption)
    · exact hv
  · exact hv
/-- a cube is put -/
theorem q_putC {i0 j : Nat} (hj : j < 10) (u v w : Int) (σ : xa_H) : xW (fm_Thing_put i0 (j : Int) u v w σ) fun g => (∀ K i' s', ¬ (K = 27 ∧ i' = i0 ∧ 3 * j ≤ s' ∧ s' < 3 * j + 3) → ¬ (K = 29 ∧ i' = i0 ∧ s' < 3) → g K i' s' = σ K i' s') ∧
    (g 27 i0 (3 * j) = u ∧ g 27 i0 (3 * j + 1) = v ∧ g 27 i0 (3 * j + 2) = w) ∧
    (g 29 i0 0 = (if σ 29 i0 0 < u then u else σ 29 i0 0) ∧ g 29 i0 1 = (if σ 29 i0 1 < v then v else σ 29 i0 1) ∧ g 29 i0 2 = (if σ 29 i0 2 < w then w else σ 29 i0 2)) := by
  have e1 : w32 ((j : Int) * 3) = ((3 * j : Nat) : Int) := w32_k (by omega) (by omega)
  have e2 : w32 (((3 * j : Nat) : Int) + 1) = ((3 * j + 1 : Nat) : Int) := w32_s (by omega)
  have e3 : w32 (((3 * j : Nat) : Int) + 2) = ((3 * j + 2 : Nat) : Int) := w32_k (by omega) (by omega)
  unfold fm_Thing_put
  rw [e1, e2, e3]
  refine xW_be (wr27 (by omega)) (xW_be (wr27 (by omega)) (xW_be (wr27 (by omega)) ?_))
  generalize hS : xup (xup (xup σ 27 i0 (3 * j) u) 27 i0 (3 * j + 1) v) 27 i0 (3 * j + 2) w = S
  have f3 : ∀ K i' s', ¬ (K = 27 ∧ i' = i0 ∧ 3 * j ≤ s' ∧ s' < 3 * j + 3) → S K i' s' = σ K i' s' := by
    intro K i' s' h
    rw [← hS, xup_o (by omega), xup_o (by omega), xup_o (by omega)]
  have a1 : S 27 i0 (3 * j) = u := by rw [← hS, xup_o (by omega), xup_o (by omega), xup_at]
  have a2 : S 27 i0 (3 * j + 1) = v := by rw [← hS, xup_o (by omega), xup_at]
  have a3 : S 27 i0 (3 * j + 2) = w := by rw [← hS, xup_at]
  refine xW_nmg (fun s4 h4 => xW_nmg (fun s5 h5 => xW_nmg (fun s6 h6 => xW_some ?_)))
  have h4 : s4 = xup S 29 i0 0 (if S 29 i0 0 < u then u else S 29 i0 0) := h4
  have h5 : s5 = xup s4 29 i0 1 (if s4 29 i0 1 < v then v else s4 29 i0 1) := h5
  have h6 : s6 = xup s5 29 i0 2 (if s5 29 i0 2 < w then w else s5 29 i0 2) := h6
  have g4 : ∀ K i' s', ¬ (K = 29 ∧ i' = i0 ∧ s' = 0) → s4 K i' s' = S K i' s' := by intro K i' s' h; rw [h4, xup_o h]
  have g5 : ∀ K i' s', ¬ (K = 29 ∧ i' = i0 ∧ s' = 1) → s5 K i' s' = s4 K i' s' := by intro K i' s' h; rw [h5, xup_o h]
  have g6 : ∀ K i' s', ¬ (K = 29 ∧ i' = i0 ∧ s' = 2) → s6 K i' s' = s5 K i' s' := by intro K i' s' h; rw [h6, xup_o h]
  refine ⟨fun K i' s' d1 d2 => ?_, ⟨?_, ?_, ?_⟩, ?_, ?_, ?_⟩
  · rw [g6 _ _ _ (by omega), g5 _ _ _ (by omega), g4 _ _ _ (by omega), f3 _ _ _ d1]
  · rw [g6 _ _ _ (by omega), g5 _ _ _ (by omega), g4 _ _ _ (by omega), a1]
  · rw [g6 _ _ _ (by omega), g5 _ _ _ (by omega), g4 _ _ _ (by omega), a2]
  · rw [g6 _ _ _ (by omega), g5 _ _ _ (by omega), g4 _ _ _ (by omega), a3]
  · rw [g6 _ _ _ (by omega), g5 _ _ _ (by omega), h4, xup_at, f3 _ _ _ (by omega)]
  · rw [g6 _ _ _ (by omega), h5, xup_at, g4 _ _ _ (by omega), f3 _ _ _ (by omega)]
  · rw [h6, xup_at, g5 _ _ _ (by omega), g4 _ _ _ (by omega), f3 _ _ _ (by omega)]
theorem q_tell {σ : xa_H} {s : Nat → Int} {n : Nat} (hg : ypg s n) (hp : ypc σ s n) (hh : ythf s n < 0) (i0 : Nat) : xW (fm_Thing_tell i0 σ) fun g => (∀ K i' s', ¬ ((K = 5 ∨ K = 27 ∨ K = 28 ∨ K = 29) ∧ i' = i0) → g K i' s' = σ K i' s') ∧
    (∀ s', ¬ s' = 0 → ¬ s' = 1 → g 5 i0 s' = σ 5 i0 s') ∧ (g 5 i0 0 = ((n / 4 : Nat) : Int) ∧ g 5 i0 1 = -6) ∧
    (∀ k, k < n / 4 → (∀ a, a < 3 → g 27 i0 (3 * k + a) = yCs s k a) ∧ g 28 i0 k = if s (4 * k + 3) = 45 then 0 else s (4 * k + 3) - 96) ∧ ∀ a, a < 3 → g 29 i0 a = ygr (yCs s) a (n / 4) := by
  obtain ⟨n4, n1, n40⟩ := ythf_4 hh
  obtain ⟨hst, _⟩ := ythf_n hh
  have e0 : xdiv (σ 2 0 1) 4 = ((n / 4 : Nat) : Int) := by rw [hp.1, xdiv_p (by omega)]; omega
  unfold fm_Thing_tell
  rw [e0, if_neg (show ¬ 10 < ((n / 4 : Nat) : Int) by omega)]
  refine xW_nm (xW_nm (xW_bind (q_fill (K := 29) (n := 3) rfl (by decide) 0 _) ?_))
  rintro s3 ⟨c1, c2⟩
  have s5 : s3 5 i0 0 = ((n / 4 : Nat) : Int) := by rw [c1 5 i0 0 (by omega), xup_o (by omega), xup_at]
  have s51 : s3 5 i0 1 = -6 := by rw [c1 5 i0 1 (by omega), xup_at]
  have s5o : ∀ K i' s', ¬ (K = 29 ∧ i' = i0) → ¬ (K = 5 ∧ i' = i0 ∧ (s' = 0 ∨ s' = 1)) → s3 K i' s' = σ K i' s' := by
    intro K i' s' h1 h2
    rw [c1 K i' s' h1, xup_o (by omega), xup_o (by omega)]
  refine xfor0 (fun m (x : Int) (g : xa_H) => fm_Thing_tell_31 i0 (fun s10 => some s10) m x g) (n / 4)
    (fun x g => (∀ K i' s', ¬ ((K = 27 ∨ K = 28 ∨ K = 29) ∧ i' = i0) → g K i' s' = s3 K i' s') ∧
      (∀ k, k < x → (∀ a, a < 3 → g 27 i0 (3 * k + a) = yCs s k a) ∧ g 28 i0 k = if s (4 * k + 3) = 45 then 0 else s (4 * k + 3) - 96) ∧ ∀ a, a < 3 → g 29 i0 a = ygr (yCs s) a x) _ (xfu_b (by omega)) ?_ ?_ s3 ⟨fun _ _ _ _ => rfl, fun k hk => by omega, fun a ha => by rw [c2 a ha]; rfl⟩
  · rintro fu x g hx ⟨i1, i2, i3⟩ ih
    show xW (fm_Thing_tell_31 i0 _ (fu + 1) (x : Int) g) _
    have hN : g 5 i0 0 = ((n / 4 : Nat) : Int) := by rw [i1 5 i0 0 (by omega), s5]
    have hpc : ∀ g', (∀ K i' s', ¬ ((K = 27 ∨ K = 28 ∨ K = 29) ∧ i' = i0) → g' K i' s' = s3 K i' s') → ypc g' s n := by
      intro g' h
      refine ⟨?_, fun i hi => ?_⟩
      · rw [h 2 0 1 (by omega), s5o 2 0 1 (by omega) (by omega)]; exact hp.1
      · rw [h 17 0 i (by omega), s5o 17 0 i (by omega) (by omega)]; exact hp.2 i hi
    rw [fm_Thing_tell_31, hN]
    have ex : w32 ((x : Int) * 4) = ((4 * x : Nat) : Int) := w32_k (by omega) (by omega)
    have ex1 : w32 (((4 * x : Nat) : Int) + 1) = ((4 * x + 1 : Nat) : Int) := w32_s (by omega)
    have ex2 : w32 (((4 * x : Nat) : Int) + 2) = ((4 * x + 2 : Nat) : Int) := w32_k (by omega) (by omega)
    have ex3 : w32 (((4 * x : Nat) : Int) + 3) = ((4 * x + 3 : Nat) : Int) := w32_k (by omega) (by omega)
    refine xW_f (by omega) (xW_nm ?_)
    rw [ex, ex1, ex2, ex3]
    have hpg := hpc g i1
    refine xW_be (q_digit hg hpg (by omega)) (xW_be (q_digit hg hpg (by omega)) (xW_be (q_digit hg hpg (by omega)) (xW_bind (q_putC (by omega) _ _ _ g) ?_)))
    rintro s6 ⟨p1, ⟨p2, p3, p4⟩, p5, p6, p7⟩
    have p1' : ∀ K i' s', ¬ ((K = 27 ∨ K = 28 ∨ K = 29) ∧ i' = i0) → s6 K i' s' = s3 K i' s' := by
      intro K i' s' h
      rw [p1 K i' s' (by omega) (by omega)]
      exact i1 K i' s' h
    refine xW_be (q_group hg (hpc s6 p1') (i := 4 * x + 3) (by omega)) (xW_be (wr28 (by omega)) (xW_nm ?_))
    rw [w32_s (by omega)]
    refine ih _ ⟨fun K i' s' h => ?_, fun k hk => ?_, fun a ha => ?_⟩
    · rw [xup_o (by omega)]; exact p1' K i' s' h
    · by_cases hkx : k = x
      · subst hkx
        refine ⟨fun a ha => ?_, ?_⟩
        · rw [xup_o (by omega)]
          have : a = 0 ∨ a = 1 ∨ a = 2 := by omega
          rcases this with h | h | h <;> subst h
          · exact p2
          · exact p3
          · exact p4
        · rw [xup_at]
          have h3 := (hst (4 * k + 3) (by omega)).2.1 (by omega)
          by_cases h45 : s (4 * k + 3) = 45
          · rw [if_pos h45, if_pos h45]
          · rw [if_neg h45, if_neg h45, if_neg (by omega), if_neg (by omega)]
      · obtain ⟨j1, j2⟩ := i2 k (by omega)
        refine ⟨fun a ha => ?_, ?_⟩
        · rw [xup_o (by omega), p1 27 i0 _ (by omega) (by omega)]; exact j1 a ha
        · rw [xup_o (by omega), p1 28 i0 _ (by omega) (by omega)]; exact j2
    · rw [xup_o (by omega)]
      unfold ygr
      have : a = 0 ∨ a = 1 ∨ a = 2 := by omega
      rcases this with h | h | h <;> subst h
      · rw [p5, i3 0 ha]; rfl
      · rw [p6, i3 1 ha]; rfl
      · rw [p7, i3 2 ha]; rfl
  · rintro fu g ⟨i1, i2, i3⟩
    show xW (fm_Thing_tell_31 i0 _ (fu + 1) ((n / 4 : Nat) : Int) g) _
    have hN : g 5 i0 0 = ((n / 4 : Nat) : Int) := by rw [i1 5 i0 0 (by omega), s5]
    rw [fm_Thing_tell_31, hN]
    refine xW_t (by omega) (xW_some ⟨fun K i' s' h => ?_, fun s' h1 h2 => ?_, ⟨hN, ?_⟩, i2, i3⟩)
    · rw [i1 K i' s' (by omega), s5o K i' s' (by omega) (by omega)]
    · rw [i1 5 i0 s' (by omega), s5o 5 i0 s' (by omega) (by omega)]
    · rw [i1 5 i0 1 (by omega), s51]
theorem K_thing {σ f : xa_H} (hs : yc σ f) (hv : yv f) (t : Int) : xW (fm_S_thing t σ) fun r => r.1 = (athing f t).1 ∧ yc r.2 (athing f t).2 := by
  obtain ⟨hpc, hg⟩ := ypd_c hs.1 hv
  unfold fm_S_thing
  by_cases h : 0 ≤ t ∧ t ≤ 3
  · refine xW_f (by omega) (xW_f (by omega) (xW_t (by omega) (xW_be (q_thingFaultC hg hpc) ?_)))
    by_cases hh : ythf (f 8 0) (f 7 0 0).toNat < 0
    · have h6 : ythf (f 8 0) (f 7 0 0).toNat = -6 := by
        obtain ⟨a, b⟩ := ythf_n hh
        have key : ∀ d j : Nat, j + d = (f 7 0 0).toNat → ytf0 (f 8 0) (-6) d j = -6 := by
          intro d
          induction d with
          | zero => intro j _; rfl
          | succ d ih =>
            intro j hj
            unfold ytf0
            rw [if_pos (a j (by omega))]
            exact ih (j + 1) (by omega)
        unfold ythf
        rw [if_pos b]
        exact key _ 0 (by omega)
      have eA : athing f t = ((((f 7 0 0).toNat / 4 : Nat) : Int), athg1 f t.toNat) := by unfold athing; rw [if_pos h, if_pos hh]
      rw [eA]
      have e4 : 4 * 0 + t.toNat = t.toNat := by omega
      rw [e4]
      have ht : t.toNat < 4 := by omega
      generalize t.toNat = u at ht ⊢
      refine xW_t h6 (xW_bind (q_tell hg hpc hh u) ?_)
      rintro g ⟨i1, i2, ⟨i3, i4⟩, i5, i6⟩
      have epc : fm_Pad_clear g = some (g 2 0 1, xup g 2 0 1 0) := rfl
      have hfw : fm_S_forgetWay (xup g 2 0 1 0) = some (xup (xup (xup g 2 0 1 0) 3 0 8 (-1)) 0 0 1 0) := rfl
      refine xW_be2 epc (xW_be hfw (xW_some ⟨?_, ?_⟩))
      · show xup (xup (xup g 2 0 1 0) 3 0 8 (-1)) 0 0 1 0 5 u 0 = _
        rw [xup_o (by omega), xup_o (by omega), xup_o (by omega), i3]
      · show yc (xup (xup (xup g 2 0 1 0) 3 0 8 (-1)) 0 0 1 0) (athg1 f u)
        obtain ⟨n4, n1, n40⟩ := ythf_4 hh
        have ho : ∀ K i' s', ¬ (K = 2 ∧ i' = 0 ∧ s' = 1) → ¬ K = 3 → ¬ K = 0 → xup (xup (xup g 2 0 1 0) 3 0 8 (-1)) 0 0 1 0 K i' s' = g K i' s' := by
          intro K i' s' d1 d2 d3
          rw [xup_o (by omega), xup_o (by omega), xup_o (by omega)]
        have hk : ∀ K, ¬ K = 2 → ¬ K = 3 → ¬ K = 0 → ¬ (K = 5 ∨ K = 27 ∨ K = 28 ∨ K = 29) → xup (xup (xup g 2 0 1 0) 3 0 8 (-1)) 0 0 1 0 K = σ K := by
          intro K d1 d2 d3 d4
          funext i' s'
          rw [ho K i' s' (by omega) d2 d3]
          exact i1 K i' s' (by omega)
        have e3 : ∀ s', ¬ s' = 8 → xup (xup (xup g 2 0 1 0) 3 0 8 (-1)) 0 0 1 0 3 0 s' = σ 3 0 s' := by
          intro s' hs'
          rw [xup_o (by omega), xup_o (by omega), xup_o (by omega)]
          exact i1 3 0 s' (by omega)
        have e38 : xup (xup (xup g 2 0 1 0) 3 0 8 (-1)) 0 0 1 0 3 0 8 = -1 := by rw [xup_o (by omega), xup_at]
        have e201 : xup (xup (xup g 2 0 1 0) 3 0 8 (-1)) 0 0 1 0 2 0 1 = 0 := by rw [xup_o (by omega), xup_o (by omega), xup_at]
        have e001 : xup (xup (xup g 2 0 1 0) 3 0 8 (-1)) 0 0 1 0 0 0 1 = 0 := xup_at
        generalize xup (xup (xup g 2 0 1 0) 3 0 8 (-1)) 0 0 1 0 = F at ho hk e3 e38 e201 e001 ⊢
        refine ⟨?_, Or.inl (by rw [e38]; decide), ?_, Or.inl e001⟩
        · refine yst_up hs.1 ⟨hk 31 (by decide) (by decide) (by decide) (by decide), hk 32 (by decide) (by decide) (by decide) (by decide), hk 19 (by decide) (by decide) (by decide) (by decide)⟩ ?_ ?_ (ypd_0 e201) ?_ ?_ (fun K hK => athg_k (by omega) (by omega) (by omega))
          · obtain ⟨b1, b2, b3, b4⟩ := hs.1.2.1
            refine ⟨?_, ?_, fun t' ht' => ?_, ?_⟩
            · rw [hk 7 (by decide) (by decide) (by decide) (by decide), athg_k (by decide) (by decide) (by decide)]; exact b1
            · rw [hk 33 (by decide) (by decide) (by decide) (by decide), athg_k (by decide) (by decide) (by decide)]; exact b2
            · obtain ⟨⟨d0, d1, d2, d3⟩, d4, d5, d6⟩ := b3 t' ht'
              have e4' : 4 * 0 + t' = t' := by omega
              rw [e4'] at d0 d1 d2 d3 d4 d5 d6 ⊢
              have h30 : ∀ j, j < 4 → F 30 t' j = athg1 f u (0 + 5) t' j := by
                rw [hk 30 (by decide) (by decide) (by decide) (by decide), athg_k (by decide) (by decide) (by decide)]; exact d4
              by_cases htu : t' = u
              · subst htu
                have q0 : athg1 f t' (0 + 2) t' 0 = (((f 7 0 0).toNat / 4 : Nat) : Int) := by rw [athg_2, if_pos ⟨rfl, rfl⟩]
                have q1 : athg1 f t' (0 + 2) t' 1 = -6 := by rw [athg_2, if_neg (by omega), if_pos ⟨rfl, rfl⟩]
                have q2 : athg1 f t' (0 + 2) t' 2 = f 2 t' 2 := by rw [athg_2, if_neg (by omega), if_neg (by omega)]
                have q3 : athg1 f t' (0 + 2) t' 3 = f 2 t' 3 := by rw [athg_2, if_neg (by omega), if_neg (by omega)]
                have tn : ((((f 7 0 0).toNat / 4 : Nat) : Int)).toNat = (f 7 0 0).toNat / 4 := rfl
                refine ⟨⟨?_, ?_, ?_, ?_⟩, h30, fun k hk' => ?_, fun a ha => ?_⟩
                · rw [q0, ho 5 t' 0 (by omega) (by decide) (by decide), i3]
                · rw [q1, ho 5 t' 1 (by omega) (by decide) (by decide), i4]
                · rw [q2, ho 5 t' 2 (by omega) (by decide) (by decide), i2 2 (by decide) (by decide)]; exact d2
                · rw [q3, ho 5 t' 3 (by omega) (by decide) (by decide), i2 3 (by decide) (by decide)]; exact d3
                · rw [q0, tn] at hk'
                  obtain ⟨j1, j2⟩ := i5 k hk'
                  refine ⟨fun a ha => ?_, ?_⟩
                  · rw [ho 27 t' _ (by omega) (by decide) (by decide), j1 a ha]
                    exact (athg_C k hk' a ha).symm
                  · rw [ho 28 t' _ (by omega) (by decide) (by decide), j2]
                    have e : athg1 f t' (0 + 6) (10 * t' + k) 3 = if f 8 0 (4 * k + 3) = 45 then -6 else f 8 0 (4 * k + 3) - 97 := by
                      have := athg_n (f := f) (t := t') (s := 3) hk'
                      rw [if_pos rfl] at this
                      exact this
                    rw [e]
                    have h3 := ((ythf_n hh).1 (4 * k + 3) (by omega)).2.1 (by omega)
                    by_cases h45 : f 8 0 (4 * k + 3) = 45
                    · rw [if_pos h45, if_pos h45, if_pos (by decide)]
                    · rw [if_neg h45, if_neg h45, if_neg (by omega)]; omega
                · rw [q0, tn, ho 29 t' _ (by omega) (by decide) (by decide), i6 a ha]
                  exact ygr_a ha (fun k hk a ha => (athg_C k hk a ha).symm)
              · have r2 : athg1 f u (0 + 2) t' = f (0 + 2) t' := by
                  funext s
                  rw [athg_2, if_neg (fun q => htu q.1), if_neg (fun q => htu q.1)]
                have h10 : f (0 + 2) t' 0 ≤ 10 := (hv.1.2.2.1 t' ht').1.2
                have r6 : ∀ k, k < (f (0 + 2) t' 0).toNat → athg1 f u (0 + 6) (10 * t' + k) = f (0 + 6) (10 * t' + k) := by
                  intro k hk'
                  funext s
                  exact athg_o (Or.inl htu) (by omega) (by omega)
                have hF : ∀ K s', (K = 5 ∨ K = 27 ∨ K = 28 ∨ K = 29) → F K t' s' = σ K t' s' := by
                  intro K s' hK
                  rw [ho K t' s' (by omega) (by omega) (by omega)]
                  exact i1 K t' s' (by omega)
                refine ⟨?_, h30, fun k hk' => ?_, fun a ha => ?_⟩
                · rw [r2, hF 5 0 (by decide), hF 5 1 (by decide), hF 5 2 (by decide), hF 5 3 (by decide)]; exact ⟨d0, d1, d2, d3⟩
                · rw [r2] at hk'
                  rw [r6 k hk']
                  obtain ⟨j1, j2⟩ := d5 k hk'
                  exact ⟨fun a ha => by rw [hF 27 _ (by decide)]; exact j1 a ha, by rw [hF 28 _ (by decide)]; exact j2⟩
                · rw [r2, hF 29 _ (by decide), d6 a ha]
                  refine ygr_c (fun k hk' => ?_)
                  show f (0 + 6) (10 * t' + k) a = athg1 f u (0 + 6) (10 * t' + k) a
                  rw [r6 k hk']
            · rw [hk 25 (by decide) (by decide) (by decide) (by decide), hk 26 (by decide) (by decide) (by decide) (by decide), athg_k (by decide) (by decide) (by decide), athg_k (by decide) (by decide) (by decide)]; exact b4
          · intro p m hp hm
            rw [hk 34 (by decide) (by decide) (by decide) (by decide), hs.1.2.2.1 p m hp hm]
            exact (ybs_e (athg_k (by decide) (by decide) (by decide))).symm
          · intro K hK i hi1 _
            by_cases h4 : K = 4 ∨ True
            · rw [hk K (by omega) (by omega) (by omega) (by omega)]
            · exact absurd (Or.inr trivial) h4
          · intro K hK i hi1 _
            funext s'
            rw [ho K i s' (by omega) (by omega) (by omega)]
            exact i1 K i s' (by omega)
        · unfold yfl
          rw [e3 10 (by decide), hk 22 (by decide) (by decide) (by decide) (by decide), hk 23 (by decide) (by decide) (by decide) (by decide)]
          exact hs.2.2.1
    · have eA : athing f t = (-5, f) := by unfold athing; rw [if_pos h, if_neg hh]
      rw [eA]
      exact xW_f (by omega) (xW_some ⟨rfl, hs⟩)
  · have eA : athing f t = (-1, f) := if_neg h
    rw [eA]
    by_cases d : t < 0
    · exact xW_t d (xW_some ⟨rfl, hs⟩)
    · exact xW_f d (xW_t (by omega) (xW_some ⟨rfl, hs⟩))
/-- the reference tells -/
theorem l_Mtell {σ : xa_H} {s : Nat → Int} {n t : Nat} (ht : t < 4) (hg : ypg s n) (hp : ∀ i, i < n → σ 65 0 i = s i) (hN : σ 54 0 t = ((n / 4 : Nat) : Int)) (hh : ythf s n < 0) {K : xa_H → Option (Int × xa_H)} {Q : Int × xa_H → Prop}
    (hK : ∀ g, (∀ K' i' s', ¬ ((K' = 55 ∨ K' = 56 ∨ K' = 57 ∨ K' = 58) ∧ i' = 0 ∧ 10 * t ≤ s' ∧ s' < 10 * t + n / 4) → g K' i' s' = σ K' i' s') →
      (∀ k, k < n / 4 → (g 55 0 (10 * t + k) = yCs s k 0 ∧ g 56 0 (10 * t + k) = yCs s k 1 ∧ g 57 0 (10 * t + k) = yCs s k 2) ∧ g 58 0 (10 * t + k) = if s (4 * k + 3) = 45 then -6 else s (4 * k + 3) - 97) → xW (K g) Q) :
    xW (fm_M_thing_33 (t : Int) K xFU 0 σ) Q := by
  obtain ⟨n4, n1, n40⟩ := ythf_4 hh
  refine xfor0 (fun m (x : Int) (g : xa_H) => fm_M_thing_33 (t : Int) K m x g) (n / 4)
    (fun x g => (∀ K' i' s', ¬ ((K' = 55 ∨ K' = 56 ∨ K' = 57 ∨ K' = 58) ∧ i' = 0 ∧ 10 * t ≤ s' ∧ s' < 10 * t + n / 4) → g K' i' s' = σ K' i' s') ∧
      (∀ k, k < x → (g 55 0 (10 * t + k) = yCs s k 0 ∧ g 56 0 (10 * t + k) = yCs s k 1 ∧ g 57 0 (10 * t + k) = yCs s k 2) ∧ g 58 0 (10 * t + k) = if s (4 * k + 3) = 45 then -6 else s (4 * k + 3) - 97)) _ (xfu_b (by omega)) ?_ ?_ σ ⟨fun _ _ _ _ => rfl, fun k hk => by omega⟩
  · rintro fu x g hx ⟨i1, i2⟩ ih
    show xW (fm_M_thing_33 (t : Int) K (fu + 1) (x : Int) g) _
    have tn : ∀ j : Nat, ((j : Int)).toNat = j := fun j => rfl
    have h54 : g 54 0 t = ((n / 4 : Nat) : Int) := by rw [i1 54 0 t (by omega), hN]
    have h65 : ∀ i, i < n → g 65 0 i = s i := fun i hi => by rw [i1 65 0 i (by omega), hp i hi]
    have ev : w32 (w32 (10 * (t : Int)) + (x : Int)) = ((10 * t + x : Nat) : Int) := w32_2 (by omega) (by omega) (by omega)
    have e4 : w32 (4 * (x : Int)) = ((4 * x : Nat) : Int) := w32_k (by omega) (by omega)
    have e1 : w32 (((4 * x : Nat) : Int) + 1) = ((4 * x + 1 : Nat) : Int) := w32_s (by omega)
    have e2 : w32 (((4 * x : Nat) : Int) + 2) = ((4 * x + 2 : Nat) : Int) := w32_k (by omega) (by omega)
    have e3 : w32 (((4 * x : Nat) : Int) + 3) = ((4 * x + 3 : Nat) : Int) := w32_k (by omega) (by omega)
    have hr : ∀ i, i < n → 33 ≤ s i ∧ s i ≤ 126 := hg.2
    rw [fm_M_thing_33, ev, e4, e1, e2, e3, tn, tn, tn, tn, tn, h54]
    refine xW_t ⟨by omega, by omega⟩ (xW_f (by omega) (xW_nm (xW_t ⟨by omega, by omega⟩ (xW_t ⟨by omega, by omega⟩ (xW_nmg (fun s3 g3 => ?_))))))
    rw [tn, h65 (4 * x) (by omega), w32_n (by have := hr (4 * x) (by omega); omega) (by have := hr (4 * x) (by omega); omega)] at g3
    have f3 : ∀ K' i' s', ¬ (K' = 55 ∧ i' = 0 ∧ s' = 10 * t + x) → s3 K' i' s' = g K' i' s' := fun K' i' s' q => by rw [g3, xup_o q]
    refine xW_t ⟨by omega, by omega⟩ (xW_t ⟨by omega, by omega⟩ (xW_nmg (fun s4 g4 => ?_)))
    rw [tn, f3 65 0 (4 * x + 1) (by omega), h65 (4 * x + 1) (by omega), w32_n (by have := hr (4 * x + 1) (by omega); omega) (by have := hr (4 * x + 1) (by omega); omega)] at g4
    have f4 : ∀ K' i' s', ¬ (K' = 56 ∧ i' = 0 ∧ s' = 10 * t + x) → s4 K' i' s' = s3 K' i' s' := fun K' i' s' q => by rw [g4, xup_o q]
    refine xW_t ⟨by omega, by omega⟩ (xW_t ⟨by omega, by omega⟩ (xW_nmg (fun s5 g5 => ?_)))
    rw [tn, f4 65 0 (4 * x + 2) (by omega), f3 65 0 (4 * x + 2) (by omega), h65 (4 * x + 2) (by omega), w32_n (by have := hr (4 * x + 2) (by omega); omega) (by have := hr (4 * x + 2) (by omega); omega)] at g5
    have f5 : ∀ K' i' s', ¬ (K' = 57 ∧ i' = 0 ∧ s' = 10 * t + x) → s5 K' i' s' = s4 K' i' s' := fun K' i' s' q => by rw [g5, xup_o q]
    have h5 : s5 65 0 (4 * x + 3) = s (4 * x + 3) := by rw [f5 65 0 _ (by omega), f4 65 0 _ (by omega), f3 65 0 _ (by omega), h65 _ (by omega)]
    refine xW_t ⟨by omega, by omega⟩ (xW_j ?_)
    rw [h5]
    have hfin : ∀ v7 : Int, v7 = (if s (4 * x + 3) = 45 then -6 else s (4 * x + 3) - 97) → xW (if 0 ≤ ((10 * t + x : Nat) : Int) ∧ ((10 * t + x : Nat) : Int) < 50 then xnm (xup s5 58 0 (10 * t + x) v7) fun s10 => xnm (w32 ((x : Int) + 1) : Int) fun v11 => fm_M_thing_33 (t : Int) K fu v11 s10 else none) Q := by
      intro v7 hv7
      refine xW_t ⟨by omega, by omega⟩ (xW_nm (xW_nm ?_))
      rw [w32_s (by omega)]
      refine ih _ ⟨fun K' i' s' q => ?_, fun k hk => ?_⟩
      · rw [xup_o (by omega), f5 _ _ _ (by omega), f4 _ _ _ (by omega), f3 _ _ _ (by omega)]; exact i1 K' i' s' q
      · by_cases hkx : k = x
        · subst hkx
          refine ⟨⟨?_, ?_, ?_⟩, ?_⟩
          · rw [xup_o (by omega), f5 _ _ _ (by omega), f4 _ _ _ (by omega), g3, xup_at]; rfl
          · rw [xup_o (by omega), f5 _ _ _ (by omega), g4, xup_at]; rfl
          · rw [xup_o (by omega), g5, xup_at]; rfl
          · rw [xup_at]; exact hv7
        · obtain ⟨⟨j1, j2, j3⟩, j4⟩ := i2 k (by omega)
          refine ⟨⟨?_, ?_, ?_⟩, ?_⟩
          · rw [xup_o (by omega), f5 _ _ _ (by omega), f4 _ _ _ (by omega), f3 _ _ _ (by omega)]; exact j1
          · rw [xup_o (by omega), f5 _ _ _ (by omega), f4 _ _ _ (by omega), f3 _ _ _ (by omega)]; exact j2
          · rw [xup_o (by omega), f5 _ _ _ (by omega), f4 _ _ _ (by omega), f3 _ _ _ (by omega)]; exact j3
          · rw [xup_o (by omega), f5 _ _ _ (by omega), f4 _ _ _ (by omega), f3 _ _ _ (by omega)]; exact j4
    by_cases h45 : s (4 * x + 3) = 45
    · exact xW_t h45 (hfin _ (by rw [if_pos h45]))
    · refine xW_f h45 (xW_t ⟨by omega, by omega⟩ (hfin _ ?_))
      rw [if_neg h45, w32_n (by have := hr (4 * x + 3) (by omega); omega) (by have := hr (4 * x + 3) (by omega); omega)]
  · rintro fu g ⟨i1, i2⟩
    show xW (fm_M_thing_33 (t : Int) K (fu + 1) ((n / 4 : Nat) : Int) g) _
    have h54 : g 54 0 t = ((n / 4 : Nat) : Int) := by rw [i1 54 0 t (by omega), hN]
    have tn : ∀ j : Nat, ((j : Int)).toNat = j := fun j => rfl
    rw [fm_M_thing_33, tn, h54]
    exact xW_t ⟨by omega, by omega⟩ (xW_t (by omega) (hK g i1 i2))
theorem M_thing {σ f : xa_H} (hs : ym σ f) (hv : yv f) (t : Int) : xW (fm_M_thing t σ) fun r => r.1 = (athing f t).1 ∧ ym r.2 (athing f t).2 := by
  have hpm := ypd_m hs hv
  have hg := ypg_v hv
  unfold fm_M_thing
  refine xW_be (q_isThing t) ?_
  by_cases h : 0 ≤ t ∧ t ≤ 3
  · rw [if_pos h]
    refine xW_f (by decide) (xW_be (q_thingFaultM hg hpm) ?_)
    by_cases hh : ythf (f 8 0) (f 7 0 0).toNat < 0
    · have eA : athing f t = ((((f 7 0 0).toNat / 4 : Nat) : Int), athg1 f t.toNat) := by unfold athing; rw [if_pos h, if_pos hh]
      rw [eA]
      obtain ⟨u, hu⟩ : ∃ u : Nat, t = (u : Int) := ⟨t.toNat, by omega⟩
      subst hu
      have tn : ((u : Int)).toNat = u := rfl
      have hu4 : u < 4 := by omega
      rw [tn]
      refine xW_t hh (xW_t ⟨by omega, by omega⟩ (xW_nm ?_))
      obtain ⟨n4, n1, n40⟩ := ythf_4 hh
      have eN : xdiv (σ 9 0 19) 4 = (((f 7 0 0).toNat / 4 : Nat) : Int) := by rw [hpm.1, xdiv_p (by omega)]; omega
      rw [eN]
      refine l_Mtell hu4 hg (fun i hi => by rw [xup_o (by omega)]; exact hpm.2 i hi) xup_at hh ?_
      intro g i1 i2
      refine xW_t ⟨by omega, by omega⟩ (xW_nm (xW_nm (xW_t ⟨by omega, by omega⟩ (xW_some ⟨?_, ?_⟩))))
      · show xup (xup g 62 0 u (-6)) 9 0 19 0 54 0 u = _
        rw [xup_o (by omega), xup_o (by omega), i1 54 0 u (by omega), xup_at]
      · show ym (xup (xup g 62 0 u (-6)) 9 0 19 0) (athg1 f u)
        have ho : ∀ K i' s', ¬ ((K = 55 ∨ K = 56 ∨ K = 57 ∨ K = 58) ∧ i' = 0 ∧ 10 * u ≤ s' ∧ s' < 10 * u + (f 7 0 0).toNat / 4) → ¬ ((K = 54 ∨ K = 62) ∧ i' = 0 ∧ s' = u) → ¬ (K = 9 ∧ i' = 0 ∧ s' = 19) → xup (xup g 62 0 u (-6)) 9 0 19 0 K i' s' = σ K i' s' := by
          intro K i' s' d1 d2 d3
          rw [xup_o (by omega), xup_o (by omega), i1 K i' s' d1, xup_o (by omega)]
        have hk : ∀ K, ¬ K = 9 → ¬ K = 54 → ¬ K = 62 → ¬ (K = 55 ∨ K = 56 ∨ K = 57 ∨ K = 58) → xup (xup g 62 0 u (-6)) 9 0 19 0 K = σ K := by
          intro K d1 d2 d3 d4
          funext i' s'
          exact ho K i' s' (by omega) (by omega) (by omega)
        have v54 : xup (xup g 62 0 u (-6)) 9 0 19 0 54 0 u = (((f 7 0 0).toNat / 4 : Nat) : Int) := by rw [xup_o (by omega), xup_o (by omega), i1 54 0 u (by omega), xup_at]
        have v62 : xup (xup g 62 0 u (-6)) 9 0 19 0 62 0 u = -6 := by rw [xup_o (by omega), xup_at]
        have v9 : xup (xup g 62 0 u (-6)) 9 0 19 0 9 0 19 = 0 := xup_at
        have vc : ∀ K s', (K = 55 ∨ K = 56 ∨ K = 57 ∨ K = 58) → xup (xup g 62 0 u (-6)) 9 0 19 0 K 0 s' = g K 0 s' := by
          intro K s' hK
          rw [xup_o (by omega), xup_o (by omega)]
        generalize xup (xup g 62 0 u (-6)) 9 0 19 0 = F at ho hk v54 v62 v9 vc ⊢
        refine ym_up hs ⟨hk 50 (by decide) (by decide) (by decide) (by decide), hk 51 (by decide) (by decide) (by decide) (by decide), hk 75 (by decide) (by decide) (by decide) (by decide), hk 76 (by decide) (by decide) (by decide) (by decide)⟩ ?_ (ypd_0 v9) (fun K hK => athg_k (by omega) (by omega) (by omega))
        obtain ⟨e1, e2, e3, e4, e5, e6⟩ := hs.2.1
        refine ⟨?_, ?_, fun t' ht' => ?_, ?_, ?_, fun t' k ht' hk' => ?_⟩
        · rw [ho 9 0 3 (by omega) (by omega) (by omega), ho 9 0 4 (by omega) (by omega) (by omega), ho 9 0 5 (by omega) (by omega) (by omega), athg_k (by decide) (by decide) (by decide)]; exact e1
        · rw [hk 53 (by decide) (by decide) (by decide) (by decide), athg_k (by decide) (by decide) (by decide)]; exact e2
        · obtain ⟨d0, d1, d2, d3⟩ := e3 t' ht'
          rw [hk 63 (by decide) (by decide) (by decide) (by decide), hk 64 (by decide) (by decide) (by decide) (by decide), athg_2, athg_2, athg_2, athg_2, if_neg (show ¬ (t' = u ∧ 1 = 0) by omega), if_neg (show ¬ (t' = u ∧ 2 = 0) by omega), if_neg (show ¬ (t' = u ∧ 3 = 0) by omega), if_neg (show ¬ (t' = u ∧ 0 = 1) by omega), if_neg (show ¬ (t' = u ∧ 2 = 1) by omega), if_neg (show ¬ (t' = u ∧ 3 = 1) by omega)]
          refine ⟨?_, ?_, d2, d3⟩
          · by_cases htu : t' = u
            · rw [if_pos ⟨htu, rfl⟩, htu]; exact v54
            · rw [if_neg (fun q => htu q.1), ho 54 0 t' (by omega) (by omega) (by omega)]; exact d0
          · by_cases htu : t' = u
            · rw [if_pos ⟨htu, rfl⟩, htu]; exact v62
            · rw [if_neg (fun q => htu q.1), ho 62 0 t' (by omega) (by omega) (by omega)]; exact d1
        · rw [hk 60 (by decide) (by decide) (by decide) (by decide), hk 61 (by decide) (by decide) (by decide) (by decide), athg_k (by decide) (by decide) (by decide), athg_k (by decide) (by decide) (by decide)]; exact e4
        · rw [hk 59 (by decide) (by decide) (by decide) (by decide), athg_k (by decide) (by decide) (by decide)]; exact e5
        · by_cases hin : t' = u ∧ k < (f 7 0 0).toNat / 4
          · obtain ⟨htu, hkN⟩ := hin
            subst htu
            obtain ⟨⟨j1, j2, j3⟩, j4⟩ := i2 k hkN
            rw [vc 55 _ (by decide), vc 56 _ (by decide), vc 57 _ (by decide), vc 58 _ (by decide), athg_n hkN, athg_n hkN, athg_n hkN, athg_n hkN, if_neg (show ¬ 0 = 3 by decide), if_neg (show ¬ 1 = 3 by decide), if_neg (show ¬ 2 = 3 by decide), if_pos rfl]
            exact ⟨j1, j2, j3, j4⟩
          · have hno : ¬ t' = u ∨ (f 7 0 0).toNat / 4 ≤ k := by omega
            rw [athg_o hno hk' (by omega), athg_o hno hk' (by omega), athg_o hno hk' (by omega), athg_o hno hk' (by omega), ho 55 0 _ (by omega) (by omega) (by omega), ho 56 0 _ (by omega) (by omega) (by omega), ho 57 0 _ (by omega) (by omega) (by omega), ho 58 0 _ (by omega) (by omega) (by omega)]
            exact e6 t' k ht' hk'
    · have eA : athing f t = (-5, f) := by unfold athing; rw [if_pos h, if_neg hh]
      rw [eA]
      exact xW_f hh (xW_some ⟨rfl, hs⟩)
  · have eA : athing f t = (-1, f) := if_neg h
    rw [eA, if_neg h]
    exact xW_t rfl (xW_some ⟨rfl, hs⟩)
/-- a cube -/
noncomputable def acube (f : xa_H) (t i a : Int) : Int := if 0 ≤ t ∧ t ≤ 3 then (if 0 ≤ i ∧ i < f 2 t.toNat 0 then (if a = 3 then f 6 (10 * t.toNat + i.toNat) 3 else if 0 ≤ a ∧ a ≤ 2 then yat (yC f 0 t.toNat) (f 2 t.toNat 0).toNat (if 0 ≤ f 2 t.toNat 1 then (f 2 t.toNat 2).toNat else 0) i.toNat a.toNat else -2) else -1) else -1
theorem K_cube {σ f : xa_H} (hs : yst σ f) (hv : yv f) (t i a : Int) : fm_S_cube t i a σ = some (acube f t i a) := by
  unfold fm_S_cube acube
  by_cases h : 0 ≤ t ∧ t ≤ 3
  · rw [if_neg (show ¬ t < 0 by omega), if_neg (show ¬ 4 ≤ t by omega), if_pos (show 0 ≤ t ∧ t < 4 by omega), if_pos h]
    have e4 : 4 * 0 + t.toNat = t.toNat := by omega
    have hu4 : t.toNat < 4 := by omega
    rw [e4]
    generalize t.toNat = u at hu4 ⊢
    obtain ⟨⟨d0, d1, d2, d3⟩, d4, d5, d6⟩ := hs.2.1.2.2.1 u hu4
    have e4' : 4 * 0 + u = u := by omega
    rw [e4'] at d0 d1 d2 d3 d4 d5 d6
    have d0 : σ 5 u 0 = f 2 u 0 := d0
    have d1 : σ 5 u 1 = f 2 u 1 := d1
    have d2 : σ 5 u 2 = f 2 u 2 := d2
    have htv := hv.1.2.2.1 u hu4
    have h10 : f 2 u 0 ≤ 10 := htv.1.2
    rw [d0, d1, d2]
    by_cases hi : 0 ≤ i ∧ i < f 2 u 0
    · rw [if_neg (show ¬ i < 0 by omega), if_pos hi.2, if_pos hi, q_upTo, Option.bind_some]
      obtain ⟨k, hk⟩ : ∃ k : Nat, i = (k : Int) := ⟨i.toNat, by omega⟩
      subst hk
      have tn : ((k : Int)).toNat = k := rfl
      rw [tn]
      obtain ⟨j1, j2⟩ := d5 k (by show k < (f 2 u 0).toNat; omega)
      have j2 : σ 28 u k = if f 6 (10 * u + k) 3 < 0 then 0 else f 6 (10 * u + k) 3 + 1 := j2
      by_cases h3 : a = 3
      · subst h3
        rw [if_pos (show (0 : Int) ≤ 3 ∧ (3 : Int) ≤ 3 by decide), if_neg (by decide), if_pos rfl, if_pos rfl]
        have hg : fm_Thing_groupOf u (k : Int) σ = some (σ 28 u k) := by
          unfold fm_Thing_groupOf
          rw [rd28 (by omega)]; rfl
        rw [hg, Option.bind_some, j2]
        have h6 := htv.2.2.1 k (by show k < (f 2 u 0).toNat; omega)
        have h6 : f 6 (10 * u + k) 3 = -6 ∨ (0 ≤ f 6 (10 * u + k) 3 ∧ f 6 (10 * u + k) 3 ≤ 3) := h6
        by_cases hn : f 6 (10 * u + k) 3 < 0
        · rw [if_pos hn, if_pos rfl]
          congr 1
          omega
        · rw [if_neg hn, if_neg (by omega), w32_n (by omega) (by omega)]
          congr 1
          omega
      · by_cases ha : 0 ≤ a ∧ a ≤ 2
        · rw [if_pos (show 0 ≤ a ∧ a ≤ 3 by omega), if_neg (show ¬ (1 : Int) = 0 by decide), if_neg h3, if_neg h3, if_pos ha, xnm_e]
          obtain ⟨b, hb⟩ : ∃ b : Nat, a = (b : Int) := ⟨a.toNat, by omega⟩
          subst hb
          have tnb : ((b : Int)).toNat = b := rfl
          rw [tnb]
          have hwr : 0 ≤ f 2 u 2 ∧ f 2 u 2 ≤ 23 := htv.2.2.2.2.1
          have hth : yth σ u (f 2 u 0).toNat (yC f 0 u) := by
            have := yclt_th (hs.2.1.2.2.1 u hu4) htv (by show 1 ≤ f 2 u 0; omega)
            rw [e4'] at this
            exact this
          have hkn : k < (f 2 u 0).toNat := by omega
          by_cases hl : 0 ≤ f 2 u 1
          · rw [if_pos hl, if_pos hl]
            have ew : f 2 u 2 = (((f 2 u 2).toNat : Nat) : Int) := by omega
            have hq := q_along hs.1 hth (w := (f 2 u 2).toNat) (by omega) hkn (a := b) (by omega)
            rw [← ew] at hq
            rw [hq]; rfl
          · rw [if_neg hl, if_neg hl]
            have hq := q_along hs.1 hth (w := 0) (by omega) hkn (a := b) (by omega)
            have e0 : (((0 : Nat)) : Int) = 0 := rfl
            rw [e0] at hq
            rw [hq]; rfl
        · rw [if_neg (show ¬ (0 ≤ a ∧ a ≤ 3) by omega), if_pos rfl, if_neg h3, if_neg ha]
    · rw [if_neg hi]
      by_cases hi0 : i < 0
      · rw [if_pos hi0]
      · rw [if_neg hi0, if_neg (by omega)]
  · rw [if_neg h]
    by_cases d : t < 0
    · rw [if_pos d]
    · rw [if_neg d, if_pos (by omega)]
theorem M_cube {σ f : xa_H} (hs : ym σ f) (hv : yv f) (t i a : Int) : xW (fm_M_cube t i a σ) fun r => r.1 = acube f t i a ∧ ym r.2 f := by
  unfold fm_M_cube acube
  refine xW_be (q_isThing t) ?_
  by_cases h : 0 ≤ t ∧ t ≤ 3
  · rw [if_pos h, if_pos h]
    obtain ⟨u, hu⟩ : ∃ u : Nat, t = (u : Int) := ⟨t.toNat, by omega⟩
    subst hu
    have tn : ∀ j : Nat, ((j : Int)).toNat = j := fun j => rfl
    have hu4 : u < 4 := by omega
    obtain ⟨d0, d1, d2, d3⟩ := hs.2.1.2.2.1 u hu4
    have htv := hv.1.2.2.1 u hu4
    have h10 : 0 ≤ f 2 u 0 ∧ f 2 u 0 ≤ 10 := htv.1
    rw [tn u]
    refine xW_f (by decide) (xW_t ⟨by omega, by omega⟩ (xW_be (q_in _ _ _) ?_))
    rw [d0, w32_n (by omega) (by omega)]
    by_cases hi : 0 ≤ i ∧ i < f 2 u 0
    · rw [if_pos (show 0 ≤ i ∧ i ≤ f 2 u 0 - 1 by omega), if_pos hi]
      obtain ⟨k, hk⟩ : ∃ k : Nat, i = (k : Int) := ⟨i.toNat, by omega⟩
      subst hk
      rw [tn k]
      refine xW_f (by decide) (xW_t ⟨by omega, by omega⟩ (xW_j ?_))
      have hfin : ∀ w : Nat, w < 24 → w = (if 0 ≤ f 2 u 1 then (f 2 u 2).toNat else 0) → xW ((fm_M_layCubes (u : Int) (w : Int) σ).bind fun s9 =>
            if a = 0 then (if 0 ≤ (k : Int) ∧ (k : Int) < 10 then some ((s9 66 0 k), s9) else none)
            else if a = 1 then (if 0 ≤ (k : Int) ∧ (k : Int) < 10 then some ((s9 67 0 k), s9) else none)
            else if a = 2 then (if 0 ≤ (k : Int) ∧ (k : Int) < 10 then some ((s9 68 0 k), s9) else none)
            else if a = 3 then (if 0 ≤ (w32 ((w32 (10 * (u : Int))) + (k : Int))) ∧ (w32 ((w32 (10 * (u : Int))) + (k : Int))) < 50 then some ((s9 58 0 ((w32 ((w32 (10 * (u : Int))) + (k : Int))).toNat)), s9) else none)
            else some ((-2), s9)) fun r => r.1 = (if a = 3 then f 6 (10 * u + k) 3 else if 0 ≤ a ∧ a ≤ 2 then yat (yC f 0 u) (f 2 u 0).toNat (if 0 ≤ f 2 u 1 then (f 2 u 2).toNat else 0) k a.toNat else -2) ∧ ym r.2 f := by
        intro w hw ew
        have hPv := yPl_v hv hu4 (by omega)
        refine xW_bind (q_lay hs.1 hPv (yrf_mc hs.2.1 htv hu4) hw) ?_
        rintro s9 ⟨c1, c2⟩
        have hm9 : ym s9 f := ym_f c1 (by decide) (fun s h => absurd h (List.not_mem_nil)) hs
        obtain ⟨l1, l2, l3⟩ := c2 k (by show k < (f 2 u 0).toNat; omega)
        have hk10 : 0 ≤ (k : Int) ∧ (k : Int) < 10 := by omega
        rw [← ew]
        by_cases a0 : a = 0
        · subst a0
          rw [if_neg (show ¬ (0 : Int) = 3 by decide), if_pos (show (0 : Int) ≤ 0 ∧ (0 : Int) ≤ 2 by decide)]
          exact xW_t rfl (xW_t hk10 (xW_some ⟨l1, hm9⟩))
        · by_cases a1 : a = 1
          · subst a1
            rw [if_neg (show ¬ (1 : Int) = 3 by decide), if_pos (show (0 : Int) ≤ 1 ∧ (1 : Int) ≤ 2 by decide)]
            exact xW_f (by decide) (xW_t rfl (xW_t hk10 (xW_some ⟨l2, hm9⟩)))
          · by_cases a2 : a = 2
            · subst a2
              rw [if_neg (show ¬ (2 : Int) = 3 by decide), if_pos (show (0 : Int) ≤ 2 ∧ (2 : Int) ≤ 2 by decide)]
              exact xW_f (by decide) (xW_f (by decide) (xW_t rfl (xW_t hk10 (xW_some ⟨l3, hm9⟩))))
            · by_cases a3 : a = 3
              · subst a3
                rw [if_pos rfl]
                have ev : w32 (w32 (10 * (u : Int)) + (k : Int)) = ((10 * u + k : Nat) : Int) := w32_2 (by omega) (by omega) (by omega)
                rw [ev, tn]
                refine xW_f (by decide) (xW_f (by decide) (xW_f (by decide) (xW_t ⟨by omega, by omega⟩ (xW_some ⟨?_, hm9⟩))))
                exact (hm9.2.1.2.2.2.2.2 u k hu4 (by omega)).2.2.2
              · rw [if_neg a3, if_neg (show ¬ (0 ≤ a ∧ a ≤ 2) by omega)]
                exact xW_f a0 (xW_f a1 (xW_f a2 (xW_some ⟨(if_neg a3).symm, hm9⟩)))
      have hwr : 0 ≤ f 2 u 2 ∧ f 2 u 2 ≤ 23 := htv.2.2.2.2.1
      rw [d1, d2]
      by_cases hl : 0 ≤ f 2 u 1
      · have ew : f 2 u 2 = (((f 2 u 2).toNat : Nat) : Int) := by omega
        have hq := hfin (f 2 u 2).toNat (by omega) (by rw [if_pos hl])
        rw [← ew] at hq
        exact xW_t hl (xW_t ⟨by omega, by omega⟩ hq)
      · exact xW_f hl (hfin 0 (by decide) (by rw [if_neg hl]))
    · rw [if_neg (show ¬ (0 ≤ i ∧ i ≤ f 2 u 0 - 1) by omega), if_neg hi]
      exact xW_t rfl (xW_some ⟨rfl, hs⟩)
  · rw [if_neg h, if_neg h]
    exact xW_t rfl (xW_some ⟨rfl, hs⟩)
