/-! the size of the way, on both sides -/
theorem q_plAt {i : Nat} {σ : xa_H} {X Y Z : Int} (hz : qsz X Y Z) (h : σ 7 i 0 = X ∧ σ 7 i 1 = Y ∧ σ 7 i 2 = Z) (x y z : Int) :
    fm_Way_placeAt i x y z σ = some (if (0 ≤ x ∧ x < X) ∧ (0 ≤ y ∧ y < Y) ∧ (0 ≤ z ∧ z < Z) then ypl x y z else -6) := by
  have hp := q_placeAt (i := i) (σ := σ) (by rw [h.1, h.2.1, h.2.2]; exact hz) x y z
  rw [h.1, h.2.1, h.2.2] at hp
  by_cases hc : (0 ≤ x ∧ x < X) ∧ (0 ≤ y ∧ y < Y) ∧ (0 ≤ z ∧ z < Z)
  · rw [if_pos hc]; exact hp.1 hc
  · rw [if_neg hc]; exact hp.2 hc
theorem q_measure {i : Nat} {σ P : xa_H} (hz : qsz (P 0 0 0) (P 0 0 1) (P 0 0 2)) : xW (fm_Way_measure i (P 0 0 0) (P 0 0 1) (P 0 0 2) σ) fun s =>
    (∀ K i' s', ¬ ((K = 7 ∨ K = 34) ∧ i' = i) → s K i' s' = σ K i' s') ∧ (s 7 i 0 = P 0 0 0 ∧ s 7 i 1 = P 0 0 1 ∧ s 7 i 2 = P 0 0 2) ∧ ∀ p m, p < 144 → m < 6 → s 34 i (6 * p + m) = ybs P p m := by
  unfold fm_Way_measure
  refine xW_nm (xW_nm (xW_nm ?_))
  refine xfor0 (fun n (j : Int) (g : xa_H) => fm_Way_measure_18 i (fun s => some s) n j g) 144
    (fun j g => (∀ K i' s', ¬ ((K = 7 ∨ K = 34) ∧ i' = i) → g K i' s' = σ K i' s') ∧ (g 7 i 0 = P 0 0 0 ∧ g 7 i 1 = P 0 0 1 ∧ g 7 i 2 = P 0 0 2) ∧ ∀ p m, p < j → m < 6 → g 34 i (6 * p + m) = ybs P p m)
    _ (xfu_b (by omega)) ?_ ?_ _ ⟨fun K i' s' h => by rw [xup_o (by omega), xup_o (by omega), xup_o (by omega)], ⟨by rw [xup_o (by omega), xup_o (by omega), xup_at], by rw [xup_o (by omega), xup_at], xup_at⟩, fun p m hp => by omega⟩
  · rintro fu j g hj ⟨i1, i2, i3⟩ ih
    show xW (fm_Way_measure_18 i (fun s => some s) (fu + 1) (j : Int) g) _
    rw [fm_Way_measure_18]
    have eX : ((j : Int)) / 24 = ((j / 24 : Nat) : Int) := by omega
    have eY : ((j : Int)) / 4 % 6 = ((j / 4 % 6 : Nat) : Int) := by omega
    have eZ : ((j : Int)) % 4 = ((j % 4 : Nat) : Int) := by omega
    have rX : fm_S_xOf (j : Int) = some ((j / 24 : Nat) : Int) := by rw [q_xOf (by omega), eX]
    have rY : fm_S_yOf (j : Int) = some ((j / 4 % 6 : Nat) : Int) := by rw [q_yOf (by omega), eY]
    have rZ : fm_S_zOf (j : Int) = some ((j % 4 : Nat) : Int) := by rw [q_zOf (by omega), eZ]
    have e0 : w32 ((j : Int) * 6) = ((6 * j : Nat) : Int) := w32_k (by omega) (by omega)
    have e1 : w32 (((6 * j : Nat) : Int) + 1) = ((6 * j + 1 : Nat) : Int) := w32_s (by omega)
    have e2 : w32 (((6 * j : Nat) : Int) + 2) = ((6 * j + 2 : Nat) : Int) := w32_k (by omega) (by omega)
    have e3 : w32 (((6 * j : Nat) : Int) + 3) = ((6 * j + 3 : Nat) : Int) := w32_k (by omega) (by omega)
    have e4 : w32 (((6 * j : Nat) : Int) + 4) = ((6 * j + 4 : Nat) : Int) := w32_k (by omega) (by omega)
    have e5 : w32 (((6 * j : Nat) : Int) + 5) = ((6 * j + 5 : Nat) : Int) := w32_k (by omega) (by omega)
    have m1 : w32 (((j / 4 % 6 : Nat) : Int) - 1) = ((j / 4 % 6 : Nat) : Int) - 1 := w32_n (by omega) (by omega)
    have p1 : w32 (((j / 4 % 6 : Nat) : Int) + 1) = ((j / 4 % 6 : Nat) : Int) + 1 := w32_n (by omega) (by omega)
    have m2 : w32 (((j / 24 : Nat) : Int) - 1) = ((j / 24 : Nat) : Int) - 1 := w32_n (by omega) (by omega)
    have p2 : w32 (((j / 24 : Nat) : Int) + 1) = ((j / 24 : Nat) : Int) + 1 := w32_n (by omega) (by omega)
    have m3 : w32 (((j % 4 : Nat) : Int) - 1) = ((j % 4 : Nat) : Int) - 1 := w32_n (by omega) (by omega)
    have p3 : w32 (((j % 4 : Nat) : Int) + 1) = ((j % 4 : Nat) : Int) + 1 := w32_n (by omega) (by omega)
    rw [e0]
    refine xW_f (by omega) (xW_nm ?_)
    rw [e1, e2, e3, e4, e5]
    have h7 : ∀ (s : xa_H) (k : Nat) (v : Int), (s 7 i 0 = P 0 0 0 ∧ s 7 i 1 = P 0 0 1 ∧ s 7 i 2 = P 0 0 2) → (xup s 34 i k v 7 i 0 = P 0 0 0 ∧ xup s 34 i k v 7 i 1 = P 0 0 1 ∧ xup s 34 i k v 7 i 2 = P 0 0 2) := by
      intro s k v h
      rw [xup_k (by decide)]; exact h
    refine xW_be rX (xW_be rY (xW_be rZ ?_))
    rw [m1]
    refine xW_be (q_plAt hz i2 _ _ _) (xW_be (wr34 (by omega)) (xW_be rX (xW_be rY (xW_be rZ ?_))))
    rw [p1]
    have q1 := h7 _ (6 * j) (if (0 ≤ ((j / 24 : Nat) : Int) ∧ ((j / 24 : Nat) : Int) < P 0 0 0) ∧ (0 ≤ ((j / 4 % 6 : Nat) : Int) - 1 ∧ ((j / 4 % 6 : Nat) : Int) - 1 < P 0 0 1) ∧ (0 ≤ ((j % 4 : Nat) : Int) ∧ ((j % 4 : Nat) : Int) < P 0 0 2) then ypl ((j / 24 : Nat) : Int) (((j / 4 % 6 : Nat) : Int) - 1) ((j % 4 : Nat) : Int) else -6) i2
    refine xW_be (q_plAt hz q1 _ _ _) (xW_be (wr34 (by omega)) (xW_be rX (xW_be rY (xW_be rZ ?_))))
    rw [m2]
    have q2 := h7 _ (6 * j + 1) (if (0 ≤ ((j / 24 : Nat) : Int) ∧ ((j / 24 : Nat) : Int) < P 0 0 0) ∧ (0 ≤ ((j / 4 % 6 : Nat) : Int) + 1 ∧ ((j / 4 % 6 : Nat) : Int) + 1 < P 0 0 1) ∧ (0 ≤ ((j % 4 : Nat) : Int) ∧ ((j % 4 : Nat) : Int) < P 0 0 2) then ypl ((j / 24 : Nat) : Int) (((j / 4 % 6 : Nat) : Int) + 1) ((j % 4 : Nat) : Int) else -6) q1
    refine xW_be (q_plAt hz q2 _ _ _) (xW_be (wr34 (by omega)) (xW_be rX (xW_be rY (xW_be rZ ?_))))
    rw [p2]
    have q3 := h7 _ (6 * j + 2) (if (0 ≤ ((j / 24 : Nat) : Int) - 1 ∧ ((j / 24 : Nat) : Int) - 1 < P 0 0 0) ∧ (0 ≤ ((j / 4 % 6 : Nat) : Int) ∧ ((j / 4 % 6 : Nat) : Int) < P 0 0 1) ∧ (0 ≤ ((j % 4 : Nat) : Int) ∧ ((j % 4 : Nat) : Int) < P 0 0 2) then ypl (((j / 24 : Nat) : Int) - 1) ((j / 4 % 6 : Nat) : Int) ((j % 4 : Nat) : Int) else -6) q2
    refine xW_be (q_plAt hz q3 _ _ _) (xW_be (wr34 (by omega)) (xW_be rX (xW_be rY (xW_be rZ ?_))))
    rw [p3]
    have q4 := h7 _ (6 * j + 3) (if (0 ≤ ((j / 24 : Nat) : Int) + 1 ∧ ((j / 24 : Nat) : Int) + 1 < P 0 0 0) ∧ (0 ≤ ((j / 4 % 6 : Nat) : Int) ∧ ((j / 4 % 6 : Nat) : Int) < P 0 0 1) ∧ (0 ≤ ((j % 4 : Nat) : Int) ∧ ((j % 4 : Nat) : Int) < P 0 0 2) then ypl (((j / 24 : Nat) : Int) + 1) ((j / 4 % 6 : Nat) : Int) ((j % 4 : Nat) : Int) else -6) q3
    refine xW_be (q_plAt hz q4 _ _ _) (xW_be (wr34 (by omega)) (xW_be rX (xW_be rY (xW_be rZ ?_))))
    rw [m3]
    have q5 := h7 _ (6 * j + 4) (if (0 ≤ ((j / 24 : Nat) : Int) ∧ ((j / 24 : Nat) : Int) < P 0 0 0) ∧ (0 ≤ ((j / 4 % 6 : Nat) : Int) ∧ ((j / 4 % 6 : Nat) : Int) < P 0 0 1) ∧ (0 ≤ ((j % 4 : Nat) : Int) + 1 ∧ ((j % 4 : Nat) : Int) + 1 < P 0 0 2) then ypl ((j / 24 : Nat) : Int) ((j / 4 % 6 : Nat) : Int) (((j % 4 : Nat) : Int) + 1) else -6) q4
    refine xW_be (q_plAt hz q5 _ _ _) (xW_be (wr34 (by omega)) (xW_nm ?_))
    rw [w32_s (by omega)]
    refine ih _ ⟨fun K i' s' h => ?_, ?_, fun p m hp hm => ?_⟩
    · rw [xup_o (by omega), xup_o (by omega), xup_o (by omega), xup_o (by omega), xup_o (by omega), xup_o (by omega)]
      exact i1 K i' s' h
    · exact h7 _ _ _ q5
    · by_cases hpj : p = j
      · subst hpj
        have dx : ∀ m, m < 6 → (ydx m = if m = 2 then -1 else if m = 3 then 1 else 0) := fun m _ => rfl
        unfold ybs
        have hm6 : m = 0 ∨ m = 1 ∨ m = 2 ∨ m = 3 ∨ m = 4 ∨ m = 5 := by omega
        rcases hm6 with h | h | h | h | h | h <;> subst h
        · rw [xup_o (by omega), xup_o (by omega), xup_o (by omega), xup_o (by omega), xup_o (by omega), Nat.add_zero, xup_at]
          have a : ydx 0 = 0 := rfl
          have b : ydy 0 = -1 := rfl
          have c : ydz 0 = 0 := rfl
          rw [a, b, c, Int.add_zero, Int.add_zero]; rfl
        · rw [xup_o (by omega), xup_o (by omega), xup_o (by omega), xup_o (by omega), xup_at]
          have a : ydx 1 = 0 := rfl
          have b : ydy 1 = 1 := rfl
          have c : ydz 1 = 0 := rfl
          rw [a, b, c, Int.add_zero, Int.add_zero]
        · rw [xup_o (by omega), xup_o (by omega), xup_o (by omega), xup_at]
          have a : ydx 2 = -1 := rfl
          have b : ydy 2 = 0 := rfl
          have c : ydz 2 = 0 := rfl
          rw [a, b, c, Int.add_zero, Int.add_zero]; rfl
        · rw [xup_o (by omega), xup_o (by omega), xup_at]
          have a : ydx 3 = 1 := rfl
          have b : ydy 3 = 0 := rfl
          have c : ydz 3 = 0 := rfl
          rw [a, b, c, Int.add_zero, Int.add_zero]
        · rw [xup_o (by omega), xup_at]
          have a : ydx 4 = 0 := rfl
          have b : ydy 4 = 0 := rfl
          have c : ydz 4 = 1 := rfl
          rw [a, b, c, Int.add_zero, Int.add_zero]
        · rw [xup_at]
          have a : ydx 5 = 0 := rfl
          have b : ydy 5 = 0 := rfl
          have c : ydz 5 = -1 := rfl
          rw [a, b, c, Int.add_zero, Int.add_zero]; rfl
      · rw [xup_o (by omega), xup_o (by omega), xup_o (by omega), xup_o (by omega), xup_o (by omega), xup_o (by omega)]
        exact i3 p m (by omega) hm
  · rintro fu g h
    show xW (fm_Way_measure_18 i (fun s => some s) (fu + 1) ((144 : Nat) : Int) g) _
    rw [fm_Way_measure_18]
    exact xW_t (by omega) (xW_some h)
/-- a new size: all is free, nothing lies -/
noncomputable def asz1 (f : xa_H) (x y z : Int) : xa_H := fun K i s => if K = 0 then (if s = 0 then x else if s = 1 then y else z) else if K = 1 then 0 else if K = 2 then (if s = 1 then -6 else if s = 3 then 0 else f 2 i s) else f K i s
noncomputable def asize (f : xa_H) (x y z : Int) : Int × xa_H := if (1 ≤ x ∧ x ≤ 6) ∧ (1 ≤ y ∧ y ≤ 6) ∧ (1 ≤ z ∧ z ≤ 4) then (x * y * z, asz1 f x y z) else (-2, f)
theorem asz1_k {f : xa_H} {x y z : Int} {K : Nat} (h : 3 ≤ K) : asz1 f x y z K = f K := by
  funext i s
  unfold asz1
  rw [if_neg (by omega), if_neg (by omega), if_neg (by omega)]
theorem asz1_C {f : xa_H} {x y z : Int} (t : Nat) : yC (asz1 f x y z) 0 t = yC f 0 t := by
  unfold yC
  rw [asz1_k (by decide)]
theorem V_size1 {f : xa_H} (hv : yv f) {x y z : Int} (h : (1 ≤ x ∧ x ≤ 6) ∧ (1 ≤ y ∧ y ≤ 6) ∧ (1 ≤ z ∧ z ≤ 4)) : yv (asz1 f x y z) := by
  obtain ⟨k1, k2, k3, k4⟩ := hv.1
  have hq : qsz x y z := by unfold qsz; omega
  refine yv_up hv ⟨hq, fun q hq => ⟨Int.le_refl _, by show (0 : Int) ≤ 5; decide⟩, fun t ht => ?_, ?_⟩ ?_ (fun K hK => asz1_k (by omega))
  · obtain ⟨a1, a2, a3, a4, a5, a6, a7⟩ := k3 t ht
    refine ⟨a1, ?_, ?_, Or.inl rfl, a5, ⟨⟨by show (0 : Int) ≤ 0; decide, by show (0 : Int) < 144; decide⟩, ?_⟩, ?_⟩
    · rw [asz1_C]; exact a2
    · rw [asz1_k (show 3 ≤ 0 + 6 by decide)]; exact a3
    · show qin x y z (0 / 24) (0 / 4 % 6) (0 % 4)
      unfold qin
      omega
    · rw [asz1_k (show 3 ≤ 0 + 5 by decide)]; exact a7
  · rw [asz1_k (show 3 ≤ 0 + 3 by decide), asz1_k (show 3 ≤ 0 + 4 by decide)]; exact k4
  · rw [asz1_k (show 3 ≤ 7 by decide), asz1_k (show 3 ≤ 8 by decide)]; exact hv.2.1
theorem V_size {f : xa_H} (hv : yv f) (x y z : Int) : yv (asize f x y z).2 := by
  unfold asize
  split
  · rename_i h
    exact V_size1 hv h
  · exact hv
theorem mul3 {x y z : Int} (hx : 1 ≤ x ∧ x ≤ 6) (hy : 1 ≤ y ∧ y ≤ 6) (hz : 1 ≤ z ∧ z ≤ 4) : w32 (w32 (x * y) * z) = x * y * z := by
  have h1 : 0 ≤ x * y ∧ x * y ≤ 36 := by
    refine ⟨Int.mul_nonneg (by omega) (by omega), ?_⟩
    have := Int.mul_le_mul (a := x) (b := y) (c := 6) (d := 6) hx.2 hy.2 (by omega) (by decide)
    omega
  have h2 : 0 ≤ x * y * z ∧ x * y * z ≤ 144 := by
    refine ⟨Int.mul_nonneg h1.1 (by omega), ?_⟩
    have := Int.mul_le_mul (a := x * y) (b := z) (c := 36) (d := 4) h1.2 hz.2 (by omega) (by decide)
    omega
  rw [w32_n (x := x * y) (by omega) (by omega), w32_n (by omega) (by omega)]
theorem q_resize {σ f : xa_H} {x y z : Int} (hq : qsz x y z) : xW (fm_Way_resize 0 x y z σ) fun s2 => (∀ K i' s', ¬ ((K = 7 ∨ K = 34 ∨ K = 33) ∧ i' = 0) → s2 K i' s' = σ K i' s') ∧ (s2 7 0 0 = x ∧ s2 7 0 1 = y ∧ s2 7 0 2 = z) ∧
    (∀ p m, p < 144 → m < 6 → s2 34 0 (6 * p + m) = ybs (ypr (asz1 f x y z) 0 0 (ykd (asz1 f x y z) 0) 0 0) p m) ∧ ∀ q, q < 144 → s2 33 0 q = 0 := by
  unfold fm_Way_resize
  have hmm := q_measure (i := 0) (σ := σ) (P := ypr (asz1 f x y z) 0 0 (ykd (asz1 f x y z) 0) 0 0) hq
  refine xW_bind hmm ?_
  rintro s ⟨a1, a2, a3⟩
  refine xW_bind (q_fill (K := 33) (i := 0) (n := 144) rfl (by decide) 0 s) ?_
  rintro s2 ⟨b1, b2⟩
  refine xW_some ⟨fun K i' s' hn => ?_, ?_, fun p m hp hm => ?_, b2⟩
  · rw [b1 K i' s' (by omega)]; exact a1 K i' s' (by omega)
  · rw [b1 7 0 0 (by omega), b1 7 0 1 (by omega), b1 7 0 2 (by omega)]; exact a2
  · rw [b1 34 0 _ (by omega)]; exact a3 p m hp hm
theorem K_size {σ f : xa_H} (hs : yc σ f) (hv : yv f) (x y z : Int) : xW (fm_S_size x y z σ) fun r => r.1 = (asize f x y z).1 ∧ yc r.2 (asize f x y z).2 := by
  unfold fm_S_size
  by_cases h : (1 ≤ x ∧ x ≤ 6) ∧ (1 ≤ y ∧ y ≤ 6) ∧ (1 ≤ z ∧ z ≤ 4)
  · have eA : asize f x y z = (x * y * z, asz1 f x y z) := if_pos h
    rw [eA]
    refine xW_f (by omega) (xW_f (by omega) (xW_f (by omega) (xW_f (by omega) (xW_f (by omega) (xW_t (by omega) ?_)))))
    have hq : qsz x y z := by unfold qsz; omega
    refine xW_bind (q_resize (f := f) hq (σ := σ)) ?_
    rintro s7 ⟨c1, c2, c3, c4⟩
    refine xfor0 (fun n (j : Int) (g : xa_H) => fm_S_size_51 x y z (fun s8 => (fm_S_forgetWay s8).bind fun s9 => some ((w32 ((w32 (x * y)) * z)), s9)) n j g) 4
      (fun j g => (∀ K i' s', ¬ (K = 5 ∧ i' < j ∧ (s' = 1 ∨ s' = 3)) → g K i' s' = s7 K i' s') ∧ ∀ t, t < j → g 5 t 1 = -6 ∧ g 5 t 3 = 0) _ (xfu_b (by omega)) ?_ ?_ s7 ⟨fun _ _ _ _ => rfl, fun t ht => by omega⟩
    · rintro fu j g hj ⟨i1, i2⟩ ih
      show xW (fm_S_size_51 x y z _ (fu + 1) (j : Int) g) _
      rw [fm_S_size_51]
      have tn : ∀ j : Nat, ((j : Int)).toNat = j := fun j => rfl
      have e4 : 4 * 0 + j = j := by omega
      rw [tn, e4]
      refine xW_f (by omega) (xW_f (by omega) (xW_f (by omega) (xW_t ⟨by omega, by omega⟩ (xW_nm (xW_nm (xW_nm ?_))))))
      rw [w32_s (by omega)]
      refine ih _ ⟨fun K i' s' hn => ?_, fun t ht => ?_⟩
      · rw [xup_o (by omega), xup_o (by omega)]; exact i1 K i' s' (by omega)
      · by_cases htj : t = j
        · rw [htj]
          exact ⟨by rw [xup_o (by omega), xup_at], xup_at⟩
        · rw [xup_o (by omega), xup_o (by omega), xup_o (by omega), xup_o (by omega)]
          exact i2 t (by omega)
    · rintro fu g ⟨i1, i2⟩
      show xW (fm_S_size_51 x y z _ (fu + 1) ((4 : Nat) : Int) g) _
      rw [fm_S_size_51]
      have hfw : fm_S_forgetWay g = some (xup (xup g 3 0 8 (-1)) 0 0 1 0) := rfl
      refine xW_t (by omega) (xW_be hfw ?_)
      refine xW_some ⟨mul3 h.1 h.2.1 h.2.2, ?_⟩
      show yc (xup (xup g 3 0 8 (-1)) 0 0 1 0) (asz1 f x y z)
      have hk : ∀ K i' s', ¬ (K = 7 ∧ i' = 0) → ¬ (K = 34 ∧ i' = 0) → ¬ (K = 33 ∧ i' = 0) → ¬ (K = 5 ∧ i' < 4 ∧ (s' = 1 ∨ s' = 3)) → ¬ K = 3 → ¬ K = 0 → xup (xup g 3 0 8 (-1)) 0 0 1 0 K i' s' = σ K i' s' := by
        intro K i' s' d1 d2 d3 d4 d5 d6
        rw [xup_o (by omega), xup_o (by omega), i1 K i' s' (by omega)]
        exact c1 K i' s' (by omega)
      have hkk : ∀ K, ¬ K = 7 → ¬ K = 34 → ¬ K = 33 → ¬ K = 5 → ¬ K = 3 → ¬ K = 0 → xup (xup g 3 0 8 (-1)) 0 0 1 0 K = σ K := by
        intro K d1 d2 d3 d4 d5 d6
        funext i' s'
        exact hk K i' s' (by omega) (by omega) (by omega) (by omega) d5 d6
      have hs7 : ∀ K i' s', ¬ K = 5 → ¬ K = 3 → ¬ K = 0 → xup (xup g 3 0 8 (-1)) 0 0 1 0 K i' s' = s7 K i' s' := by
        intro K i' s' d1 d2 d3
        rw [xup_o (by omega), xup_o (by omega)]
        exact i1 K i' s' (by omega)
      refine ⟨?_, Or.inl (by rw [xup_o (by omega), xup_at]; decide), ?_, Or.inl xup_at⟩
      · refine yst_up hs.1 ⟨hkk 31 (by decide) (by decide) (by decide) (by decide) (by decide) (by decide), hkk 32 (by decide) (by decide) (by decide) (by decide) (by decide) (by decide), hkk 19 (by decide) (by decide) (by decide) (by decide) (by decide) (by decide)⟩ ?_ ?_ ?_ ?_ ?_ (fun K hK => asz1_k (by omega))
        · obtain ⟨b1, b2, b3, b4⟩ := hs.1.2.1
          refine ⟨?_, fun q hq => ?_, fun t ht => ?_, ?_⟩
          · rw [hs7 7 0 0 (by decide) (by decide) (by decide), hs7 7 0 1 (by decide) (by decide) (by decide), hs7 7 0 2 (by decide) (by decide) (by decide)]
            exact c2
          · rw [hs7 33 0 q (by decide) (by decide) (by decide)]; exact c4 q hq
          · obtain ⟨⟨d0, d1, d2, d3⟩, d4, d5, d6⟩ := b3 t ht
            have e4 : 4 * 0 + t = t := by omega
            rw [e4] at d0 d1 d2 d3 d4 d5 d6 ⊢
            obtain ⟨t1, t3⟩ := i2 t ht
            refine ⟨⟨?_, ?_, ?_, ?_⟩, ?_, ?_, ?_⟩
            · rw [hk 5 t 0 (by omega) (by omega) (by omega) (by omega) (by omega) (by omega)]; exact d0
            · rw [xup_o (by omega), xup_o (by omega), t1]; rfl
            · rw [hk 5 t 2 (by omega) (by omega) (by omega) (by omega) (by omega) (by omega)]; exact d2
            · rw [xup_o (by omega), xup_o (by omega), t3]; rfl
            · rw [hkk 30 (by decide) (by decide) (by decide) (by decide) (by decide) (by decide), asz1_k (by decide)]; exact d4
            · rw [hkk 27 (by decide) (by decide) (by decide) (by decide) (by decide) (by decide), hkk 28 (by decide) (by decide) (by decide) (by decide) (by decide) (by decide), asz1_k (show 3 ≤ 0 + 6 by decide)]; exact d5
            · rw [hkk 29 (by decide) (by decide) (by decide) (by decide) (by decide) (by decide), asz1_C]; exact d6
          · rw [hkk 25 (by decide) (by decide) (by decide) (by decide) (by decide) (by decide), hkk 26 (by decide) (by decide) (by decide) (by decide) (by decide) (by decide), asz1_k (by decide), asz1_k (by decide)]; exact b4
        · intro p m hp hm
          rw [hs7 34 0 _ (by decide) (by decide) (by decide)]
          exact c3 p m hp hm
        · unfold ypd
          rw [hkk 2 (by decide) (by decide) (by decide) (by decide) (by decide) (by decide), hkk 17 (by decide) (by decide) (by decide) (by decide) (by decide) (by decide), asz1_k (by decide), asz1_k (by decide)]
          exact hs.1.2.2.2.1
        · intro K hK i' hi1 hi3
          funext s'
          exact hk K i' s' (by omega) (by omega) (by omega) (by omega) (by omega) (by omega)
        · intro K hK i' hi1 hi3
          funext s'
          exact hk K i' s' (by omega) (by omega) (by omega) (by omega) (by omega) (by omega)
      · have e10 : ∀ s', ¬ s' = 8 → xup (xup g 3 0 8 (-1)) 0 0 1 0 3 0 s' = σ 3 0 s' := by
          intro s' hs'
          rw [xup_o (by omega), xup_o (by omega), i1 3 0 s' (by omega)]
          exact c1 3 0 s' (by omega)
        unfold yfl
        rw [e10 10 (by decide), hkk 22 (by decide) (by decide) (by decide) (by decide) (by decide) (by decide), hkk 23 (by decide) (by decide) (by decide) (by decide) (by decide) (by decide)]
        exact hs.2.2.1
  · have eA : asize f x y z = (-2, f) := if_neg h
    rw [eA]
    by_cases d1 : x < 1
    · exact xW_t d1 (xW_some ⟨rfl, hs⟩)
    · refine xW_f d1 ?_
      by_cases d2 : 6 < x
      · exact xW_t d2 (xW_some ⟨rfl, hs⟩)
      · refine xW_f d2 ?_
        by_cases d3 : y < 1
        · exact xW_t d3 (xW_some ⟨rfl, hs⟩)
        · refine xW_f d3 ?_
          by_cases d4 : 6 < y
          · exact xW_t d4 (xW_some ⟨rfl, hs⟩)
          · refine xW_f d4 ?_
            by_cases d5 : z < 1
            · exact xW_t d5 (xW_some ⟨rfl, hs⟩)
            · exact xW_f d5 (xW_f (by omega) (xW_some ⟨rfl, hs⟩))
theorem M_size {σ f : xa_H} (hs : ym σ f) (hv : yv f) (x y z : Int) : xW (fm_M_size x y z σ) fun r => r.1 = (asize f x y z).1 ∧ ym r.2 (asize f x y z).2 := by
  unfold fm_M_size
  refine xW_be (q_in x 1 6) ?_
  by_cases hx : 1 ≤ x ∧ x ≤ 6
  · rw [if_pos hx]
    refine xW_f (by decide) (xW_be (q_in y 1 6) ?_)
    by_cases hy : 1 ≤ y ∧ y ≤ 6
    · rw [if_pos hy]
      refine xW_f (by decide) (xW_be (q_in z 1 4) ?_)
      by_cases hz : 1 ≤ z ∧ z ≤ 4
      · have eA : asize f x y z = (x * y * z, asz1 f x y z) := if_pos ⟨hx, hy, hz⟩
        rw [eA, if_pos hz]
        refine xW_f (by decide) (xW_nm (xW_nm (xW_nm ?_)))
        have tn : ∀ j : Nat, ((j : Int)).toNat = j := fun j => rfl
        refine xfor0 (fun n (j : Int) (g : xa_H) => fm_M_size_57 x y z (fun s10 => fm_M_size_82 x y z (fun s11 => some ((w32 ((w32 (x * y)) * z)), s11)) xFU 0 s10) n j g) 144
          (fun j g => (∀ K i' s', ¬ (K = 9 ∧ (s' = 3 ∨ s' = 4 ∨ s' = 5)) → ¬ K = 53 → g K i' s' = σ K i' s') ∧ (g 9 0 3 = x ∧ g 9 0 4 = y ∧ g 9 0 5 = z) ∧ ∀ q, q < j → g 53 0 q = 0) _ (xfu_b (by omega)) ?_ ?_ _
          ⟨fun K i' s' h1 h2 => by rw [xup_o (by omega), xup_o (by omega), xup_o (by omega)], ⟨by rw [xup_o (by omega), xup_o (by omega), xup_at], by rw [xup_o (by omega), xup_at], xup_at⟩, fun q hq => by omega⟩
        · rintro fu j g hj ⟨i1, i2, i3⟩ ih
          show xW (fm_M_size_57 x y z _ (fu + 1) (j : Int) g) _
          rw [fm_M_size_57, tn]
          refine xW_f (by omega) (xW_t ⟨by omega, by omega⟩ (xW_nm (xW_nm ?_)))
          rw [w32_s (by omega)]
          refine ih _ ⟨fun K i' s' h1 h2 => ?_, ?_, fun q hq => ?_⟩
          · rw [xup_o (by omega)]; exact i1 K i' s' h1 h2
          · rw [xup_o (by omega), xup_o (by omega), xup_o (by omega)]; exact i2
          · by_cases hqj : q = j
            · rw [hqj, xup_at]
            · rw [xup_o (by omega)]; exact i3 q (by omega)
        · rintro fu g ⟨i1, i2, i3⟩
          show xW (fm_M_size_57 x y z _ (fu + 1) ((144 : Nat) : Int) g) _
          rw [fm_M_size_57]
          refine xW_t (by omega) ?_
          refine xfor0 (fun n (j : Int) (h : xa_H) => fm_M_size_82 x y z (fun s11 => some ((w32 ((w32 (x * y)) * z)), s11)) n j h) 4
            (fun j h => (∀ K i' s', ¬ (K = 62 ∧ s' < j) → ¬ (K = 64 ∧ s' < j) → h K i' s' = g K i' s') ∧ ∀ t, t < j → h 62 0 t = -6 ∧ h 64 0 t = 0) _ (xfu_b (by omega)) ?_ ?_ g ⟨fun _ _ _ _ _ => rfl, fun t ht => by omega⟩
          · rintro fu2 j h hj ⟨k1, k2⟩ ih2
            show xW (fm_M_size_82 x y z _ (fu2 + 1) (j : Int) h) _
            rw [fm_M_size_82, tn]
            refine xW_f (by omega) (xW_t ⟨by omega, by omega⟩ (xW_nm (xW_t ⟨by omega, by omega⟩ (xW_nm (xW_nm ?_)))))
            rw [w32_s (by omega)]
            refine ih2 _ ⟨fun K i' s' h1 h2 => ?_, fun t ht => ?_⟩
            · rw [xup_o (by omega), xup_o (by omega)]; exact k1 K i' s' (by omega) (by omega)
            · by_cases htj : t = j
              · rw [htj]
                exact ⟨by rw [xup_o (by omega), xup_at], xup_at⟩
              · rw [xup_o (by omega), xup_o (by omega), xup_o (by omega), xup_o (by omega)]
                exact k2 t (by omega)
          · rintro fu2 h ⟨k1, k2⟩
            show xW (fm_M_size_82 x y z _ (fu2 + 1) ((4 : Nat) : Int) h) _
            rw [fm_M_size_82]
            refine xW_t (by omega) (xW_some ⟨mul3 hx hy hz, ?_⟩)
            show ym h (asz1 f x y z)
            have hk : ∀ K, ¬ K = 9 → ¬ K = 53 → ¬ K = 62 → ¬ K = 64 → h K = σ K := by
              intro K d1 d2 d3 d4
              funext i' s'
              rw [k1 K i' s' (by omega) (by omega)]
              exact i1 K i' s' (by omega) d2
            refine ym_up hs ⟨hk 50 (by decide) (by decide) (by decide) (by decide), hk 51 (by decide) (by decide) (by decide) (by decide), hk 75 (by decide) (by decide) (by decide) (by decide), hk 76 (by decide) (by decide) (by decide) (by decide)⟩ ?_ ?_ (fun K hK => asz1_k (by omega))
            · obtain ⟨b1, b2, b3, b4, b5, b6⟩ := hs.2.1
              refine ⟨?_, fun q hq => ?_, fun t ht => ?_, ?_, ?_, ?_⟩
              · rw [k1 9 0 3 (by omega) (by omega), k1 9 0 4 (by omega) (by omega), k1 9 0 5 (by omega) (by omega)]; exact i2
              · rw [k1 53 0 q (by omega) (by omega)]; exact i3 q hq
              · obtain ⟨d0, d1, d2, d3⟩ := b3 t ht
                obtain ⟨t1, t3⟩ := k2 t ht
                refine ⟨?_, t1, ?_, t3⟩
                · rw [hk 54 (by decide) (by decide) (by decide) (by decide)]; exact d0
                · rw [hk 63 (by decide) (by decide) (by decide) (by decide)]; exact d2
              · rw [hk 60 (by decide) (by decide) (by decide) (by decide), hk 61 (by decide) (by decide) (by decide) (by decide), asz1_k (by decide), asz1_k (by decide)]; exact b4
              · rw [hk 59 (by decide) (by decide) (by decide) (by decide), asz1_k (by decide)]; exact b5
              · rw [hk 55 (by decide) (by decide) (by decide) (by decide), hk 56 (by decide) (by decide) (by decide) (by decide), hk 57 (by decide) (by decide) (by decide) (by decide), hk 58 (by decide) (by decide) (by decide) (by decide), asz1_k (by decide)]; exact b6
            · unfold ypd
              rw [k1 9 0 19 (by omega) (by omega), i1 9 0 19 (by omega) (by omega), hk 65 (by decide) (by decide) (by decide) (by decide), asz1_k (by decide), asz1_k (by decide)]
              exact hs.2.2.1
      · have eA : asize f x y z = (-2, f) := if_neg (fun h => hz h.2.2)
        rw [eA, if_neg hz]
        exact xW_t rfl (xW_some ⟨rfl, hs⟩)
    · have eA : asize f x y z = (-2, f) := if_neg (fun h => hy h.2.1)
      rw [eA, if_neg hy]
      exact xW_t rfl (xW_some ⟨rfl, hs⟩)
  · have eA : asize f x y z = (-2, f) := if_neg (fun h => hx h.1)
    rw [eA, if_neg hx]
    exact xW_t rfl (xW_some ⟨rfl, hs⟩)
