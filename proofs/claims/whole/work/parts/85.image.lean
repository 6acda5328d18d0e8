/-! images, on both sides -/
def ysh (f f' : xa_H) (b b' : Nat) : Prop := ∀ K, K ≤ 6 → f' (b' + K) = f (b + K)
section SH
variable {f f' : xa_H} {b b' : Nat}
theorem ysh_C (h : ysh f f' b b') (t : Nat) : yC f' b' t = yC f b t := by
  unfold yC
  rw [h 6 (by decide)]
theorem ysh_v (h : ysh f f' b b') (hv : yval f b) : yval f' b' := by
  have h0 : f' b' = f b := h 0 (by decide)
  obtain ⟨k1, k2, k3, k4⟩ := hv
  refine ⟨by rw [h0]; exact k1, by rw [h 1 (by decide)]; exact k2, fun t ht => ?_, by rw [h 3 (by decide), h 4 (by decide)]; exact k4⟩
  obtain ⟨d1, d2, d3, d4, d5, d6, d7⟩ := k3 t ht
  refine ⟨by rw [h 2 (by decide)]; exact d1, by rw [h 2 (by decide), ysh_C h]; exact d2, by rw [h 2 (by decide), h 6 (by decide)]; exact d3, ?_, by rw [h 2 (by decide)]; exact d5, by rw [h 2 (by decide), h0]; exact d6, by rw [h 5 (by decide)]; exact d7⟩
  unfold ylie
  rw [h 2 (by decide), h0, ysh_C h]
  exact d4
theorem ysh_t {σ : xa_H} {i t : Nat} (h : ysh f f' b b') (hc : yclt σ i f b t) : yclt σ i f' b' t := by
  unfold yclt
  rw [h 2 (by decide), h 5 (by decide), h 6 (by decide), ysh_C h]
  exact hc
theorem ysh_c {σ : xa_H} {s : Nat} (h : ysh f f' b b') (hc : ycl σ s f b) : ycl σ s f' b' := by
  have h0 : f' b' = f b := h 0 (by decide)
  obtain ⟨k1, k2, k3, k4⟩ := hc
  exact ⟨by rw [h0]; exact k1, by rw [h 1 (by decide)]; exact k2, fun t ht => ysh_t h (k3 t ht), by rw [h 3 (by decide), h 4 (by decide)]; exact k4⟩
end SH
/-- the state after -/
noncomputable def aim1 (f : xa_H) (a : Nat) : xa_H := fun K => if K = 9 then xup f 9 a 0 1 9 else if 10 * a + 10 ≤ K ∧ K ≤ 10 * a + 16 then f (K - (10 * a + 10)) else f K
noncomputable def aimage (f : xa_H) (a : Int) : Int × xa_H := if 0 ≤ a ∧ a ≤ 1 then (1, aim1 f a.toNat) else (-2, f)
noncomputable def ars1 (f : xa_H) (a : Nat) : xa_H := fun K => if K ≤ 6 then f (10 * a + 10 + K) else f K
noncomputable def arest (f : xa_H) (a : Int) : Int × xa_H := if 0 ≤ a ∧ a ≤ 1 then (if f 9 a.toNat 0 = 0 then (-3, f) else (1, ars1 f a.toNat)) else (-2, f)
section IM
variable {f : xa_H} {a : Nat}
theorem aim_b (K : Nat) (h : K < 9) : aim1 f a K = f K := by
  unfold aim1
  rw [if_neg (by omega), if_neg (by omega)]
theorem aim_0 : ysh f (aim1 f a) 0 0 := fun K hK => by rw [aim_b _ (by omega)]
theorem aim_a : ysh f (aim1 f a) 0 (10 * a + 10) := by
  intro K hK
  unfold aim1
  rw [if_neg (by omega), if_pos (by omega), show 10 * a + 10 + K - (10 * a + 10) = 0 + K by omega]
theorem aim_o {n : Nat} (h : ¬ n = a) : ysh f (aim1 f a) (10 * n + 10) (10 * n + 10) := by
  intro K hK
  unfold aim1
  rw [if_neg (by omega), if_neg (by omega)]
theorem aim_9 {n : Nat} : aim1 f a 9 n 0 = if n = a then 1 else f 9 n 0 := by
  unfold aim1
  rw [if_pos rfl, xup_v]
  by_cases h : n = a
  · rw [if_pos ⟨rfl, h, rfl⟩, if_pos h]
  · rw [if_neg (by omega), if_neg h]
theorem aim_q : yeq f (aim1 f a) 0 := fun K _ h => aim_b K (by omega)
theorem ars_0 : ysh f (ars1 f a) (10 * a + 10) 0 := by
  intro K hK
  unfold ars1
  rw [if_pos (by omega), show 10 * a + 10 + (0 + K) = 10 * a + 10 + K by omega]
theorem ars_k {K : Nat} (h : 7 ≤ K) : ars1 f a K = f K := by
  unfold ars1
  rw [if_neg (by omega)]
theorem V_im1 (hv : yv f) : yv (aim1 f a) := by
  refine ⟨ysh_v aim_0 hv.1, by rw [aim_b _ (by decide), aim_b _ (by decide)]; exact hv.2.1, fun n hn => ?_⟩
  rw [aim_9]
  by_cases h : n = a
  · rw [if_pos h, h]
    exact Or.inr ⟨rfl, ysh_v aim_a hv.1⟩
  · rw [if_neg h]
    rcases hv.2.2 n hn with h1 | ⟨h1, h2⟩
    · exact Or.inl h1
    · exact Or.inr ⟨h1, ysh_v (aim_o h) h2⟩
theorem V_rs1 (hv : yv f) (ha : a < 2) (h : ¬ f 9 a 0 = 0) : yv (ars1 f a) := by
  have hva : yval f (10 * a + 10) := by
    rcases hv.2.2 a ha with h1 | ⟨_, h2⟩
    · exact absurd h1 h
    · exact h2
  refine ⟨ysh_v ars_0 hva, by rw [ars_k (by decide), ars_k (by decide)]; exact hv.2.1, fun n hn => ?_⟩
  rw [ars_k (by decide)]
  rcases hv.2.2 n hn with h1 | ⟨h1, h2⟩
  · exact Or.inl h1
  · exact Or.inr ⟨h1, ysh_v (fun K hK => ars_k (by omega)) h2⟩
end IM
theorem V_image {f : xa_H} (hv : yv f) (a : Int) : yv (aimage f a).2 := by
  unfold aimage
  split
  · exact V_im1 hv
  · exact hv
theorem V_rest {f : xa_H} (hv : yv f) (a : Int) : yv (arest f a).2 := by
  unfold arest
  split
  · split
    · exact hv
    · exact V_rs1 hv (by omega) (by assumption)
  · exact hv
/-- the class copies -/
theorem q_copy {K i1 i0 n : Nat} (hk : xalen K = n) (hn : n < 10000) (hi : ¬ i1 = i0) (σ : xa_H) : xW (fm_S_copy K i1 K i0 σ) fun s => (∀ K' i' s', ¬ (K' = K ∧ i' = i0) → s K' i' s' = σ K' i' s') ∧ ∀ j, j < n → s K i0 j = σ K i1 j := by
  unfold fm_S_copy
  refine xfor0 (fun m (j : Int) (g : xa_H) => fm_S_copy_2 K i1 K i0 (fun s => some s) m j g) n
    (fun j g => (∀ K' i' s', ¬ (K' = K ∧ i' = i0) → g K' i' s' = σ K' i' s') ∧ ∀ k, k < j → g K i0 k = σ K i1 k) _ (xfu_b (by omega)) ?_ ?_ σ ⟨fun _ _ _ _ => rfl, fun k hk => by omega⟩
  · rintro m j g hj ⟨h1, h2⟩ ih
    show xW (fm_S_copy_2 K i1 K i0 (fun s => some s) (m + 1) (j : Int) g) _
    rw [fm_S_copy_2, hk]
    have tn : ((j : Int)).toNat = j := rfl
    rw [tn]
    refine xW_f (by omega) (xW_f (by omega) (xW_t ⟨by omega, by omega⟩ (xW_t ⟨by omega, by omega⟩ (xW_nm (xW_nm ?_)))))
    rw [w32_s (by omega)]
    refine ih _ ⟨fun K' i' s' h => by rw [xup_o (by omega)]; exact h1 K' i' s' h, fun k hk' => ?_⟩
    by_cases hkj : k = j
    · rw [hkj, xup_at]; exact h1 K i1 j (by omega)
    · rw [xup_o (by omega)]; exact h2 k (by omega)
  · rintro m g ⟨h1, h2⟩
    show xW (fm_S_copy_2 K i1 K i0 (fun s => some s) (m + 1) ((n : Nat) : Int) g) _
    rw [fm_S_copy_2, hk]
    exact xW_t (by omega) (xW_some ⟨h1, h2⟩)
theorem q_thingCopy {σ f : xa_H} {b t i0 i1 : Nat} (hi : ¬ i1 = i0) (hc : yclt σ i1 f b t) (h10 : f (b + 2) t 0 ≤ 10) : xW (fm_Thing_copyFrom i0 i1 σ) fun s =>
    (∀ K i' s', ¬ ((K = 5 ∨ K = 27 ∨ K = 28 ∨ K = 29 ∨ K = 30) ∧ i' = i0) → s K i' s' = σ K i' s') ∧ yclt s i0 f b t := by
  obtain ⟨⟨d0, d1, d2, d3⟩, d4, d5, d6⟩ := hc
  unfold fm_Thing_copyFrom
  refine xW_nmg (fun s1 h1 => xW_nmg (fun s2 h2 => xW_nmg (fun s3 h3 => xW_nmg (fun s4 h4 => ?_))))
  have g1 : ∀ K i' s', ¬ (K = 5 ∧ i' = i0 ∧ s' = 0) → s1 K i' s' = σ K i' s' := fun K i' s' q => by rw [h1, xup_o q]
  have g2 : ∀ K i' s', ¬ (K = 5 ∧ i' = i0 ∧ s' = 1) → s2 K i' s' = s1 K i' s' := fun K i' s' q => by rw [h2, xup_o q]
  have g3 : ∀ K i' s', ¬ (K = 5 ∧ i' = i0 ∧ s' = 2) → s3 K i' s' = s2 K i' s' := fun K i' s' q => by rw [h3, xup_o q]
  have g4 : ∀ K i' s', ¬ (K = 5 ∧ i' = i0 ∧ s' = 3) → s4 K i' s' = s3 K i' s' := fun K i' s' q => by rw [h4, xup_o q]
  have v0 : s4 5 i0 0 = f (b + 2) t 0 := by rw [g4 _ _ _ (by omega), g3 _ _ _ (by omega), g2 _ _ _ (by omega), h1, xup_at, d0]
  have v1 : s4 5 i0 1 = f (b + 2) t 1 := by rw [g4 _ _ _ (by omega), g3 _ _ _ (by omega), h2, xup_at, g1 _ _ _ (by omega), d1]
  have v2 : s4 5 i0 2 = f (b + 2) t 2 := by rw [g4 _ _ _ (by omega), h3, xup_at, g2 _ _ _ (by omega), g1 _ _ _ (by omega), d2]
  have v3 : s4 5 i0 3 = f (b + 2) t 3 := by rw [h4, xup_at, g3 _ _ _ (by omega), g2 _ _ _ (by omega), g1 _ _ _ (by omega), d3]
  have g5 : ∀ K i' s', ¬ (K = 5 ∧ i' = i0) → s4 K i' s' = σ K i' s' := by
    intro K i' s' q
    rw [g4 _ _ _ (by omega), g3 _ _ _ (by omega), g2 _ _ _ (by omega), g1 _ _ _ (by omega)]
  refine xW_bind (q_copy (K := 27) (n := 30) rfl (by decide) hi s4) ?_
  rintro s5 ⟨p1, p2⟩
  refine xW_bind (q_copy (K := 28) (n := 10) rfl (by decide) hi s5) ?_
  rintro s6 ⟨p3, p4⟩
  refine xW_bind (q_copy (K := 29) (n := 3) rfl (by decide) hi s6) ?_
  rintro s7 ⟨p5, p6⟩
  refine xW_bind (q_copy (K := 30) (n := 4) rfl (by decide) hi s7) ?_
  rintro s8 ⟨p7, p8⟩
  refine xW_some ⟨fun K i' s' q => ?_, ⟨?_, ?_, ?_, ?_⟩, fun j hj => ?_, fun k hk => ⟨fun a ha => ?_, ?_⟩, fun a ha => ?_⟩
  · rw [p7 _ _ _ (by omega), p5 _ _ _ (by omega), p3 _ _ _ (by omega), p1 _ _ _ (by omega), g5 _ _ _ (by omega)]
  · rw [p7 _ _ _ (by omega), p5 _ _ _ (by omega), p3 _ _ _ (by omega), p1 _ _ _ (by omega), v0]
  · rw [p7 _ _ _ (by omega), p5 _ _ _ (by omega), p3 _ _ _ (by omega), p1 _ _ _ (by omega), v1]
  · rw [p7 _ _ _ (by omega), p5 _ _ _ (by omega), p3 _ _ _ (by omega), p1 _ _ _ (by omega), v2]
  · rw [p7 _ _ _ (by omega), p5 _ _ _ (by omega), p3 _ _ _ (by omega), p1 _ _ _ (by omega), v3]
  · rw [p8 j hj, p5 _ _ _ (by omega), p3 _ _ _ (by omega), p1 _ _ _ (by omega), g5 _ _ _ (by omega)]; exact d4 j hj
  · rw [p7 _ _ _ (by omega), p5 _ _ _ (by omega), p3 _ _ _ (by omega), p2 _ (by omega), g5 _ _ _ (by omega)]; exact (d5 k hk).1 a ha
  · rw [p7 _ _ _ (by omega), p5 _ _ _ (by omega), p4 _ (by omega), p1 _ _ _ (by omega), g5 _ _ _ (by omega)]; exact (d5 k hk).2
  · rw [p7 _ _ _ (by omega), p6 _ ha, p3 _ _ _ (by omega), p1 _ _ _ (by omega), g5 _ _ _ (by omega)]; exact d6 a ha
theorem q_stairCopy {σ f : xa_H} {b i0 i1 : Nat} (hi : ¬ i1 = i0) (hc : ycl σ i1 f b) (hv : yval f b) : xW (fm_Stair_copyFrom i0 i1 σ) fun s =>
    (∀ K i' s', ¬ ((K = 7 ∨ K = 34 ∨ K = 33 ∨ K = 25 ∨ K = 26) ∧ i' = i0) → ¬ ((K = 5 ∨ K = 27 ∨ K = 28 ∨ K = 29 ∨ K = 30) ∧ 4 * i0 ≤ i' ∧ i' < 4 * i0 + 4) → s K i' s' = σ K i' s') ∧ ycl s i0 f b ∧ ∀ p m, p < 144 → m < 6 → s 34 i0 (6 * p + m) = ybs (ypr f b 0 (ykd f b) 0 0) p m := by
  obtain ⟨⟨z0, z1, z2⟩, k2, k3, k4⟩ := hc
  unfold fm_Stair_copyFrom
  have hway : xW (fm_Way_copyFrom i0 i1 σ) fun s => (∀ K i' s', ¬ ((K = 7 ∨ K = 34 ∨ K = 33) ∧ i' = i0) → s K i' s' = σ K i' s') ∧ (s 7 i0 0 = f b 0 0 ∧ s 7 i0 1 = f b 0 1 ∧ s 7 i0 2 = f b 0 2) ∧ (∀ q, q < 144 → s 33 i0 q = f (b + 1) 0 q) ∧ ∀ p m, p < 144 → m < 6 → s 34 i0 (6 * p + m) = ybs (ypr f b 0 (ykd f b) 0 0) p m := by
    unfold fm_Way_copyFrom
    rw [z0, z1, z2]
    refine xW_bind (q_measure (P := ypr f b 0 (ykd f b) 0 0) (i := i0) (σ := σ) hv.1) ?_
    rintro s1 ⟨c1, c2, c3⟩
    refine xW_bind (q_copy (K := 33) (n := 144) rfl (by decide) hi s1) ?_
    rintro s2 ⟨e1, e2⟩
    refine xW_some ⟨fun K i' s' q => by rw [e1 _ _ _ (by omega), c1 _ _ _ (by omega)], ?_, fun q hq => ?_, fun p m hp hm => ?_⟩
    · rw [e1 _ _ _ (by omega), e1 _ _ _ (by omega), e1 _ _ _ (by omega)]; exact c2
    · rw [e2 q hq, c1 _ _ _ (by omega)]; exact k2 q hq
    · rw [e1 _ _ _ (by omega)]; exact c3 p m hp hm
  refine xW_bind hway ?_
  rintro s1 ⟨w1, w2, w3, w4⟩
  refine xW_bind (q_copy (K := 25) (n := 4) rfl (by decide) hi s1) ?_
  rintro s2 ⟨p1, p2⟩
  refine xW_bind (q_copy (K := 26) (n := 4) rfl (by decide) hi s2) ?_
  rintro s3 ⟨p3, p4⟩
  have r3 : ∀ K i' s', ¬ ((K = 7 ∨ K = 34 ∨ K = 33 ∨ K = 25 ∨ K = 26) ∧ i' = i0) → s3 K i' s' = σ K i' s' := by
    intro K i' s' q
    rw [p3 _ _ _ (by omega), p1 _ _ _ (by omega), w1 _ _ _ (by omega)]
  refine xfor0 (fun n (j : Int) (g : xa_H) => fm_Stair_copyFrom_35 i0 i1 (fun s => some s) n j g) 4
    (fun j g => (∀ K i' s', ¬ ((K = 5 ∨ K = 27 ∨ K = 28 ∨ K = 29 ∨ K = 30) ∧ 4 * i0 ≤ i' ∧ i' < 4 * i0 + 4) → g K i' s' = s3 K i' s') ∧ ∀ t, t < j → yclt g (4 * i0 + t) f b t) _ (xfu_b (by omega)) ?_ ?_ s3 ⟨fun _ _ _ _ => rfl, fun t ht => by omega⟩
  · rintro fu j g hj ⟨i2, i3⟩ ih
    show xW (fm_Stair_copyFrom_35 i0 i1 _ (fu + 1) (j : Int) g) _
    have tn : ((j : Int)).toNat = j := rfl
    rw [fm_Stair_copyFrom_35, tn]
    have hsrc : yclt g (4 * i1 + j) f b j := by
      have hG : ∀ K s', (K = 5 ∨ K = 27 ∨ K = 28 ∨ K = 29 ∨ K = 30) → g K (4 * i1 + j) s' = σ K (4 * i1 + j) s' := by
        intro K s' q
        rw [i2 _ _ _ (by omega), r3 _ _ _ (by omega)]
      obtain ⟨d0, d4, d5, d6⟩ := k3 j hj
      refine ⟨by rw [hG 5 _ (by decide), hG 5 _ (by decide), hG 5 _ (by decide), hG 5 _ (by decide)]; exact d0, fun q hq => by rw [hG 30 _ (by decide)]; exact d4 q hq, fun k hk => ⟨fun a ha => by rw [hG 27 _ (by decide)]; exact (d5 k hk).1 a ha, by rw [hG 28 _ (by decide)]; exact (d5 k hk).2⟩, fun a ha => by rw [hG 29 _ (by decide)]; exact d6 a ha⟩
    refine xW_f (by omega) (xW_f (by omega) (xW_f (by omega) (xW_t ⟨by omega, by omega⟩ (xW_f (by omega) (xW_f (by omega) (xW_t ⟨by omega, by omega⟩ ?_))))))
    refine xW_bind (q_thingCopy (i0 := 4 * i0 + j) (i1 := 4 * i1 + j) (by omega) hsrc (hv.2.2.1 j hj).1.2) ?_
    rintro s10 ⟨c1, c2⟩
    refine xW_nm ?_
    rw [w32_s (by omega)]
    refine ih _ ⟨fun K i' s' q => by rw [c1 _ _ _ (by omega)]; exact i2 K i' s' q, fun t ht => ?_⟩
    by_cases htj : t = j
    · rw [htj]; exact c2
    · have hG : ∀ K s', (K = 5 ∨ K = 27 ∨ K = 28 ∨ K = 29 ∨ K = 30) → s10 K (4 * i0 + t) s' = g K (4 * i0 + t) s' := by
        intro K s' q
        rw [c1 _ _ _ (by omega)]
      obtain ⟨d0, d4, d5, d6⟩ := i3 t (by omega)
      refine ⟨by rw [hG 5 _ (by decide), hG 5 _ (by decide), hG 5 _ (by decide), hG 5 _ (by decide)]; exact d0, fun q hq => by rw [hG 30 _ (by decide)]; exact d4 q hq, fun k hk => ⟨fun a ha => by rw [hG 27 _ (by decide)]; exact (d5 k hk).1 a ha, by rw [hG 28 _ (by decide)]; exact (d5 k hk).2⟩, fun a ha => by rw [hG 29 _ (by decide)]; exact d6 a ha⟩
  · rintro fu g ⟨i2, i3⟩
    show xW (fm_Stair_copyFrom_35 i0 i1 _ (fu + 1) ((4 : Nat) : Int) g) _
    rw [fm_Stair_copyFrom_35]
    refine xW_t (by omega) (xW_some ⟨fun K i' s' q1 q2 => ?_, ⟨?_, fun q hq => ?_, i3, fun q hq => ⟨?_, ?_⟩⟩, fun p m hp hm => ?_⟩)
    · rw [i2 _ _ _ q2, r3 _ _ _ q1]
    · rw [i2 _ _ _ (by omega), i2 _ _ _ (by omega), i2 _ _ _ (by omega), p3 _ _ _ (by omega), p3 _ _ _ (by omega), p3 _ _ _ (by omega), p1 _ _ _ (by omega), p1 _ _ _ (by omega), p1 _ _ _ (by omega)]
      exact w2
    · rw [i2 _ _ _ (by omega), p3 _ _ _ (by omega), p1 _ _ _ (by omega)]; exact w3 q hq
    · rw [i2 _ _ _ (by omega), p3 _ _ _ (by omega), p2 q hq, w1 _ _ _ (by omega)]; exact (k4 q hq).1
    · rw [i2 _ _ _ (by omega), p4 q hq, p1 _ _ _ (by omega), w1 _ _ _ (by omega)]; exact (k4 q hq).2
    · rw [i2 _ _ _ (by omega), p3 _ _ _ (by omega), p1 _ _ _ (by omega)]; exact w4 p m hp hm
theorem K_image {σ f : xa_H} (hs : yc σ f) (hv : yv f) (a : Int) : xW (fm_S_image a σ) fun r => r.1 = (aimage f a).1 ∧ yc r.2 (aimage f a).2 := by
  unfold fm_S_image
  by_cases h : 0 ≤ a ∧ a ≤ 1
  · obtain ⟨u, hu⟩ : ∃ u : Nat, a = (u : Int) := ⟨a.toNat, by omega⟩
    subst hu
    have tn : ((u : Int)).toNat = u := rfl
    have eA : aimage f (u : Int) = (1, aim1 f u) := if_pos h
    rw [eA, tn]
    refine xW_f (by omega) (xW_f (by omega) (xW_t (by omega) (xW_bind (q_stairCopy (i0 := 1 + u) (i1 := 0) (by omega) hs.1.2.1 hv.1) ?_)))
    rintro s1 ⟨c1, c2, c3⟩
    refine xW_nm (xW_some ⟨rfl, ?_⟩)
    show yc (xup s1 4 (1 + u) 4 1) (aim1 f u)
    have ho : ∀ K i' s', ¬ ((K = 7 ∨ K = 34 ∨ K = 33 ∨ K = 25 ∨ K = 26) ∧ i' = 1 + u) → ¬ ((K = 5 ∨ K = 27 ∨ K = 28 ∨ K = 29 ∨ K = 30) ∧ 4 * (1 + u) ≤ i' ∧ i' < 4 * (1 + u) + 4) → ¬ (K = 4 ∧ i' = 1 + u ∧ s' = 4) → xup s1 4 (1 + u) 4 1 K i' s' = σ K i' s' := by
      intro K i' s' d1 d2 d3
      rw [xup_o d3, c1 K i' s' d1 d2]
    have hk : ∀ K, ¬ (K = 7 ∨ K = 34 ∨ K = 33 ∨ K = 25 ∨ K = 26) → ¬ (K = 5 ∨ K = 27 ∨ K = 28 ∨ K = 29 ∨ K = 30) → ¬ K = 4 → xup s1 4 (1 + u) 4 1 K = σ K := by
      intro K d1 d2 d3
      funext i' s'
      exact ho K i' s' (by omega) (by omega) (by omega)
    have hcl : ycl (xup s1 4 (1 + u) 4 1) (1 + u) f 0 := by
      obtain ⟨b1, b2, b3, b4⟩ := c2
      have e : ∀ K, ¬ K = 4 → xup s1 4 (1 + u) 4 1 K = s1 K := fun K q => xup_k q
      refine ⟨by rw [e 7 (by decide)]; exact b1, by rw [e 33 (by decide)]; exact b2, fun t ht => ?_, by rw [e 25 (by decide), e 26 (by decide)]; exact b4⟩
      have := b3 t ht
      unfold yclt at this ⊢
      rw [e 5 (by decide), e 30 (by decide), e 27 (by decide), e 28 (by decide), e 29 (by decide)]
      exact this
    have v4 : xup s1 4 (1 + u) 4 1 4 (1 + u) 4 = 1 := xup_at
    generalize xup s1 4 (1 + u) 4 1 = F at ho hk hcl v4 ⊢
    have hold : ∀ s b, ¬ s = 1 + u → ycl σ s f b → ycl F s f b := by
      intro s b hsu hb
      obtain ⟨b1, b2, b3, b4⟩ := hb
      refine ⟨?_, fun q hq => ?_, fun t ht => ?_, fun q hq => ?_⟩
      · rw [ho 7 s 0 (by omega) (by omega) (by omega), ho 7 s 1 (by omega) (by omega) (by omega), ho 7 s 2 (by omega) (by omega) (by omega)]; exact b1
      · rw [ho 33 s q (by omega) (by omega) (by omega)]; exact b2 q hq
      · obtain ⟨d0, d4, d5, d6⟩ := b3 t ht
        have hG : ∀ K s', (K = 5 ∨ K = 27 ∨ K = 28 ∨ K = 29 ∨ K = 30) → F K (4 * s + t) s' = σ K (4 * s + t) s' := by
          intro K s' q
          exact ho K _ _ (by omega) (by omega) (by omega)
        refine ⟨by rw [hG 5 _ (by decide), hG 5 _ (by decide), hG 5 _ (by decide), hG 5 _ (by decide)]; exact d0, fun q hq => by rw [hG 30 _ (by decide)]; exact d4 q hq, fun k hk => ⟨fun a ha => by rw [hG 27 _ (by decide)]; exact (d5 k hk).1 a ha, by rw [hG 28 _ (by decide)]; exact (d5 k hk).2⟩, fun a ha => by rw [hG 29 _ (by decide)]; exact d6 a ha⟩
      · rw [ho 25 s q (by omega) (by omega) (by omega), ho 26 s q (by omega) (by omega) (by omega)]; exact b4 q hq
    obtain ⟨a1, a2, a3, a4, a5⟩ := hs.1
    refine ⟨⟨?_, ysh_c aim_0 (hold 0 0 (by omega) a2), fun p m hp hm => ?_, ?_, fun n hn => ?_⟩, ?_, ?_, ?_⟩
    · obtain ⟨y1, y2, y3, y4⟩ := a1
      refine ⟨by rw [hk 31 (by decide) (by decide) (by decide)]; exact y1, by rw [hk 32 (by decide) (by decide) (by decide)]; exact y2, by rw [hk 19 (by decide) (by decide) (by decide)]; exact y3, fun k hk9 => ?_⟩
      rw [ho 28 12 k (by omega) (by omega) (by omega)]
      exact y4 k hk9
    · rw [ho 34 0 _ (by omega) (by omega) (by omega), a3 p m hp hm]
      exact (ybs_e (aim_b 0 (by decide))).symm
    · unfold ypd
      rw [hk 2 (by decide) (by decide) (by decide), hk 17 (by decide) (by decide) (by decide), aim_b 7 (by decide), aim_b 8 (by decide)]
      exact a4
    · rw [aim_9]
      by_cases hna : n = u
      · subst hna
        rw [if_pos rfl, Nat.add_comm n 1]
        exact ⟨v4, fun _ => ysh_c aim_a hcl⟩
      · obtain ⟨e1, e2⟩ := a5 n hn
        rw [if_neg hna, ho 4 (n + 1) 4 (by omega) (by omega) (by omega)]
        exact ⟨e1, fun h9 => ysh_c (aim_o hna) (hold (n + 1) (10 * n + 10) (by omega) (e2 h9))⟩
    · refine yca_e aim_q ?_
      have hc := hs.2.1
      unfold yca at hc ⊢
      rw [hk 3 (by decide) (by decide) (by decide)]
      rcases hc with h1 | h1 | ⟨t, a1, a2, a3, a4, a5⟩
      · exact Or.inl h1
      · exact Or.inr (Or.inl h1)
      · refine Or.inr (Or.inr ⟨t, a1, a2, a3, ?_, ?_⟩)
        · obtain ⟨⟨i, b1, b2, b3⟩, b4, b5⟩ := a4
          have hit : i < 4 := by omega
          refine ⟨⟨i, by rw [hk 3 (by decide) (by decide) (by decide)]; exact b1, by rw [ho 5 i 0 (by omega) (by omega) (by omega)]; exact b2, fun k hk' => by rw [ho 28 i k (by omega) (by omega) (by omega)]; exact b3 k hk'⟩, ?_, ?_⟩
          · rw [hk 18 (by decide) (by decide) (by decide)]; exact b4
          · rw [hk 20 (by decide) (by decide) (by decide)]; exact b5
        · unfold yhc at a5 ⊢
          rw [hk 21 (by decide) (by decide) (by decide)]
          exact a5
    · exact yfl_k (hk 3 (by decide) (by decide) (by decide)) (hk 22 (by decide) (by decide) (by decide)) (hk 23 (by decide) (by decide) (by decide)) hs.2.2.1
    · exact yan_e aim_q (yan_f (hk 0 (by decide) (by decide) (by decide)) (hk 12 (by decide) (by decide) (by decide)) hs.2.2.2)
  · have eA : aimage f a = (-2, f) := if_neg h
    rw [eA]
    by_cases d : a < 0
    · exact xW_t d (xW_some ⟨rfl, hs⟩)
    · exact xW_f d (xW_t (by omega) (xW_some ⟨rfl, hs⟩))
theorem K_rest {σ f : xa_H} (hs : yc σ f) (hv : yv f) (a : Int) : xW (fm_S_restore a σ) fun r => r.1 = (arest f a).1 ∧ yc r.2 (arest f a).2 := by
  unfold fm_S_restore
  by_cases h : 0 ≤ a ∧ a ≤ 1
  · obtain ⟨u, hu⟩ : ∃ u : Nat, a = (u : Int) := ⟨a.toNat, by omega⟩
    subst hu
    have tn : ((u : Int)).toNat = u := rfl
    have hu2 : u < 2 := by omega
    obtain ⟨a1, a2, a3, a4, a5⟩ := hs.1
    obtain ⟨k1, k2⟩ := a5 u hu2
    rw [tn, Nat.add_comm 1 u, k1]
    refine xW_f (by omega) (xW_f (by omega) (xW_t (by omega) ?_))
    by_cases h9 : f 9 u 0 = 0
    · have eA : arest f (u : Int) = (-3, f) := by unfold arest; rw [if_pos h, tn, if_pos h9]
      rw [eA]
      exact xW_t h9 (xW_some ⟨rfl, hs⟩)
    · have eA : arest f (u : Int) = (1, ars1 f u) := by unfold arest; rw [if_pos h, tn, if_neg h9]
      rw [eA]
      have hva : f 9 u 0 = 1 ∧ yval f (10 * u + 10) := by
        rcases hv.2.2 u hu2 with h1 | h2
        · exact absurd h1 h9
        · exact h2
      refine xW_f h9 (xW_bind (q_stairCopy (i0 := 0) (i1 := u + 1) (by omega) (k2 hva.1) hva.2) ?_)
      rintro s1 ⟨c1, c2, c3⟩
      have hfw : fm_S_forgetWay s1 = some (xup (xup s1 3 0 8 (-1)) 0 0 1 0) := rfl
      refine xW_be hfw (xW_some ⟨rfl, ?_⟩)
      show yc (xup (xup s1 3 0 8 (-1)) 0 0 1 0) (ars1 f u)
      have hs1 : ∀ K, ¬ K = 3 → ¬ K = 0 → xup (xup s1 3 0 8 (-1)) 0 0 1 0 K = s1 K := by
        intro K d1 d2
        rw [xup_k d2, xup_k d1]
      have ho : ∀ K i' s', ¬ ((K = 7 ∨ K = 34 ∨ K = 33 ∨ K = 25 ∨ K = 26) ∧ i' = 0) → ¬ ((K = 5 ∨ K = 27 ∨ K = 28 ∨ K = 29 ∨ K = 30) ∧ i' < 4) → ¬ K = 3 → ¬ K = 0 → xup (xup s1 3 0 8 (-1)) 0 0 1 0 K i' s' = σ K i' s' := by
        intro K i' s' d1 d2 d3 d4
        rw [hs1 K d3 d4, c1 K i' s' d1 (by omega)]
      have hk : ∀ K, ¬ (K = 7 ∨ K = 34 ∨ K = 33 ∨ K = 25 ∨ K = 26) → ¬ (K = 5 ∨ K = 27 ∨ K = 28 ∨ K = 29 ∨ K = 30) → ¬ K = 3 → ¬ K = 0 → xup (xup s1 3 0 8 (-1)) 0 0 1 0 K = σ K := by
        intro K d1 d2 d3 d4
        funext i' s'
        exact ho K i' s' (by omega) (by omega) d3 d4
      have v38 : xup (xup s1 3 0 8 (-1)) 0 0 1 0 3 0 8 = -1 := by rw [xup_o (by omega), xup_at]
      have e3 : ∀ s', ¬ s' = 8 → xup (xup s1 3 0 8 (-1)) 0 0 1 0 3 0 s' = σ 3 0 s' := by
        intro s' hs'
        rw [xup_o (by omega), xup_o (by omega)]
        exact c1 3 0 s' (by omega) (by omega)
      have v0 : xup (xup s1 3 0 8 (-1)) 0 0 1 0 0 0 1 = 0 := xup_at
      generalize xup (xup s1 3 0 8 (-1)) 0 0 1 0 = F at hs1 ho hk v38 e3 v0 ⊢
      have hcl : ycl F 0 f (10 * u + 10) := by
        obtain ⟨b1, b2, b3, b4⟩ := c2
        refine ⟨by rw [hs1 7 (by decide) (by decide)]; exact b1, by rw [hs1 33 (by decide) (by decide)]; exact b2, fun t ht => ?_, by rw [hs1 25 (by decide) (by decide), hs1 26 (by decide) (by decide)]; exact b4⟩
        have := b3 t ht
        unfold yclt at this ⊢
        rw [hs1 5 (by decide) (by decide), hs1 30 (by decide) (by decide), hs1 27 (by decide) (by decide), hs1 28 (by decide) (by decide), hs1 29 (by decide) (by decide)]
        exact this
      refine ⟨⟨?_, ysh_c ars_0 hcl, fun p m hp hm => ?_, ?_, fun n hn => ?_⟩, Or.inl (by rw [v38]; decide), ?_, Or.inl v0⟩
      · obtain ⟨y1, y2, y3, y4⟩ := a1
        refine ⟨by rw [hk 31 (by decide) (by decide) (by decide) (by decide)]; exact y1, by rw [hk 32 (by decide) (by decide) (by decide) (by decide)]; exact y2, by rw [hk 19 (by decide) (by decide) (by decide) (by decide)]; exact y3, fun k hk9 => ?_⟩
        rw [ho 28 12 k (by omega) (by omega) (by omega) (by omega)]
        exact y4 k hk9
      · rw [hs1 34 (by decide) (by decide), c3 p m hp hm]
        have e0 : ars1 f u 0 = f (10 * u + 10) := ars_0 0 (by decide)
        have e : ypr f (10 * u + 10) 0 (ykd f (10 * u + 10)) 0 0 0 = ypr (ars1 f u) 0 0 (ykd (ars1 f u) 0) 0 0 0 := by
          show (fun (_ : Nat) s => f (10 * u + 10) 0 s) = fun (_ : Nat) s => ars1 f u 0 0 s
          rw [e0]
        unfold ybs
        rw [e]
      · unfold ypd
        rw [hk 2 (by decide) (by decide) (by decide) (by decide), hk 17 (by decide) (by decide) (by decide) (by decide), ars_k (by decide), ars_k (by decide)]
        exact a4
      · obtain ⟨e1, e2⟩ := a5 n hn
        rw [ars_k (by decide), hk 4 (by decide) (by decide) (by decide) (by decide)]
        refine ⟨e1, fun h1 => ysh_c (f := f) (b := 10 * n + 10) (fun K hK => ars_k (by omega)) ?_⟩
        obtain ⟨b1, b2, b3, b4⟩ := e2 h1
        refine ⟨?_, fun q hq => ?_, fun t ht => ?_, fun q hq => ?_⟩
        · rw [ho 7 (n + 1) 0 (by omega) (by omega) (by omega) (by omega), ho 7 (n + 1) 1 (by omega) (by omega) (by omega) (by omega), ho 7 (n + 1) 2 (by omega) (by omega) (by omega) (by omega)]; exact b1
        · rw [ho 33 (n + 1) q (by omega) (by omega) (by omega) (by omega)]; exact b2 q hq
        · obtain ⟨d0, d4, d5, d6⟩ := b3 t ht
          have hG : ∀ K s', (K = 5 ∨ K = 27 ∨ K = 28 ∨ K = 29 ∨ K = 30) → F K (4 * (n + 1) + t) s' = σ K (4 * (n + 1) + t) s' := by
            intro K s' q
            exact ho K _ _ (by omega) (by omega) (by omega) (by omega)
          refine ⟨by rw [hG 5 _ (by decide), hG 5 _ (by decide), hG 5 _ (by decide), hG 5 _ (by decide)]; exact d0, fun q hq => by rw [hG 30 _ (by decide)]; exact d4 q hq, fun k hk => ⟨fun a ha => by rw [hG 27 _ (by decide)]; exact (d5 k hk).1 a ha, by rw [hG 28 _ (by decide)]; exact (d5 k hk).2⟩, fun a ha => by rw [hG 29 _ (by decide)]; exact d6 a ha⟩
        · rw [ho 25 (n + 1) q (by omega) (by omega) (by omega) (by omega), ho 26 (n + 1) q (by omega) (by omega) (by omega) (by omega)]; exact b4 q hq
      · unfold yfl
        rw [e3 10 (by decide), hk 22 (by decide) (by decide) (by decide) (by decide), hk 23 (by decide) (by decide) (by decide) (by decide)]
        exact hs.2.2.1
  · have eA : arest f a = (-2, f) := if_neg h
    rw [eA]
    by_cases d : a < 0
    · exact xW_t d (xW_some ⟨rfl, hs⟩)
    · exact xW_f d (xW_t (by omega) (xW_some ⟨rfl, hs⟩))
/-! the reference passes all it tells -/
def ycl1 (j : Nat) : Nat := if j < 3 then 9 else if j < 147 then 53 else if j < 171 then (if (j - 147) % 6 = 0 then 54 else if (j - 147) % 6 = 1 then 62 else if (j - 147) % 6 = 2 then 63 else if (j - 147) % 6 = 3 then 64 else if (j - 147) % 6 = 4 then 60 else 61)
  else if j < 331 then 55 + (j - 171) % 4 else 59
def ycl2 (j : Nat) : Nat := if j < 3 then 3 + j else if j < 147 then j - 3 else if j < 171 then (j - 147) / 6 else if j < 331 then (j - 171) / 4 else j - 331
def yclv (K s : Nat) : Nat := if K = 9 then s - 3 else if K = 53 then s + 3 else if K = 54 then 147 + 6 * s else if K = 62 then 148 + 6 * s else if K = 63 then 149 + 6 * s else if K = 64 then 150 + 6 * s else if K = 60 then 151 + 6 * s else if K = 61 then 152 + 6 * s else if K = 59 then 331 + s else 171 + 4 * s + (K - 55)
theorem ycl_v : ∀ j, j < 347 → yclv (ycl1 j) (ycl2 j) = j := by decide +kernel
theorem ycl_r : ∀ j, j < 347 → (ycl1 j = 9 ∧ 3 ≤ ycl2 j ∧ ycl2 j ≤ 5) ∨ (53 ≤ ycl1 j ∧ ycl1 j ≤ 64) := by decide +kernel
theorem ycl_53 : ∀ q, q < 144 → ycl1 (3 + q) = 53 ∧ ycl2 (3 + q) = q := by decide +kernel
theorem ycl_t : ∀ t, t < 4 → (ycl1 (147 + 6 * t) = 54 ∧ ycl2 (147 + 6 * t) = t) ∧ (ycl1 (147 + 6 * t + 1) = 62 ∧ ycl2 (147 + 6 * t + 1) = t) ∧ (ycl1 (147 + 6 * t + 2) = 63 ∧ ycl2 (147 + 6 * t + 2) = t) ∧ (ycl1 (147 + 6 * t + 3) = 64 ∧ ycl2 (147 + 6 * t + 3) = t) ∧ (ycl1 (147 + 6 * t + 4) = 60 ∧ ycl2 (147 + 6 * t + 4) = t) ∧ (ycl1 (147 + 6 * t + 5) = 61 ∧ ycl2 (147 + 6 * t + 5) = t) := by decide +kernel
theorem ycl_k : ∀ k, k < 40 → (ycl1 (171 + 4 * k) = 55 ∧ ycl2 (171 + 4 * k) = k) ∧ (ycl1 (171 + 4 * k + 1) = 56 ∧ ycl2 (171 + 4 * k + 1) = k) ∧ (ycl1 (171 + 4 * k + 2) = 57 ∧ ycl2 (171 + 4 * k + 2) = k) ∧ (ycl1 (171 + 4 * k + 3) = 58 ∧ ycl2 (171 + 4 * k + 3) = k) := by decide +kernel
theorem ycl_59 : ∀ q, q < 16 → ycl1 (331 + q) = 59 ∧ ycl2 (331 + q) = q := by decide +kernel
theorem ycl_9 : ∀ q, q < 3 → ycl1 q = 9 ∧ ycl2 q = 3 + q := by decide +kernel
def ypi (σ : xa_H) (a : Nat) (W : Nat → Int) (j : Nat) (g : xa_H) : Prop := g 9 0 41 = ((420 * a + j : Nat) : Int) ∧ g 9 0 42 = σ 9 0 42 ∧
  (∀ j', j' < 347 → g (ycl1 j') 0 (ycl2 j') = (if j' < j then W j' else σ (ycl1 j') 0 (ycl2 j')) ∧ g 75 0 (420 * a + j') = (if j' < j then W j' else σ 75 0 (420 * a + j'))) ∧
  ∀ K i s, (∀ j', j' < 347 → ¬ (K = ycl1 j' ∧ i = 0 ∧ s = ycl2 j')) → ¬ (K = 75 ∧ i = 0 ∧ 420 * a ≤ s ∧ s < 420 * a + 347) → ¬ (K = 9 ∧ i = 0 ∧ s = 41) → g K i s = σ K i s
section PS
variable {σ : xa_H} {a : Nat} {W : Nat → Int}
theorem l_pass (hW : ∀ j, j < 347 → W j = if σ 9 0 42 = 0 then σ 75 0 (420 * a + j) else σ (ycl1 j) 0 (ycl2 j)) {g : xa_H} {j : Nat} (hj : j < 347) (ha : a < 2) (hI : ypi σ a W j g) :
    xW (fm_M_pass (g (ycl1 j) 0 (ycl2 j)) g) fun r => ypi σ a W (j + 1) (xup r.2 (ycl1 j) 0 (ycl2 j) r.1) := by
  obtain ⟨i1, i2, i3, i4⟩ := hI
  have tn : ∀ j : Nat, ((j : Int)).toNat = j := fun j => rfl
  have hr := ycl_r j hj
  have hfin : ∀ v : Int, v = W j → xW (if 0 ≤ (g 9 0 41) ∧ (g 9 0 41) < 840 then xnm (xup g 75 0 ((g 9 0 41).toNat) v) fun s5 => xnm (xup s5 9 0 41 (w32 ((s5 9 0 41) + 1))) fun s6 => some (v, s6) else none) fun r => ypi σ a W (j + 1) (xup r.2 (ycl1 j) 0 (ycl2 j) r.1) := by
    intro v hv
    rw [i1, tn]
    refine xW_t ⟨by omega, by omega⟩ (xW_nm (xW_nm (xW_some ?_)))
    show ypi σ a W (j + 1) (xup (xup (xup g 75 0 (420 * a + j) v) 9 0 41 (w32 (xup g 75 0 (420 * a + j) v 9 0 41 + 1))) (ycl1 j) 0 (ycl2 j) v)
    have e9 : xup g 75 0 (420 * a + j) v 9 0 41 = ((420 * a + j : Nat) : Int) := by rw [xup_o (by omega), i1]
    rw [e9, w32_s (by omega)]
    refine ⟨by rw [xup_o (by omega), xup_at]; rfl, by rw [xup_o (by omega), xup_o (by omega), xup_o (by omega)]; exact i2, fun j' hj' => ⟨?_, ?_⟩, fun K i s q1 q2 q3 => ?_⟩
    · have hr' := ycl_r j' hj'
      by_cases hjj : j' = j
      · rw [hjj, xup_at, if_pos (by omega), hv]
      · have hne : ¬ (ycl1 j' = ycl1 j ∧ 0 = 0 ∧ ycl2 j' = ycl2 j) := by
          rintro ⟨e1, _, e2⟩
          have := ycl_v j' hj'
          rw [e1, e2, ycl_v j hj] at this
          exact hjj this.symm
        rw [xup_o hne, xup_o (by omega), xup_o (by omega), (i3 j' hj').1]
        by_cases hlt : j' < j
        · rw [if_pos hlt, if_pos (by omega)]
        · rw [if_neg hlt, if_neg (by omega)]
    · rw [xup_o (by omega), xup_o (by omega)]
      by_cases hjj : j' = j
      · rw [hjj, xup_at, if_pos (by omega), hv]
      · rw [xup_o (by omega), (i3 j' hj').2]
        by_cases hlt : j' < j
        · rw [if_pos hlt, if_pos (by omega)]
        · rw [if_neg hlt, if_neg (by omega)]
    · rw [xup_o (q1 j hj), xup_o (by omega), xup_o (by omega)]
      exact i4 K i s q1 q2 q3
  unfold fm_M_pass
  refine xW_j ?_
  by_cases h42 : σ 9 0 42 = 0
  · refine xW_t (by rw [i2]; exact h42) (xW_t (by rw [i1]; exact ⟨by omega, by omega⟩) (hfin _ ?_))
    rw [i1, tn, (i3 j hj).2, if_neg (by omega), hW j hj, if_pos h42]
  · refine xW_f (by rw [i2]; exact h42) (hfin _ ?_)
    rw [(i3 j hj).1, if_neg (by omega), hW j hj, if_neg h42]
theorem l_pass2 (hW : ∀ j, j < 347 → W j = if σ 9 0 42 = 0 then σ 75 0 (420 * a + j) else σ (ycl1 j) 0 (ycl2 j)) (ha : a < 2) {g : xa_H} (j : Nat) {K s : Nat} (e1 : ycl1 j = K) (e2 : ycl2 j = s) (hI : ypi σ a W j g) (hj : j < 347) :
    xW (fm_M_pass (g K 0 s) g) fun r => ypi σ a W (j + 1) (xup r.2 K 0 s r.1) := by
  have := l_pass hW hj ha hI
  rw [e1, e2] at this
  exact this
theorem q_passAll (hW : ∀ j, j < 347 → W j = if σ 9 0 42 = 0 then σ 75 0 (420 * a + j) else σ (ycl1 j) 0 (ycl2 j)) (ha : a < 2) (h41 : σ 9 0 41 = ((420 * a : Nat) : Int)) : xW (fm_M_passAll σ) fun g => ypi σ a W 347 g := by
  have tn : ∀ j : Nat, ((j : Int)).toNat = j := fun j => rfl
  have h0 : ypi σ a W 0 σ := ⟨h41, rfl, fun j' _ => ⟨by rw [if_neg (by omega)], by rw [if_neg (by omega)]⟩, fun _ _ _ _ _ _ => rfl⟩
  unfold fm_M_passAll
  refine xW_b2 (l_pass2 hW ha 0 rfl rfl h0 (by decide)) (fun v1 s2 h1 => xW_nm (xW_b2 (l_pass2 hW ha 1 (K := 9) (s := 4) rfl rfl h1 (by decide)) (fun v4 s5 h2 => xW_nm (xW_b2 (l_pass2 hW ha 2 (K := 9) (s := 5) rfl rfl h2 (by decide)) (fun v7 s8 h3 => xW_nm ?_)))))
  refine xfor0 (fun m (x : Int) (g : xa_H) => fm_M_passAll_38 _ m x g) 144 (fun x g => ypi σ a W (3 + x) g) _ (xfu_b (by omega)) ?_ ?_ _ h3
  · rintro fu x g hx hI ih
    show xW (fm_M_passAll_38 _ (fu + 1) (x : Int) g) _
    rw [fm_M_passAll_38, tn]
    obtain ⟨e1, e2⟩ := ycl_53 x hx
    refine xW_f (by omega) (xW_t ⟨by omega, by omega⟩ (xW_b2 (l_pass2 hW ha (3 + x) e1 e2 hI (by omega)) (fun v s h => xW_t ⟨by omega, by omega⟩ (xW_nm (xW_nm ?_)))))
    rw [w32_s (by omega)]
    exact ih _ h
  · rintro fu g hI
    show xW (fm_M_passAll_38 _ (fu + 1) ((144 : Nat) : Int) g) _
    rw [fm_M_passAll_38]
    refine xW_t (by omega) ?_
    refine xfor0 (fun m (x : Int) (g : xa_H) => fm_M_passAll_69 _ m x g) 4 (fun x g => ypi σ a W (147 + 6 * x) g) _ (xfu_b (by omega)) ?_ ?_ _ hI
    · rintro fu x g hx hI ih
      show xW (fm_M_passAll_69 _ (fu + 1) (x : Int) g) _
      rw [fm_M_passAll_69, tn]
      obtain ⟨⟨a1, a2⟩, ⟨b1, b2⟩, ⟨c1, c2⟩, ⟨d1, d2⟩, ⟨e1, e2⟩, ⟨f1, f2⟩⟩ := ycl_t x hx
      have r5 : 0 ≤ (x : Int) ∧ (x : Int) < 5 := ⟨by omega, by omega⟩
      have r4 : 0 ≤ (x : Int) ∧ (x : Int) < 4 := ⟨by omega, by omega⟩
      refine xW_f (by omega) (xW_t r5 (xW_b2 (l_pass2 hW ha (147 + 6 * x) a1 a2 hI (by omega)) (fun v s h1 => xW_t r5 (xW_nm (xW_t r5 ?_)))))
      refine xW_b2 (l_pass2 hW ha (147 + 6 * x + 1) b1 b2 h1 (by omega)) (fun v s h2 => xW_t r5 (xW_nm (xW_t r5 ?_)))
      refine xW_b2 (l_pass2 hW ha (147 + 6 * x + 2) c1 c2 h2 (by omega)) (fun v s h3 => xW_t r5 (xW_nm (xW_t r5 ?_)))
      refine xW_b2 (l_pass2 hW ha (147 + 6 * x + 3) d1 d2 h3 (by omega)) (fun v s h4 => xW_t r5 (xW_nm (xW_t r4 ?_)))
      refine xW_b2 (l_pass2 hW ha (147 + 6 * x + 4) e1 e2 h4 (by omega)) (fun v s h5 => xW_t r4 (xW_nm (xW_t r4 ?_)))
      refine xW_b2 (l_pass2 hW ha (147 + 6 * x + 5) f1 f2 h5 (by omega)) (fun v s h6 => xW_t r4 (xW_nm (xW_nm ?_)))
      rw [w32_s (by omega)]
      exact ih _ h6
    · rintro fu g hI
      show xW (fm_M_passAll_69 _ (fu + 1) ((4 : Nat) : Int) g) _
      rw [fm_M_passAll_69]
      refine xW_t (by omega) ?_
      refine xfor0 (fun m (x : Int) (g : xa_H) => fm_M_passAll_178 _ m x g) 40 (fun x g => ypi σ a W (171 + 4 * x) g) _ (xfu_b (by omega)) ?_ ?_ _ hI
      · rintro fu x g hx hI ih
        show xW (fm_M_passAll_178 _ (fu + 1) (x : Int) g) _
        rw [fm_M_passAll_178, tn]
        obtain ⟨⟨a1, a2⟩, ⟨b1, b2⟩, ⟨c1, c2⟩, ⟨d1, d2⟩⟩ := ycl_k x hx
        have r5 : 0 ≤ (x : Int) ∧ (x : Int) < 50 := ⟨by omega, by omega⟩
        refine xW_f (by omega) (xW_t r5 (xW_b2 (l_pass2 hW ha (171 + 4 * x) a1 a2 hI (by omega)) (fun v s h1 => xW_t r5 (xW_nm (xW_t r5 ?_)))))
        refine xW_b2 (l_pass2 hW ha (171 + 4 * x + 1) b1 b2 h1 (by omega)) (fun v s h2 => xW_t r5 (xW_nm (xW_t r5 ?_)))
        refine xW_b2 (l_pass2 hW ha (171 + 4 * x + 2) c1 c2 h2 (by omega)) (fun v s h3 => xW_t r5 (xW_nm (xW_t r5 ?_)))
        refine xW_b2 (l_pass2 hW ha (171 + 4 * x + 3) d1 d2 h3 (by omega)) (fun v s h4 => xW_t r5 (xW_nm (xW_nm ?_)))
        rw [w32_s (by omega)]
        exact ih _ h4
      · rintro fu g hI
        show xW (fm_M_passAll_178 _ (fu + 1) ((40 : Nat) : Int) g) _
        rw [fm_M_passAll_178]
        refine xW_t (by omega) ?_
        refine xfor0 (fun m (x : Int) (g : xa_H) => fm_M_passAll_256 _ m x g) 16 (fun x g => ypi σ a W (331 + x) g) _ (xfu_b (by omega)) ?_ ?_ _ hI
        · rintro fu x g hx hI ih
          show xW (fm_M_passAll_256 _ (fu + 1) (x : Int) g) _
          rw [fm_M_passAll_256, tn]
          obtain ⟨e1, e2⟩ := ycl_59 x hx
          refine xW_f (by omega) (xW_t ⟨by omega, by omega⟩ (xW_b2 (l_pass2 hW ha (331 + x) e1 e2 hI (by omega)) (fun v s h => xW_t ⟨by omega, by omega⟩ (xW_nm (xW_nm ?_)))))
          rw [w32_s (by omega)]
          exact ih _ h
        · rintro fu g hI
          show xW (fm_M_passAll_256 _ (fu + 1) ((16 : Nat) : Int) g) _
          rw [fm_M_passAll_256]
          exact xW_t (by omega) (xW_some hI)
end PS
