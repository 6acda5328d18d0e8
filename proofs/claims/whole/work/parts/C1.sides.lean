/-! one side's calls leave the other side; both sides at the start -/
theorem yc_side {σ σ' f : xa_H} (e : ∀ K, xkg K = 0 → σ' K = σ K) (hs : yc σ f) : yc σ' f := by
  obtain ⟨h1, h2, h3, h4⟩ := hs
  refine ⟨?_, ?_, ?_, yan_f (e 0 rfl) (e 12 rfl) h4⟩
  · unfold yst yct ycl yclt ypd at h1 ⊢
    simp only [e 31 rfl, e 32 rfl, e 19 rfl, e 28 rfl, e 7 rfl, e 33 rfl, e 5 rfl, e 30 rfl, e 27 rfl, e 29 rfl, e 25 rfl, e 26 rfl, e 34 rfl, e 2 rfl, e 17 rfl, e 4 rfl]
    exact h1
  · unfold yca ysc yhc at h2 ⊢
    simp only [e 3 rfl, e 5 rfl, e 28 rfl, e 18 rfl, e 20 rfl, e 21 rfl]
    exact h2
  · unfold yfl at h3 ⊢
    simp only [e 3 rfl, e 22 rfl, e 23 rfl]
    exact h3
theorem ym_side {σ σ' f : xa_H} (e : ∀ K, xkg K = 1 → σ' K = σ K) (hs : ym σ f) : ym σ' f := by
  unfold ym ymt yrf ypd ykp at hs ⊢
  simp only [e 50 rfl, e 51 rfl, e 9 rfl, e 53 rfl, e 54 rfl, e 62 rfl, e 63 rfl, e 64 rfl, e 60 rfl, e 61 rfl, e 59 rfl, e 55 rfl, e 56 rfl, e 57 rfl, e 58 rfl, e 65 rfl, e 75 rfl, e 76 rfl]
  exact hs
theorem xkg_b (K : Nat) : xkg K = 0 ∨ xkg K = 1 := by
  unfold xkg
  cases Nat.beq K 9 <;> cases Nat.ble 50 K <;> simp
theorem zfz_v : yv zfz := by
  refine ⟨⟨⟨by decide, by decide, by decide, by decide, by decide, by decide⟩, fun q _ => ⟨Int.le_refl 0, by show (0 : Int) ≤ 5; decide⟩, fun t _ => ⟨⟨Int.le_refl 0, by show (0 : Int) ≤ 10; decide⟩, fun h => ?_, fun k hk => ?_, Or.inl rfl, ⟨Int.le_refl 0, by show (0 : Int) ≤ 23; decide⟩, ⟨⟨Int.le_refl 0, by show (0 : Int) < 144; decide⟩, ?_⟩, fun i _ => ⟨by show (0 : Int) ≤ 1; decide, by show (1 : Int) ≤ 9; decide⟩⟩, fun i _ => ⟨⟨by show (0 : Int) ≤ 1; decide, by show (1 : Int) ≤ 9; decide⟩, by show (0 : Int) ≤ 1; decide, by show (1 : Int) ≤ 9; decide⟩⟩, ⟨⟨Int.le_refl 0, by show (0 : Int) ≤ 60; decide⟩, fun i hi => ?_⟩, fun n _ => Or.inl rfl⟩
  · exact absurd h (by show ¬ (1 : Int) ≤ 0; decide)
  · exact absurd hk (by show ¬ k < (0 : Int).toNat; simp)
  · show qin 6 6 2 (0 / 24) (0 / 4 % 6) (0 % 4)
    unfold qin
    decide
  · exact absurd hi (by show ¬ i < (0 : Int).toNat; simp)
theorem zz0 {K i s : Nat} (h : K ∉ [7, 34, 25, 26, 30, 31, 32, 19, 23, 9, 50, 51, 52, 62, 59, 60, 61, 3, 5]) : zG K i s = 0 := by
  simp only [List.mem_cons, List.not_mem_nil, or_false, not_or] at h
  rw [zG_o (by simp only [List.mem_cons, List.not_mem_nil, or_false, not_or]; omega)]
  exact yi0_0 (by omega)
theorem zz5 {i s : Nat} : zG 5 i s = if s = 1 then -6 else 0 := by
  rw [zG_o (by decide)]
  unfold yi0
  rw [if_neg (by omega)]
  by_cases h : s = 1
  · rw [if_pos ⟨rfl, h⟩, if_pos h]
  · rw [if_neg (by omega), if_neg h]
theorem zG_m : ym zG zfz := by
  refine ⟨⟨fun j _ => rfl, fun j _ => rfl⟩, ⟨⟨rfl, rfl, rfl⟩, fun q _ => ?_, fun t ht => ⟨?_, ?_, ?_, ?_⟩, fun i hi => ⟨?_, ?_⟩, fun t i ht hi => ?_, fun t k _ _ => ⟨?_, ?_, ?_, ?_⟩⟩, ⟨rfl, fun i hi => absurd hi (by show ¬ i < (0 : Int).toNat; simp)⟩, fun n _ => ⟨?_, fun h => absurd h (by show ¬ (0 : Int) = 1; decide)⟩⟩
  · exact zz0 (by decide)
  · exact zz0 (by decide)
  · show (if t < 4 then (-6 : Int) else 0) = -6
    rw [if_pos ht]
  · exact zz0 (by decide)
  · exact zz0 (by decide)
  · show (if i < 4 then (1 : Int) else 0) = 1
    rw [if_pos hi]
  · show (if i < 4 then (1 : Int) else 0) = 1
    rw [if_pos hi]
  · show (if 4 * t + i < 16 then (1 : Int) else 0) = 1
    rw [if_pos (by omega)]
  · exact zz0 (by decide)
  · exact zz0 (by decide)
  · exact zz0 (by decide)
  · exact zz0 (by decide)
  · exact zz0 (by decide)
theorem zG_c : yc zG zfz := by
  refine ⟨⟨⟨fun j _ => rfl, fun j _ => rfl, fun p hp => ?_, fun k _ => zz0 (by decide)⟩, ⟨⟨rfl, rfl, rfl⟩, fun q _ => zz0 (by decide), fun t ht => ⟨⟨zz5, zz5, zz5, zz5⟩, fun j hj => ?_, fun k hk => absurd hk (by show ¬ k < (0 : Int).toNat; simp), fun a _ => zz0 (by decide)⟩, fun i hi => ⟨?_, ?_⟩⟩, fun p m hp hm => ?_, ⟨zz0 (by decide), fun i hi => absurd hi (by show ¬ i < (0 : Int).toNat; simp)⟩, fun n hn => ⟨zz0 (by decide), fun h => absurd h (by show ¬ (0 : Int) = 1; decide)⟩⟩, Or.inl ?_, ⟨0, by decide, ?_⟩, Or.inl (zz0 (by decide))⟩
  · show (if p < 144 then ygi ((p / 24 : Nat) : Int) ((p / 4 % 6 : Nat) : Int) ((p % 4 : Nat) : Int) else 0) = _
    rw [if_pos hp]
  · show (if j < 4 then (1 : Int) else 0) = 1
    rw [if_pos hj]
  · show (if i < 4 then (1 : Int) else 0) = 1
    rw [if_pos hi]
  · show (if i < 4 then (1 : Int) else 0) = 1
    rw [if_pos hi]
  · show (if 6 * p + m < 864 then ybs zPz ((6 * p + m) / 6) ((6 * p + m) % 6) else 0) = ybs zPz p m
    rw [if_pos (by omega), show (6 * p + m) / 6 = p by omega, show (6 * p + m) % 6 = m by omega]
  · exact (zG_r4 3 0 8 (by decide +kernel)).1
  · refine ⟨?_, fun i hi => absurd hi (Nat.not_lt_zero i), fun c hc h => absurd ?_ h⟩
    · rw [zG_o (by decide)]
      rfl
    · show (if c < 3456 then (-1 : Int) else 0) = -1
      rw [if_pos hc]
