/-! a heap with a hole -/
def hup (h : Nat → Nat) (i v : Nat) : Nat → Nat := fun j => if j = i then v else h j
theorem hup_a {h : Nat → Nat} {i v : Nat} : hup h i v i = v := if_pos rfl
theorem hup_o {h : Nat → Nat} {i v j : Nat} (n : ¬ j = i) : hup h i v j = h j := if_neg n
def yho (F : Nat → Int) (h : Nat → Nat) (N idx x : Nat) (M : Nat → Prop) : Prop :=
  (idx < N ∧ x < 3456) ∧ (∀ i, i < N → ¬ i = idx → h i < 3456 ∧ ¬ h i = x) ∧ (∀ i j, i < N → j < N → ¬ i = idx → ¬ j = idx → h i = h j → i = j) ∧
  (∀ i, 0 < i → i < N → ¬ i = idx → ¬ (i - 1) / 2 = idx → F (h ((i - 1) / 2)) ≤ F (h i)) ∧
  (∀ i, 0 < i → i < N → (i - 1) / 2 = idx → 0 < idx → F (h ((idx - 1) / 2)) ≤ F (h i)) ∧
  (∀ c, M c ↔ (c = x ∨ ∃ i, i < N ∧ ¬ i = idx ∧ h i = c))
def yhp (F : Nat → Int) (h : Nat → Nat) (N : Nat) (M : Nat → Prop) : Prop :=
  (∀ i, i < N → h i < 3456) ∧ (∀ i j, i < N → j < N → h i = h j → i = j) ∧ (∀ i, 0 < i → i < N → F (h ((i - 1) / 2)) ≤ F (h i)) ∧ (∀ c, M c ↔ ∃ i, i < N ∧ h i = c)
section HE
variable {F : Nat → Int} {h : Nat → Nat} {N idx x : Nat} {M : Nat → Prop}
theorem yho_mv (H : yho F h N idx x M) {p : Nat} (hp : p < N) (hpi : ¬ p = idx)
    (hb : ∀ i, 0 < i → i < N → ¬ i = p → ¬ (i - 1) / 2 = p → F (hup h idx (h p) ((i - 1) / 2)) ≤ F (hup h idx (h p) i))
    (hd : ∀ i, 0 < i → i < N → (i - 1) / 2 = p → 0 < p → F (hup h idx (h p) ((p - 1) / 2)) ≤ F (hup h idx (h p) i)) : yho F (hup h idx (h p)) N p x M := by
  obtain ⟨h1, h2, h3, h4, h5, h6⟩ := H
  refine ⟨⟨hp, h1.2⟩, ?_, ?_, hb, hd, ?_⟩
  · intro i hi hip
    by_cases he : i = idx
    · rw [he, hup_a]; exact h2 p hp hpi
    · rw [hup_o he]; exact h2 i hi he
  · intro i j hi hj hip hjp he
    by_cases h7 : i = idx
    · by_cases h8 : j = idx
      · omega
      · rw [h7, hup_a, hup_o h8] at he
        exact absurd (h3 p j hp hj hpi h8 he).symm hjp
    · by_cases h8 : j = idx
      · rw [h8, hup_a, hup_o h7] at he
        exact absurd (h3 i p hi hp h7 hpi he) hip
      · rw [hup_o h7, hup_o h8] at he
        exact h3 i j hi hj h7 h8 he
  · intro c
    rw [h6 c]
    constructor
    · rintro (hc | ⟨i, hi, hii, hc⟩)
      · exact Or.inl hc
      · by_cases hip : i = p
        · refine Or.inr ⟨idx, h1.1, fun e => hpi e.symm, ?_⟩
          rw [hup_a, ← hip]; exact hc
        · exact Or.inr ⟨i, hi, hip, by rw [hup_o hii]; exact hc⟩
    · rintro (hc | ⟨i, hi, hii, hc⟩)
      · exact Or.inl hc
      · by_cases hie : i = idx
        · rw [hie, hup_a] at hc
          exact Or.inr ⟨p, hp, hpi, hc⟩
        · rw [hup_o hie] at hc
          exact Or.inr ⟨i, hi, hie, hc⟩
theorem yho_up (H : yho F h N idx x M) (hc : ∀ i, 0 < i → i < N → (i - 1) / 2 = idx → F x ≤ F (h i)) (h0 : 0 < idx) (hx : F x < F (h ((idx - 1) / 2))) :
    yho F (hup h idx (h ((idx - 1) / 2))) N ((idx - 1) / 2) x M ∧ ∀ i, 0 < i → i < N → (i - 1) / 2 = (idx - 1) / 2 → F x ≤ F (hup h idx (h ((idx - 1) / 2)) i) := by
  have H0 := H
  obtain ⟨h1, h2, h3, h4, h5, h6⟩ := H
  have hsib : ∀ i, 0 < i → i < N → (i - 1) / 2 = (idx - 1) / 2 → F (h ((idx - 1) / 2)) ≤ F (hup h idx (h ((idx - 1) / 2)) i) := by
    intro i hi0 hi hip
    by_cases hie : i = idx
    · rw [hie, hup_a]; exact Int.le_refl _
    · rw [hup_o hie]
      have := h4 i hi0 hi hie (by omega)
      rw [hip] at this; exact this
  refine ⟨yho_mv H0 (by omega) (by omega) ?_ ?_, ?_⟩
  · intro i hi0 hi hip hpp
    by_cases hie : i = idx
    · omega
    · by_cases hpe : (i - 1) / 2 = idx
      · rw [hpe, hup_a, hup_o hie]
        exact h5 i hi0 hi hpe h0
      · rw [hup_o hpe, hup_o hie]
        exact h4 i hi0 hi hie hpe
  · intro i hi0 hi hip hp0
    rw [hup_o (by omega)]
    have h7 := h4 ((idx - 1) / 2) hp0 (by omega) (by omega) (by omega)
    have h8 := hsib i hi0 hi hip
    omega
  · intro i hi0 hi hip
    have h8 := hsib i hi0 hi hip
    omega
theorem yho_end (H : yho F h N idx x M) (hp : 0 < idx → F (h ((idx - 1) / 2)) ≤ F x) (hc : ∀ i, 0 < i → i < N → (i - 1) / 2 = idx → F x ≤ F (h i)) : yhp F (hup h idx x) N M := by
  obtain ⟨h1, h2, h3, h4, h5, h6⟩ := H
  refine ⟨?_, ?_, ?_, ?_⟩
  · intro i hi
    by_cases he : i = idx
    · rw [he, hup_a]; exact h1.2
    · rw [hup_o he]; exact (h2 i hi he).1
  · intro i j hi hj he
    by_cases h7 : i = idx
    · by_cases h8 : j = idx
      · omega
      · rw [h7, hup_a, hup_o h8] at he
        exact absurd he.symm (h2 j hj h8).2
    · by_cases h8 : j = idx
      · rw [h8, hup_a, hup_o h7] at he
        exact absurd he (h2 i hi h7).2
      · rw [hup_o h7, hup_o h8] at he
        exact h3 i j hi hj h7 h8 he
  · intro i hi0 hi
    by_cases he : i = idx
    · rw [he, hup_a, hup_o (by omega)]
      exact hp (by omega)
    · by_cases hpe : (i - 1) / 2 = idx
      · rw [hpe, hup_a, hup_o he]
        exact hc i hi0 hi hpe
      · rw [hup_o hpe, hup_o he]
        exact h4 i hi0 hi he hpe
  · intro c
    rw [h6 c]
    constructor
    · rintro (hc | ⟨i, hi, hii, hc⟩)
      · exact ⟨idx, h1.1, by rw [hup_a]; exact hc.symm⟩
      · exact ⟨i, hi, by rw [hup_o hii]; exact hc⟩
    · rintro ⟨i, hi, hc⟩
      by_cases hie : i = idx
      · rw [hie, hup_a] at hc; exact Or.inl hc.symm
      · rw [hup_o hie] at hc; exact Or.inr ⟨i, hi, hie, hc⟩
theorem yho_dn (H : yho F h N idx x M) {b : Nat} (hb : b < N) (hbi : (b - 1) / 2 = idx) (hb0 : 0 < b) (hmin : ∀ i, 0 < i → i < N → (i - 1) / 2 = idx → F (h b) ≤ F (h i)) (hx : F (h b) < F x) :
    yho F (hup h idx (h b)) N b x M ∧ (0 < b → F (hup h idx (h b) ((b - 1) / 2)) ≤ F x) := by
  have H0 := H
  obtain ⟨h1, h2, h3, h4, h5, h6⟩ := H
  refine ⟨yho_mv H0 hb (by omega) ?_ ?_, ?_⟩
  · intro i hi0 hi hip hpp
    by_cases hie : i = idx
    · rw [hie, hup_a, hup_o (by omega)]
      exact h5 b hb0 hb hbi (by omega)
    · by_cases hpe : (i - 1) / 2 = idx
      · rw [hpe, hup_a, hup_o hie]
        exact hmin i hi0 hi hpe
      · rw [hup_o hpe, hup_o hie]
        exact h4 i hi0 hi hie hpe
  · intro i hi0 hi hip hp0
    rw [hbi, hup_a, hup_o (by omega)]
    have := h4 i hi0 hi (by omega) (by omega)
    rw [hip] at this; exact this
  · intro _
    rw [hbi, hup_a]
    omega
end HE
/-- the heap on the cells -/
def yti (σ : xa_H) (h : Nat → Nat) (N idx : Nat) : Prop := ∀ i, i < N → ¬ i = idx → σ 15 0 i = (h i : Int) ∧ σ 16 0 (h i) = (i : Int)
theorem q_put {i c : Nat} (hi : i < 3456) (hc : c < 3456) (σ : xa_H) : fm_Cheapest_put (i : Int) (c : Int) σ = some (xup (xup σ 15 0 i (c : Int)) 16 0 c (i : Int)) := by
  unfold fm_Cheapest_put
  rw [wr15 hi, Option.bind_some, wr16 hc, Option.bind_some]
theorem yti_put {σ : xa_H} {h : Nat → Nat} {N idx p c : Nat} {M : Nat → Prop} {F : Nat → Int} {x : Nat} (H : yho F h N idx x M) (ht : yti σ h N idx) (hc : (∀ i, i < N → ¬ i = idx → ¬ i = p → ¬ h i = c)) :
    yti (xup (xup σ 15 0 idx (c : Int)) 16 0 c (idx : Int)) (hup h idx c) N p := by
  intro i hi hip
  by_cases hie : i = idx
  · rw [hie, hup_a]
    refine ⟨?_, xup_at⟩
    rw [xup_o (by omega), xup_at]
  · rw [hup_o hie]
    obtain ⟨h1, h2⟩ := ht i hi hie
    refine ⟨?_, ?_⟩
    · rw [xup_o (by omega), xup_o (by omega)]; exact h1
    · rw [xup_o (by rintro ⟨-, -, e⟩; exact hc i hi hie hip e), xup_o (by omega)]; exact h2
theorem l_rise {F : Nat → Int} {x N : Nat} {M : Nat → Prop} {σ : xa_H} (hF : ∀ c, c < 3456 → σ 14 0 c = F c) (hN : N ≤ 3456) {K : Int → xa_H → Option xa_H} {Q : xa_H → Prop}
    (hK : ∀ (idx : Nat) h s, idx < 3456 → xfs [15, 16] [] σ s → yho F h N idx x M → yti s h N idx → (0 < idx → F (h ((idx - 1) / 2)) ≤ F x) → (∀ i, 0 < i → i < N → (i - 1) / 2 = idx → F x ≤ F (h i)) → xW (K (idx : Int) s) Q) :
    ∀ (idx fu : Nat) (h : Nat → Nat) (s : xa_H), idx < fu → xfs [15, 16] [] σ s → yho F h N idx x M → yti s h N idx → (∀ i, 0 < i → i < N → (i - 1) / 2 = idx → F x ≤ F (h i)) → xW (fm_Cheapest_rise_9 (x : Int) K fu (idx : Int) s) Q := by
  intro idx
  induction idx using Nat.strongRecOn with
  | ind idx ih =>
    intro fu h s hfu hf H ht hc
    obtain ⟨m, rfl⟩ : ∃ m, fu = m + 1 := ⟨fu - 1, by omega⟩
    rw [fm_Cheapest_rise_9]
    have hiN := H.1.1
    refine xW_if (fun h0 => ?_) (fun h0 => ?_)
    · exact hK idx h s (by omega) hf H ht (fun _ => by omega) hc
    · have hp : xdiv (w32 ((idx : Int) - 1)) 2 = (((idx - 1) / 2 : Nat) : Int) := by
        have e : w32 ((idx : Int) - 1) = ((idx - 1 : Nat) : Int) := w32_k (by omega) (by omega)
        rw [e, xdiv_p (by omega)]; omega
      rw [hp]
      refine xW_be (rd15 (show (idx - 1) / 2 < 3456 by omega)) ?_
      obtain ⟨t1, t2⟩ := ht ((idx - 1) / 2) (by omega) (by omega)
      obtain ⟨u1, u2⟩ := H.2.1 ((idx - 1) / 2) (by omega) (by omega)
      rw [t1]
      refine xW_be (rd14 u1) (xW_be (rd14 H.1.2) ?_)
      have e14 : s 14 = σ 14 := hf.1 14 (by decide) (by decide)
      rw [e14, hF _ u1, hF _ H.1.2]
      refine xW_if (fun hlt => ?_) (fun hge => ?_)
      · refine xW_be (q_put (by omega) u1 s) (xW_nm ?_)
        obtain ⟨v1, v2⟩ := yho_up H hc (by omega) hlt
        refine ih _ (by omega) m _ _ (by omega) (xfs_t hf (xfs_t (xfs_up (by decide) (by decide)) (xfs_up (by decide) (by decide)))) v1 ?_ v2
        refine yti_put H ht ?_
        intro i hi hie hip he
        exact hip (H.2.2.1 i _ hi (by omega) hie (by omega) he)
      · exact hK idx h s (by omega) hf H ht (fun _ => by omega) hc
/-- the heap with what it holds -/
def yhe (σ : xa_H) (F : Nat → Int) (N : Nat) (M : Nat → Prop) : Prop := ∃ h, yhp F h N M ∧ ∀ i, i < N → σ 15 0 i = (h i : Int) ∧ σ 16 0 (h i) = (i : Int)
theorem yhe_end {σ s : xa_H} {F : Nat → Int} {h : Nat → Nat} {N idx x : Nat} {M : Nat → Prop} (H : yho F h N idx x M) (ht : yti s h N idx) (hp : 0 < idx → F (h ((idx - 1) / 2)) ≤ F x) (hc : ∀ i, 0 < i → i < N → (i - 1) / 2 = idx → F x ≤ F (h i)) :
    yhe (xup (xup s 15 0 idx (x : Int)) 16 0 x (idx : Int)) F N M := by
  refine ⟨hup h idx x, yho_end H hp hc, fun i hi => ?_⟩
  have := yti_put (p := N) H ht (c := x) (fun i hi hie _ => (H.2.1 i hi hie).2)
  exact this i hi (by omega)
theorem q_rise {F : Nat → Int} {x N idx : Nat} {M : Nat → Prop} {σ : xa_H} (hF : ∀ c, c < 3456 → σ 14 0 c = F c) (hN : N ≤ 3456) {h : Nat → Nat} (H : yho F h N idx x M) (ht : yti σ h N idx) (hx : σ 16 0 x = (idx : Int)) (hc : ∀ i, 0 < i → i < N → (i - 1) / 2 = idx → F x ≤ F (h i)) :
    xW (fm_Cheapest_rise (x : Int) σ) fun s => xfs [15, 16] [] σ s ∧ yhe s F N M := by
  unfold fm_Cheapest_rise
  refine xW_be (rd16 H.1.2) ?_
  rw [hx]
  have := H.1.1
  refine l_rise hF hN ?_ idx xFU h σ (by unfold xFU; omega) (xfs_r _ _ _) H ht hc
  intro idx' h' s hi hf H' ht' hp' hc'
  refine xW_be (q_put hi H'.1.2 s) (xW_some ⟨xfs_t hf (xfs_t (xfs_up (by decide) (by decide)) (xfs_up (by decide) (by decide))), yhe_end (σ := σ) H' ht' hp' hc'⟩)
theorem l_sink {F : Nat → Int} {x N : Nat} {M : Nat → Prop} {σ : xa_H} (hF : ∀ c, c < 3456 → σ 14 0 c = F c) (hN : N ≤ 3456) (h5 : σ 1 0 5 = (N : Int)) {K : Int → xa_H → Option xa_H} {Q : xa_H → Prop}
    (hK : ∀ (idx : Nat) h s, idx < 3456 → xfs [15, 16] [] σ s → yho F h N idx x M → yti s h N idx → (0 < idx → F (h ((idx - 1) / 2)) ≤ F x) → (∀ i, 0 < i → i < N → (i - 1) / 2 = idx → F x ≤ F (h i)) → xW (K (idx : Int) s) Q) :
    ∀ (d idx fu : Nat) (h : Nat → Nat) (s : xa_H), idx + d = N → d < fu → xfs [15, 16] [] σ s → yho F h N idx x M → yti s h N idx → (0 < idx → F (h ((idx - 1) / 2)) ≤ F x) → xW (fm_Cheapest_sink_4 (x : Int) K fu (idx : Int) ((2 * idx + 1 : Nat) : Int) s) Q := by
  intro d
  induction d using Nat.strongRecOn with
  | ind d ih =>
    intro idx fu h s hd hfu hf H ht hp
    obtain ⟨m, rfl⟩ : ∃ m, fu = m + 1 := ⟨fu - 1, by omega⟩
    rw [fm_Cheapest_sink_4]
    have hiN := H.1.1
    have e5 : s 1 0 5 = (N : Int) := by rw [hf.1 1 (by decide) (by decide)]; exact h5
    have e14 : s 14 = σ 14 := hf.1 14 (by decide) (by decide)
    rw [e5]
    refine xW_if (fun hge => ?_) (fun hlt => ?_)
    · exact hK idx h s (by omega) hf H ht hp (fun i h1 h2 h3 => by omega)
    · have key : ∀ b : Nat, b < N → (b - 1) / 2 = idx → 0 < b → (∀ i, 0 < i → i < N → (i - 1) / 2 = idx → F (h b) ≤ F (h i)) →
          xW ((fm_S_read 15 0 (b : Int) s).bind fun v12 => (fm_S_read 14 0 (x : Int) s).bind fun v13 => (fm_S_read 14 0 v12 s).bind fun v14 =>
            if v14 < v13 then (fm_Cheapest_put (idx : Int) v12 s).bind fun s16 => xnm ((w32 ((w32 (2 * (b : Int))) + 1)) : Int) fun v17 => fm_Cheapest_sink_4 (x : Int) K m (b : Int) v17 s16
            else K (idx : Int) s) Q := by
        intro b hb hbi hb0 hmin
        obtain ⟨t1, t2⟩ := ht b hb (by omega)
        obtain ⟨u1, u2⟩ := H.2.1 b hb (by omega)
        refine xW_be (rd15 (show b < 3456 by omega)) (xW_be (rd14 H.1.2) ?_)
        rw [t1]
        refine xW_be (rd14 u1) ?_
        rw [e14, hF _ u1, hF _ H.1.2]
        refine xW_if (fun hlt2 => ?_) (fun hge2 => ?_)
        · refine xW_be (q_put (by omega) u1 s) (xW_nm ?_)
          obtain ⟨v1, v2⟩ := yho_dn H hb hbi hb0 hmin hlt2
          have e : w32 (w32 (2 * (b : Int)) + 1) = ((2 * b + 1 : Nat) : Int) := w32_2 (by omega) (by omega) (by omega)
          rw [e]
          refine ih (N - b) (by omega) b m _ _ (by omega) (by omega) (xfs_t hf (xfs_t (xfs_up (by decide) (by decide)) (xfs_up (by decide) (by decide)))) v1 ?_ v2
          refine yti_put H ht ?_
          intro i hi hie hip he
          exact hip (H.2.2.1 i _ hi hb hie (by omega) he)
        · exact hK idx h s (by omega) hf H ht hp (fun i h1 h2 h3 => by have := hmin i h1 h2 h3; omega)
      have e1 : w32 (((2 * idx + 1 : Nat) : Int) + 1) = ((2 * idx + 2 : Nat) : Int) := w32_k (by omega) (by omega)
      rw [e1]
      refine xW_nm (xW_j ?_)
      refine xW_if (fun hr => ?_) (fun hr => ?_)
      · refine key (2 * idx + 1) (by omega) (by omega) (by omega) (fun i h1 h2 h3 => ?_)
        have : i = 2 * idx + 1 := by omega
        rw [this]; exact Int.le_refl _
      · obtain ⟨t1, t2⟩ := ht (2 * idx + 2) (by omega) (by omega)
        obtain ⟨t3, t4⟩ := ht (2 * idx + 1) (by omega) (by omega)
        obtain ⟨u1, u2⟩ := H.2.1 (2 * idx + 2) (by omega) (by omega)
        obtain ⟨u3, u4⟩ := H.2.1 (2 * idx + 1) (by omega) (by omega)
        refine xW_be (rd15 (show 2 * idx + 2 < 3456 by omega)) ?_
        rw [t1]
        refine xW_be (rd14 u1) (xW_be (rd15 (show 2 * idx + 1 < 3456 by omega)) ?_)
        rw [t3]
        refine xW_be (rd14 u3) ?_
        rw [e14, hF _ u1, hF _ u3]
        refine xW_if (fun hle => ?_) (fun hgt => ?_)
        · refine key (2 * idx + 1) (by omega) (by omega) (by omega) (fun i h1 h2 h3 => ?_)
          have : i = 2 * idx + 1 ∨ i = 2 * idx + 2 := by omega
          rcases this with h7 | h7
          · rw [h7]; exact Int.le_refl _
          · rw [h7]; exact hle
        · refine key (2 * idx + 2) (by omega) (by omega) (by omega) (fun i h1 h2 h3 => ?_)
          have : i = 2 * idx + 1 ∨ i = 2 * idx + 2 := by omega
          rcases this with h7 | h7
          · rw [h7]; omega
          · rw [h7]; exact Int.le_refl _
/-- the nearest is taken -/
theorem q_take {F : Nat → Int} {N : Nat} {M : Nat → Prop} {σ : xa_H} (hF : ∀ c, c < 3456 → σ 14 0 c = F c) (hN : N + 1 ≤ 3456) (h5 : σ 1 0 5 = ((N + 1 : Nat) : Int)) (H : yhe σ F (N + 1) M) :
    xW (fm_Cheapest_takeNearest σ) fun r => (∀ K, ¬ K = 1 → ¬ K = 15 → ¬ K = 16 → r.2 K = σ K) ∧ r.2 1 0 5 = (N : Int) ∧ ∃ u : Nat, r.1 = (u : Int) ∧ u < 3456 ∧ M u ∧ (∀ c, M c → F u ≤ F c) ∧ yhe r.2 F N (fun c => M c ∧ ¬ c = u) := by
  obtain ⟨h, ⟨h1, h2, h3, h4⟩, h6⟩ := H
  have hmin : ∀ i, i < N + 1 → F (h 0) ≤ F (h i) := by
    intro i
    induction i using Nat.strongRecOn with
    | ind i ih =>
      intro hi
      by_cases h0 : i = 0
      · subst h0; exact Int.le_refl _
      · have := ih ((i - 1) / 2) (by omega) (by omega)
        have := h3 i (by omega) hi
        omega
  have hM : ∀ c, M c → F (h 0) ≤ F c := by
    intro c hc
    obtain ⟨i, hi, e⟩ := (h4 c).mp hc
    rw [← e]; exact hmin i hi
  unfold fm_Cheapest_takeNearest
  refine xW_be (rd15 (j := 0) (by decide)) (xW_nm ?_)
  have e0 := (h6 0 (by omega)).1
  rw [e0]
  have e5 : w32 (σ 1 0 5 - 1) = (N : Int) := by rw [h5]; exact w32_k (by omega) (by omega)
  rw [e5]
  have e6 : xup σ 1 0 5 (N : Int) 1 0 5 = (N : Int) := xup_at
  rw [e6]
  have hfr : ∀ K, ¬ K = 1 → ¬ K = 15 → ¬ K = 16 → xup σ 1 0 5 (N : Int) K = σ K := by
    intro K k1 k2 k3
    funext i' s'
    rw [xup_o (by omega)]
  refine xW_if (fun hle => ?_) (fun hgt => ?_)
  · refine xW_some ⟨hfr, e6, h 0, rfl, h1 0 (by omega), (h4 _).mpr ⟨0, by omega, rfl⟩, hM, fun _ => 0, ⟨fun i hi => by omega, fun i j hi => by omega, fun i h0 hi => by omega, fun c => ?_⟩, fun i hi => by omega⟩
    constructor
    · rintro ⟨hc, hne⟩
      obtain ⟨i, hi, e⟩ := (h4 c).mp hc
      have : i = 0 := by omega
      rw [this] at e
      exact absurd e.symm hne
    · rintro ⟨i, hi, _⟩; omega
  · refine xW_be (rd15 (show N < 3456 by omega)) ?_
    have e15 : xup σ 1 0 5 (N : Int) 15 0 N = (h N : Int) := by rw [xup_o (by omega)]; exact (h6 N (by omega)).1
    rw [e15]
    unfold fm_Cheapest_sink
    have hx := h1 N (by omega)
    have H0 : yho F h N 0 (h N) (fun c => M c ∧ ¬ c = h 0) := by
      refine ⟨⟨by omega, hx⟩, ?_, ?_, ?_, ?_, ?_⟩
      · intro i hi _
        exact ⟨h1 i (by omega), fun e => by have := h2 i N (by omega) (by omega) e; omega⟩
      · intro i j hi hj _ _ e; exact h2 i j (by omega) (by omega) e
      · intro i hi0 hi _ _; exact h3 i hi0 (by omega)
      · intro i _ _ _ h0; omega
      · intro c
        constructor
        · rintro ⟨hc, hne⟩
          obtain ⟨i, hi, e⟩ := (h4 c).mp hc
          by_cases hiN : i = N
          · rw [hiN] at e; exact Or.inl e.symm
          · by_cases hi0 : i = 0
            · rw [hi0] at e; exact absurd e.symm hne
            · exact Or.inr ⟨i, by omega, hi0, e⟩
        · rintro (e | ⟨i, hi, hi0, e⟩)
          · refine ⟨(h4 c).mpr ⟨N, by omega, e.symm⟩, fun e2 => ?_⟩
            have := h2 N 0 (by omega) (by omega) (e.symm.trans e2)
            omega
          · refine ⟨(h4 c).mpr ⟨i, by omega, e⟩, fun e2 => ?_⟩
            exact hi0 (h2 i 0 (by omega) (by omega) (e.trans e2))
    have hti : yti (xup σ 1 0 5 (N : Int)) h N 0 := by
      intro i hi _
      rw [xup_o (by omega), xup_o (by omega)]
      exact h6 i (by omega)
    have hF2 : ∀ c, c < 3456 → xup σ 1 0 5 (N : Int) 14 0 c = F c := by
      intro c hc
      rw [xup_o (by omega)]; exact hF c hc
    have hs := l_sink (K := fun (v18 : Int) (s19 : xa_H) => (fm_Cheapest_put v18 (h N : Int) s19).bind fun s20 => some s20) (Q := fun s => xfs [15, 16] [] (xup σ 1 0 5 (N : Int)) s ∧ yhe s F N (fun c => M c ∧ ¬ c = h 0)) hF2 (by omega) e6 (fun idx h' s hi hf H' ht' hp' hc' => by
      refine xW_be (q_put hi H'.1.2 s) (xW_some ⟨xfs_t hf (xfs_t (xfs_up (by decide) (by decide)) (xfs_up (by decide) (by decide))), yhe_end (σ := σ) H' ht' hp' hc'⟩)) N 0 xFU h (xup σ 1 0 5 (N : Int)) (by omega) (by unfold xFU; omega) (xfs_r _ _ _) H0 hti (fun h0 => by omega)
    obtain ⟨s, es, hfs, hhe⟩ := hs
    have es : fm_Cheapest_sink_4 (h N : Int) (fun (v18 : Int) (s19 : xa_H) => (fm_Cheapest_put v18 (h N : Int) s19).bind fun s20 => some s20) xFU 0 1 (xup σ 1 0 5 (N : Int)) = some s := es
    refine xW_be es (xW_some ⟨?_, ?_, h 0, rfl, h1 0 (by omega), (h4 _).mpr ⟨0, by omega, rfl⟩, hM, hhe⟩)
    · intro K k1 k2 k3
      by_cases k4 : K = 3
      · subst k4
        funext i' s'
        show s 3 i' s' = σ 3 i' s'
        rw [hfs.2 i' s' (by simp), xup_o (by omega)]
      · show s K = σ K
        rw [hfs.1 K (by simp [k2, k3]) k4]; exact hfr K k1 k2 k3
    · show s 1 0 5 = (N : Int)
      rw [hfs.1 1 (by decide) (by decide)]; exact e6
