/-! the row of a flood, told as an answer; why a thing does not fit -/
theorem xj_e {α β : Type} (K : α) (F : α → Option β) : xj K F = F K := rfl
noncomputable def ysg (m : Nat) : Int := xmoves.getD m 0
theorem q_sign {m : Nat} (h : m < 12) : fm_Search_signOf (m : Int) = some (ysg m) := by
  unfold fm_Search_signOf
  rw [if_neg (by omega), if_neg (by omega)]
  rfl
/-- the answer holds a row -/
def yrw (σ : xa_H) (L : List Nat) : Prop := σ 0 0 2 = (L.length : Int) ∧ ∀ k, k < L.length → σ 12 0 k = ysg (L.getD k 0)
theorem getD_mid {A B : List Nat} {m : Nat} : (A ++ (m :: B)).getD A.length 0 = m := by
  rw [List.getD_eq_getElem?_getD, List.getElem?_append_right (Nat.le_refl _), Nat.sub_self]
  rfl
section TR
variable {σ P : xa_H} {n : Nat} {q : Nat → Nat} {row : Nat → List Nat}
theorem yby_st (hz : qsz (P 0 0 0) (P 0 0 1) (P 0 0 2)) (hb : yby σ P n q row) {i j m : Nat} (hj : j < n) (hm : m < 12) (h : ynx P (q j) m = some (q i)) : ynx P (q i) (yud m) = some (q j) :=
  (ynx_u hz (hb.2.1 j hj) hm h).2
theorem l_trace5 (ht : yct σ) (hz : qsz (P 0 0 0) (P 0 0 1) (P 0 0 2)) (hw : ywy σ P) (hb : yby σ P n q row) {h : Nat} (hh : h < n) (hn : n ≤ 3456) {f1 : Int} {K : Int → Option xa_H} {Q : xa_H → Prop}
    (hK : xW (K ((row h).length : Int)) Q) : ∀ (i mv fu : Nat), i < fu → mv + i ≤ h → mv + (row i).length = (row h).length → xW (fm_Search_trace_5 f1 σ K fu (mv : Int) (q i : Int)) Q := by
  intro i
  induction i using Nat.strongRecOn with
  | ind i ih =>
    intro mv fu hfu hmi hl
    obtain ⟨m, rfl⟩ : ∃ m, fu = m + 1 := ⟨fu - 1, by omega⟩
    rw [fm_Search_trace_5]
    have hc := hb.2.1 i (by omega)
    refine xW_f (by omega) ?_
    refine xW_be (rd23 (show q i < 3456 from hc.1)) ?_
    by_cases hi0 : i = 0
    · subst hi0
      obtain ⟨⟨b1, b2⟩, b3, b4⟩ := hb
      refine xW_t (by rw [b1]; decide) ?_
      have e : mv = (row h).length := by
        rw [b2] at hl
        exact hl
      rw [e]; exact hK
    · obtain ⟨j, m', c1, c2, c3, c4, c5⟩ := hb.2.2 i (by omega) (by omega)
      refine xW_f (by rw [c3]; omega) ?_
      refine xW_be (rd23 (show q i < 3456 from hc.1)) ?_
      rw [c3]
      refine xW_be (q_opp c2) ?_
      refine xW_be (q_step ht hz hw hc.1 (yud_r c2)) ?_
      rw [yby_st hz hb (by omega) c2 c4]
      refine xW_nm ?_
      rw [w32_s (by omega)]
      refine ih j c1 (mv + 1) m (by omega) (by omega) ?_
      rw [c5, List.length_append] at hl
      have : [m'].length = 1 := rfl
      omega
theorem l_trace69 (ht : yct σ) (hz : qsz (P 0 0 0) (P 0 0 1) (P 0 0 2)) (hw : ywy σ P) (hb : yby σ P n q row) {h : Nat} (hh : h < n) (hn : n ≤ 3456) {K : xa_H → Option xa_H} {Q : xa_H → Prop} (hlen : (row h).length < 3456)
    (hK : ∀ s, xfs [0, 12] [] σ s → s 0 0 2 = ((row h).length : Int) → (∀ k, k < (row h).length → s 12 0 k = ysg ((row h).getD k 0)) → xW (K s) Q) :
    ∀ (i fu : Nat) (sh : xa_H) (B : List Nat), i < fu → i ≤ h → row h = row i ++ B → xfs [0, 12] [] σ sh → sh 0 0 2 = ((row h).length : Int) → (∀ k, (row i).length ≤ k → k < (row h).length → sh 12 0 k = ysg ((row h).getD k 0)) →
    xW (fm_Search_trace_69 K fu (q i : Int) ((row i).length - 1 : Int) sh) Q := by
  intro i
  induction i using Nat.strongRecOn with
  | ind i ih =>
    intro fu sh B hfu hmi hB hf h2 hk
    obtain ⟨m, rfl⟩ : ∃ m, fu = m + 1 := ⟨fu - 1, by omega⟩
    rw [fm_Search_trace_69]
    have hc := hb.2.1 i (by omega)
    by_cases hi0 : i = 0
    · subst hi0
      have b2 := hb.1.2
      rw [b2] at hk ⊢
      refine xW_t (by show ((0 : Nat) : Int) - 1 < 0; decide) ?_
      exact hK sh hf h2 (fun k hk' => hk k (Nat.zero_le _) hk')
    · obtain ⟨j, m', c1, c2, c3, c4, c5⟩ := hb.2.2 i (by omega) (by omega)
      have hl : (row i).length = (row j).length + 1 := by rw [c5, List.length_append]; rfl
      have hl2 : (row i).length ≤ (row h).length := by rw [hB, List.length_append]; omega
      refine xW_f (by omega) ?_
      have e23 : sh 23 = σ 23 := hf.1 23 (by decide) (by decide)
      refine xW_be (rd23 (show q i < 3456 from hc.1)) ?_
      rw [e23, c3]
      refine xW_be (q_sign c2) ?_
      have e1 : ((row i).length : Int) - 1 = (((row j).length : Nat) : Int) := by omega
      rw [e1]
      refine xW_be (wr12 (show (row j).length < 3456 by omega)) ?_
      refine xW_be (q_opp c2) ?_
      have hf' : xfs [0, 12] [] σ (xup sh 12 0 (row j).length (ysg m')) := xfs_t hf (xfs_up (by decide) (by decide))
      refine xW_be (q_step (yct_f hf' (by decide) ht) hz (ywy_f hf' (by decide) hw) hc.1 (yud_r c2)) ?_
      rw [yby_st hz hb (by omega) c2 c4]
      refine xW_nm ?_
      have e2 : w32 ((((row j).length : Nat) : Int) + (-1)) = ((row j).length : Int) - 1 := by rw [w32_n (by omega) (by omega)]; omega
      rw [e2]
      have hB' : row h = row j ++ (m' :: B) := by rw [hB, c5, List.append_assoc]; rfl
      refine ih j c1 m _ (m' :: B) (by omega) (by omega) hB' hf' ?_ ?_
      · rw [xup_o (by omega)]; exact h2
      · intro k hk1 hk2
        by_cases hkj : k = (row j).length
        · subst hkj
          rw [xup_at, hB', getD_mid]
        · rw [xup_o (by omega)]
          exact hk k (by omega) hk2
theorem q_trace (ht : yct σ) (hz : qsz (P 0 0 0) (P 0 0 1) (P 0 0 2)) (hw : ywy σ P) (hb : yby σ P n q row) {h : Nat} (hh : h < n) (hn : n ≤ 3456) :
    xW (fm_Search_trace (q h : Int) σ) fun s => xfs [0, 12] [] σ s ∧ yrw s (row h) := by
  have hle : ∀ i, i < n → (row i).length ≤ i := by
    intro i
    induction i using Nat.strongRecOn with
    | ind i ih =>
      intro hi
      by_cases hi0 : i = 0
      · subst hi0; rw [hb.1.2]; exact Nat.le_refl _
      · obtain ⟨j, m', c1, c2, c3, c4, c5⟩ := hb.2.2 i (by omega) hi
        have := ih j c1 (by omega)
        rw [c5, List.length_append]
        show (row j).length + 1 ≤ i
        omega
  have hlh := hle h hh
  unfold fm_Search_trace
  refine l_trace5 ht hz hw hb hh hn ?_ h 0 xFU (by unfold xFU; omega) (by omega) (by omega)
  have hn0 : fm_Answer_none σ = some (xup (xup σ 0 0 2 0) 0 0 3 (-6)) := rfl
  refine xW_be hn0 (xW_nm (xW_nm ?_))
  have hf : xfs [0, 12] [] σ (xup (xup (xup σ 0 0 2 0) 0 0 3 (-6)) 0 0 2 ((row h).length : Int)) := xfs_t (xfs_up (by decide) (by decide)) (xfs_t (xfs_up (by decide) (by decide)) (xfs_up (by decide) (by decide)))
  have e : w32 (((row h).length : Int) - 1) = ((row h).length : Int) - 1 := w32_n (by omega) (by omega)
  rw [e]
  refine l_trace69 ht hz hw hb hh hn (by omega) ?_ h xFU _ [] (by unfold xFU; omega) (Nat.le_refl _) (List.append_nil _).symm hf xup_at (fun k h1 h2 => by omega)
  intro s hs h2 hk
  exact xW_some ⟨hs, h2, hk⟩
end TR
/-- why it does not fit, nothing off: 1 beyond the cells, 2 in a wall or a door, 0 it does -/
noncomputable def ycub (P : xa_H) (w k : Nat) (x y z : Int) : Int × Int × Int := (x + yp P w k 0, y + yp P w k 1, z + yp P w k 2)
def yout (P : xa_H) (w : Nat) (x y z : Int) : Prop := ¬ yqin P x y z ∨ ∃ k, k < (P 2 0 0).toNat ∧ ¬ yqin P (x + yp P w k 0) (y + yp P w k 1) (z + yp P w k 2)
def ysht (P : xa_H) (w : Nat) (x y z : Int) : Prop := ∃ k, k < (P 2 0 0).toNat ∧ ¬ P 1 0 (ypl (x + yp P w k 0) (y + yp P w k 1) (z + yp P w k 2)).toNat = 0
noncomputable def ywhy (P : xa_H) (w : Nat) (x y z : Int) : Int :=
  @ite Int (yout P w x y z) (Classical.propDecidable _) 1 (@ite Int (ysht P w x y z) (Classical.propDecidable _) 2 0)
theorem ybey : ∀ i, i < 6 → ∀ g, g < 5 → ((545392672 : Nat).testBit (6 * g + i) = true ↔ i = 5) := by decide +kernel
theorem ygc_5 {P : xa_H} (hv : yPv P) (x y z : Int) : (ygc P x y z).testBit 5 = true ↔ ¬ yqin P x y z := by
  unfold ygc
  by_cases h : (0 ≤ x ∧ x < P 0 0 0) ∧ (0 ≤ y ∧ y < P 0 0 1) ∧ (0 ≤ z ∧ z < P 0 0 2)
  · rw [if_pos h]
    have hs := hv.1
    unfold qsz at hs
    have := yh_r (hv.2.1 (ypl x y z).toNat (by unfold ypl; omega))
    rw [Nat.testBit_lt_two_pow (i := 5) this]
    constructor
    · intro h; cases h
    · intro h2; exact absurd h h2
  · rw [if_neg h]
    constructor
    · intro _; exact h
    · intro _; decide
theorem yh_0 {e : Int} (h : 0 ≤ e ∧ e ≤ 5) : yh e = 0 ↔ e = 0 := by
  have : e = 0 ∨ e = 1 ∨ e = 2 ∨ e = 3 ∨ e = 4 ∨ e = 5 := by omega
  rcases this with h | h | h | h | h | h <;> subst h <;> decide
theorem yV_5 {P : xa_H} (hv : yPv P) (c : Nat) : (yV P c &&& 545392672 = 0) ↔ ∀ k, k < (P 2 0 0).toNat → yqin P (yX c + yp P (c % 24) k 0) (yY c + yp P (c % 24) k 1) (yZ c + yp P (c % 24) k 2) := by
  have hg : ∀ k, k < (P 2 0 0).toNat → (P 4 k 0).toNat < 5 := fun k hk => by have := hv.2.2.2.2.1 k hk; omega
  have hH : ∀ k, yH P c k < 64 := fun k => ygc_r hv _ _ _
  rw [and_0]
  constructor
  · intro h k hk
    cases Classical.em (yqin P (yX c + yp P (c % 24) k 0) (yY c + yp P (c % 24) k 1) (yZ c + yp P (c % 24) k 2)) with
    | inl h => exact h
    | inr hn =>
      have h1 : (yH P c k).testBit 5 = true := (ygc_5 hv _ _ _).mpr hn
      have h2 := h (6 * (P 4 k 0).toNat + 5) (yseen_b.mpr ⟨k, hk, by
        rw [Nat.testBit_shiftLeft]
        simp [h1]⟩)
      rw [(ybey 5 (by decide) _ (hg k hk)).mpr rfl] at h2
      cases h2
  · intro h i hi
    obtain ⟨k, hk, h1⟩ := yseen_b.mp hi
    rw [Nat.testBit_shiftLeft, Bool.and_eq_true, decide_eq_true_iff] at h1
    obtain ⟨a1, a2⟩ := h1
    have c1 : i - 6 * (P 4 k 0).toNat < 6 := by
      cases Nat.lt_or_ge (i - 6 * (P 4 k 0).toNat) 6 with
      | inl h => exact h
      | inr hge =>
        have := Nat.testBit_lt_two_pow (x := yH P c k) (i := i - 6 * (P 4 k 0).toNat) (Nat.lt_of_lt_of_le (hH k) (Nat.pow_le_pow_right (n := 2) (i := 6) (by decide) hge))
        rw [this] at a2; cases a2
    have h5 : ¬ (yH P c k).testBit 5 = true := fun hc => (ygc_5 hv _ _ _).mp hc (h k hk)
    have ei : i = 6 * (P 4 k 0).toNat + (i - 6 * (P 4 k 0).toNat) := by omega
    cases hb : (545392672 : Nat).testBit i with
    | false => rfl
    | true =>
      rw [ei] at hb
      have := (ybey _ c1 _ (hg k hk)).mp hb
      rw [this] at a2
      exact absurd a2 h5
theorem yV_0 {P : xa_H} (hv : yPv P) (c : Nat) : yV P c = 0 ↔ ∀ k, k < (P 2 0 0).toNat → yH P c k = 0 := by
  constructor
  · intro h k hk
    apply Nat.eq_of_testBit_eq
    intro i
    rw [Nat.zero_testBit]
    cases hb : (yH P c k).testBit i with
    | false => rfl
    | true =>
      have h1 : (yV P c).testBit (6 * (P 4 k 0).toNat + i) = true := yseen_b.mpr ⟨k, hk, by
        rw [Nat.testBit_shiftLeft]
        simp [hb]⟩
      rw [h, Nat.zero_testBit] at h1
      cases h1
  · intro h
    apply Nat.eq_of_testBit_eq
    intro i
    rw [Nat.zero_testBit]
    cases hb : (yV P c).testBit i with
    | false => rfl
    | true =>
      obtain ⟨k, hk, h1⟩ := yseen_b.mp hb
      rw [h k hk, Nat.zero_shiftLeft, Nat.zero_testBit] at h1
      cases h1
theorem q_why {σ P : xa_H} (ht : yct σ) (hv : yPv P) (hs : ysc σ P) {c : Nat} (hc : ycell P c) : fm_Search_why (c : Int) σ = some (ywhy P (c % 24) (yX c) (yY c) (yZ c)) := by
  unfold fm_Search_why
  rw [xj_e, if_pos (by omega), q_lookAt ht hv hs hc, Option.bind_some]
  have hV := yV_r hv c
  have e := xand_n (a := yV P c) (b := 545392672) (by omega) (by decide)
  have e : xand ((yV P c : Nat) : Int) 545392672 = ((yV P c &&& 545392672 : Nat) : Int) := e
  dsimp only
  rw [e]
  unfold ywhy
  by_cases h1 : yout P (c % 24) (yX c) (yY c) (yZ c)
  · rw [if_pos h1]
    have : ¬ (yV P c &&& 545392672 = 0) := by
      rw [yV_5 hv]
      intro h
      rcases h1 with h1 | ⟨k, h2, h3⟩
      · exact h1 hc.2
      · exact h3 (h k h2)
    rw [if_neg (by omega)]
  · rw [if_neg h1]
    have h5 : ∀ k, k < (P 2 0 0).toNat → yqin P (yX c + yp P (c % 24) k 0) (yY c + yp P (c % 24) k 1) (yZ c + yp P (c % 24) k 2) := by
      intro k hk
      cases Classical.em (yqin P (yX c + yp P (c % 24) k 0) (yY c + yp P (c % 24) k 1) (yZ c + yp P (c % 24) k 2)) with
      | inl h => exact h
      | inr hn => exact absurd (Or.inr ⟨k, hk, hn⟩) h1
    have : yV P c &&& 545392672 = 0 := (yV_5 hv c).mpr h5
    rw [if_pos (by omega)]
    have h0 : yV P c = 0 ↔ ¬ ysht P (c % 24) (yX c) (yY c) (yZ c) := by
      rw [yV_0 hv]
      have hk : ∀ k, k < (P 2 0 0).toNat → (yH P c k = 0 ↔ P 1 0 (ypl (yX c + yp P (c % 24) k 0) (yY c + yp P (c % 24) k 1) (yZ c + yp P (c % 24) k 2)).toNat = 0) := by
        intro k hk
        have h6 := h5 k hk
        unfold yH ygc
        have h7 : (0 ≤ yX c + yp P (c % 24) k 0 ∧ yX c + yp P (c % 24) k 0 < P 0 0 0) ∧ (0 ≤ yY c + yp P (c % 24) k 1 ∧ yY c + yp P (c % 24) k 1 < P 0 0 1) ∧ (0 ≤ yZ c + yp P (c % 24) k 2 ∧ yZ c + yp P (c % 24) k 2 < P 0 0 2) := h6
        rw [if_pos h7]
        have hz := hv.1
        unfold qsz at hz
        exact yh_0 (hv.2.1 _ (by unfold ypl; omega))
      constructor
      · rintro h ⟨k, hk1, hk2⟩
        exact hk2 ((hk k hk1).mp (h k hk1))
      · intro h k hk1
        cases Classical.em (P 1 0 (ypl (yX c + yp P (c % 24) k 0) (yY c + yp P (c % 24) k 1) (yZ c + yp P (c % 24) k 2)).toNat = 0) with
        | inl h => exact (hk k hk1).mpr h
        | inr hn => exact absurd ⟨k, hk1, hn⟩ h
    by_cases h2 : ysht P (c % 24) (yX c) (yY c) (yZ c)
    · rw [if_pos h2, if_neg (fun h => h0.mp (by omega) h2)]
    · rw [if_neg h2, if_pos (by rw [h0.mpr h2]; rfl)]
theorem q_why_n {σ : xa_H} : fm_Search_why (-6) σ = some 1 := by
  unfold fm_Search_why
  rw [xj_e, if_neg (by decide)]
  dsimp only
  have e := xand_n (a := 545392672) (b := 545392672) (by decide) (by decide)
  have e2 : (545392672 &&& 545392672 : Nat) = 545392672 := by decide
  rw [e2] at e
  have e : xand 545392672 545392672 = 545392672 := e
  rw [e, if_neg (by decide)]
