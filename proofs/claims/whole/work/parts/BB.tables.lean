/-! the reference's tables -/
def ztb (j : Nat) : Int := ytbl.getD j 0
def zsg (t : Nat) : Int := if 3 ≤ t then -1 else 1
def zmd (w t j : Nat) : Int := if j / 3 = t % 3 then ztb (9 * w + j) else if j / 3 = (t % 3 + 1) % 3 then (-zsg t) * ztb (9 * w + 3 * ((t % 3 + 2) % 3) + j % 3) else zsg t * ztb (9 * w + 3 * ((t % 3 + 1) % 3) + j % 3)
theorem zcm : ∀ k, k < 144 → (∀ j, j < 9 → ztb (9 * znx k + j) = zmd (k / 6) (k % 6) j) ∧ ∀ i, i < znx k → ¬ ∀ j, j < 9 → ztb (9 * i + j) = zmd (k / 6) (k % 6) j := by decide +kernel
theorem ztb_r : ∀ j, -1 ≤ ztb j ∧ ztb j ≤ 1 := by
  intro j
  by_cases h : j < 216
  · exact (by decide +kernel : ∀ j, j < 216 → -1 ≤ ztb j ∧ ztb j ≤ 1) j h
  · have : ztb j = 0 := by
      unfold ztb
      rw [List.getD_eq_getElem?_getD, List.getElem?_eq_none (by show 216 ≤ j; omega)]
      rfl
    omega
theorem ztb_m (t j : Nat) : w32 (w32 (-zsg t) * ztb j) = (-zsg t) * ztb j ∧ w32 (zsg t * ztb j) = zsg t * ztb j := by
  have h := ztb_r j
  have hz : zsg t = 1 ∨ zsg t = -1 := by unfold zsg; split <;> simp
  rcases hz with e | e <;> rw [e]
  · rw [w32_n (x := -1) (by decide) (by decide)]
    exact ⟨w32_n (by omega) (by omega), w32_n (by omega) (by omega)⟩
  · rw [w32_n (x := - -1) (by decide) (by decide)]
    exact ⟨w32_n (by omega) (by omega), w32_n (by omega) (by omega)⟩
section MT
variable {σ : xa_H} {N : Nat}
theorem z_turn_loop (h : ∀ j, j < 9 * N → σ 50 0 j = ztb j) (hN : N ≤ 24) {w t a b c : Nat} (hw : w < N) (ha : a = t % 3) (hb : b = (t % 3 + 1) % 3) (hc : c = (t % 3 + 2) % 3) : xW (fm_M_turn_59 (w : Int) (a : Int) (b : Int) (c : Int) (zsg t) (fun s => some s) xFU 0 σ) fun s =>
    (∀ K i s', ¬ (K = 52 ∧ i = 0) → s K i s' = σ K i s') ∧ ∀ j, j < 9 → s 52 0 j = zmd w t j := by
  refine xfor0 (fun n (j : Int) (g : xa_H) => fm_M_turn_59 (w : Int) (a : Int) (b : Int) (c : Int) (zsg t) (fun s => some s) n j g) 3 (fun j g => (∀ K i s', ¬ (K = 52 ∧ i = 0) → g K i s' = σ K i s') ∧ ∀ j', j' < 9 → j' % 3 < j → g 52 0 j' = zmd w t j') _ (xfu_b (by omega)) ?_ ?_ σ ⟨fun _ _ _ _ => rfl, fun j' _ h => by omega⟩
  · rintro n j g hj ⟨i1, i2⟩ ih
    show xW (fm_M_turn_59 (w : Int) (a : Int) (b : Int) (c : Int) (zsg t) (fun s => some s) (n + 1) (j : Int) g) _
    rw [fm_M_turn_59]
    have e9 : ∀ f : Nat, f < 3 → w32 (w32 (w32 (9 * (w : Int)) + w32 (3 * (f : Int))) + (j : Int)) = ((9 * w + 3 * f + j : Nat) : Int) := by
      intro f hf
      rw [w32_n (x := 9 * (w : Int)) (by omega) (by omega), w32_n (x := 3 * (f : Int)) (by omega) (by omega), w32_n (x := 9 * (w : Int) + 3 * (f : Int)) (by omega) (by omega), w32_n (by omega) (by omega)]
      omega
    have e3 : ∀ f : Nat, f < 3 → w32 (w32 (3 * (f : Int)) + (j : Int)) = ((3 * f + j : Nat) : Int) := by
      intro f hf
      rw [w32_n (x := 3 * (f : Int)) (by omega) (by omega), w32_n (by omega) (by omega)]
      omega
    have ha3 : a < 3 := by omega
    have hb3 : b < 3 := by omega
    have hc3 : c < 3 := by omega
    have hab : a ≠ b ∧ a ≠ c ∧ b ≠ c := by omega
    have g50 : ∀ j', j' < 9 * N → g 50 0 j' = ztb j' := fun j' hj' => by rw [i1 50 0 j' (by omega)]; exact h j' hj'
    rw [e9 a ha3, e9 b hb3, e9 c hc3, e3 a ha3, e3 b hb3, e3 c hc3]
    refine xW_f (by omega) (xW_t (by omega) (xW_t (by omega) (xW_nm (xW_t (by omega) (xW_t (by omega) (xW_nm (xW_t (by omega) (xW_t (by omega) (xW_nm (xW_nm ?_))))))))))
    rw [w32_s (by omega)]
    simp only [Int.toNat_natCast]
    rw [xup_o (σ := g) (K := 52) (i := 0) (s := 3 * a + j) (K' := 50) (by omega)]
    rw [xup_o (σ := xup g 52 0 (3 * a + j) _) (K := 52) (i := 0) (s := 3 * b + j) (K' := 50) (by omega)]
    rw [xup_o (σ := g) (K := 52) (i := 0) (s := 3 * a + j) (K' := 50) (by omega)]
    rw [g50 _ (by omega), g50 _ (by omega), g50 _ (by omega), (ztb_m t _).1, (ztb_m t _).2]
    refine ih (xup (xup (xup g 52 0 (3 * a + j) (ztb (9 * w + 3 * a + j))) 52 0 (3 * b + j) (-zsg t * ztb (9 * w + 3 * c + j))) 52 0 (3 * c + j) (zsg t * ztb (9 * w + 3 * b + j))) ⟨fun K i s' hne => ?_, fun j' hj' hjj => ?_⟩
    · rw [xup_o (by omega), xup_o (by omega), xup_o (by omega)]
      exact i1 K i s' hne
    · by_cases hq : j' % 3 = j
      · have hr : j' / 3 = a ∨ j' / 3 = b ∨ j' / 3 = c := by omega
        rcases hr with hr | hr | hr
        · have ej : j' = 3 * a + j := by omega
          rw [xup_o (by omega), xup_o (by omega), ej, xup_at]
          unfold zmd
          rw [if_pos (by omega)]
          rw [show 9 * w + 3 * a + j = 9 * w + (3 * a + j) by omega]
        · have ej : j' = 3 * b + j := by omega
          rw [xup_o (by omega), ej, xup_at]
          unfold zmd
          rw [if_neg (by omega), if_pos (by omega), ← hc, show (3 * b + j) % 3 = j by omega]
        · have ej : j' = 3 * c + j := by omega
          rw [ej, xup_at]
          unfold zmd
          rw [if_neg (by omega), if_neg (by omega), ← hb, show (3 * c + j) % 3 = j by omega]
      · rw [xup_o (by omega), xup_o (by omega), xup_o (by omega)]
        exact i2 j' hj' (by omega)
  · rintro n g ⟨i1, i2⟩
    show xW (fm_M_turn_59 (w : Int) (a : Int) (b : Int) (c : Int) (zsg t) (fun s => some s) (n + 1) ((3 : Nat) : Int) g) _
    rw [fm_M_turn_59]
    exact xW_t (by omega) (xW_some ⟨i1, fun j' hj' => i2 j' hj' (by omega)⟩)
theorem z_turn (h : ∀ j, j < 9 * N → σ 50 0 j = ztb j) (hN : N ≤ 24) {w t : Nat} (hw : w < N) (ht : t < 6) : xW (fm_M_turn (w : Int) (t : Int) σ) fun s => (∀ K i s', ¬ (K = 52 ∧ i = 0) → s K i s' = σ K i s') ∧ ∀ j, j < 9 → s 52 0 j = zmd w t j := by
  unfold fm_M_turn xnm
  have e1 : xrem (t : Int) 3 = ((t % 3 : Nat) : Int) := by rw [xrem_p (by omega)]; omega
  have e2 : (if ((t % 3 : Nat) : Int) = 0 then (1 : Int) else (if ((t % 3 : Nat) : Int) = 1 then 2 else 0)) = (((t % 3 + 1) % 3 : Nat) : Int) := by
    have : t % 3 = 0 ∨ t % 3 = 1 ∨ t % 3 = 2 := by omega
    rcases this with h | h | h <;> rw [h] <;> rfl
  have e3 : (if ((t % 3 : Nat) : Int) = 0 then (2 : Int) else (if ((t % 3 : Nat) : Int) = 1 then 0 else 1)) = (((t % 3 + 2) % 3 : Nat) : Int) := by
    have : t % 3 = 0 ∨ t % 3 = 1 ∨ t % 3 = 2 := by omega
    rcases this with h | h | h <;> rw [h] <;> rfl
  have e4 : (if (3 : Int) ≤ (t : Int) then (-1 : Int) else 1) = zsg t := by
    unfold zsg
    by_cases h : 3 ≤ t
    · rw [if_pos h, if_pos (by omega)]
    · rw [if_neg h, if_neg (by omega)]
  dsimp only
  rw [e1, e2, e3, e4]
  exact z_turn_loop h hN hw rfl rfl rfl
theorem z_same (h : ∀ j, j < 9 * N → σ 50 0 j = ztb j) (hN : N ≤ 24) (m : Nat → Int) (h52 : ∀ j, j < 9 → σ 52 0 j = m j) {i : Nat} (hi : i < N) (K : Int → Option Int) (Q : Int → Prop) (h1 : (∀ j, j < 9 → ztb (9 * i + j) = m j) → xW (K 1) Q) (h0 : (¬ ∀ j, j < 9 → ztb (9 * i + j) = m j) → xW (K 0) Q) : xW (fm_M_tableOf_12 (N : Int) (i : Int) σ K xFU 1 0) Q := by
  refine xfor0 (fun n (j : Int) (g : Int) => fm_M_tableOf_12 (N : Int) (i : Int) σ K n g j) 9 (fun j g => (g = 1 ∧ ∀ j', j' < j → ztb (9 * i + j') = m j') ∨ (g = 0 ∧ ∃ j', j' < 9 ∧ ztb (9 * i + j') ≠ m j')) _ (xfu_b (by omega)) ?_ ?_ 1 (Or.inl ⟨rfl, fun j' h => by omega⟩)
  · intro n j g hj hI ih
    show xW (fm_M_tableOf_12 (N : Int) (i : Int) σ K (n + 1) g (j : Int)) _
    rw [fm_M_tableOf_12]
    have e9 : w32 (w32 (9 * (i : Int)) + (j : Int)) = ((9 * i + j : Nat) : Int) := by
      rw [w32_n (x := 9 * (i : Int)) (by omega) (by omega), w32_n (by omega) (by omega)]
      omega
    rw [e9]
    refine xW_f (by omega) (xW_if (fun hg => xW_nm ?_) (fun hg => xW_t (by omega) (xW_t (by omega) ?_)))
    · rw [w32_s (by omega)]
      rcases hI with ⟨a, _⟩ | ⟨_, b⟩
      · omega
      · exact ih 0 (Or.inr ⟨rfl, b⟩)
    · have ha : ∀ j', j' < j → ztb (9 * i + j') = m j' := by
        rcases hI with ⟨_, a⟩ | ⟨b, _⟩
        · exact a
        · exact absurd b hg
      refine xW_if (fun he => xW_nm ?_) (fun he => xW_nm ?_)
      · rw [w32_s (by omega)]
        refine ih 1 (Or.inl ⟨rfl, fun j' hj' => ?_⟩)
        by_cases e : j' = j
        · rw [e, ← h _ (by omega), ← h52 j hj]; exact he
        · exact ha j' (by omega)
      · rw [w32_s (by omega)]
        exact ih 0 (Or.inr ⟨rfl, j, hj, fun e => he (by rw [← h _ (by omega), ← h52 j hj] at e; exact e)⟩)
  · intro n g hI
    show xW (fm_M_tableOf_12 (N : Int) (i : Int) σ K (n + 1) g ((9 : Nat) : Int)) _
    rw [fm_M_tableOf_12]
    refine xW_t (by omega) ?_
    rcases hI with ⟨rfl, a⟩ | ⟨rfl, j', hj', a⟩
    · exact h1 a
    · exact h0 (fun hh => a (hh j' hj'))
theorem z_tableOf (h : ∀ j, j < 9 * N → σ 50 0 j = ztb j) (hN : N ≤ 24) (m : Nat → Int) (h52 : ∀ j, j < 9 → σ 52 0 j = m j) {nx : Nat} (hx : nx ≤ N) (hm : ∀ j, j < 9 → ztb (9 * nx + j) = m j) (hl : ∀ i, i < nx → ¬ ∀ j, j < 9 → ztb (9 * i + j) = m j) : xW (fm_M_tableOf (N : Int) σ) fun r => r = if nx < N then (nx : Int) else -6 := by
  unfold fm_M_tableOf
  refine xfor0 (fun n (j : Int) (_ : Unit) => fm_M_tableOf_2 (N : Int) σ (some (-6)) n j) N (fun j _ => j ≤ nx) _ (xfu_b (by omega)) ?_ ?_ () (Nat.zero_le _)
  · intro n j g hj hI ih
    show xW (fm_M_tableOf_2 (N : Int) σ (some (-6)) (n + 1) (j : Int)) _
    rw [fm_M_tableOf_2]
    have hI : j ≤ nx := hI
    refine xW_f (by omega) (z_same h hN m h52 hj _ _ (fun hh => ?_) (fun hh => ?_))
    · refine xW_f (by decide) (xW_some ?_)
      have : ¬ j < nx := fun hlt => hl j hlt hh
      rw [if_pos (by omega)]
      omega
    · refine xW_t (by decide) (xW_nm ?_)
      rw [w32_s (by omega)]
      refine ih () ?_
      have : j ≠ nx := fun e => hh (e ▸ hm)
      show j + 1 ≤ nx
      omega
  · intro n g hI
    show xW (fm_M_tableOf_2 (N : Int) σ (some (-6)) (n + 1) (N : Int)) _
    rw [fm_M_tableOf_2]
    have hI : N ≤ nx := hI
    refine xW_t (by omega) (xW_some ?_)
    rw [if_neg (by omega)]
theorem z_copy {x1 w t : Nat} (hx : x1 < 24) (K : xa_H → Option xa_H) (Q : xa_H → Prop) (σ : xa_H) (hK : ∀ s, (∀ K i s', ¬ (K = 50 ∧ i = 0 ∧ 9 * x1 ≤ s' ∧ s' < 9 * x1 + 9) → s K i s' = σ K i s') → (∀ j, j < 9 → s 50 0 (9 * x1 + j) = σ 52 0 j) → xW (K s) Q) : xW (fm_M_findTables_60 (x1 : Int) (w : Int) (t : Int) K xFU 0 σ) Q := by
  refine xfor0 (fun n (j : Int) (g : xa_H) => fm_M_findTables_60 (x1 : Int) (w : Int) (t : Int) K n j g) 9 (fun j g => (∀ K i s', ¬ (K = 50 ∧ i = 0 ∧ 9 * x1 ≤ s' ∧ s' < 9 * x1 + 9) → g K i s' = σ K i s') ∧ ∀ j', j' < j → g 50 0 (9 * x1 + j') = σ 52 0 j') _ (xfu_b (by omega)) ?_ ?_ σ ⟨fun _ _ _ _ => rfl, fun j' h => by omega⟩
  · rintro n j g hj ⟨i1, i2⟩ ih
    show xW (fm_M_findTables_60 (x1 : Int) (w : Int) (t : Int) K (n + 1) (j : Int) g) _
    rw [fm_M_findTables_60]
    have e9 : w32 (w32 (9 * (x1 : Int)) + (j : Int)) = ((9 * x1 + j : Nat) : Int) := by
      rw [w32_n (x := 9 * (x1 : Int)) (by omega) (by omega), w32_n (by omega) (by omega)]
      omega
    rw [e9]
    refine xW_f (by omega) (xW_t (by omega) (xW_t (by omega) (xW_nm (xW_nm ?_))))
    rw [w32_s (by omega)]
    simp only [Int.toNat_natCast]
    rw [i1 52 0 j (by omega)]
    refine ih (xup g 50 0 (9 * x1 + j) (σ 52 0 j)) ⟨fun K i s' hne => ?_, fun j' hj' => ?_⟩
    · rw [xup_o (by omega)]
      exact i1 K i s' hne
    · by_cases e : j' = j
      · rw [e, xup_at]
      · rw [xup_o (by omega)]
        exact i2 j' (by omega)
  · rintro n g ⟨i1, i2⟩
    show xW (fm_M_findTables_60 (x1 : Int) (w : Int) (t : Int) K (n + 1) ((9 : Nat) : Int) g) _
    rw [fm_M_findTables_60]
    exact xW_t (by omega) (hK g i1 i2)
end MT
def zMI (σ0 : xa_H) (k : Nat) (g : Int × xa_H) : Prop := g.1 = (zmk k : Int) ∧ (∀ K i s, ¬ ((K = 50 ∨ K = 51 ∨ K = 52) ∧ i = 0) → g.2 K i s = σ0 K i s) ∧ (∀ j, j < 9 * zmk k → g.2 50 0 j = ztb j) ∧ (∀ j, j < k → g.2 51 0 j = (znx j : Int)) ∧ (k = 0 ∨ ∀ j, j < 9 → g.2 52 0 j = zmd ((k - 1) / 6) ((k - 1) % 6) j)
theorem z_stepM {σ0 : xa_H} {w : Nat} (hw : w < 24) (K : Int → xa_H → Option xa_H) (Q : xa_H → Prop) (hK : ∀ g, zMI σ0 (6 * w + 6) g → xW (K g.1 g.2) Q) (g : Int × xa_H) (hg : zMI σ0 (6 * w) g) : xW (fm_M_findTables_33 (w : Int) K xFU g.1 0 g.2) Q := by
  refine xfor0 (fun n (j : Int) (g : Int × xa_H) => fm_M_findTables_33 (w : Int) K n g.1 j g.2) 6 (fun j g => zMI σ0 (6 * w + j) g) _ (xfu_b (by omega)) ?_ ?_ g hg
  · rintro n j ⟨x1, sh⟩ hj ⟨i0, i1, i2, i3, -⟩ ih
    dsimp only at i0 i1 i2 i3
    subst i0
    show xW (fm_M_findTables_33 (w : Int) K (n + 1) _ (j : Int) sh) _
    rw [fm_M_findTables_33]
    have hk : 6 * w + j < 144 := by omega
    obtain ⟨c1, c2, c3, c4, c5, -, -⟩ := zch (6 * w + j) hk
    obtain ⟨c6, c7⟩ := zcm (6 * w + j) hk
    have ew : (6 * w + j) / 6 = w := by omega
    have et : (6 * w + j) % 6 = j := by omega
    rw [ew, et] at c6 c7
    rw [ew] at c1
    refine xW_f (by omega) (xW_bind (z_turn i2 c2 c1 hj) (fun s2 hs2 => ?_))
    obtain ⟨t1, t2⟩ := hs2
    have s50 : ∀ j', j' < 9 * zmk (6 * w + j) → s2 50 0 j' = ztb j' := fun j' hj' => by rw [t1 50 0 j' (by omega)]; exact i2 j' hj'
    refine xW_bind (z_tableOf s50 c2 _ t2 c3 c6 c7) (fun v3 hv3 => ?_)
    subst hv3
    refine xW_j ?_
    have fin : ∀ (v5 v6 : Int) (s7 : xa_H), v5 = (zmk (6 * w + j + 1) : Int) → v6 = (znx (6 * w + j) : Int) → (∀ K i s, ¬ ((K = 50 ∨ K = 51 ∨ K = 52) ∧ i = 0) → s7 K i s = σ0 K i s) → (∀ j', j' < 9 * zmk (6 * w + j + 1) → s7 50 0 j' = ztb j') → (∀ j', j' < 6 * w + j → s7 51 0 j' = (znx j' : Int)) → (∀ j', j' < 9 → s7 52 0 j' = zmd w j j') →
        xW (if 0 ≤ (w32 ((w32 (6 * (w : Int))) + (j : Int))) ∧ (w32 ((w32 (6 * (w : Int))) + (j : Int))) < 144 then
          xnm (xup s7 51 0 ((w32 ((w32 (6 * (w : Int))) + (j : Int))).toNat) v6) fun s12 => xnm (w32 ((j : Int) + 1) : Int) fun v13 => fm_M_findTables_33 (w : Int) K n v5 v13 s12 else none) Q := by
      intro v5 v6 s7 h1 h1' h2 h3 h4 h5
      subst h1 h1'
      have e : w32 (w32 (6 * (w : Int)) + (j : Int)) = ((6 * w + j : Nat) : Int) := by
        rw [w32_n (x := 6 * (w : Int)) (by omega) (by omega), w32_n (by omega) (by omega)]
        omega
      rw [e]
      refine xW_t (by omega) (xW_nm (xW_nm ?_))
      rw [w32_s (by omega)]
      refine ih (((zmk (6 * w + j + 1) : Nat) : Int), xup s7 51 0 (6 * w + j) ((znx (6 * w + j) : Nat) : Int)) ⟨rfl, fun K i s hne => ?_, fun j' hj' => ?_, fun j' hj' => ?_, Or.inr (fun j' hj' => ?_)⟩
      · show xup s7 51 0 (6 * w + j) ((znx (6 * w + j) : Nat) : Int) K i s = _
        rw [xup_o (by omega)]
        exact h2 K i s hne
      · show xup s7 51 0 (6 * w + j) ((znx (6 * w + j) : Nat) : Int) 50 0 j' = _
        rw [xup_o (by omega)]
        exact h3 j' hj'
      · show xup s7 51 0 (6 * w + j) ((znx (6 * w + j) : Nat) : Int) 51 0 j' = _
        by_cases hjj : j' = 6 * w + j
        · rw [hjj, xup_at]
        · rw [xup_o (by omega)]
          exact h4 j' (by omega)
      · show xup s7 51 0 (6 * w + j) ((znx (6 * w + j) : Nat) : Int) 52 0 j' = zmd ((6 * w + (j + 1) - 1) / 6) ((6 * w + (j + 1) - 1) % 6) j'
        rw [xup_o (by omega), show (6 * w + (j + 1) - 1) / 6 = w by omega, show (6 * w + (j + 1) - 1) % 6 = j by omega]
        exact h5 j' hj'
    by_cases hne : znx (6 * w + j) = zmk (6 * w + j)
    · rw [if_pos hne] at c5
      have ev : (if znx (6 * w + j) < zmk (6 * w + j) then ((znx (6 * w + j) : Nat) : Int) else -6) = -6 := if_neg (by omega)
      rw [ev]
      refine xW_f (by decide) ?_
      refine z_copy (by omega) _ _ _ (fun s a1 a2 => xW_nm ?_)
      refine fin _ _ _ (by rw [c5]; exact w32_s (by omega)) (by rw [hne]) (fun K i s' h => ?_) (fun j' hj' => ?_) (fun j' hj' => ?_) (fun j' hj' => ?_)
      · rw [a1 K i s' (by omega), t1 K i s' (by omega)]
        exact i1 K i s' h
      · rw [c5] at hj'
        by_cases hlt : j' < 9 * zmk (6 * w + j)
        · rw [a1 50 0 j' (by omega)]
          exact s50 j' hlt
        · obtain ⟨q, rfl⟩ : ∃ q, j' = 9 * zmk (6 * w + j) + q := ⟨j' - 9 * zmk (6 * w + j), by omega⟩
          rw [a2 q (by omega), t2 q (by omega), ← hne]
          exact (c6 q (by omega)).symm
      · rw [a1 51 0 j' (by omega), t1 51 0 j' (by omega)]
        exact i3 j' hj'
      · rw [a1 52 0 j' (by omega)]
        exact t2 j' hj'
    · rw [if_neg hne] at c5
      have ev : (if znx (6 * w + j) < zmk (6 * w + j) then ((znx (6 * w + j) : Nat) : Int) else -6) = ((znx (6 * w + j) : Nat) : Int) := if_pos (by omega)
      rw [ev]
      refine xW_t (by omega) ?_
      refine fin _ _ _ (by rw [c5]) rfl (fun K i s' h => ?_) (by rw [c5]; exact s50) (fun j' hj' => ?_) t2
      · rw [t1 K i s' (by omega)]
        exact i1 K i s' h
      · rw [t1 51 0 j' (by omega)]
        exact i3 j' hj'
  · rintro n ⟨x1, sh⟩ hI
    show xW (fm_M_findTables_33 (w : Int) K (n + 1) x1 ((6 : Nat) : Int) sh) _
    rw [fm_M_findTables_33]
    exact xW_t (by omega) (hK (x1, sh) hI)
theorem z_tables (σ0 : xa_H) (h0 : ∀ j, j < 9 → σ0 50 0 j = 0) : xW (fm_M_findTables σ0) fun s => (∀ K i s', ¬ ((K = 50 ∨ K = 51 ∨ K = 52) ∧ i = 0) → s K i s' = σ0 K i s') ∧ (∀ j, j < 216 → s 50 0 j = ztb j) ∧ (∀ j, j < 144 → s 51 0 j = (znx j : Int)) ∧ ∀ j, j < 9 → s 52 0 j = zmd 23 5 j := by
  unfold fm_M_findTables
  refine xW_nm (xW_nm (xW_nm ?_))
  refine xfor0 (fun n (j : Int) (g : Int × xa_H) => fm_M_findTables_26 (fun s => some s) n g.1 j g.2) 24 (fun j g => zMI σ0 (6 * j) g) _ (xfu_b (by omega)) ?_ ?_ (1, xup (xup (xup σ0 50 0 0 1) 50 0 4 1) 50 0 8 1) ⟨by rw [zmk_e.2]; rfl, fun K i s hne => ?_, fun j hj => ?_, fun j hj => by omega, Or.inl rfl⟩
  · rintro n j ⟨x1, sh⟩ hj hI ih
    have hI0 := hI.1
    show xW (fm_M_findTables_26 (fun s => some s) (n + 1) x1 (j : Int) sh) _
    rw [fm_M_findTables_26]
    have hc := (zch (6 * j) (by omega)).1
    have e : 6 * j / 6 = j := by omega
    rw [e] at hc
    dsimp only at hI0
    refine xW_f (by omega) ?_
    refine z_stepM (σ0 := σ0) hj _ _ (fun g hg => ?_) (x1, sh) hI
    refine xW_nm ?_
    rw [w32_s (by omega)]
    exact ih g hg
  · rintro n ⟨x1, sh⟩ ⟨i0, i1, i2, i3, i4⟩
    dsimp only at i0 i1 i2 i3 i4
    show xW (fm_M_findTables_26 (fun s => some s) (n + 1) x1 ((24 : Nat) : Int) sh) _
    rw [fm_M_findTables_26]
    rw [show 6 * 24 = 144 from rfl, zmk_e.1] at i0 i2
    exact xW_t (by omega) (xW_some ⟨i1, fun j hj => i2 j (by omega), fun j hj => i3 j (by omega), i4.resolve_left (by decide)⟩)
  · show xup (xup (xup σ0 50 0 0 1) 50 0 4 1) 50 0 8 1 K i s = _
    rw [xup_o (by omega), xup_o (by omega), xup_o (by omega)]
  · rw [show 6 * 0 = 0 from rfl, zmk_e.2] at hj
    show xup (xup (xup σ0 50 0 0 1) 50 0 4 1) 50 0 8 1 50 0 j = ztb j
    have hc : j = 0 ∨ j = 4 ∨ j = 8 ∨ (¬ j = 0 ∧ ¬ j = 4 ∧ ¬ j = 8) := by omega
    rcases hc with rfl | rfl | rfl | ⟨a, b, c⟩
    · rw [xup_o (by omega), xup_o (by omega), xup_at]; rfl
    · rw [xup_o (by omega), xup_at]; rfl
    · rw [xup_at]; rfl
    · rw [xup_o (by omega), xup_o (by omega), xup_o (by omega), h0 j (by omega)]
      exact ((by decide +kernel : ∀ j, j < 9 → ¬ j = 0 → ¬ j = 4 → ¬ j = 8 → 0 = ztb j) j (by omega) a b c)
