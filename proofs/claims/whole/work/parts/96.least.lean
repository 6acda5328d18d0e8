/-! what must come off at least: sets of parts and doors that are off -/
def ygs (f : xa_H) (t u : Nat) : Prop := ygw f t (u / 16) (u % 16)
def yus (f : xa_H) (t b : Nat) : Prop := (b < 4 ∧ ydrs f b) ∨ (4 ≤ b ∧ b < 8 ∧ yprt f t (b - 4))
theorem tb_d : ∀ u, u < 256 → ∀ b, b < 4 → (u / 16).testBit b = u.testBit (b + 4) := by decide +kernel
theorem tb_m : ∀ u, u < 256 → ∀ b, b < 4 → (u % 16).testBit b = u.testBit b := by decide +kernel
theorem tb_8 {u b : Nat} (h : u < 256) (hb : 8 ≤ b) : u.testBit b = false := Nat.testBit_lt_two_pow (Nat.lt_of_lt_of_le h (Nat.pow_le_pow_right (n := 2) (i := 8) (by decide) hb))
section LS
variable {σ f : xa_H} {t : Nat}
theorem ygs_mono {u v : Nat} (hv : yv f) (ht : t < 4) (hu : u < 256) (hw : v < 256) (h : ∀ b, b < 8 → yus f t b → u.testBit b = true → v.testBit b = true) (hg : ygs f t u) : ygs f t v := by
  refine ygw_mono hv ht (fun b hb hp hx => ?_) (fun b hb hp hx => ?_) hg
  · rw [tb_d u hu b hb] at hx
    rw [tb_d v hw b hb]
    exact h (b + 4) (by omega) (Or.inr ⟨by omega, by omega, by rw [Nat.add_sub_cancel]; exact hp⟩) hx
  · rw [tb_m u hu b hb] at hx
    rw [tb_m v hw b hb]
    exact h b (by omega) (Or.inl ⟨hb, hp⟩) hx
theorem ystc_le {u v : Nat} (hu : u < 256) (hw : v < 256) (h : ∀ b, u.testBit b = true → v.testBit b = true) : ∀ n, n ≤ 4 → ystc f t u n ≤ ystc f t v n := by
  intro n
  induction n with
  | zero => intro _; exact Nat.le_refl _
  | succ n ih =>
    intro hn
    have i1 := ih (by omega)
    have e1 : (if u.testBit n = true then (f 3 0 n).toNat else 0) ≤ (if v.testBit n = true then (f 3 0 n).toNat else 0) := by
      by_cases hc : u.testBit n = true
      · rw [if_pos hc, if_pos (h n hc)]; exact Nat.le_refl _
      · rw [if_neg hc]; exact Nat.zero_le _
    have e2 : (if (u / 16).testBit n = true then (f 5 t n).toNat else 0) ≤ (if (v / 16).testBit n = true then (f 5 t n).toNat else 0) := by
      by_cases hc : (u / 16).testBit n = true
      · have hc' : (v / 16).testBit n = true := by
          rw [tb_d u hu n (by omega)] at hc
          rw [tb_d v hw n (by omega)]
          exact h _ hc
        rw [if_pos hc, if_pos hc']; exact Nat.le_refl _
      · rw [if_neg hc]; exact Nat.zero_le _
    exact Nat.add_le_add i1 (Nat.add_le_add e1 e2)
theorem ystc_b {u : Nat} (hv : yv f) (ht : t < 4) : ∀ n, n ≤ 4 → ystc f t u n ≤ 18 * n := by
  intro n
  induction n with
  | zero => intro _; exact Nat.le_refl _
  | succ n ih =>
    intro hn
    have i1 := ih (by omega)
    have h1 : 0 ≤ f 3 0 n ∧ f 3 0 n ≤ 9 := (hv.1.2.2.2 n (by omega)).1
    have h2 : 0 ≤ f 5 t n ∧ f 5 t n ≤ 9 := (hv.1.2.2.1 t ht).2.2.2.2.2.2 n (by omega)
    have e1 : (if u.testBit n = true then (f 3 0 n).toNat else 0) ≤ 9 := by
      by_cases hc : u.testBit n = true
      · rw [if_pos hc]; omega
      · rw [if_neg hc]; omega
    have e2 : (if (u / 16).testBit n = true then (f 5 t n).toNat else 0) ≤ 9 := by
      by_cases hc : (u / 16).testBit n = true
      · rw [if_pos hc]; omega
      · rw [if_neg hc]; omega
    have := Nat.add_le_add i1 (Nat.add_le_add e1 e2)
    exact Nat.le_trans this (by omega)
theorem ycst_b {u : Nat} (hv : yv f) (ht : t < 4) : ycst f t u ≤ 72 := ystc_b hv ht 4 (Nat.le_refl _)
theorem ystc_s {u n : Nat} : ystc f t u (n + 1) = ystc f t u n + ((if u.testBit n = true then (f 3 0 n).toNat else 0) + (if (u / 16).testBit n = true then (f 5 t n).toNat else 0)) := rfl
/-- the set of useful parts and doors -/
def yuf (f : xa_H) (t U : Nat) : Prop := U < 256 ∧ ∀ b, b < 8 → (U.testBit b = true ↔ yus f t b)
theorem ysu_of {S1 S2 : Nat} (h1 : S1 < 16) (h2 : S2 < 16) (k1 : ∀ b, S1.testBit b = true ↔ yprt f t b) (k2 : ∀ b, S2.testBit b = true ↔ ydrs f b) : yuf f t (S1 * 16 + S2) := by
  have hU : S1 * 16 + S2 < 256 := by omega
  refine ⟨hU, fun b hb => ?_⟩
  have ed : (S1 * 16 + S2) / 16 = S1 := by omega
  have em : (S1 * 16 + S2) % 16 = S2 := by omega
  by_cases h4 : b < 4
  · rw [← tb_m _ hU b h4, em, k2 b]
    exact ⟨fun h => Or.inl ⟨h4, h⟩, fun h => by rcases h with h | h; exact h.2; omega⟩
  · obtain ⟨c, hc⟩ : ∃ c, b = c + 4 := ⟨b - 4, by omega⟩
    subst hc
    rw [← tb_d _ hU c (by omega), ed, k1 c]
    refine ⟨fun h => Or.inr ⟨by omega, by omega, by rw [Nat.add_sub_cancel]; exact h⟩, fun h => ?_⟩
    rcases h with h | ⟨_, _, h⟩
    · omega
    · rw [Nat.add_sub_cancel] at h; exact h
/-- what must be in each set that goes -/
def ynd (f : xa_H) (t U N : Nat) : Prop := N < 256 ∧ ∀ b, N.testBit b = true → U.testBit b = true ∧ ¬ ygs f t (U ^^^ (U &&& 1 <<< b))
def ymay (U N u : Nat) : Prop := (∀ i, u.testBit i = true → U.testBit i = true) ∧ ∀ i, N.testBit i = true → u.testBit i = true
/-- any set that goes has one that may and is no dearer and no later -/
theorem ymay_ex {U N s : Nat} (hv : yv f) (ht : t < 4) (hU : yuf f t U) (hN : ynd f t U N) (hs : s < 256) (hg : ygs f t s) : ∃ u, u < 256 ∧ ymay U N u ∧ ygs f t u ∧ ycst f t u ≤ ycst f t s ∧ u ≤ s := by
  have hb : ∀ i, (s &&& U).testBit i = (s.testBit i && U.testBit i) := fun i => Nat.testBit_and s U i
  have hu : s &&& U < 256 := Nat.lt_of_le_of_lt (Nat.and_le_left (n := s) (m := U)) hs
  have hsub : ∀ i, (s &&& U).testBit i = true → s.testBit i = true := fun i h => by
    rw [hb, Bool.and_eq_true] at h
    exact h.1
  have hgo : ygs f t (s &&& U) := by
    refine ygs_mono hv ht hs hu (fun b hb8 hy hx => ?_) hg
    rw [hb, hx, (hU.2 b hb8).mpr hy]; rfl
  refine ⟨s &&& U, hu, ⟨fun i h => ?_, fun i h => ?_⟩, hgo, ystc_le hu hs hsub 4 (Nat.le_refl _), Nat.and_le_left⟩
  · rw [hb, Bool.and_eq_true] at h
    exact h.2
  · cases hx : (s &&& U).testBit i with
    | true => rfl
    | false =>
      exfalso
      have hd : U ^^^ (U &&& 1 <<< i) < 256 := by
        have : U ^^^ (U &&& 1 <<< i) < 2 ^ 8 := Nat.xor_lt_two_pow hU.1 (Nat.lt_of_le_of_lt (Nat.and_le_left (n := U) (m := 1 <<< i)) hU.1)
        exact this
      refine (hN.2 i h).2 (ygs_mono hv ht hu hd (fun b hb8 hy hxb => ?_) hgo)
      rw [set_del]
      have h1 : (s.testBit b && U.testBit b) = true := by rw [← hb]; exact hxb
      rw [Bool.and_eq_true] at h1
      rw [h1.2]
      have : ¬ i = b := by
        intro e
        rw [e] at hx
        rw [hx] at hxb
        exact absurd hxb (by decide)
      rw [decide_eq_false this]; rfl
/-! the class -/
theorem l_sum16 (hs : yst σ f) (hv : yv f) (ht : t < 4) {u : Nat} (hu : u < 256) {K : Int → Option xa_H} : ∀ (d j fu : Nat), j + d = 4 → d < fu → fm_S_sumSetCosts_16 t (u : Int) σ K fu ((ystc f t u j : Nat) : Int) (j : Int) = K ((ycst f t u : Nat) : Int) := by
  have eD : xdiv (u : Int) 16 = ((u / 16 : Nat) : Int) := by rw [xdiv_p (by omega)]; omega
  have hyt := hs.2.1.2.2.1 t ht
  have e4 : 4 * 0 + t = t := by omega
  rw [e4] at hyt
  intro d
  induction d with
  | zero =>
    intro j fu hj hd
    obtain ⟨m, rfl⟩ : ∃ m, fu = m + 1 := ⟨fu - 1, by omega⟩
    rw [fm_S_sumSetCosts_16, if_pos (by omega)]
    rw [show j = 4 by omega]
    rfl
  | succ d ih =>
    intro j fu hj hd
    obtain ⟨m, rfl⟩ : ∃ m, fu = m + 1 := ⟨fu - 1, by omega⟩
    have h30 : σ 30 t j = f 5 t j := hyt.2.1 j (by omega)
    have h25 : σ 25 0 j = f 3 0 j := (hs.2.1.2.2.2 j (by omega)).1
    have h1 : 0 ≤ f 3 0 j ∧ f 3 0 j ≤ 9 := (hv.1.2.2.2 j (by omega)).1
    have h2 : 0 ≤ f 5 t j ∧ f 5 t j ≤ 9 := (hv.1.2.2.1 t ht).2.2.2.2.2.2 j (by omega)
    have hb := ystc_b (u := u) hv ht j (by omega)
    have hnext := ih (j + 1) m (by omega) (by omega)
    have hc : ∀ c : Nat, c ≤ 9 → (if u.testBit j = true then (f 3 0 j).toNat else 0) = c →
        (xnm (w32 (((ystc f t u j : Nat) : Int) + (c : Int)) : Int) fun v8 =>
        (fm_S_has ((u / 16 : Nat) : Int) (j : Int)).bind fun v9 =>
        if v9 = 0 then
          xnm ((w32 (v8 + 0)) : Int) fun v11 =>
          xnm (w32 ((j : Int) + 1) : Int) fun v12 =>
          fm_S_sumSetCosts_16 t (u : Int) σ K m v11 v12
        else
          (fm_S_read 30 t (j : Int) σ).bind fun v13 =>
          xnm ((w32 (v8 + v13)) : Int) fun v14 =>
          xnm (w32 ((j : Int) + 1) : Int) fun v15 =>
          fm_S_sumSetCosts_16 t (u : Int) σ K m v14 v15) = K ((ycst f t u : Nat) : Int) := by
      intro c hc9 hce
      have hss := ystc_s (f := f) (t := t) (u := u) (n := j)
      rw [hce] at hss
      rw [xnm_e, w32_k (x := ((ystc f t u j : Nat) : Int) + (c : Int)) (k := ystc f t u j + c) (by omega) (by omega), q_has (by omega) (by omega), Option.bind_some]
      by_cases hx : (u / 16).testBit j = true
      · rw [if_pos hx] at hss
        rw [if_pos hx, if_neg (by decide), rd30 (by omega), Option.bind_some, h30, xnm_e, xnm_e, w32_k (k := ystc f t u (j + 1)) (by omega) (by omega), w32_s (by omega)]
        exact hnext
      · rw [if_neg hx] at hss
        rw [if_neg hx, if_pos rfl, xnm_e, xnm_e, w32_k (x := ((ystc f t u j + c : Nat) : Int) + 0) (k := ystc f t u (j + 1)) (by omega) (by omega), w32_s (by omega)]
        exact hnext
    rw [fm_S_sumSetCosts_16, if_neg (by omega), q_has (by omega) (by omega), Option.bind_some, xj_e, eD]
    by_cases hx : u.testBit j = true
    · rw [if_pos hx, if_neg (by decide), rd25 (by omega), Option.bind_some, h25]
      rw [if_pos hx] at hc
      have := hc (f 3 0 j).toNat (by omega) rfl
      rw [show (((f 3 0 j).toNat : Nat) : Int) = f 3 0 j by omega] at this
      exact this
    · rw [if_neg hx, if_pos rfl]
      rw [if_neg hx] at hc
      exact hc 0 (by omega) rfl
theorem q_sumSet (hs : yst σ f) (hv : yv f) (ht : t < 4) : xW (fm_S_sumSetCosts t σ) fun s => xfs [11] [] σ s ∧ ∀ u, u < 256 → s 11 0 u = ((ycst f t u : Nat) : Int) := by
  unfold fm_S_sumSetCosts
  refine xfor0 (fun n (x : Int) (g : xa_H) => fm_S_sumSetCosts_2 t (fun s => some s) n x g) 256 (fun x g => xfs [11] [] σ g ∧ ∀ u, u < x → g 11 0 u = ((ycst f t u : Nat) : Int)) _ (xfu_b (by omega)) ?_ ?_ σ ⟨xfs_r _ _ _, fun u hu => by omega⟩
  · rintro n x g hx ⟨i1, i2⟩ ih
    show xW (fm_S_sumSetCosts_2 t _ (n + 1) (x : Int) g) _
    have hg := yst_f (xfc_s i1 (by decide)) hs
    have tn : ((x : Int)).toNat = x := rfl
    have e0 : ((ystc f t x 0 : Nat) : Int) = 0 := rfl
    have h16 := fun K => l_sum16 (K := K) hg hv ht (u := x) (by omega) 4 0 xFU (by omega) (xfu_b (by omega))
    have e00 : ((0 : Nat) : Int) = 0 := rfl
    rw [e0, e00] at h16
    rw [fm_S_sumSetCosts_2]
    refine xW_f (by omega) ?_
    rw [h16]
    refine xW_t ⟨by omega, by omega⟩ (xW_nm (xW_nm ?_))
    rw [w32_s (by omega), tn]
    refine ih _ ⟨xfs_t i1 (xfs_up (by decide) (by decide)), fun u hu => ?_⟩
    by_cases hux : u = x
    · rw [hux, xup_at]
    · rw [xup_o (by omega)]; exact i2 u (by omega)
  · rintro n g ⟨i1, i2⟩
    show xW (fm_S_sumSetCosts_2 t _ (n + 1) ((256 : Nat) : Int) g) _
    rw [fm_S_sumSetCosts_2]
    exact xW_t (by omega) (xW_some ⟨i1, i2⟩)
/-- what a search leaves when it looks whether it goes -/
def ygk (σ f : xa_H) (t : Nat) (s : xa_H) : Prop := xfs [21, 22, 23] [9, 10] σ s ∧ yhc s (yPl f t) ∧ yfl s
theorem ygk_w (hs : yst σ f) (hv : yv f) (ht : t < 4) {u : Nat} (hu : u < 256) (hl : ¬ f 2 t 1 < 0) (hsc : ysc σ (yPl f t)) {g : xa_H} (hg : ygk σ f t g) :
    xW (fm_S_goesWith t (u : Int) g) fun r => ygk σ f t r.2 ∧ ((r.1 = 1 ∧ ygs f t u) ∨ (r.1 = 0 ∧ ¬ ygs f t u)) := by
  obtain ⟨g1, g2, g3⟩ := hg
  refine xW_mono (q_goesWith (yst_f (xfc_s g1 (by decide)) hs) hv ht hu hl (ysc_f g1 (by decide) (by decide) hsc) g2 g3) ?_
  rintro r ⟨a1, a2, a3, a4⟩
  exact ⟨⟨xfs_t g1 a1, a2, a3⟩, a4⟩
theorem q_needed (hs : yst σ f) (hv : yv f) (ht : t < 4) {U : Nat} (hU : U < 256) (hl : ¬ f 2 t 1 < 0) (hsc : ysc σ (yPl f t)) (h0 : ygk σ f t σ) :
    xW (fm_S_neededOf t (U : Int) σ) fun r => ygk σ f t r.2 ∧ ∃ N : Nat, r.1 = (N : Int) ∧ ynd f t U N := by
  have key : ∀ (d j fu N : Nat) (g : xa_H), j + d = 8 → d < fu → ygk σ f t g → ynd f t U N → xW (fm_S_neededOf_5 t (U : Int) (fun v s => some (v, s)) fu (N : Int) (j : Int) g) fun r => ygk σ f t r.2 ∧ ∃ N : Nat, r.1 = (N : Int) ∧ ynd f t U N := by
    intro d
    induction d with
    | zero =>
      intro j fu N g hj hd hg hN
      obtain ⟨m, rfl⟩ : ∃ m, fu = m + 1 := ⟨fu - 1, by omega⟩
      rw [fm_S_neededOf_5]
      exact xW_t (by omega) (xW_some ⟨hg, N, rfl, hN⟩)
    | succ d ih =>
      intro j fu N g hj hd hg hN
      obtain ⟨m, rfl⟩ : ∃ m, fu = m + 1 := ⟨fu - 1, by omega⟩
      rw [fm_S_neededOf_5]
      refine xW_f (by omega) (xW_be (q_has (by omega) (by omega)) ?_)
      by_cases hx : U.testBit j = true
      · rw [if_pos hx]
        have hsm : 1 <<< j < 256 := (by decide : ∀ j, j < 8 → 1 <<< j < 256) j (by omega)
        have e1 : xshl 1 (j : Int) = ((1 <<< j : Nat) : Int) := xshl_n (a := 1) (b := j) (by omega) (by omega) (by decide)
        have e2 : xand (U : Int) (xxor ((1 <<< j : Nat) : Int) (-1)) = ((U ^^^ (U &&& 1 <<< j) : Nat) : Int) := xandn_n (by omega) (by omega)
        have hd2 : U ^^^ (U &&& 1 <<< j) < 256 := by
          have : U ^^^ (U &&& 1 <<< j) < 2 ^ 8 := Nat.xor_lt_two_pow hU (Nat.lt_of_le_of_lt (Nat.and_le_left (n := U) (m := 1 <<< j)) hU)
          exact this
        rw [e1, e2]
        refine xW_f (by decide) (xW_b2 (ygk_w hs hv ht hd2 hl hsc hg) ?_)
        rintro v s ⟨a1, a2⟩
        have a1 : ygk σ f t s := a1
        rcases a2 with ⟨a2, a3⟩ | ⟨a2, a3⟩
        · have a2 : v = 1 := a2
          refine xW_f (by omega) (xW_nm ?_)
          rw [w32_s (by omega)]
          exact ih (j + 1) m N s (by omega) (by omega) a1 hN
        · have a2 : v = 0 := a2
          have e3 : xor2 (N : Int) ((1 <<< j : Nat) : Int) = ((N ||| 1 <<< j : Nat) : Int) := xor2_n (by have := hN.1; omega) (by omega)
          rw [e3]
          refine xW_t a2 (xW_nm (xW_nm ?_))
          rw [w32_s (by omega)]
          refine ih (j + 1) m (N ||| 1 <<< j) s (by omega) (by omega) a1 ⟨?_, fun b hb => ?_⟩
          · have : N ||| 1 <<< j < 2 ^ 8 := Nat.or_lt_two_pow hN.1 hsm
            exact this
          · rw [or_bit, one_bit, Bool.or_eq_true, decide_eq_true_iff] at hb
            rcases hb with hb | hb
            · exact hN.2 b hb
            · rw [← hb]; exact ⟨hx, a3⟩
      · rw [if_neg hx]
        refine xW_t rfl (xW_nm ?_)
        rw [w32_s (by omega)]
        exact ih (j + 1) m N g (by omega) (by omega) hg hN
  unfold fm_S_neededOf
  exact key 8 0 xFU 0 σ (by omega) (xfu_b (by omega)) h0 ⟨by decide, fun b hb => by rw [Nat.zero_testBit] at hb; exact absurd hb (by decide)⟩
end LS
