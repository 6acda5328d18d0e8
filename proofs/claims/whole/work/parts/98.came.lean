/-! least of the reference; came on both sides -/
theorem xand_bit {s b : Nat} (hs : s < 2147483648) (hb : b < 32) : xand (xshr (s : Int) (b : Int)) 1 = (if s.testBit b = true then 1 else 0) := by
  have e : xand (xshr (s : Int) (b : Int)) 1 = ((s >>> b % 2 : Nat) : Int) := by
    rw [xshr_n hb hs]
    have h2 : s >>> b < 2147483648 := by
      rw [Nat.shiftRight_eq_div_pow]
      exact Nat.lt_of_le_of_lt (Nat.div_le_self _ _) hs
    have := xand_n (a := s >>> b) (b := 1) h2 (by decide)
    rw [Nat.and_one_is_mod] at this
    exact this
  rw [e]
  have e2 : s.testBit b = decide (s >>> b % 2 = 1) := by
    rw [Nat.testBit_eq_decide_div_mod_eq, Nat.shiftRight_eq_div_pow]
  rw [e2]
  by_cases h : s >>> b % 2 = 1
  · rw [if_pos (decide_eq_true h), h]; rfl
  · rw [if_neg (by rw [decide_eq_false h]; decide), show s >>> b % 2 = 0 by omega]; rfl
section MLS
variable {σ f : xa_H} {t : Nat}
theorem q_costOff (hs : ym σ f) (hv : yv f) (ht : t < 4) {u : Nat} (hu : u < 256) : fm_M_costOff (t : Int) ((u / 16 : Nat) : Int) ((u % 16 : Nat) : Int) σ = some ((ycst f t u : Nat) : Int) := by
  have key : ∀ (d j fu : Nat), j + d = 4 → d < fu → fm_M_costOff_6 (t : Int) ((u / 16 : Nat) : Int) ((u % 16 : Nat) : Int) σ (fun v => some v) fu ((ystc f t u j : Nat) : Int) (j : Int) = some ((ycst f t u : Nat) : Int) := by
    intro d
    induction d with
    | zero =>
      intro j fu hj hd
      obtain ⟨m, rfl⟩ : ∃ m, fu = m + 1 := ⟨fu - 1, by omega⟩
      rw [fm_M_costOff_6, if_pos (by omega)]
      rw [show j = 4 by omega]
      rfl
    | succ d ih =>
      intro j fu hj hd
      obtain ⟨m, rfl⟩ : ∃ m, fu = m + 1 := ⟨fu - 1, by omega⟩
      have tn : ∀ j : Nat, ((j : Int)).toNat = j := fun j => rfl
      have h59 : σ 59 0 (4 * t + j) = f 5 t j := hs.2.1.2.2.2.2.1 t j ht (by omega)
      have h60 : σ 60 0 j = f 3 0 j := (hs.2.1.2.2.2.1 j (by omega)).1
      have h1 : 0 ≤ f 3 0 j ∧ f 3 0 j ≤ 9 := (hv.1.2.2.2 j (by omega)).1
      have h2 : 0 ≤ f 5 t j ∧ f 5 t j ≤ 9 := (hv.1.2.2.1 t ht).2.2.2.2.2.2 j (by omega)
      have hb := ystc_b (u := u) hv ht j (by omega)
      have hnext := ih (j + 1) m (by omega) (by omega)
      have hc : ∀ c : Nat, c ≤ 9 → (if (u / 16).testBit j = true then (f 5 t j).toNat else 0) = c →
          (if (xand (xshr ((u % 16 : Nat) : Int) (j : Int)) 1) = 1 then
            if 0 ≤ (j : Int) ∧ (j : Int) < 4 then
              xnm ((w32 (((ystc f t u j : Nat) : Int) + (w32 ((c : Int) + (σ 60 0 ((j : Int)).toNat))))) : Int) fun v7 =>
              xnm (w32 ((j : Int) + 1) : Int) fun v8 =>
              fm_M_costOff_6 (t : Int) ((u / 16 : Nat) : Int) ((u % 16 : Nat) : Int) σ (fun v => some v) m v7 v8
            else none
          else
            xnm ((w32 (((ystc f t u j : Nat) : Int) + (w32 ((c : Int) + 0)))) : Int) fun v9 =>
            xnm (w32 ((j : Int) + 1) : Int) fun v10 =>
            fm_M_costOff_6 (t : Int) ((u / 16 : Nat) : Int) ((u % 16 : Nat) : Int) σ (fun v => some v) m v9 v10) = some ((ycst f t u : Nat) : Int) := by
        intro c hc9 hce
        have hss := ystc_s (f := f) (t := t) (u := u) (n := j)
        rw [hce] at hss
        rw [xand_bit (by omega) (by omega), tb_m u hu j (by omega), tn]
        by_cases hx : u.testBit j = true
        · rw [if_pos hx] at hss
          rw [if_pos hx, if_pos rfl, if_pos ⟨by omega, by omega⟩, h60, xnm_e, xnm_e, w32_k (x := (c : Int) + f 3 0 j) (k := c + (f 3 0 j).toNat) (by omega) (by omega), w32_k (k := ystc f t u (j + 1)) (by omega) (by omega), w32_s (by omega)]
          exact hnext
        · rw [if_neg hx] at hss
          rw [if_neg hx, if_neg (by decide), xnm_e, xnm_e, w32_k (x := (c : Int) + 0) (k := c) (by omega) (by omega), w32_k (k := ystc f t u (j + 1)) (by omega) (by omega), w32_s (by omega)]
          exact hnext
      rw [fm_M_costOff_6, if_neg (by omega), xj_e, xand_bit (s := u / 16) (by omega) (by omega)]
      have e59 : w32 (w32 (4 * (t : Int)) + (j : Int)) = ((4 * t + j : Nat) : Int) := w32_2 (by omega) (by omega) (by omega)
      by_cases hx : (u / 16).testBit j = true
      · rw [if_pos hx, if_pos rfl, e59, if_pos ⟨by omega, by omega⟩, tn (4 * t + j), h59]
        rw [if_pos hx] at hc
        have := hc (f 5 t j).toNat (by omega) rfl
        rw [show (((f 5 t j).toNat : Nat) : Int) = f 5 t j by omega] at this
        exact this
      · rw [if_neg hx, if_neg (by decide)]
        rw [if_neg hx] at hc
        exact hc 0 (by omega) rfl
  unfold fm_M_costOff
  exact key 4 0 xFU (by omega) (xfu_b (by omega))
theorem l_M62 (hv : yv f) (ht : t < 4) (hl : ¬ f 2 t 1 < 0) {c : Nat} {w : Int} {K : xa_H → Option (Int × xa_H)} {Q : Int × xa_H → Prop} (hend : ∀ g, ym g f → ynb f t (fun _ => True) c 256 → xW (K g) Q) (hfound : ∀ v g, ym g f → v = yls f t w → Q (v, g)) :
    ∀ (d x fu : Nat) (g : xa_H), x + d = 256 → d < fu → ym g f → ynb f t (fun _ => True) c x → xW (fm_M_least_62 (t : Int) w (c : Int) K fu (x : Int) g) Q := by
  intro d
  induction d with
  | zero =>
    intro x fu g hx hd hg hb
    obtain ⟨m, rfl⟩ : ∃ m, fu = m + 1 := ⟨fu - 1, by omega⟩
    rw [fm_M_least_62]
    have e : x = 256 := by omega
    rw [e] at hb
    exact xW_t (by omega) (hend g hg hb)
  | succ d ih =>
    intro x fu g hx hd hg hb
    obtain ⟨m, rfl⟩ : ∃ m, fu = m + 1 := ⟨fu - 1, by omega⟩
    have hx2 : x < 256 := by omega
    have eD : xdiv (x : Int) 16 = ((x / 16 : Nat) : Int) := by rw [xdiv_p (by omega)]; omega
    have eR : xrem (x : Int) 16 = ((x % 16 : Nat) : Int) := by rw [xrem_p (by omega)]; omega
    rw [fm_M_least_62, eD, eR]
    refine xW_f (by omega) (xW_be (q_costOff hg hv ht hx2) ?_)
    by_cases hA : ycst f t x = c
    · refine xW_t (by omega) (xW_b2 (q_doesGo hg hv ht (A := x / 16) (D := x % 16) (by omega) (by omega) hl) ?_)
      rintro v s ⟨a1, a2⟩
      have a2 : ym s f := a2
      rcases a1 with ⟨a1, a3⟩ | ⟨a1, a3⟩
      · have a1 : v = 1 := a1
        refine xW_f (by omega) ?_
        have hlst : ylst f t x := by
          refine ⟨hx2, a3, fun s' hs' hg' => ?_⟩
          rcases hb s' hs' trivial hg' with h | ⟨h, h'⟩
          · left; omega
          · right; omega
        have e := yls_1 hlst w
        by_cases h0 : w = 0
        · rw [if_pos h0] at e
          refine xW_t h0 (xW_some (hfound _ _ a2 ?_))
          rw [e, hA]
        · rw [if_neg h0] at e
          by_cases h1 : w = 1
          · rw [if_pos h1] at e
            exact xW_f h0 (xW_t h1 (xW_some (hfound _ _ a2 e.symm)))
          · rw [if_neg h1] at e
            exact xW_f h0 (xW_f h1 (xW_some (hfound _ _ a2 e.symm)))
      · have a1 : v = 0 := a1
        refine xW_t a1 (xW_nm ?_)
        rw [w32_s (by omega)]
        exact ih (x + 1) m s (by omega) (by omega) a2 (ynb_s hb (fun _ _ => a3))
    · refine xW_f (by omega) (xW_nm ?_)
      rw [w32_s (by omega)]
      exact ih (x + 1) m g (by omega) (by omega) hg (ynb_s hb (fun _ h => absurd h hA))
theorem l_M53 (hv : yv f) (ht : t < 4) (hl : ¬ f 2 t 1 < 0) (hg15 : ygw f t 15 15) {w : Int} {K : xa_H → Option (Int × xa_H)} : ∀ (d c fu : Nat) (g : xa_H), c + d = 73 → d < fu → ym g f → ynb f t (fun _ => True) c 0 → xW (fm_M_least_53 (t : Int) w K fu (c : Int) g) fun r => r.1 = yls f t w ∧ ym r.2 f := by
  intro d
  induction d with
  | zero =>
    intro c fu g hc hd hg hb
    exfalso
    have h72 := ycst_b (u := 255) hv ht
    have h255 : ygs f t 255 := hg15
    rcases hb 255 (by decide) trivial h255 with h | ⟨h, _⟩ <;> omega
  | succ d ih =>
    intro c fu g hc hd hg hb
    obtain ⟨m, rfl⟩ : ∃ m, fu = m + 1 := ⟨fu - 1, by omega⟩
    rw [fm_M_least_53]
    refine xW_f (by omega) ?_
    refine l_M62 hv ht hl (fun g' hg' hb' => ?_) (fun v s h1 h2 => ⟨h2, h1⟩) 256 0 xFU g (by omega) (xfu_b (by omega)) hg hb
    refine xW_nm ?_
    rw [w32_s (by omega)]
    exact ih (c + 1) m g' (by omega) (by omega) hg' (ynb_n hb')
theorem M_least (hs : ym σ f) (hv : yv f) (t w : Int) : xW (fm_M_least t w σ) fun r => r.1 = aleast f t w ∧ ym r.2 f := by
  unfold fm_M_least aleast
  refine xW_be (q_isThing t) ?_
  by_cases h : 0 ≤ t ∧ t ≤ 3
  · rw [if_pos h, if_pos h]
    refine xW_f (by decide) (xW_be (q_in w 0 2) ?_)
    by_cases hw : 0 ≤ w ∧ w ≤ 2
    · rw [if_pos hw, if_pos hw]
      obtain ⟨u, hu⟩ : ∃ u : Nat, t = (u : Int) := ⟨t.toNat, by omega⟩
      subst hu
      have tn : ((u : Int)).toNat = u := rfl
      have h62 := (hs.2.1.2.2.1 u (by omega)).2.1
      rw [tn, h62]
      refine xW_f (by decide) (xW_t ⟨by omega, by omega⟩ ?_)
      by_cases hl : f 2 u 1 < 0
      · rw [if_pos hl]
        exact xW_f (by omega) (xW_some ⟨rfl, hs⟩)
      · rw [if_neg hl]
        have hu4 : u < 4 := by omega
        refine xW_t (by omega) (xW_b2 (q_doesGo hs hv hu4 (A := 15) (D := 15) (by decide) (by decide) hl) ?_)
        rintro v s ⟨a1, a2⟩
        have a2 : ym s f := a2
        rcases a1 with ⟨a1, a3⟩ | ⟨a1, a3⟩
        · have a1 : v = 1 := a1
          exact xW_f (by omega) (l_M53 hv hu4 hl a3 73 0 xFU s (by omega) (xfu_b (by omega)) a2 ynb_0)
        · have a1 : v = 0 := a1
          exact xW_t a1 (xW_some ⟨(yls_0 hv hu4 a3 w).symm, a2⟩)
    · rw [if_neg hw, if_neg hw]
      exact xW_t rfl (xW_some ⟨rfl, hs⟩)
  · rw [if_neg h, if_neg h]
    exact xW_t rfl (xW_some ⟨rfl, hs⟩)
/-! came -/
theorem ycm_r {n : Nat} (hn : n ≤ 16) : (ycm f t n).1 ≤ n ∧ (ycm f t n).2 ≤ 15 := by
  induction n with
  | zero => exact ⟨Nat.le_refl _, Nat.le_refl _⟩
  | succ n ih =>
    obtain ⟨h1, h2⟩ := ih (by omega)
    unfold ycm
    by_cases hg : ygw f t 0 n
    · rw [if_pos hg]
      have := Nat.and_le_left (n := (ycm f t n).2) (m := n)
      exact ⟨by show (ycm f t n).1 + 1 ≤ n + 1; omega, by show (ycm f t n).2 &&& n ≤ 15; omega⟩
    · rw [if_neg hg]; exact ⟨by omega, h2⟩
theorem ycm_y {n : Nat} (h : ygw f t 0 n) : ycm f t (n + 1) = ((ycm f t n).1 + 1, (ycm f t n).2 &&& n) := if_pos h
theorem ycm_n {n : Nat} (h : ¬ ygw f t 0 n) : ycm f t (n + 1) = ycm f t n := if_neg h
theorem ygs_16 {x : Nat} (hx : x < 16) : ygs f t x ↔ ygw f t 0 x := by
  unfold ygs
  rw [show x / 16 = 0 by omega, show x % 16 = x by omega]
theorem q_byLess {G x : Nat} (hG : G < 65536) (hx : x < 16) : (fm_S_goesByLess (G : Int) (x : Int) = some 1 ∧ ∃ d, d < 4 ∧ x.testBit d = true ∧ G.testBit (x ^^^ (x &&& 1 <<< d)) = true) ∨ (fm_S_goesByLess (G : Int) (x : Int) = some 0 ∧ ∀ d, d < 4 → x.testBit d = true → ¬ G.testBit (x ^^^ (x &&& 1 <<< d)) = true) := by
  have key : ∀ (e d fu : Nat), d + e = 4 → e < fu → (∀ d', d' < d → x.testBit d' = true → ¬ G.testBit (x ^^^ (x &&& 1 <<< d')) = true) →
      (fm_S_goesByLess_2 (G : Int) (x : Int) (some 0) fu (d : Int) = some 1 ∧ ∃ d, d < 4 ∧ x.testBit d = true ∧ G.testBit (x ^^^ (x &&& 1 <<< d)) = true) ∨ (fm_S_goesByLess_2 (G : Int) (x : Int) (some 0) fu (d : Int) = some 0 ∧ ∀ d, d < 4 → x.testBit d = true → ¬ G.testBit (x ^^^ (x &&& 1 <<< d)) = true) := by
    intro e
    induction e with
    | zero =>
      intro d fu hd he hno
      obtain ⟨m, rfl⟩ : ∃ m, fu = m + 1 := ⟨fu - 1, by omega⟩
      right
      rw [fm_S_goesByLess_2, if_pos (by omega)]
      exact ⟨rfl, fun d' h => hno d' (by omega)⟩
    | succ e ih =>
      intro d fu hd he hno
      obtain ⟨m, rfl⟩ : ∃ m, fu = m + 1 := ⟨fu - 1, by omega⟩
      rw [fm_S_goesByLess_2, if_neg (by omega), q_has (by omega) (by omega), Option.bind_some]
      by_cases hb : x.testBit d = true
      · have hsm : 1 <<< d < 16 := (by decide : ∀ d, d < 4 → 1 <<< d < 16) d (by omega)
        have e1 : xshl 1 (d : Int) = ((1 <<< d : Nat) : Int) := xshl_n (a := 1) (b := d) (by omega) (by omega) (by decide)
        have e2 : xand (x : Int) (xxor ((1 <<< d : Nat) : Int) (-1)) = ((x ^^^ (x &&& 1 <<< d) : Nat) : Int) := xandn_n (by omega) (by omega)
        have hlt : x ^^^ (x &&& 1 <<< d) < 16 := by
          have : x ^^^ (x &&& 1 <<< d) < 2 ^ 4 := Nat.xor_lt_two_pow hx (Nat.lt_of_le_of_lt (Nat.and_le_left (n := x) (m := 1 <<< d)) hx)
          exact this
        rw [if_pos hb, if_neg (by decide), e1, e2, q_has (by omega) (by omega), Option.bind_some]
        by_cases hg : G.testBit (x ^^^ (x &&& 1 <<< d)) = true
        · rw [if_pos hg, if_neg (by decide)]
          exact Or.inl ⟨rfl, d, by omega, hb, hg⟩
        · rw [if_neg hg, if_pos rfl, xnm_e, w32_s (by omega)]
          refine ih (d + 1) m (by omega) (by omega) (fun d' h hb' => ?_)
          by_cases e : d' = d
          · rw [e]; exact hg
          · exact hno d' (by omega) hb'
      · rw [if_neg hb, if_pos rfl, xnm_e, w32_s (by omega)]
        refine ih (d + 1) m (by omega) (by omega) (fun d' h hb' => ?_)
        by_cases e : d' = d
        · rw [e] at hb'; exact absurd hb' hb
        · exact hno d' (by omega) hb'
  unfold fm_S_goesByLess
  exact key 4 0 xFU (by omega) (xfu_b (by omega)) (fun d' h => by omega)
theorem l_came38 (hs : yst σ f) (hv : yv f) (ht : t < 4) (hl : ¬ f 2 t 1 < 0) (hsc : ysc σ (yPl f t)) {U : Nat} (hU : U < 16) (hUb : ∀ b, U.testBit b = true ↔ ydrs f b) {K : Int → Int → xa_H → Option xa_H} {Q : xa_H → Prop}
    (hend : ∀ g, ygk σ f t g → xW (K (((ycm f t 16).1 : Nat) : Int) (((ycm f t 16).2 : Nat) : Int) g) Q) :
    ∀ (d x fu G : Nat) (g : xa_H), x + d = 16 → d < fu → ygk σ f t g → G < 65536 → (∀ j, G.testBit j = true ↔ j < x ∧ ygw f t 0 j) → xW (fm_S_findCame_38 t (U : Int) K fu (G : Int) (((ycm f t x).1 : Nat) : Int) (((ycm f t x).2 : Nat) : Int) (x : Int) g) Q := by
  intro d
  induction d with
  | zero =>
    intro x fu G g hx hd hg hG hGb
    obtain ⟨m, rfl⟩ : ∃ m, fu = m + 1 := ⟨fu - 1, by omega⟩
    rw [fm_S_findCame_38]
    have e : x = 16 := by omega
    subst e
    exact xW_t (by omega) (hend g hg)
  | succ d ih =>
    intro x fu G g hx hd hg hG hGb
    obtain ⟨m, rfl⟩ : ∃ m, fu = m + 1 := ⟨fu - 1, by omega⟩
    have hx2 : x < 16 := by omega
    obtain ⟨r1, r2⟩ := ycm_r (f := f) (t := t) (n := x) (by omega)
    have hsm : 1 <<< x < 65536 := (by decide : ∀ x, x < 16 → 1 <<< x < 65536) x hx2
    have e1 : xshl 1 (x : Int) = ((1 <<< x : Nat) : Int) := xshl_n (a := 1) (b := x) (by omega) (by omega) (by decide)
    have e2 : xor2 (G : Int) ((1 <<< x : Nat) : Int) = ((G ||| 1 <<< x : Nat) : Int) := xor2_n (by omega) (by omega)
    have e3 : xand (((ycm f t x).2 : Nat) : Int) (x : Int) = (((ycm f t x).2 &&& x : Nat) : Int) := xand_n (by omega) (by omega)
    have hyes : ygw f t 0 x → ∀ s, ygk σ f t s → xW (xnm ((xor2 (G : Int) (xshl 1 (x : Int))) : Int) fun v9 =>
            xnm (w32 ((((ycm f t x).1 : Nat) : Int) + 1) : Int) fun v10 =>
            xnm ((xand (((ycm f t x).2 : Nat) : Int) (x : Int)) : Int) fun v11 =>
            xnm (w32 ((x : Int) + 1) : Int) fun v12 =>
            fm_S_findCame_38 t (U : Int) K m v9 v10 v11 v12 s) Q := by
      intro hgo s hsk
      rw [e1, e2, e3]
      refine xW_nm (xW_nm (xW_nm (xW_nm ?_)))
      rw [w32_s (by omega), w32_s (by omega)]
      have hG2 : G ||| 1 <<< x < 65536 := by
        have : G ||| 1 <<< x < 2 ^ 16 := Nat.or_lt_two_pow hG hsm
        exact this
      have hI := ih (x + 1) m (G ||| 1 <<< x) s (by omega) (by omega) hsk hG2 (fun j => by
        rw [or_bit, one_bit, Bool.or_eq_true, decide_eq_true_iff, hGb j]
        constructor
        · rintro (⟨k1, k2⟩ | k)
          · exact ⟨by omega, k2⟩
          · subst k; exact ⟨by omega, hgo⟩
        · rintro ⟨k1, k2⟩
          by_cases e : x = j
          · exact Or.inr e
          · exact Or.inl ⟨by omega, k2⟩)
      rw [ycm_y hgo] at hI
      exact hI
    have hnot : ¬ ygw f t 0 x → ∀ s, ygk σ f t s → xW (xnm (w32 ((x : Int) + 1) : Int) fun v8 => fm_S_findCame_38 t (U : Int) K m (G : Int) (((ycm f t x).1 : Nat) : Int) (((ycm f t x).2 : Nat) : Int) v8 s) Q := by
      intro hgo s hsk
      refine xW_nm ?_
      rw [w32_s (by omega)]
      have hI := ih (x + 1) m G s (by omega) (by omega) hsk hG (fun j => by
        rw [hGb j]
        constructor
        · rintro ⟨k1, k2⟩; exact ⟨by omega, k2⟩
        · rintro ⟨k1, k2⟩
          by_cases e : x = j
          · subst e; exact absurd k2 hgo
          · exact ⟨by omega, k2⟩)
      rw [ycm_n hgo] at hI
      exact hI
    have hdel : ∀ b, b < 4 → x.testBit b = true → x ^^^ (x &&& 1 <<< b) < x := fun b hb hxb => (by decide +kernel : ∀ x, x < 16 → ∀ b, b < 4 → x.testBit b = true → x ^^^ (x &&& 1 <<< b) < x) x hx2 b hb hxb
    rw [fm_S_findCame_38]
    refine xW_f (by omega) ?_
    rcases q_byLess hG hx2 with ⟨h1, b, hb, hxb, hGx⟩ | ⟨h1, hno⟩
    · refine xW_be h1 (xW_f (by decide) (hyes ?_ g hg))
      have h2 := ((hGb _).mp hGx).2
      have hlt := hdel b hb hxb
      refine ygw_mono hv ht (fun c _ _ h => h) (fun c _ _ h => ?_) h2
      rw [set_del, Bool.and_eq_true] at h
      exact h.1
    · refine xW_be h1 (xW_t rfl ?_)
      have ea : xand (x : Int) (xxor (U : Int) (-1)) = ((x ^^^ (x &&& U) : Nat) : Int) := xandn_n (by omega) (by omega)
      rw [ea]
      by_cases hB : x ^^^ (x &&& U) = 0
      · refine xW_t (by omega) (xW_b2 (ygk_w hs hv ht (u := x) (by omega) hl hsc hg) ?_)
        rintro v s ⟨a1, a2⟩
        have a1 : ygk σ f t s := a1
        rcases a2 with ⟨a2, a3⟩ | ⟨a2, a3⟩
        · have a2 : v = 1 := a2
          exact xW_f (by omega) (hyes ((ygs_16 hx2).mp a3) s a1)
        · have a2 : v = 0 := a2
          exact xW_t a2 (hnot (fun q => a3 ((ygs_16 hx2).mpr q)) s a1)
      · refine xW_f (by omega) (hnot (fun hgo => ?_) g hg)
        have hex : ∃ b, x.testBit b = true ∧ ¬ U.testBit b = true := by
          refine Classical.byContradiction (fun hn => hB (andn_0.mpr (fun i hi => ?_)))
          exact Classical.byContradiction (fun q => hn ⟨i, hi, q⟩)
        obtain ⟨b, k1, k2⟩ := hex
        have hb4 : b < 4 := by
          refine Classical.byContradiction (fun q => ?_)
          have := Nat.testBit_lt_two_pow (x := x) (i := b) (Nat.lt_of_lt_of_le hx2 (Nat.pow_le_pow_right (n := 2) (i := 4) (by decide) (by omega)))
          rw [this] at k1
          exact absurd k1 (by decide)
        refine hno b hb4 k1 ((hGb _).mpr ⟨hdel b hb4 k1, ?_⟩)
        refine ygw_mono hv ht (fun c _ _ h => h) (fun c _ hc h => ?_) hgo
        rw [set_del, h]
        have : ¬ b = c := by
          intro e
          subst e
          exact k2 ((hUb b).mpr hc)
        rw [decide_eq_false this]; rfl
theorem q_findCame (hs : yst σ f) (hv : yv f) (hc : yca σ f) (hf : yfl σ) (ht : t < 4) (hl : ¬ f 2 t 1 < 0) (hk : σ 0 0 1 = ((ykey 6 t 0 0 : Nat) : Int)) : xW (fm_S_findCame t σ) (ypo f 6 t 0 0) := by
  obtain ⟨hq, hlie⟩ := ystd_q hv ht hl
  have hn1 : 1 ≤ f 2 t 0 := hlie.1
  have hn0 : fm_Answer_none σ = some (xup (xup σ 0 0 2 0) 0 0 3 (-6)) := rfl
  unfold fm_S_findCame
  refine xW_be hn0 ?_
  have f1 : xfs [0] [] σ (xup (xup σ 0 0 2 0) 0 0 3 (-6)) := xfs_t (xfs_up (by decide) (by decide)) (xfs_up (by decide) (by decide))
  have c1 : xup (xup σ 0 0 2 0) 0 0 3 (-6) 0 0 2 = ((0 : Nat) : Int) := by rw [xup_o (by omega), xup_at]; rfl
  have k1 : xup (xup σ 0 0 2 0) 0 0 3 (-6) 0 0 1 = ((ykey 6 t 0 0 : Nat) : Int) := by rw [xup_o (by omega), xup_o (by omega)]; exact hk
  generalize xup (xup σ 0 0 2 0) 0 0 3 (-6) = s1 at f1 c1 k1 ⊢
  have hs1 := yst_f (xfc_s f1 (by decide)) hs
  refine xW_bind (q_about hs1 hv (yca_f f1 (by decide) (by decide) hc) ht hn1) ?_
  rintro s2 ⟨f2, b1, b2, b3, _⟩
  have hs2 := yst_f (xfc_s f2 (by decide)) hs1
  have c2 : s2 0 0 2 = ((0 : Nat) : Int) := by rw [f2.1 0 (by decide) (by decide)]; exact c1
  have k2 : s2 0 0 1 = ((ykey 6 t 0 0 : Nat) : Int) := by rw [f2.1 0 (by decide) (by decide)]; exact k1
  have hf2 : yfl s2 := yfl_f f2 (by decide) (by decide) (yfl_f f1 (by decide) (by decide) hf)
  obtain ⟨U, d1, d2, d3⟩ := q_doorsSet hs2 hv
  refine xW_be d2 ?_
  have hpost : ∀ s, xfs [0, 12, 21, 22, 23] [9, 10] s2 s → yhc s (yPl f t) → yfl s → s 0 0 1 = ((ykey 6 t 0 0 : Nat) : Int) → yspec 6 t 0 0 f s → ypo f 6 t 0 0 s := by
    intro s fs h1 h2 h3 h4
    exact ⟨yst_f (xfc_s fs (by decide)) hs2, Or.inr (Or.inr ⟨t, ht, by rw [fs.2 0 8 (by decide)]; exact b3, hn1, ysc_f fs (by decide) (by decide) b1, h1⟩), h2, h3, h4⟩
  have hend : ∀ g, ygk s2 f t g → xW ((fm_Answer_add (((ycm f t 16).1 : Nat) : Int) g).bind fun s21 => if (((ycm f t 16).1 : Nat) : Int) ≤ 0 then some s21 else (fm_Answer_add (((ycm f t 16).2 : Nat) : Int) s21).bind fun s23 => some s23) (ypo f 6 t 0 0) := by
    intro g hg
    have k0 : g 0 0 2 = ((0 : Nat) : Int) := by rw [hg.1.1 0 (by decide) (by decide)]; exact c2
    have kk : g 0 0 1 = ((ykey 6 t 0 0 : Nat) : Int) := by rw [hg.1.1 0 (by decide) (by decide)]; exact k2
    refine xW_be (q_add k0 (by decide)) ?_
    have hfr : xfs [0, 12] [] g (xup (xup g 12 0 0 (((ycm f t 16).1 : Nat) : Int)) 0 0 2 ((0 + 1 : Nat) : Int)) := xfs_t (xfs_up (by decide) (by decide)) (xfs_up (by decide) (by decide))
    by_cases hz : (ycm f t 16).1 = 0
    · refine xW_t (by omega) (xW_some (hpost _ (xfs_t (xfs_m hg.1 (by decide) (by decide)) (xfs_m hfr (by decide) (by decide))) (yhc_f hfr (by decide) hg.2.1) (yfl_f hfr (by decide) (by decide) hg.2.2) ?_ ⟨?_, Or.inr ⟨hz, xup_at⟩⟩))
      · rw [xup_o (by omega), xup_o (by omega)]; exact kk
      · rw [xup_o (by omega), xup_at]
    · refine xW_f (by omega) (xW_be (q_add xup_at (by decide)) (xW_some ?_))
      have hfr2 : xfs [0, 12] [] g (xup (xup (xup (xup g 12 0 0 (((ycm f t 16).1 : Nat) : Int)) 0 0 2 ((0 + 1 : Nat) : Int)) 12 0 (0 + 1) (((ycm f t 16).2 : Nat) : Int)) 0 0 2 ((0 + 1 + 1 : Nat) : Int)) := xfs_t hfr (xfs_t (xfs_up (by decide) (by decide)) (xfs_up (by decide) (by decide)))
      refine hpost _ (xfs_t (xfs_m hg.1 (by decide) (by decide)) (xfs_m hfr2 (by decide) (by decide))) (yhc_f hfr2 (by decide) hg.2.1) (yfl_f hfr2 (by decide) (by decide) hg.2.2) ?_ ⟨?_, Or.inl ⟨by omega, xup_at, ?_⟩⟩
      · rw [xup_o (by omega), xup_o (by omega), xup_o (by omega), xup_o (by omega)]; exact kk
      · rw [xup_o (by omega), xup_o (by omega), xup_o (by omega), xup_at]
      · rw [xup_o (by omega), xup_at]
  exact l_came38 hs2 hv ht hl b1 d1 d3 hend 16 0 xFU 0 s2 (by omega) (xfu_b (by omega)) ⟨xfs_r _ _ _, b2, hf2⟩ (by decide) (fun j => ⟨fun h => by rw [Nat.zero_testBit] at h; exact absurd h (by decide), fun h => by omega⟩)
noncomputable def acame (f : xa_H) (t w : Int) : Int := if 0 ≤ t ∧ t ≤ 3 then (if 0 ≤ w ∧ w ≤ 1 then (if f 2 t.toNat 1 < 0 then -3 else if w = 0 then (((ycm f t.toNat 16).1 : Nat) : Int) else if (ycm f t.toNat 16).1 = 0 then -6 else (((ycm f t.toNat 16).2 : Nat) : Int)) else -2) else -1
theorem yspec_6 {s : xa_H} (h : yspec 6 t 0 0 f s) {w : Int} (hw : 0 ≤ w ∧ w ≤ 1) : (if 0 ≤ w ∧ w < s 0 0 2 then (if 0 ≤ w ∧ w < 3456 then s 12 0 w.toNat else 0) else -6) = if w = 0 then (((ycm f t 16).1 : Nat) : Int) else if (ycm f t 16).1 = 0 then -6 else (((ycm f t 16).2 : Nat) : Int) := by
  obtain ⟨h0, h⟩ := h
  have : w = 0 ∨ w = 1 := by omega
  rcases h with ⟨h1, h2, h3⟩ | ⟨h1, h2⟩
  · rw [if_pos (by omega), if_pos (by omega)]
    rcases this with e | e
    · subst e; exact h0
    · subst e
      rw [if_neg (by decide), if_neg (by omega)]
      exact h3
  · rcases this with e | e
    · subst e
      rw [if_pos (by omega), if_pos (by omega)]
      exact h0
    · subst e
      rw [if_neg (by omega), if_neg (by decide), if_pos h1]
theorem K_came (hs : yc σ f) (hv : yv f) (t w : Int) : xW (fm_S_came t w σ) fun r => r.1 = acame f t w ∧ yc r.2 f := by
  unfold fm_S_came acame
  rw [q_upTo]
  by_cases h : 0 ≤ t ∧ t ≤ 3
  · rw [if_pos h]
    refine xW_f (by omega) (xW_f (by omega) (xW_t (by omega) (xW_be rfl ?_)))
    by_cases hw : 0 ≤ w ∧ w ≤ 1
    · rw [if_pos hw, if_pos hw]
      obtain ⟨u, hu⟩ : ∃ u : Nat, t = (u : Int) := ⟨t.toNat, by omega⟩
      subst hu
      have tn : ((u : Int)).toNat = u := rfl
      have e4 : 4 * 0 + u = u := by omega
      have h51 : σ 5 u 1 = f 2 u 1 := by
        have := (hs.1.2.1.2.2.1 u (by omega)).1.2.1
        rw [e4] at this
        exact this
      rw [tn, e4, h51]
      refine xW_f (by decide) ?_
      by_cases hl : f 2 u 1 < 0
      · rw [if_pos hl]
        exact xW_f (by omega) (xW_f (by decide) (xW_some ⟨rfl, hs⟩))
      · rw [if_neg hl]
        refine xW_t (by omega) (xW_t rfl (xW_mono (l_ans (a := 6) (A := 0) (D := 0) hs (by decide) (by decide) (t := u) (by omega) (by decide) (by decide) (F := fun s => fm_S_findCame u s) (fun s h1 h2 h3 h4 => q_findCame h1 hv h2 h3 (by omega) hl h4) w) ?_))
        rintro r ⟨r1, r2, r3⟩
        exact ⟨by rw [r2]; exact yspec_6 r1 hw, r3⟩
    · rw [if_neg hw, if_neg hw]
      exact xW_t rfl (xW_f (by decide) (xW_some ⟨rfl, hs⟩))
  · rw [if_neg h]
    by_cases d : t < 0
    · exact xW_t d (xW_be rfl (xW_some ⟨rfl, hs⟩))
    · exact xW_f d (xW_t (by omega) (xW_be rfl (xW_some ⟨rfl, hs⟩)))
theorem M_came (hs : ym σ f) (hv : yv f) (t w : Int) : xW (fm_M_came t w σ) fun r => r.1 = acame f t w ∧ ym r.2 f := by
  unfold fm_M_came acame
  refine xW_be (q_isThing t) ?_
  by_cases h : 0 ≤ t ∧ t ≤ 3
  · rw [if_pos h, if_pos h]
    refine xW_f (by decide) (xW_be (q_in w 0 1) ?_)
    by_cases hw : 0 ≤ w ∧ w ≤ 1
    · rw [if_pos hw, if_pos hw]
      obtain ⟨u, hu⟩ : ∃ u : Nat, t = (u : Int) := ⟨t.toNat, by omega⟩
      subst hu
      have tn : ((u : Int)).toNat = u := rfl
      have h62 := (hs.2.1.2.2.1 u (by omega)).2.1
      rw [tn, h62]
      refine xW_f (by decide) (xW_t ⟨by omega, by omega⟩ ?_)
      by_cases hl : f 2 u 1 < 0
      · rw [if_pos hl]
        exact xW_f (by omega) (xW_some ⟨rfl, hs⟩)
      · rw [if_neg hl]
        have hu4 : u < 4 := by omega
        refine xW_t (by omega) ?_
        have key : ∀ (d x fu : Nat) (g : xa_H), x + d = 16 → d < fu → ym g f → xW (fm_M_came_43 (u : Int) w (fun v9 v10 s11 => if w = 0 then some (v9, s11) else if v9 = 0 then some ((-6), s11) else some (v10, s11)) fu (((ycm f u x).1 : Nat) : Int) (((ycm f u x).2 : Nat) : Int) (x : Int) g)
            fun r => r.1 = (if w = 0 then (((ycm f u 16).1 : Nat) : Int) else if (ycm f u 16).1 = 0 then -6 else (((ycm f u 16).2 : Nat) : Int)) ∧ ym r.2 f := by
          intro d
          induction d with
          | zero =>
            intro x fu g hx hd hg
            obtain ⟨m, rfl⟩ : ∃ m, fu = m + 1 := ⟨fu - 1, by omega⟩
            have e : x = 16 := by omega
            subst e
            rw [fm_M_came_43]
            refine xW_t (by omega) ?_
            by_cases h0 : w = 0
            · have eA : (if w = 0 then (((ycm f u 16).1 : Nat) : Int) else if (ycm f u 16).1 = 0 then -6 else (((ycm f u 16).2 : Nat) : Int)) = (((ycm f u 16).1 : Nat) : Int) := if_pos h0
              rw [eA]; exact xW_t h0 (xW_some ⟨rfl, hg⟩)
            · have eA : (if w = 0 then (((ycm f u 16).1 : Nat) : Int) else if (ycm f u 16).1 = 0 then -6 else (((ycm f u 16).2 : Nat) : Int)) = if (ycm f u 16).1 = 0 then -6 else (((ycm f u 16).2 : Nat) : Int) := if_neg h0
              rw [eA]
              refine xW_f h0 ?_
              by_cases h1 : (ycm f u 16).1 = 0
              · have eB : (if (ycm f u 16).1 = 0 then -6 else (((ycm f u 16).2 : Nat) : Int)) = -6 := if_pos h1
                rw [eB]; exact xW_t (by omega) (xW_some ⟨rfl, hg⟩)
              · have eB : (if (ycm f u 16).1 = 0 then -6 else (((ycm f u 16).2 : Nat) : Int)) = (((ycm f u 16).2 : Nat) : Int) := if_neg h1
                rw [eB]; exact xW_f (by omega) (xW_some ⟨rfl, hg⟩)
          | succ d ih =>
            intro x fu g hx hd hg
            obtain ⟨m, rfl⟩ : ∃ m, fu = m + 1 := ⟨fu - 1, by omega⟩
            obtain ⟨r1, r2⟩ := ycm_r (f := f) (t := u) (n := x) (by omega)
            rw [fm_M_came_43]
            refine xW_f (by omega) (xW_b2 (q_doesGo hg hv hu4 (A := 0) (D := x) (by decide) (by omega) hl) ?_)
            rintro v s ⟨a1, a2⟩
            have a2 : ym s f := a2
            have hI := ih (x + 1) m s (by omega) (by omega) a2
            rcases a1 with ⟨a1, a3⟩ | ⟨a1, a3⟩
            · have a1 : v = 1 := a1
              rw [ycm_y a3] at hI
              have e3 : xand (((ycm f u x).2 : Nat) : Int) (x : Int) = (((ycm f u x).2 &&& x : Nat) : Int) := xand_n (by omega) (by omega)
              rw [e3]
              refine xW_f (by omega) (xW_nm (xW_nm (xW_nm ?_)))
              rw [w32_s (by omega), w32_s (by omega)]
              exact hI
            · have a1 : v = 0 := a1
              rw [ycm_n a3] at hI
              refine xW_t a1 (xW_nm ?_)
              rw [w32_s (by omega)]
              exact hI
        exact key 16 0 xFU σ (by omega) (xfu_b (by omega)) hs
    · rw [if_neg hw, if_neg hw]
      exact xW_t rfl (xW_some ⟨rfl, hs⟩)
  · rw [if_neg h, if_neg h]
    exact xW_t rfl (xW_some ⟨rfl, hs⟩)
end MLS
