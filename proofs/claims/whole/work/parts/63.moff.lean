/-! the reference: costs, the queue, how far each stand is -/
noncomputable def yco (P : xa_H) : Nat → Nat
  | 0 => 0
  | k + 1 => yco P k + @ite Nat (yon P k) (Classical.propDecidable _) 1 0
noncomputable def ycn (P : xa_H) : Nat := yco P (P 2 0 0).toNat
theorem yco_le {P : xa_H} : ∀ {n : Nat}, yco P n ≤ n := by
  intro n
  induction n with
  | zero => exact Nat.le_refl _
  | succ n ih =>
    unfold yco
    by_cases h : yon P n
    · rw [if_pos h]; omega
    · rw [if_neg h]; omega
theorem q_cubesOn {σ P : xa_H} {t : Nat} (hv : yPv P) (hc : ymc σ P t) (hw : ymw σ P) : fm_M_cubesOn (t : Int) σ = some ((ycn P : Nat) : Int) := by
  have hn := hv.2.2.1
  have ht5 := hc.1
  have tn : ∀ j : Nat, ((j : Int)).toNat = j := fun j => rfl
  have key : ∀ (d j n : Nat), j + d = (P 2 0 0).toNat → d < n → fm_M_cubesOn_4 (t : Int) σ (fun v => some v) n ((yco P j : Nat) : Int) (j : Int) = some ((ycn P : Nat) : Int) := by
    intro d
    induction d with
    | zero =>
      intro j n hj hd
      obtain ⟨m, rfl⟩ : ∃ m, n = m + 1 := ⟨n - 1, by omega⟩
      have : j = (P 2 0 0).toNat := by omega
      subst this
      rw [fm_M_cubesOn_4, tn, if_pos ⟨by omega, by omega⟩, hc.2.1, if_pos (by omega)]
      rfl
    | succ d ih =>
      intro j n hj hd
      obtain ⟨m, rfl⟩ : ∃ m, n = m + 1 := ⟨n - 1, by omega⟩
      have hjn : j < (P 2 0 0).toNat := by omega
      have hle := yco_le (P := P) (n := j)
      rw [fm_M_cubesOn_4, tn, if_pos ⟨by omega, by omega⟩, hc.2.1, if_neg (by omega)]
      obtain ⟨o1, o2⟩ := q_isOn hv hc hw hjn
      have hnext := ih (j + 1) m (by omega) (by omega)
      by_cases hon : yon P j
      · have e : yco P (j + 1) = yco P j + 1 := by
          show yco P j + @ite Nat (yon P j) (Classical.propDecidable _) 1 0 = _
          rw [if_pos hon]
        rw [o1 hon, Option.bind_some, if_neg (by decide), xnm_e, xnm_e, w32_s (by omega), w32_s (by omega), ← e]
        exact hnext
      · have e : yco P (j + 1) = yco P j := by
          show yco P j + @ite Nat (yon P j) (Classical.propDecidable _) 1 0 = _
          rw [if_neg hon]; rfl
        rw [o2 hon, Option.bind_some, if_pos rfl, xnm_e, xnm_e, w32_k (x := ((yco P j : Nat) : Int) + 0) (k := yco P j) (by omega) (by omega), w32_s (by omega)]
        rw [e] at hnext
        exact hnext
  unfold fm_M_cubesOn
  exact key (P 2 0 0).toNat 0 xFU (by omega) (xfu_b (by omega))
def ycs (mc : Nat → Nat) (n m : Nat) : Nat := if m < 4 then mc 0 else if m = 4 then mc 1 * n else if m = 5 then mc 2 else mc 3
/-- what a move weighs -/
def ymk (σ : xa_H) (n : Nat) (w : Nat → Nat) : Prop := (σ 9 0 37 = 0 ∧ ∀ m, w m = 1) ∨ (¬ σ 9 0 37 = 0 ∧ ∃ mc : Nat → Nat, (∀ i, i < 4 → σ 61 0 i = (mc i : Int) ∧ mc i ≤ 9) ∧ n ≤ 10 ∧ ∀ m, w m = ywt 10000 (ycs mc n) m)
theorem ymk_f {L M : List Nat} {σ σ' : xa_H} {n : Nat} {w : Nat → Nat} (h : xfm L M σ σ') (hL : 61 ∉ L) (hM : 37 ∉ M) (hk : ymk σ n w) : ymk σ' n w := by
  unfold ymk
  rw [h.1 61 hL (by decide), h.2 0 37 hM]
  exact hk
theorem ycs_r {mc : Nat → Nat} {n m : Nat} (h : ∀ i, i < 4 → mc i ≤ 9) (hn : n ≤ 10) : ycs mc n m ≤ 90 := by
  have h0 := h 0 (by decide)
  have h1 := h 1 (by decide)
  have h2 := h 2 (by decide)
  have h3 := h 3 (by decide)
  have h4 : mc 1 * n ≤ 9 * 10 := Nat.mul_le_mul h1 hn
  unfold ycs
  split
  · omega
  · split
    · omega
    · split <;> omega
theorem ymk_r {σ : xa_H} {n : Nat} {w : Nat → Nat} (hk : ymk σ n w) (m : Nat) : 1 ≤ w m ∧ w m ≤ 900001 := by
  rcases hk with ⟨_, h⟩ | ⟨_, mc, h1, h2, h3⟩
  · rw [h m]; omega
  · rw [h3 m]
    have := ycs_r (m := m) (fun i hi => (h1 i hi).2) h2
    unfold ywt
    omega
theorem q_costOf {σ : xa_H} {n : Nat} {w : Nat → Nat} (hk : ymk σ n w) (hl : σ 9 0 36 = (n : Int)) {m : Nat} (hm : m < 12) : fm_M_costOf (m : Int) σ = some (w m : Int) := by
  have hr := ymk_r hk m
  unfold fm_M_costOf
  rcases hk with ⟨h0, h⟩ | ⟨h0, mc, h1, h2, h3⟩
  · rw [if_pos h0, h m]; rfl
  · rw [if_neg h0, xnm_e, h3 m]
    have c0 := h1 0 (by decide)
    have c1 := h1 1 (by decide)
    have c2 := h1 2 (by decide)
    have c3 := h1 3 (by decide)
    have t0 : ((0 : Int)).toNat = 0 := rfl
    have t1 : ((1 : Int)).toNat = 1 := rfl
    have t2 : ((2 : Int)).toNat = 2 := rfl
    have t3 : ((3 : Int)).toNat = 3 := rfl
    rw [t0, t1, t2, t3, c0.1, c1.1, c2.1, c3.1, hl]
    have h4 : mc 1 * n ≤ 9 * 10 := Nat.mul_le_mul c1.2 h2
    have e1 : w32 ((mc 1 : Int) * (n : Int)) = ((mc 1 * n : Nat) : Int) := w32_k (by push_cast; rfl) (by omega)
    have e : (if 4 ≤ (m : Int) then (if (m : Int) = 4 then (w32 ((mc 1 : Int) * (n : Int))) else (if (m : Int) = 5 then (mc 2 : Int) else (mc 3 : Int))) else (mc 0 : Int)) = ((ycs mc n m : Nat) : Int) := by
      unfold ycs
      by_cases h4 : m < 4
      · rw [if_neg (by omega), if_pos h4]
      · rw [if_pos (by omega), if_neg h4]
        by_cases h5 : m = 4
        · rw [if_pos (by omega), if_pos h5, e1]
        · rw [if_neg (by omega), if_neg h5]
          by_cases h6 : m = 5
          · rw [if_pos (by omega), if_pos h6]
          · rw [if_neg (by omega), if_neg h6]
    have hr2 := ycs_r (m := m) (fun i hi => (h1 i hi).2) h2
    rw [e, w64_n (x := 10000 * ((ycs mc n m : Nat) : Int)) (by omega) (by omega), w64_n (by omega) (by omega)]
    unfold ywt
    congr 1
/-- a sum over all stands -/
def ysu (O : Nat → Int) : Nat → Nat
  | 0 => 0
  | n + 1 => ysu O n + (O n).toNat
theorem ysu_le {O : Nat → Int} {b : Nat} : ∀ {n : Nat}, (∀ i, i < n → O i ≤ (b : Int)) → ysu O n ≤ n * b := by
  intro n
  induction n with
  | zero => intro _; exact Nat.zero_le _
  | succ n ih =>
    intro h
    have h1 := ih (fun i hi => h i (by omega))
    have h2 := h n (by omega)
    unfold ysu
    rw [Nat.succ_mul]
    omega
theorem ysu_same {O O' : Nat → Int} : ∀ {n : Nat}, (∀ i, i < n → O i = O' i) → ysu O n = ysu O' n := by
  intro n
  induction n with
  | zero => intro _; rfl
  | succ n ih =>
    intro h
    unfold ysu
    rw [ih (fun i hi => h i (by omega)), h n (by omega)]
theorem ysu_up {O O' : Nat → Int} {v : Nat} : ∀ {n : Nat}, v < n → (∀ i, i < n → ¬ i = v → O' i = O i) → 0 ≤ O' v → O' v < O v → ysu O' n + 1 ≤ ysu O n := by
  intro n
  induction n with
  | zero => intro h; omega
  | succ n ih =>
    intro hv h h0 hlt
    unfold ysu
    by_cases hn : v = n
    · subst hn
      have := ysu_same (O := O') (O' := O) (n := v) (fun i hi => h i (by omega) (by omega))
      omega
    · have h1 := ih (by omega) (fun i hi hne => h i (by omega) hne) h0 hlt
      have h2 := h n (by omega) (fun e => hn e.symm)
      omega
section BE
variable {P : xa_H} {gl : Nat → Prop} {w : Nat → Nat}
/-- the queue on the cells -/
def yqu (σ : xa_H) (f many : Nat) (q : Nat → Nat) : Prop := f < 3456 ∧ many ≤ 3456 ∧ (∀ i, i < many → q i < 3456 ∧ σ 72 0 ((f + i) % 3456) = (q i : Int)) ∧ (∀ i j, i < many → j < many → q i = q j → i = j) ∧
  ∀ r, r < 3456 → (σ 73 0 r = 1 ∧ ∃ i, i < many ∧ q i = r) ∨ (σ 73 0 r = 0 ∧ ∀ i, i < many → ¬ q i = r)
/-- what the distances say -/
def ybe (P : xa_H) (gl : Nat → Prop) (w : Nat → Nat) (O : Nat → Int) (W : Nat → Prop) (u m : Nat) : Prop :=
  (∀ r, r < 3456 → O r = 1000000000000000 ∨ (0 ≤ O r ∧ O r < 1000000000000000 ∧ yG P (yrc r) ∧ ∃ L e, ygo (yG P) (ynx P) (yrc r) L e ∧ gl e ∧ (ysum w L : Int) = O r)) ∧
  (∀ r, r < 3456 → gl (yrc r) → yG P (yrc r) → O r = 0) ∧
  (∀ s, s < 3456 → O s < 1000000000000000 → ¬ W s → ∀ a v, a < 12 → ynx P v a = some (yrc s) → yG P v → (s = u → a < m) → O (ycr v) ≤ O s + (w a : Int)) ∧
  (∀ r, r < 3456 → W r → O r < 1000000000000000)
theorem ybe_all {O : Nat → Int} {W : Nat → Prop} (h : ybe P gl w O W 3456 0) (hW : ∀ r, r < 3456 → ¬ W r) : ∀ {L : List Nat} {c e : Nat}, ygo (yG P) (ynx P) c L e → gl e → (ysum w L : Int) < 1000000000000000 → O (ycr c) ≤ (ysum w L : Int) := by
  obtain ⟨h1, h2, h3, h4⟩ := h
  intro L
  induction L with
  | nil =>
    rintro c e ⟨g1, g2⟩ hg _
    subst g2
    have hc := ycr_r g1.1
    have := h2 (ycr c) hc.1 (by rw [hc.2]; exact hg) (by rw [hc.2]; exact g1)
    rw [this]
    exact Int.le_refl _
  | cons m r ih =>
    rintro c e ⟨g1, g2, c', g3, g4⟩ hg hlt
    have hsum : (ysum w (m :: r) : Int) = (w m : Int) + (ysum w r : Int) := by
      show ((w m + ysum w r : Nat) : Int) = _
      omega
    have hc' := ycr_r (ygo_G g4).1
    have i1 := ih g4 hg (by omega)
    have i2 := h3 (ycr c') hc'.1 (by omega) (hW _ hc'.1) m c g2 (by rw [hc'.2]; exact g3) g1 (fun e => by omega)
    omega
theorem xup_f {σ : xa_H} {K i s : Nat} {v : Int} : xup σ K i s v K i = fun j => if j = s then v else σ K i j := xup_eq
theorem ymod1 {f n : Nat} (h : f < 3456) (h2 : n < 3456) : xrem (w32 ((f : Int) + (n : Int))) 3456 = (((f + n) % 3456 : Nat) : Int) := by
  have e : w32 ((f : Int) + (n : Int)) = ((f + n : Nat) : Int) := w32_k (by omega) (by omega)
  rw [e, xrem_p (by omega)]
  omega
theorem l_off144 {σ0 : xa_H} (ht : ymt σ0) (hv : yPv P) (hsz : σ0 9 0 3 = P 0 0 0 ∧ σ0 9 0 4 = P 0 0 1 ∧ σ0 9 0 5 = P 0 0 2) (hf : ymf σ0 P) {n : Nat} (hk : ymk σ0 n w) (hl : σ0 9 0 36 = (n : Int))
    {u f : Nat} (hu : u < 3456) {B : Nat} {K : Int → xa_H → Option xa_H} {Q : xa_H → Prop}
    (hK : ∀ many q s, xfm [71, 72, 73] [26, 27, 28, 29] σ0 s → yqu s f many q → ybe P gl w (s 71 0) (fun r => ∃ i, i < many ∧ q i = r) u 12 → 2 * ysu (s 71 0) 3456 + many ≤ B → xW (K (many : Int) s) Q)
    {many0 : Nat} {q0 : Nat → Nat} {g0 : xa_H} (F0 : xfm [71, 72, 73] [26, 27, 28, 29] σ0 g0) (Q0 : yqu g0 f many0 q0) (B0 : ybe P gl w (g0 71 0) (fun r => ∃ i, i < many0 ∧ q0 i = r) u 0)
    (hu0 : ∀ i, i < many0 → ¬ q0 i = u) (hul : g0 71 0 u < 1000000000000000) (hB : 2 * ysu (g0 71 0) 3456 + many0 ≤ B) :
    xW (fm_M_findOff_144 (f : Int) (u : Int) K xFU (many0 : Int) 0 g0) Q := by
  refine xfor0 (fun fu (j : Int) (g : Int × xa_H) => fm_M_findOff_144 (f : Int) (u : Int) K fu g.1 j g.2) 12
    (fun m g => ∃ many q, g.1 = ((many : Nat) : Int) ∧ xfm [71, 72, 73] [26, 27, 28, 29] σ0 g.2 ∧ yqu g.2 f many q ∧ ybe P gl w (g.2 71 0) (fun r => ∃ i, i < many ∧ q i = r) u m ∧ (∀ i, i < many → ¬ q i = u) ∧ g.2 71 0 u < 1000000000000000 ∧ 2 * ysu (g.2 71 0) 3456 + many ≤ B)
    _ (xfu_b (by omega)) ?_ ?_ ((many0 : Int), g0) ⟨many0, q0, rfl, F0, Q0, B0, hu0, hul, hB⟩
  · rintro fu m ⟨x, g⟩ hm ⟨many, q, i1, i2, i3, i4, i5, i6, i7⟩ ih
    show xW (fm_M_findOff_144 (f : Int) (u : Int) K (fu + 1) x (m : Int) g) Q
    have i1 : x = (many : Int) := i1
    subst i1
    have i2 : xfm [71, 72, 73] [26, 27, 28, 29] σ0 g := i2
    have i3 : yqu g f many q := i3
    have i4 : ybe P gl w (g 71 0) (fun r => ∃ i, i < many ∧ q i = r) u m := i4
    have i6 : g 71 0 u < 1000000000000000 := i6
    have i7 : 2 * ysu (g 71 0) 3456 + many ≤ B := i7
    have tn : ∀ j : Nat, ((j : Int)).toNat = j := fun j => rfl
    have hGu : 0 ≤ g 71 0 u ∧ yG P (yrc u) ∧ ∃ L e, ygo (yG P) (ynx P) (yrc u) L e ∧ gl e ∧ (ysum w L : Int) = g 71 0 u := by
      rcases i4.1 u hu with h | ⟨h1, h2, h3, h4⟩
      · omega
      · exact ⟨h1, h3, h4⟩
    have hcu := yG_cell hGu.2.1
    rw [fm_M_findOff_144]
    refine xW_f (by omega) (xW_be (q_undo hm) ?_)
    have hmf : ymf g P := by
      unfold ymf
      rw [i2.1 70 (by decide) (by decide)]
      exact hf
    refine xW_b2 (q_next (ymt_f i2 (by decide) ht) hv (by rw [i2.2 0 3 (by decide), i2.2 0 4 (by decide), i2.2 0 5 (by decide)]; exact hsz) hmf hu (yud_r hm)) ?_
    rintro v s4 ⟨f1, f2⟩
    have f1 : xfm [] [26, 27, 28, 29] g s4 := f1
    have f2 : v = yng P (yrc u) (yud m) := f2
    have i2' : xfm [71, 72, 73] [26, 27, 28, 29] σ0 s4 := xfm_t i2 (xfm_m f1 (by decide) (by decide))
    have e71 : s4 71 = g 71 := f1.1 71 (by decide) (by decide)
    have e72 : s4 72 = g 72 := f1.1 72 (by decide) (by decide)
    have e73 : s4 73 = g 73 := f1.1 73 (by decide) (by decide)
    have hq4 : yqu s4 f many q := by unfold yqu; rw [e72, e73]; exact i3
    have hskip : (∀ v', yG P v' → ynx P v' m = some (yrc u) → g 71 0 (ycr v') ≤ g 71 0 u + (w m : Int)) → ybe P gl w (s4 71 0) (fun r => ∃ i, i < many ∧ q i = r) u (m + 1) := by
      intro hs
      rw [e71]
      refine ⟨i4.1, i4.2.1, ?_, i4.2.2.2⟩
      intro s hs3 hlt hnW a v' ha hx hG hd
      by_cases hsu : s = u ∧ a = m
      · obtain ⟨e1, e2⟩ := hsu
        subst e1; subst e2
        exact hs v' hG hx
      · exact i4.2.2.1 s hs3 hlt hnW a v' ha hx hG (fun e => by have := hd e; have : ¬ a = m := fun e2 => hsu ⟨e, e2⟩; omega)
    have hback : ∀ v', yG P v' → ynx P v' m = some (yrc u) → ynx P (yrc u) (yud m) = some v' := fun v' hG hx => (ynx_u hv.1 (yG_cell hG) hm hx).2
    by_cases hex : ∃ c, ynx P (yrc u) (yud m) = some c ∧ yG P c
    · obtain ⟨c, hc1, hc2⟩ := hex
      have hv' : v = (ycr c : Int) := by
        rw [f2]
        unfold yng
        rw [hc1]
        exact if_pos hc2
      subst hv'
      obtain ⟨hcr1, hcr2⟩ := ycr_r hc2.1
      have hu1 : 0 ≤ (u : Int) ∧ (u : Int) < 3456 := ⟨by omega, by omega⟩
      have hc3 : 0 ≤ ((ycr c : Nat) : Int) ∧ ((ycr c : Nat) : Int) < 3456 := ⟨by omega, by omega⟩
      have hk4 := ymk_f i2' (by decide) (by decide) hk
      have hl4 : s4 9 0 36 = (n : Int) := by rw [i2'.2 0 36 (by decide)]; exact hl
      have hwr := ymk_r hk m
      refine xW_f (by omega) (xW_t hu1 (xW_be (q_costOf hk4 hl4 hm) (xW_t hc3 ?_)))
      rw [tn, tn, e71, w64_n (x := g 71 0 u + (w m : Int)) (by omega) (by omega)]
      refine xW_if (fun hge => ?_) (fun hlt => ?_)
      · have hge : g 71 0 (ycr c) ≤ g 71 0 u + (w m : Int) := by
          by_cases h : g 71 0 u + (w m : Int) < g 71 0 (ycr c)
          · have := xcmp_lt.mpr h
            omega
          · omega
        refine xW_nm ?_
        rw [w32_s (by omega)]
        refine ih ((many : Int), s4) ⟨many, q, rfl, i2', hq4, hskip (fun v' hG hx => ?_), i5, by show s4 71 0 u < _; rw [e71]; exact i6, by show 2 * ysu (s4 71 0) 3456 + many ≤ B; rw [e71]; exact i7⟩
        have := Option.some.inj ((hback v' hG hx).symm.trans hc1)
        rw [this]; exact hge
      · have hlt : g 71 0 u + (w m : Int) < g 71 0 (ycr c) := by
          by_cases h : g 71 0 u + (w m : Int) < g 71 0 (ycr c)
          · exact h
          · exfalso
            apply hlt
            have : ¬ xcmp (g 71 0 u + (w m : Int)) (g 71 0 (ycr c)) < 0 := fun h2 => h (xcmp_lt.mp h2)
            omega
        refine xW_t hu1 (xW_be (q_costOf hk4 hl4 hm) (xW_t hc3 (xW_nm ?_)))
        have hvF : g 71 0 (ycr c) ≤ 1000000000000000 := by
          rcases i4.1 (ycr c) hcr1 with h | ⟨_, h, _⟩
          · omega
          · omega
        rw [w64_n (x := g 71 0 u + (w m : Int)) (by omega) (by omega)]
        have hcu' : ¬ ycr c = u := fun e => by rw [e] at hlt; omega
        have h73 : xup s4 71 0 (ycr c) (g 71 0 u + (w m : Int)) 73 0 (ycr c) = g 73 0 (ycr c) := by rw [xup_o (by omega), e73]
        rw [h73]
        have hO : xup s4 71 0 (ycr c) (g 71 0 u + (w m : Int)) 71 0 = fun j => if j = ycr c then g 71 0 u + (w m : Int) else g 71 0 j := by rw [xup_f, e71]
        have hx2 : xfm [71, 72, 73] [26, 27, 28, 29] σ0 (xup s4 71 0 (ycr c) (g 71 0 u + (w m : Int))) := xfm_t i2' (xfm_up (by decide) (by decide))
        have hys : ysu (fun j => if j = ycr c then g 71 0 u + (w m : Int) else g 71 0 j) 3456 + 1 ≤ ysu (g 71 0) 3456 := by
          refine ysu_up (v := ycr c) hcr1 (fun i _ hne => if_neg hne) ?_ ?_
          · show 0 ≤ (if ycr c = ycr c then g 71 0 u + (w m : Int) else g 71 0 (ycr c))
            rw [if_pos rfl]; omega
          · show (if ycr c = ycr c then g 71 0 u + (w m : Int) else g 71 0 (ycr c)) < _
            rw [if_pos rfl]; exact hlt
        have hnb : ∀ W' : Nat → Prop, (∀ r, (∃ i, i < many ∧ q i = r) → W' r) → (∀ r, W' r → (∃ i, i < many ∧ q i = r) ∨ r = ycr c) → W' (ycr c) →
            ybe P gl w (fun j => if j = ycr c then g 71 0 u + (w m : Int) else g 71 0 j) W' u (m + 1) := by
          intro W' w1 w2 w3
          refine ⟨?_, ?_, ?_, ?_⟩
          · intro r hr
            show (if r = ycr c then g 71 0 u + (w m : Int) else g 71 0 r) = _ ∨ (0 ≤ (if r = ycr c then g 71 0 u + (w m : Int) else g 71 0 r) ∧ (if r = ycr c then g 71 0 u + (w m : Int) else g 71 0 r) < _ ∧ _ ∧ ∃ L e, _ ∧ _ ∧ _ = (if r = ycr c then g 71 0 u + (w m : Int) else g 71 0 r))
            by_cases hrc : r = ycr c
            · rw [if_pos hrc]
              right
              obtain ⟨L, e, g1, g2, g3⟩ := hGu.2.2
              refine ⟨by omega, by omega, by rw [hrc, hcr2]; exact hc2, m :: L, e, ?_, g2, ?_⟩
              · rw [hrc, hcr2]
                exact ⟨hc2, hm, yrc u, ynx_b hv.1 hcu hm hc1, g1⟩
              · show ((w m + ysum w L : Nat) : Int) = _
                omega
            · rw [if_neg hrc]; exact i4.1 r hr
          · intro r hr hg hG
            show (if r = ycr c then g 71 0 u + (w m : Int) else g 71 0 r) = 0
            have h0 := i4.2.1 r hr hg hG
            by_cases hrc : r = ycr c
            · rw [hrc] at h0; omega
            · rw [if_neg hrc]; exact h0
          · intro s hs3 hslt hnW a v' ha hx hG hd
            show (if ycr v' = ycr c then g 71 0 u + (w m : Int) else g 71 0 (ycr v')) ≤ (if s = ycr c then g 71 0 u + (w m : Int) else g 71 0 s) + (w a : Int)
            have hsc : ¬ s = ycr c := fun e => hnW (e ▸ w3)
            have hslt : (if s = ycr c then g 71 0 u + (w m : Int) else g 71 0 s) < 1000000000000000 := hslt
            rw [if_neg hsc] at hslt ⊢
            by_cases hsu : s = u ∧ a = m
            · obtain ⟨e1, e2⟩ := hsu
              subst e1; subst e2
              have := Option.some.inj ((hback v' hG hx).symm.trans hc1)
              rw [if_pos (by rw [this])]
              exact Int.le_refl _
            · have h5 := i4.2.2.1 s hs3 hslt (fun hW => hnW (w1 s hW)) a v' ha hx hG (fun e => by have := hd e; have : ¬ a = m := fun e2 => hsu ⟨e, e2⟩; omega)
              by_cases hvc : ycr v' = ycr c
              · rw [if_pos hvc]
                rw [hvc] at h5
                omega
              · rw [if_neg hvc]; exact h5
          · intro r hr hW
            show (if r = ycr c then g 71 0 u + (w m : Int) else g 71 0 r) < _
            by_cases hrc : r = ycr c
            · rw [if_pos hrc]; omega
            · rw [if_neg hrc]
              rcases w2 r hW with h | h
              · exact i4.2.2.2 r hr h
              · exact absurd h hrc
        refine xW_t hc3 ?_
        obtain ⟨j1, j2, j3, j4, j5⟩ := i3
        rcases j5 (ycr c) hcr1 with ⟨h1, h2⟩ | ⟨h1, h2⟩
        · refine xW_f (by omega) (xW_nm ?_)
          rw [w32_s (by omega)]
          refine ih ((many : Int), _) ⟨many, q, rfl, hx2, ?_, ?_, i5, ?_, ?_⟩
          · refine ⟨j1, j2, fun i hi => ⟨(j3 i hi).1, ?_⟩, j4, fun r hr => ?_⟩
            · show xup s4 71 0 (ycr c) (g 71 0 u + (w m : Int)) 72 0 ((f + i) % 3456) = _
              rw [xup_o (by omega), e72]; exact (j3 i hi).2
            · show (xup s4 71 0 (ycr c) (g 71 0 u + (w m : Int)) 73 0 r = 1 ∧ _) ∨ (xup s4 71 0 (ycr c) (g 71 0 u + (w m : Int)) 73 0 r = 0 ∧ _)
              rw [xup_o (by omega), e73]; exact j5 r hr
          · show ybe P gl w (xup s4 71 0 (ycr c) (g 71 0 u + (w m : Int)) 71 0) _ u (m + 1)
            rw [hO]
            exact hnb _ (fun r h => h) (fun r h => Or.inl h) h2
          · show xup s4 71 0 (ycr c) (g 71 0 u + (w m : Int)) 71 0 u < _
            rw [xup_o (by omega), e71]; exact i6
          · show 2 * ysu (xup s4 71 0 (ycr c) (g 71 0 u + (w m : Int)) 71 0) 3456 + many ≤ B
            rw [hO]; omega
        · have hmany : many < 3456 := by
            have := pig 3456 (many + 1) (fun i => if i = many then ycr c else q i) ?_ ?_
            · omega
            · intro i hi
              show (if i = many then ycr c else q i) < 3456
              by_cases him : i = many
              · rw [if_pos him]; exact hcr1
              · rw [if_neg him]; exact (j3 i (by omega)).1
            · intro i j hi hj e
              have e : (if i = many then ycr c else q i) = (if j = many then ycr c else q j) := e
              by_cases him : i = many
              · by_cases hjm : j = many
                · omega
                · rw [if_pos him, if_neg hjm] at e
                  exact absurd e.symm (h2 j (by omega))
              · by_cases hjm : j = many
                · rw [if_neg him, if_pos hjm] at e
                  exact absurd e (h2 i (by omega))
                · rw [if_neg him, if_neg hjm] at e
                  exact j4 i j (by omega) (by omega) e
          refine xW_t h1 (xW_t hc3 (xW_nm ?_))
          rw [ymod1 j1 hmany, tn]
          have hmod : (f + many) % 3456 < 3456 := Nat.mod_lt _ (by decide)
          refine xW_t ⟨by omega, by omega⟩ (xW_nm (xW_nm (xW_nm ?_)))
          rw [w32_s (by omega), w32_s (by omega)]
          have e12 : (1 : Int) % 2 = 1 := rfl
          rw [e12]
          refine ih (((many + 1 : Nat) : Int), _) ⟨many + 1, fun i => if i = many then ycr c else q i, rfl, xfm_t hx2 (xfm_t (xfm_up (by decide) (by decide)) (xfm_up (by decide) (by decide))), ?_, ?_, ?_, ?_, ?_⟩
          · refine ⟨j1, by omega, fun i hi => ?_, ?_, fun r hr => ?_⟩
            · show (if i = many then ycr c else q i) < 3456 ∧ xup (xup (xup s4 71 0 (ycr c) (g 71 0 u + (w m : Int))) 73 0 (ycr c) 1) 72 0 ((f + many) % 3456) (ycr c : Int) 72 0 ((f + i) % 3456) = (((if i = many then ycr c else q i) : Nat) : Int)
              by_cases him : i = many
              · rw [if_pos him, him]
                exact ⟨hcr1, xup_at⟩
              · rw [if_neg him]
                refine ⟨(j3 i (by omega)).1, ?_⟩
                rw [xup_o (by omega), xup_o (by omega), xup_o (by omega), e72]
                exact (j3 i (by omega)).2
            · intro i j hi hj e
              have e : (if i = many then ycr c else q i) = (if j = many then ycr c else q j) := e
              by_cases him : i = many
              · by_cases hjm : j = many
                · omega
                · rw [if_pos him, if_neg hjm] at e
                  exact absurd e.symm (h2 j (by omega))
              · by_cases hjm : j = many
                · rw [if_neg him, if_pos hjm] at e
                  exact absurd e (h2 i (by omega))
                · rw [if_neg him, if_neg hjm] at e
                  exact j4 i j (by omega) (by omega) e
            · show (xup (xup (xup s4 71 0 (ycr c) (g 71 0 u + (w m : Int))) 73 0 (ycr c) 1) 72 0 ((f + many) % 3456) (ycr c : Int) 73 0 r = 1 ∧ ∃ i, i < many + 1 ∧ (if i = many then ycr c else q i) = r) ∨ (xup (xup (xup s4 71 0 (ycr c) (g 71 0 u + (w m : Int))) 73 0 (ycr c) 1) 72 0 ((f + many) % 3456) (ycr c : Int) 73 0 r = 0 ∧ ∀ i, i < many + 1 → ¬ (if i = many then ycr c else q i) = r)
              rw [xup_o (by omega)]
              by_cases hrc : r = ycr c
              · rw [hrc, xup_at]
                exact Or.inl ⟨rfl, many, by omega, if_pos rfl⟩
              · rw [xup_o (by omega), xup_o (by omega), e73]
                rcases j5 r hr with ⟨k1, i, k2, k3⟩ | ⟨k1, k2⟩
                · exact Or.inl ⟨k1, i, by omega, by rw [if_neg (by omega)]; exact k3⟩
                · refine Or.inr ⟨k1, fun i hi => ?_⟩
                  by_cases him : i = many
                  · rw [if_pos him]; exact fun e => hrc e.symm
                  · rw [if_neg him]; exact k2 i (by omega)
          · show ybe P gl w (xup (xup (xup s4 71 0 (ycr c) (g 71 0 u + (w m : Int))) 73 0 (ycr c) 1) 72 0 ((f + many) % 3456) (ycr c : Int) 71 0) _ u (m + 1)
            have : xup (xup (xup s4 71 0 (ycr c) (g 71 0 u + (w m : Int))) 73 0 (ycr c) 1) 72 0 ((f + many) % 3456) (ycr c : Int) 71 0 = fun j => if j = ycr c then g 71 0 u + (w m : Int) else g 71 0 j := by
              funext j
              rw [xup_o (by omega), xup_o (by omega), hO]
            rw [this]
            refine hnb _ ?_ ?_ ?_
            · rintro r ⟨i, hi, he⟩
              exact ⟨i, by omega, by show (if i = many then ycr c else q i) = r; rw [if_neg (by omega)]; exact he⟩
            · rintro r ⟨i, hi, he⟩
              have he : (if i = many then ycr c else q i) = r := he
              by_cases him : i = many
              · rw [if_pos him] at he; exact Or.inr he.symm
              · rw [if_neg him] at he; exact Or.inl ⟨i, by omega, he⟩
            · exact ⟨many, by omega, if_pos rfl⟩
          · intro i hi
            show ¬ (if i = many then ycr c else q i) = u
            by_cases him : i = many
            · rw [if_pos him]; exact hcu'
            · rw [if_neg him]; exact i5 i (by omega)
          · show xup (xup (xup s4 71 0 (ycr c) (g 71 0 u + (w m : Int))) 73 0 (ycr c) 1) 72 0 ((f + many) % 3456) (ycr c : Int) 71 0 u < _
            rw [xup_o (by omega), xup_o (by omega), xup_o (by omega), e71]; exact i6
          · show 2 * ysu (xup (xup (xup s4 71 0 (ycr c) (g 71 0 u + (w m : Int))) 73 0 (ycr c) 1) 72 0 ((f + many) % 3456) (ycr c : Int) 71 0) 3456 + (many + 1) ≤ B
            have : xup (xup (xup s4 71 0 (ycr c) (g 71 0 u + (w m : Int))) 73 0 (ycr c) 1) 72 0 ((f + many) % 3456) (ycr c : Int) 71 0 = fun j => if j = ycr c then g 71 0 u + (w m : Int) else g 71 0 j := by
              funext j
              rw [xup_o (by omega), xup_o (by omega), hO]
            rw [this]; omega
    · have hv' : v = -6 := by
        rw [f2]
        unfold yng
        cases hnx : ynx P (yrc u) (yud m) with
        | none => rfl
        | some c => exact if_neg (fun hG => hex ⟨c, hnx, hG⟩)
      subst hv'
      refine xW_t (by decide) (xW_nm ?_)
      rw [w32_s (by omega)]
      refine ih ((many : Int), s4) ⟨many, q, rfl, i2', hq4, hskip (fun v' hG hx => ?_), i5, by show s4 71 0 u < _; rw [e71]; exact i6, by show 2 * ysu (s4 71 0) 3456 + many ≤ B; rw [e71]; exact i7⟩
      exact absurd ⟨v', hback v' hG hx, hG⟩ hex
  · rintro fu ⟨x, g⟩ ⟨many, q, i1, i2, i3, i4, i5, i6, i7⟩
    show xW (fm_M_findOff_144 (f : Int) (u : Int) K (fu + 1) x ((12 : Nat) : Int) g) Q
    have i1 : x = (many : Int) := i1
    subst i1
    rw [fm_M_findOff_144]
    exact xW_t (by omega) (hK many q g i2 i3 i4 i7)
end BE
