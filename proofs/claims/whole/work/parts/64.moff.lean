/-! the reference: all distances; the first of the cheapest rows, move by move -/
section BF2
variable {P : xa_H} {gl : Nat → Prop} {w : Nat → Nat}
theorem l_off107 {σ0 : xa_H} (ht : ymt σ0) (hv : yPv P) (hsz : σ0 9 0 3 = P 0 0 0 ∧ σ0 9 0 4 = P 0 0 1 ∧ σ0 9 0 5 = P 0 0 2) (hf : ymf σ0 P) {n : Nat} (hk : ymk σ0 n w) (hl : σ0 9 0 36 = (n : Int))
    {K : xa_H → Option xa_H} {Q : xa_H → Prop}
    (hK : ∀ s, xfm [71, 72, 73] [26, 27, 28, 29] σ0 s → ybe P gl w (s 71 0) (fun _ => False) 3456 0 → xW (K s) Q)
    {many0 : Nat} {q0 : Nat → Nat} {g0 : xa_H} (F0 : xfm [71, 72, 73] [26, 27, 28, 29] σ0 g0) (Q0 : yqu g0 0 many0 q0) (B0 : ybe P gl w (g0 71 0) (fun r => ∃ i, i < many0 ∧ q0 i = r) 3456 0) :
    xW (fm_M_findOff_107 K xFU (many0 : Int) 0 g0) Q := by
  have hbd : ∀ g : xa_H, (∃ W u m, ybe P gl w (g 71 0) W u m) → ysu (g 71 0) 3456 ≤ 3456 * 1000000000000000 := by
    rintro g ⟨W, u, m, hb⟩
    refine ysu_le (b := 1000000000000000) (fun i hi => ?_)
    rcases hb.1 i hi with h | ⟨_, h, _⟩ <;> omega
  refine xwhile (fun fu (g : Int × Int × xa_H) => fm_M_findOff_107 K fu g.1 g.2.1 g.2.2)
    (fun g => ∃ many f q, g.1 = ((many : Nat) : Int) ∧ g.2.1 = ((f : Nat) : Int) ∧ xfm [71, 72, 73] [26, 27, 28, 29] σ0 g.2.2 ∧ yqu g.2.2 f many q ∧ ybe P gl w (g.2.2 71 0) (fun r => ∃ i, i < many ∧ q i = r) 3456 0)
    (fun g => 2 * ysu (g.2.2 71 0) 3456 + g.1.toNat) Q ?_ xFU ((many0 : Int), 0, g0) ?_ ⟨many0, 0, q0, rfl, rfl, F0, Q0, B0⟩
  · rintro fu ⟨x, y, g⟩ ⟨many, f, q, i1, i2, i3, i4, i5⟩ ih
    show xW (fm_M_findOff_107 K (fu + 1) x y g) Q
    have i1 : x = (many : Int) := i1
    have i2 : y = (f : Int) := i2
    subst i1; subst i2
    have i3 : xfm [71, 72, 73] [26, 27, 28, 29] σ0 g := i3
    have i4 : yqu g f many q := i4
    have i5 : ybe P gl w (g 71 0) (fun r => ∃ i, i < many ∧ q i = r) 3456 0 := i5
    have tn : ∀ j : Nat, ((j : Int)).toNat = j := fun j => rfl
    rw [fm_M_findOff_107]
    obtain ⟨j1, j2, j3, j4, j5⟩ := i4
    refine xW_if (fun h0 => ?_) (fun h0 => ?_)
    · have : many = 0 := by omega
      subst this
      refine hK g i3 ⟨i5.1, i5.2.1, ?_, fun r hr h => h.elim⟩
      intro s hs hlt _ a v ha hx hG hd
      exact i5.2.2.1 s hs hlt (fun ⟨i, hi, _⟩ => by omega) a v ha hx hG hd
    · refine xW_t ⟨by omega, by omega⟩ (xW_nm (xW_nm (xW_nm ?_)))
      have h72 := (j3 0 (by omega)).2
      have hm0 : (f + 0) % 3456 = f := Nat.mod_eq_of_lt (by omega)
      rw [hm0] at h72
      rw [tn, h72]
      have hq0 := (j3 0 (by omega)).1
      have em : w32 ((many : Int) + (-1)) = ((many - 1 : Nat) : Int) := w32_k (by omega) (by omega)
      have ef : xrem (w32 ((f : Int) + 1)) 3456 = (((f + 1) % 3456 : Nat) : Int) := ymod1 (n := 1) j1 (by decide)
      rw [em, ef]
      refine xW_t ⟨by omega, by omega⟩ (xW_nm ?_)
      have e02 : (0 : Int) % 2 = 0 := rfl
      rw [tn, e02]
      have F1 : xfm [71, 72, 73] [26, 27, 28, 29] σ0 (xup g 73 0 (q 0) 0) := xfm_t i3 (xfm_up (by decide) (by decide))
      have hO : xup g 73 0 (q 0) 0 71 0 = g 71 0 := by funext j; rw [xup_o (by omega)]
      have hul : g 71 0 (q 0) < 1000000000000000 := i5.2.2.2 (q 0) hq0 ⟨0, by omega, rfl⟩
      refine l_off144 (gl := gl) (B := 2 * ysu (g 71 0) 3456 + (many - 1)) ht hv hsz hf hk hl hq0 ?_ (many0 := many - 1) (q0 := fun i => q (i + 1)) F1 ?_ ?_ ?_ ?_ ?_
      · intro many' q' s G1 G2 G3 G4
        refine ih ((many' : Int), (((f + 1) % 3456 : Nat) : Int), s) ⟨many', (f + 1) % 3456, q', rfl, rfl, G1, G2, ⟨G3.1, G3.2.1, ?_, G3.2.2.2⟩⟩ ?_
        · intro s' hs' hlt hnW a v ha hx hG _
          exact G3.2.2.1 s' hs' hlt hnW a v ha hx hG (fun _ => ha)
        · show 2 * ysu (s 71 0) 3456 + ((many' : Int)).toNat < 2 * ysu (g 71 0) 3456 + ((many : Int)).toNat
          rw [tn, tn]
          omega
      · refine ⟨Nat.mod_lt _ (by decide), by omega, fun i hi => ?_, fun i j hi hj e => ?_, fun r hr => ?_⟩
        · refine ⟨(j3 (i + 1) (by omega)).1, ?_⟩
          rw [xup_o (by omega)]
          have := (j3 (i + 1) (by omega)).2
          have e : ((f + 1) % 3456 + i) % 3456 = (f + (i + 1)) % 3456 := by omega
          rw [e]; exact this
        · have := j4 (i + 1) (j + 1) (by omega) (by omega) e
          omega
        · by_cases hrq : r = q 0
          · right
            rw [hrq, xup_at]
            refine ⟨rfl, fun i hi e => ?_⟩
            have := j4 (i + 1) 0 (by omega) (by omega) e
            omega
          · rw [xup_o (by omega)]
            rcases j5 r hr with ⟨k1, i, k2, k3⟩ | ⟨k1, k2⟩
            · left
              have hi0 : ¬ i = 0 := fun e => by rw [e] at k3; exact hrq k3.symm
              refine ⟨k1, i - 1, by omega, ?_⟩
              show q (i - 1 + 1) = r
              rw [show i - 1 + 1 = i by omega]; exact k3
            · right
              exact ⟨k1, fun i hi => k2 (i + 1) (by omega)⟩
      · rw [hO]
        refine ⟨i5.1, i5.2.1, ?_, ?_⟩
        · intro s hs hlt hnW a v ha hx hG hd
          by_cases hsq : s = q 0
          · have := hd hsq; omega
          · refine i5.2.2.1 s hs hlt ?_ a v ha hx hG (fun e => by omega)
            rintro ⟨i, hi, he⟩
            have hi0 : ¬ i = 0 := fun e => by rw [e] at he; exact hsq he.symm
            refine hnW ⟨i - 1, by omega, ?_⟩
            show q (i - 1 + 1) = s
            rw [show i - 1 + 1 = i by omega]; exact he
        · rintro r hr ⟨i, hi, he⟩
          exact i5.2.2.2 r hr ⟨i + 1, by omega, he⟩
      · intro i hi e
        have := j4 (i + 1) 0 (by omega) (by omega) e
        omega
      · rw [hO]; exact hul
      · rw [hO]; exact Nat.le_refl _
  · show 2 * ysu (g0 71 0) 3456 + ((many0 : Int)).toNat < xFU
    have h1 := hbd g0 ⟨_, _, _, B0⟩
    have h2 := Q0.2.1
    have tn : ((many0 : Int)).toNat = many0 := rfl
    rw [tn]
    exact xfu_b (by omega)
theorem l_off22 {σ0 : xa_H} (hv : yPv P) (hf : ymf σ0 P) {to : Nat} (hto : ∀ c, gl c ↔ c / 24 = to) {K : Int → xa_H → Option xa_H} {Q : xa_H → Prop}
    (hK : ∀ s many q, xfm [71, 72, 73] [] σ0 s → yqu s 0 many q → ybe P gl w (s 71 0) (fun r => ∃ i, i < many ∧ q i = r) 3456 0 → xW (K (many : Int) s) Q) :
    xW (fm_M_findOff_22 (to : Int) K xFU 0 0 σ0) Q := by
  refine xfor0 (fun fu (j : Int) (g : Int × xa_H) => fm_M_findOff_22 (to : Int) K fu g.1 j g.2) 3456
    (fun j g => ∃ many q, g.1 = ((many : Nat) : Int) ∧ xfm [71, 72, 73] [] σ0 g.2 ∧ many ≤ j ∧ (∀ i, i < many → q i < j ∧ g.2 72 0 i = (q i : Int)) ∧ (∀ i k, i < many → k < many → q i = q k → i = k) ∧
      ∀ r, r < j → (g.2 73 0 r = 1 ∧ g.2 71 0 r = 0 ∧ r % 144 = to ∧ yG P (yrc r) ∧ ∃ i, i < many ∧ q i = r) ∨ (g.2 73 0 r = 0 ∧ g.2 71 0 r = 1000000000000000 ∧ ¬ (r % 144 = to ∧ yG P (yrc r)) ∧ ∀ i, i < many → ¬ q i = r))
    _ (xfu_b (by omega)) ?_ ?_ (0, σ0) ⟨0, fun _ => 0, rfl, xfm_r _ _ _, Nat.le_refl _, fun i hi => by omega, fun i k hi => by omega, fun r hr => by omega⟩
  · rintro fu j ⟨x, g⟩ hj ⟨many, q, i1, i2, i3, i4, i5, i6⟩ ih
    show xW (fm_M_findOff_22 (to : Int) K (fu + 1) x (j : Int) g) Q
    have i1 : x = (many : Int) := i1
    subst i1
    have i2 : xfm [71, 72, 73] [] σ0 g := i2
    have i4 : ∀ i, i < many → q i < j ∧ g 72 0 i = (q i : Int) := i4
    have i6 : ∀ r, r < j → (g 73 0 r = 1 ∧ g 71 0 r = 0 ∧ r % 144 = to ∧ yG P (yrc r) ∧ ∃ i, i < many ∧ q i = r) ∨ (g 73 0 r = 0 ∧ g 71 0 r = 1000000000000000 ∧ ¬ (r % 144 = to ∧ yG P (yrc r)) ∧ ∀ i, i < many → ¬ q i = r) := i6
    have tn : ∀ j : Nat, ((j : Int)).toNat = j := fun j => rfl
    have hj1 : 0 ≤ (j : Int) ∧ (j : Int) < 3456 := ⟨by omega, by omega⟩
    rw [fm_M_findOff_22]
    refine xW_f (by omega) (xW_j ?_)
    have e1 : xrem (j : Int) 144 = ((j % 144 : Nat) : Int) := by rw [xrem_p (by omega)]; omega
    rw [e1, tn]
    have hno : ¬ (j % 144 = to ∧ yG P (yrc j)) → xW (xnm ((if (0 : Int) = 0 then 1000000000000000 else 0) : Int) fun v8 =>
        if 0 ≤ (j : Int) ∧ (j : Int) < 3456 then xnm (xup g 71 0 j v8) fun s10 => if 0 ≤ (j : Int) ∧ (j : Int) < 3456 then xnm (xup s10 73 0 j (0 % 2)) fun s11 =>
          if (0 : Int) = 0 then xnm (w32 ((j : Int) + 1) : Int) fun v13 => fm_M_findOff_22 (to : Int) K fu (many : Int) v13 s11
          else if 0 ≤ (many : Int) ∧ (many : Int) < 3456 then xnm (xup s11 72 0 ((many : Int)).toNat (j : Int)) fun s14 => xnm (w32 ((many : Int) + 1) : Int) fun v15 => xnm (w32 ((j : Int) + 1) : Int) fun v16 => fm_M_findOff_22 (to : Int) K fu v15 v16 s14 else none
        else none else none) Q := by
      intro hn
      refine xW_nm (xW_t hj1 (xW_nm (xW_t hj1 (xW_nm (xW_t rfl (xW_nm ?_))))))
      rw [w32_s (by omega), if_pos rfl]
      have e02 : (0 : Int) % 2 = 0 := rfl
      rw [e02]
      refine ih ((many : Int), _) ⟨many, q, rfl, xfm_t i2 (xfm_t (xfm_up (by decide) (by decide)) (xfm_up (by decide) (by decide))), by omega, fun i hi => ?_, i5, fun r hr => ?_⟩
      · refine ⟨by have := (i4 i hi).1; omega, ?_⟩
        show xup (xup g 71 0 j 1000000000000000) 73 0 j 0 72 0 i = _
        rw [xup_o (by omega), xup_o (by omega)]; exact (i4 i hi).2
      · show (xup (xup g 71 0 j 1000000000000000) 73 0 j 0 73 0 r = 1 ∧ xup (xup g 71 0 j 1000000000000000) 73 0 j 0 71 0 r = 0 ∧ _) ∨ (xup (xup g 71 0 j 1000000000000000) 73 0 j 0 73 0 r = 0 ∧ xup (xup g 71 0 j 1000000000000000) 73 0 j 0 71 0 r = 1000000000000000 ∧ _)
        by_cases hrj : r = j
        · right
          rw [hrj, xup_at, xup_o (by omega), xup_at]
          exact ⟨rfl, rfl, hn, fun i hi e => by have := (i4 i hi).1; omega⟩
        · rw [xup_o (by omega), xup_o (by omega), xup_o (by omega), xup_o (by omega)]
          exact i6 r (by omega)
    refine xW_if (fun he => xW_t hj1 ?_) (fun he => hno (fun h => he (by omega)))
    have hff := hf j hj
    have e70 : g 70 = σ0 70 := i2.1 70 (by decide) (by decide)
    rw [e70]
    rcases hff with ⟨h1, h2⟩ | ⟨h1, h2⟩
    · refine xW_f (by omega) ?_
      refine xW_nm (xW_t hj1 (xW_nm (xW_t hj1 (xW_nm (xW_f (by decide) (xW_t ⟨by omega, by omega⟩ (xW_nm (xW_nm (xW_nm ?_)))))))))
      rw [w32_s (by omega), w32_s (by omega), if_neg (by decide), tn]
      have e12 : (1 : Int) % 2 = 1 := rfl
      rw [e12]
      refine ih (((many + 1 : Nat) : Int), _) ⟨many + 1, fun i => if i = many then j else q i, rfl, xfm_t i2 (xfm_t (xfm_up (by decide) (by decide)) (xfm_t (xfm_up (by decide) (by decide)) (xfm_up (by decide) (by decide)))), by omega, fun i hi => ?_, ?_, fun r hr => ?_⟩
      · show (if i = many then j else q i) < j + 1 ∧ xup (xup (xup g 71 0 j 0) 73 0 j 1) 72 0 many (j : Int) 72 0 i = (((if i = many then j else q i) : Nat) : Int)
        by_cases him : i = many
        · rw [if_pos him, him, xup_at]; exact ⟨by omega, rfl⟩
        · rw [if_neg him, xup_o (by omega), xup_o (by omega), xup_o (by omega)]
          obtain ⟨k1, k2⟩ := i4 i (by omega)
          exact ⟨by omega, k2⟩
      · intro i k hi hk e
        have e : (if i = many then j else q i) = (if k = many then j else q k) := e
        by_cases him : i = many
        · by_cases hkm : k = many
          · omega
          · rw [if_pos him, if_neg hkm] at e
            have := (i4 k (by omega)).1
            omega
        · by_cases hkm : k = many
          · rw [if_neg him, if_pos hkm] at e
            have := (i4 i (by omega)).1
            omega
          · rw [if_neg him, if_neg hkm] at e
            exact i5 i k (by omega) (by omega) e
      · show (xup (xup (xup g 71 0 j 0) 73 0 j 1) 72 0 many (j : Int) 73 0 r = 1 ∧ xup (xup (xup g 71 0 j 0) 73 0 j 1) 72 0 many (j : Int) 71 0 r = 0 ∧ r % 144 = to ∧ yG P (yrc r) ∧ ∃ i, i < many + 1 ∧ (if i = many then j else q i) = r) ∨
          (xup (xup (xup g 71 0 j 0) 73 0 j 1) 72 0 many (j : Int) 73 0 r = 0 ∧ xup (xup (xup g 71 0 j 0) 73 0 j 1) 72 0 many (j : Int) 71 0 r = 1000000000000000 ∧ ¬ (r % 144 = to ∧ yG P (yrc r)) ∧ ∀ i, i < many + 1 → ¬ (if i = many then j else q i) = r)
        by_cases hrj : r = j
        · left
          rw [hrj, xup_o (by omega), xup_at, xup_o (by omega), xup_o (by omega), xup_at]
          exact ⟨rfl, rfl, by omega, h2, many, by omega, if_pos rfl⟩
        · rw [xup_o (by omega), xup_o (by omega), xup_o (by omega), xup_o (by omega), xup_o (by omega), xup_o (by omega)]
          rcases i6 r (by omega) with ⟨k1, k2, k3, k4, i, k5, k6⟩ | ⟨k1, k2, k3, k4⟩
          · exact Or.inl ⟨k1, k2, k3, k4, i, by omega, by rw [if_neg (by omega)]; exact k6⟩
          · refine Or.inr ⟨k1, k2, k3, fun i hi => ?_⟩
            by_cases him : i = many
            · rw [if_pos him]; omega
            · rw [if_neg him]; exact k4 i (by omega)
    · exact xW_t h1 (hno (fun h => h2 h.2))
  · rintro fu ⟨x, g⟩ ⟨many, q, i1, i2, i3, i4, i5, i6⟩
    show xW (fm_M_findOff_22 (to : Int) K (fu + 1) x ((3456 : Nat) : Int) g) Q
    have i1 : x = (many : Int) := i1
    subst i1
    rw [fm_M_findOff_22]
    have hp : ∀ r, r < 3456 → (gl (yrc r) ↔ r % 144 = to) := by
      intro r hr
      rw [hto]
      have : yrc r / 24 = r % 144 := by unfold yrc; omega
      rw [this]
    refine xW_t (by omega) (hK g many q i2 ⟨by decide, i3, fun i hi => ?_, i5, fun r hr => ?_⟩ ⟨?_, ?_, ?_, ?_⟩)
    · have e : (0 + i) % 3456 = i := by
        rw [Nat.zero_add]
        exact Nat.mod_eq_of_lt (by omega)
      rw [e]; exact i4 i hi
    · rcases i6 r hr with ⟨k1, _, _, _, k2⟩ | ⟨k1, _, _, k2⟩
      · exact Or.inl ⟨k1, k2⟩
      · exact Or.inr ⟨k1, k2⟩
    · intro r hr
      rcases i6 r hr with ⟨_, k1, k2, k3, _⟩ | ⟨_, k1, _⟩
      · right
        have k1 : g 71 0 r = 0 := k1
        refine ⟨by omega, by omega, k3, [], yrc r, ygo_0 k3, (hp r hr).mpr k2, ?_⟩
        rw [k1]; rfl
      · exact Or.inl k1
    · intro r hr hg hG
      rcases i6 r hr with ⟨_, k1, _⟩ | ⟨_, _, k1, _⟩
      · exact k1
      · exact absurd ⟨(hp r hr).mp hg, hG⟩ k1
    · intro s hs hlt hnW a v ha hx hG hd
      rcases i6 s hs with ⟨_, _, _, _, k1⟩ | ⟨_, k1, _⟩
      · exact absurd k1 hnW
      · have k1 : g 71 0 s = 1000000000000000 := k1
        omega
    · rintro r hr ⟨i, hi, he⟩
      rcases i6 r hr with ⟨_, k1, _⟩ | ⟨_, _, _, k1⟩
      · have k1 : g 71 0 r = 0 := k1
        omega
      · exact absurd he (k1 i hi)
/-- what the distances tell in the end -/
def yoff (P : xa_H) (gl : Nat → Prop) (w : Nat → Nat) (O : Nat → Int) : Prop := ∀ c, c < 3456 →
  (∃ d : Nat, ydi (yG P) (ynx P) gl w c d ∧ O (ycr c) = (d : Int) ∧ d < 1000000000000000) ∨ (O (ycr c) = 1000000000000000 ∧ ∀ L e, ygo (yG P) (ynx P) c L e → ¬ gl e)
theorem yoff_of {O : Nat → Int} (h : ybe P gl w O (fun _ => False) 3456 0) (hw : ∀ m, 1 ≤ w m ∧ w m ≤ 900001) : yoff P gl w O := by
  intro c hc
  obtain ⟨c1, c2⟩ := ycr_r hc
  cases Classical.em (∃ L e, ygo (yG P) (ynx P) c L e ∧ gl e) with
  | inl hy =>
    left
    obtain ⟨L, e, h1, h2⟩ := hy
    obtain ⟨d, hd⟩ := ydi_ex (w := w) _ rfl h1 h2
    have hb := ydi_b (N := 3456) (W := 900001) (fun u hu => hu.1) (fun m => (hw m).1) (fun m _ => (hw m).2) hd
    obtain ⟨L', e', k1, k2, k3⟩ := hd.1
    have h3 := ybe_all h (fun _ _ h => h) k1 k2 (by omega)
    rcases h.1 (ycr c) c1 with h4 | ⟨h4, h5, h6, L2, e2, h7, h8, h9⟩
    · omega
    · rw [c2] at h7
      have := hd.2 L2 e2 h7 h8
      exact ⟨d, hd, by omega, by omega⟩
  | inr hn =>
    right
    rcases h.1 (ycr c) c1 with h4 | ⟨h4, h5, h6, L2, e2, h7, h8, h9⟩
    · exact ⟨h4, fun L e h1 h2 => hn ⟨L, e, h1, h2⟩⟩
    · rw [c2] at h7
      exact absurd ⟨L2, e2, h7, h8⟩ hn
theorem q_findOff {σ : xa_H} {t to : Nat} (ht : ymt σ) (hv : yPv P) (hc : ymc σ P t) (hw : ymw σ P) (hk : ymk σ (ycn P) w) (hto : ∀ c, gl c ↔ c / 24 = to) :
    xW (fm_M_findOff (t : Int) (to : Int) σ) fun s => xfm [66, 67, 68, 70, 71, 72, 73] [26, 27, 28, 29, 36] σ s ∧ ymf s P ∧ yoff P gl w (s 71 0) ∧ s 9 0 36 = ((ycn P : Nat) : Int) := by
  unfold fm_M_findOff
  refine xW_bind (q_findFits ht hv hc hw) ?_
  rintro s1 ⟨f1, f2⟩
  refine xW_be (q_cubesOn hv (ymc_f f1 (by decide) hc) (ymw_f f1 (by decide) (by decide) hw)) (xW_nm ?_)
  have f3 : xfm [66, 67, 68, 70] [36] σ (xup s1 9 0 36 ((ycn P : Nat) : Int)) := xfm_t (xfm_m f1 (by decide) (by decide)) (xfm_u9 (by decide))
  have hf3 : ymf (xup s1 9 0 36 ((ycn P : Nat) : Int)) P := by
    intro r hr
    rw [xup_o (by omega)]
    exact f2 r hr
  have hl3 : xup s1 9 0 36 ((ycn P : Nat) : Int) 9 0 36 = ((ycn P : Nat) : Int) := xup_at
  generalize xup s1 9 0 36 ((ycn P : Nat) : Int) = s3 at f3 hf3 hl3 ⊢
  refine l_off22 (gl := gl) (w := w) hv hf3 hto ?_
  intro s many q g1 g2 g3
  have f4 : xfm [66, 67, 68, 70, 71, 72, 73] [36] σ s := xfm_t (xfm_m f3 (by decide) (by decide)) (xfm_m g1 (by decide) (by decide))
  have hfs : ymf s P := by
    unfold ymf
    rw [g1.1 70 (by decide) (by decide)]
    exact hf3
  have hls : s 9 0 36 = ((ycn P : Nat) : Int) := by rw [g1.2 0 36 (by decide)]; exact hl3
  have hks := ymk_f f4 (by decide) (by decide) hk
  refine l_off107 (ymt_f f4 (by decide) ht) hv ?_ hfs hks hls ?_ (xfm_r _ _ _) g2 g3
  · rw [f4.2 0 3 (by decide), f4.2 0 4 (by decide), f4.2 0 5 (by decide)]; exact hw.1
  · intro s' k1 k2
    refine xW_some ⟨xfm_t (xfm_m f4 (by decide) (by decide)) (xfm_m k1 (by decide) (by decide)), ?_, yoff_of k2 (fun m => ymk_r hks m), ?_⟩
    · unfold ymf
      rw [k1.1 70 (by decide) (by decide)]
      exact hfs
    · rw [k1.2 0 36 (by decide)]; exact hls
end BF2
