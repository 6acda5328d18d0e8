/-! how many stands a thing comes to, on both sides -/
def yen (P : xa_H) (s0 n : Nat) (q : Nat → Nat) : Prop := (∀ i j, i < n → j < n → q i = q j → i = j) ∧ ∀ c, (∃ L, ygo (yG P) (ynx P) s0 L c) ↔ ∃ i, i < n ∧ q i = c
theorem yen_le {P : xa_H} {s0 n n' : Nat} {q q' : Nat → Nat} (h : yen P s0 n q) (h' : yen P s0 n' q') : n ≤ n' := by
  have hx : ∀ i, ∃ i', i < n → (i' < n' ∧ q' i' = q i) := by
    intro i
    cases Nat.lt_or_ge i n with
    | inl hi =>
      obtain ⟨i', h1, h2⟩ := (h'.2 (q i)).mp ((h.2 (q i)).mpr ⟨i, hi, rfl⟩)
      exact ⟨i', fun _ => ⟨h1, h2⟩⟩
    | inr hi => exact ⟨0, fun hc => by omega⟩
  refine pig n' n (fun i => Classical.choose (hx i)) (fun i hi => (Classical.choose_spec (hx i) hi).1) (fun i j hi hj e => ?_)
  have e : Classical.choose (hx i) = Classical.choose (hx j) := e
  have e1 := (Classical.choose_spec (hx i) hi).2
  have e2 := (Classical.choose_spec (hx j) hj).2
  rw [e] at e1
  exact h.1 i j hi hj (e1.symm.trans e2)
noncomputable def yrch (P : xa_H) (s0 : Nat) : Nat := @dite Nat (∃ n, ∃ q, yen P s0 n q) (Classical.propDecidable _) (fun h => Classical.choose h) (fun _ => 0)
theorem yrch_1 {P : xa_H} {s0 n : Nat} {q : Nat → Nat} (h : yen P s0 n q) : yrch P s0 = n := by
  have hx : ∃ n, ∃ q, yen P s0 n q := ⟨n, q, h⟩
  unfold yrch
  rw [dif_pos hx]
  obtain ⟨q', h'⟩ := Classical.choose_spec hx
  exact Nat.le_antisymm (yen_le h' h) (yen_le h h')
/-- the class stays as it is through searches -/
theorem yc_up {s1 s f : xa_H} {L M : List Nat} {t : Nat} (hc : yc s1 f) (fs : xfs L M s1 s) (hL : ∀ K ∈ L, K ∈ [1, 3, 11, 13, 14, 15, 16, 21, 22, 23]) (hM : 8 ∉ M) (ht : t < 4) (hn : 1 ≤ f 2 t 0) (h38 : s1 3 0 8 = (t : Int)) (hsc : ysc s1 (yPl f t)) (hh : yhc s (yPl f t)) (hf : yfl s) : yc s f := by
  have hno : ∀ K, K ∉ [1, 3, 11, 13, 14, 15, 16, 21, 22, 23] → K ∉ L := fun K h q => h (hL K q)
  refine ⟨yst_f (xfc_s fs (fun K hK => ?_)) hc.1, Or.inr (Or.inr ⟨t, ht, by rw [fs.2 0 8 hM]; exact h38, hn, ?_, hh⟩), hf, yan_f (fs.1 0 (hno 0 (by decide)) (by decide)) (fs.1 12 (hno 12 (by decide)) (by decide)) hc.2.2.2⟩
  · have h9 := hL K hK
    have : ∀ K ∈ [1, 3, 11, 13, 14, 15, 16, 21, 22, 23], K ∈ [0, 1, 3, 11, 12, 13, 14, 15, 16, 18, 20, 21, 22, 23] := by decide
    exact this K h9
  · exact ysc_f fs ⟨hno 5 (by decide), hno 28 (by decide), hno 18 (by decide), hno 20 (by decide)⟩ hM hsc
theorem yc_off {s1 s f : xa_H} {M : List Nat} (hc : yc s1 f) (fs : xfs [] M s1 s) (hM : 8 ∉ M ∧ 10 ∉ M) : yc s f :=
  ⟨yst_f (xfc_s fs (by intro K hK; exact absurd hK List.not_mem_nil)) hc.1, yca_f fs (by decide) hM.1 hc.2.1, yfl_f fs (by decide) hM.2 hc.2.2.1, yan_f (fs.1 0 List.not_mem_nil (by decide)) (fs.1 12 List.not_mem_nil (by decide)) hc.2.2.2⟩
section CT
variable {σ f : xa_H} {t : Nat}
theorem l_come (hs : yc σ f) (hv : yv f) (ht : t < 4) (hl : ¬ f 2 t 1 < 0) : xW ((fm_Search_about t σ).bind fun s7 => (fm_Search_off 0 0 s7).bind fun s8 => (fm_Thing_stand t s8).bind fun v12 => xb2 (fm_Search_flood v12 (-6) s8) fun v13 s14 => some ((s14 3 0 10), s14)) fun r => r.1 = ((yrch (yPl f t) (ystd f 0 t) : Nat) : Int) ∧ yc r.2 f := by
  obtain ⟨hq, hlie⟩ := ystd_q hv ht hl
  have hn1 : 1 ≤ f 2 t 0 := hlie.1
  have hP := yPl_v hv ht hn1
  refine xW_bind (q_about_c hs hv ht hn1) ?_
  rintro s7 ⟨a1, a2, a3, a4, a5, _⟩
  have hoff : xW (fm_Search_off 0 0 s7) fun σ' => xfs [] [9] s7 σ' ∧ σ' 3 0 9 = ((yhn 0 0 5 : Nat) : Int) := q_off (A := 0) (D := 0) (by decide) (by decide) s7
  refine xW_bind hoff ?_
  rintro s8 ⟨b1, b2⟩
  have h8 := yc_off a1 b1 (by decide)
  have hsc8 := ysc_f b1 (by decide) (by decide) a2
  have hhc8 := yhc_f b1 (by decide) a3
  refine xW_be (q_stand h8.1 hv ht hl) ?_
  refine xW_b2 (q_flood h8.1.1 hP hsc8 hhc8 b2 (yst_wy h8.1) h8.2.2.1 (yqs_c hq) (-6)) ?_
  rintro v s14 ⟨c1, c2, c3, c4⟩
  have c1 : xfs [21, 22, 23] [10] s8 s14 := c1
  have c2 : yhc s14 (yPl f t) := c2
  have c3 : yfl s14 := c3
  rcases c4 with ⟨_, _, n, q, d1, d2, d3⟩ | ⟨n, q, row, h, d1, d2, d3, d4, _⟩
  · have d1 : s14 3 0 10 = (n : Int) := d1
    refine xW_some ⟨?_, yc_up h8 c1 (by decide) (by decide) ht hn1 (by rw [b1.2 0 8 (by decide)]; exact a4) hsc8 c2 c3⟩
    show s14 3 0 10 = _
    rw [d1, yrch_1 (q := q) ⟨d2, d3⟩]
  · omega
/-! the reference -/
def yri (P : xa_H) (s0 h m n : Nat) (q : Nat → Nat) (row : Nat → List Nat) (σ0 sh : xa_H) : Prop :=
  xfm [72, 73] [26, 27, 28, 29] σ0 sh ∧ n ≤ 3456 ∧ (∀ i, i < n → sh 72 0 i = ((ycr (q i) : Nat) : Int)) ∧ ybf (yG P) (ynx P) s0 q row n h m ∧
  ∀ c, c < 3456 → (sh 73 0 (ycr c) = 1 ∧ ∃ i, i < n ∧ q i = c) ∨ (sh 73 0 (ycr c) = 0 ∧ ¬ ∃ i, i < n ∧ q i = c)
theorem l_come80 {σ0 P : xa_H} (ht : ymt σ0) (hv : yPv P) (hsz : σ0 9 0 3 = P 0 0 0 ∧ σ0 9 0 4 = P 0 0 1 ∧ σ0 9 0 5 = P 0 0 2) (hf : ymf σ0 P) {s0 h n0 : Nat} {q0 : Nat → Nat} {row0 : Nat → List Nat} {sh : xa_H} {K : Int → xa_H → Option (Int × xa_H)} {Q : Int × xa_H → Prop}
    (hK : ∀ n q row s, h < n → yri P s0 h 12 n q row σ0 s → xW (K (n : Int) s) Q) (hh : h < n0) (hi : yri P s0 h 0 n0 q0 row0 σ0 sh) : xW (fm_M_comesTo_80 (h : Int) K xFU (n0 : Int) 0 sh) Q := by
  have tn : ∀ j : Nat, ((j : Int)).toNat = j := fun j => rfl
  have key : ∀ (d m fu n : Nat) (q : Nat → Nat) (row : Nat → List Nat) (g : xa_H), m + d = 12 → d < fu → h < n → yri P s0 h m n q row σ0 g → xW (fm_M_comesTo_80 (h : Int) K fu (n : Int) (m : Int) g) Q := by
    intro d
    induction d with
    | zero =>
      intro m fu n q row g hm hd hn hi
      obtain ⟨k, rfl⟩ : ∃ k, fu = k + 1 := ⟨fu - 1, by omega⟩
      have : m = 12 := by omega
      subst this
      rw [fm_M_comesTo_80]
      exact xW_t (by omega) (hK n q row g hn hi)
    | succ d ih =>
      intro m fu n q row g hm hd hn hi
      obtain ⟨k, rfl⟩ : ∃ k, fu = k + 1 := ⟨fu - 1, by omega⟩
      obtain ⟨i1, i2, i3, i4, i5⟩ := hi
      have hG := ygo_Ge (i4.2.1 h hn)
      have hqh := hG.1
      obtain ⟨r1, r2⟩ := ycr_r hqh
      have hmg : ymf g P := by
        unfold ymf
        rw [i1.1 70 (by decide) (by decide)]
        exact hf
      have hszg : g 9 0 3 = P 0 0 0 ∧ g 9 0 4 = P 0 0 1 ∧ g 9 0 5 = P 0 0 2 := by rw [i1.2 0 3 (by decide), i1.2 0 4 (by decide), i1.2 0 5 (by decide)]; exact hsz
      rw [fm_M_comesTo_80, tn, i3 h hn]
      refine xW_f (by omega) (xW_t ⟨by omega, by omega⟩ (xW_b2 (q_next (ymt_f i1 (by decide) ht) hv hszg hmg r1 (by omega)) ?_))
      rintro v s3 ⟨f1, f2⟩
      have f1 : xfm [] [26, 27, 28, 29] g s3 := f1
      have f2 : v = yng P (yrc (ycr (q h))) m := f2
      rw [r2] at f2
      have i1' : xfm [72, 73] [26, 27, 28, 29] σ0 s3 := xfm_t i1 (xfm_m f1 (by decide) (by decide))
      have e72 : s3 72 = g 72 := f1.1 72 List.not_mem_nil (by decide)
      have e73 : s3 73 = g 73 := f1.1 73 List.not_mem_nil (by decide)
      rcases yng_c (P := P) (c := q h) (m := m) with ⟨e, h1, h2, h3⟩ | ⟨h1, h2⟩
      · obtain ⟨b1, b2⟩ := ycr_r h2.1
        rw [h3] at f2
        rw [f2, tn, e73]
        refine xW_f (by omega) (xW_t ⟨by omega, by omega⟩ ?_)
        rcases i5 e h2.1 with ⟨k1, k2⟩ | ⟨k1, k2⟩
        · refine xW_f (by rw [k1]; decide) (xW_nm ?_)
          rw [w32_s (by omega)]
          refine ih (m + 1) k n q row s3 (by omega) (by omega) hn ⟨i1', i2, by rw [e72]; exact i3, ybf_skip i4 (fun e' he' _ => ?_), by rw [e73]; exact i5⟩
          rw [h1] at he'
          have := Option.some.inj he'
          subst this
          exact k2
        · have hnin : ∀ i, i < n → ¬ q i = e := fun i hi he => k2 ⟨i, hi, he⟩
          have hlt : ∀ i, i < n → q i < 3456 := fun i hi => (ygo_Ge (i4.2.1 i hi)).1
          have hn1 : n + 1 ≤ 3456 := by
            refine pig 3456 (n + 1) (fun i => if i = n then e else q i) ?_ ?_
            · intro i hi
              show (if i = n then e else q i) < 3456
              by_cases hin : i = n
              · rw [if_pos hin]; exact h2.1
              · rw [if_neg hin]; exact hlt i (by omega)
            · intro i j hi hj he
              have he : (if i = n then e else q i) = (if j = n then e else q j) := he
              by_cases hin : i = n
              · by_cases hjn : j = n
                · omega
                · rw [if_pos hin, if_neg hjn] at he
                  exact absurd he.symm (hnin j (by omega))
              · by_cases hjn : j = n
                · rw [if_neg hin, if_pos hjn] at he
                  exact absurd he (hnin i (by omega))
                · rw [if_neg hin, if_neg hjn] at he
                  exact ybf_inj i4 i j (by omega) (by omega) he
          have e12 : (1 % 2 : Int) = 1 := rfl
          rw [tn, e12]
          refine xW_t k1 (xW_t ⟨by omega, by omega⟩ (xW_nm (xW_t ⟨by omega, by omega⟩ (xW_nm (xW_nm (xW_nm ?_))))))
          rw [w32_s (j := n) (by omega), w32_s (j := m) (by omega)]
          refine ih (m + 1) k (n + 1) (fun i => if i = n then e else q i) (fun i => if i = n then row h ++ [m] else row i) _ (by omega) (by omega) (by omega) ⟨?_, hn1, fun i hi => ?_, ?_, fun c hc => ?_⟩
          · exact xfm_t i1' (xfm_t (xfm_up (by decide) (by decide)) (xfm_up (by decide) (by decide)))
          · show _ = (((ycr (if i = n then e else q i)) : Nat) : Int)
            by_cases hin : i = n
            · subst hin
              rw [if_pos rfl, xup_at]
            · rw [if_neg hin, xup_o (by omega), xup_o (by omega), e72]
              exact i3 i (by omega)
          · refine ybf_add i4 hn (by omega) h1 h2 hnin ?_ ?_
            · intro i hi
              show (if i = n then e else q i) = q i
              rw [if_neg (by omega)]
            · show (if n = n then e else q n) = e
              rw [if_pos rfl]
          · by_cases hce : c = e
            · subst hce
              left
              rw [xup_o (by omega), xup_at]
              exact ⟨rfl, n, by omega, if_pos rfl⟩
            · have hne : ¬ ycr c = ycr e := by
                intro q1
                have := (ycr_r hc).2
                rw [q1, b2] at this
                exact hce this.symm
              rw [xup_o (by omega), xup_o (by omega), e73]
              rcases i5 c hc with ⟨c1, i, c2, c3⟩ | ⟨c1, c2⟩
              · exact Or.inl ⟨c1, i, by omega, by show (if i = n then e else q i) = c; rw [if_neg (by omega)]; exact c3⟩
              · right
                refine ⟨c1, ?_⟩
                rintro ⟨i, d1, d2⟩
                have d2 : (if i = n then e else q i) = c := d2
                by_cases hin : i = n
                · rw [if_pos hin] at d2; exact hce d2.symm
                · rw [if_neg hin] at d2; exact c2 ⟨i, by omega, d2⟩
      · rw [h2] at f2
        rw [f2]
        refine xW_t (by decide) (xW_nm ?_)
        rw [w32_s (by omega)]
        refine ih (m + 1) k n q row s3 (by omega) (by omega) hn ⟨i1', i2, by rw [e72]; exact i3, ybf_skip i4 (fun e' he' hg' => absurd hg' (h1 e' he')), by rw [e73]; exact i5⟩
  exact key 12 0 xFU n0 q0 row0 sh (by omega) (xfu_b (by omega)) hh hi
theorem l_come71 {σ0 P : xa_H} (ht : ymt σ0) (hv : yPv P) (hsz : σ0 9 0 3 = P 0 0 0 ∧ σ0 9 0 4 = P 0 0 1 ∧ σ0 9 0 5 = P 0 0 2) (hf : ymf σ0 P) {s0 : Nat} {K : Int → xa_H → Option (Int × xa_H)} {Q : Int × xa_H → Prop}
    (hK : ∀ n q s, yen P s0 n q → xfm [72, 73] [26, 27, 28, 29] σ0 s → xW (K (n : Int) s) Q) : ∀ (d h fu n : Nat) (q : Nat → Nat) (row : Nat → List Nat) (sh : xa_H), h + d = 3457 → d < fu → h ≤ n → yri P s0 h 0 n q row σ0 sh → xW (fm_M_comesTo_71 K fu (n : Int) (h : Int) sh) Q := by
  intro d
  induction d with
  | zero =>
    intro h fu n q row sh hd _ hh hi
    have := hi.2.1
    omega
  | succ d ih =>
    intro h fu n q row sh hd hfu hh hi
    obtain ⟨m, rfl⟩ : ∃ m, fu = m + 1 := ⟨fu - 1, by omega⟩
    rw [fm_M_comesTo_71]
    by_cases hhn : h = n
    · subst hhn
      refine xW_t (by omega) (hK h q sh ⟨ybf_inj hi.2.2.2.1, fun c => ⟨?_, ?_⟩⟩ hi.1)
      · rintro ⟨L, hL⟩
        exact ybf_all hi.2.2.2.1 L.length L c rfl hL
      · rintro ⟨i, h1, h2⟩
        exact ⟨row i, h2 ▸ hi.2.2.2.1.2.1 i h1⟩
    · refine xW_f (by omega) (l_come80 ht hv hsz hf ?_ (by omega) hi)
      intro n' q' row' s hn' hi'
      refine xW_nm ?_
      rw [w32_s (by omega)]
      exact ih (h + 1) m n' q' row' s (by omega) (by omega) (by omega) ⟨hi'.1, hi'.2.1, hi'.2.2.1, ybf_next hi'.2.2.2.1 hn', hi'.2.2.2.2⟩
theorem q_comesTo (hs : ym σ f) (hv : yv f) (ht : t < 4) (hl : ¬ f 2 t 1 < 0) : xW (fm_M_comesTo (t : Int) σ) fun r => r.1 = ((yrch (yPl f t) (ystd f 0 t) : Nat) : Int) ∧ ym r.2 f := by
  obtain ⟨hq, hlie⟩ := ystd_q hv ht hl
  have hn1 : 1 ≤ f 2 t 0 := hlie.1
  have hP := yPl_v hv ht hn1
  have tn : ∀ j : Nat, ((j : Int)).toNat = j := fun j => rfl
  have hth := hv.1.2.2.1 t ht
  obtain ⟨r1, r2, r3, _⟩ := ystd_r hlie hth.2.2.2.2.1
  unfold fm_M_comesTo
  have h0 : xW (fm_M_takeOff 0 0 σ) fun s => ym s f ∧ xfm [69] [23, 24] σ s ∧ ∀ t, ymw s (yPl f t) := q_take0 hs (A := 0) (D := 0)
  refine xW_bind h0 ?_
  rintro s1 ⟨a1, a2, a3⟩
  refine xW_bind (q_findFits a1.1 hP (yrf_mc a1.2.1 hth ht) (a3 t)) ?_
  rintro s2 ⟨b1, b2⟩
  have h2 : ym s2 f := ym_f b1 (by decide) (by decide) a1
  obtain ⟨c0, c1, c2, c3⟩ := h2.2.1.2.2.1 t ht
  have hr := (ycr_r r1).1
  refine xW_be (q_Mstand (t := t) (by omega) r1 (by rw [r2]; exact c1) (by rw [r3]; exact c2)) (xW_t ⟨by omega, by omega⟩ ?_)
  rw [tn]
  rcases b2 (ycr (ystd f 0 t)) hr with ⟨g1, g2⟩ | ⟨g1, g2⟩
  · rw [(ycr_r r1).2] at g2
    refine xW_f (by rw [g1]; decide) ?_
    refine xfor0 (fun n (x : Int) (g : xa_H) => fm_M_comesTo_30 ((ycr (ystd f 0 t) : Nat) : Int) _ n x g) 3456
      (fun x g => xfm [73] [] s2 g ∧ ∀ r, r < x → g 73 0 r = if r = ycr (ystd f 0 t) then 1 else 0) _ (xfu_b (by omega)) ?_ ?_ s2 ⟨xfm_r _ _ _, fun r hr => by omega⟩
    · rintro fu x g hx ⟨i1, i2⟩ ih
      show xW (fm_M_comesTo_30 _ _ (fu + 1) (x : Int) g) _
      have e12 : (1 % 2 : Int) = 1 := rfl
      have e02 : (0 % 2 : Int) = 0 := rfl
      rw [fm_M_comesTo_30, tn, e12, e02]
      refine xW_f (by omega) ?_
      by_cases hxe : x = ycr (ystd f 0 t)
      · refine xW_t (by omega) (xW_t ⟨by omega, by omega⟩ (xW_nm (xW_nm ?_)))
        rw [w32_s (by omega)]
        refine ih _ ⟨xfm_t i1 (xfm_up (by decide) (by decide)), fun r hr => ?_⟩
        by_cases hrx : r = x
        · rw [hrx, xup_at, if_pos hxe]
        · rw [xup_o (by omega)]; exact i2 r (by omega)
      · refine xW_f (by omega) (xW_t ⟨by omega, by omega⟩ (xW_nm (xW_nm ?_)))
        rw [w32_s (by omega)]
        refine ih _ ⟨xfm_t i1 (xfm_up (by decide) (by decide)), fun r hr => ?_⟩
        by_cases hrx : r = x
        · rw [hrx, xup_at, if_neg hxe]
        · rw [xup_o (by omega)]; exact i2 r (by omega)
    · rintro fu g ⟨i1, i2⟩
      show xW (fm_M_comesTo_30 _ _ (fu + 1) ((3456 : Nat) : Int) g) _
      rw [fm_M_comesTo_30]
      refine xW_t (by omega) (xW_nm ?_)
      have h2t := h2.1
      refine l_come71 (P := yPl f t) (s0 := ystd f 0 t) h2.1 hP h2.2.1.1 b2 ?_ 3457 0 xFU 1 (fun _ => ystd f 0 t) (fun _ => []) _ (by omega) (xfu_b (by omega)) (by omega) ⟨?_, by omega, fun i hi => ?_, ybf_0 g2 rfl, fun c hc => ?_⟩
      · intro n q s k1 k2
        refine xW_some ⟨?_, ym_f k2 (by decide) (by decide) h2⟩
        show (n : Int) = _
        rw [yrch_1 k1]
      · exact xfm_t (xfm_m i1 (by decide) (by decide)) (xfm_up (by decide) (by decide))
      · have : i = 0 := by omega
        subst this
        exact xup_at
      · have hcr := (ycr_r hc)
        rw [xup_o (by omega), i2 _ hcr.1]
        by_cases hcs : c = ystd f 0 t
        · left
          rw [hcs, if_pos rfl]
          exact ⟨rfl, 0, by omega, rfl⟩
        · right
          have hne : ¬ ycr c = ycr (ystd f 0 t) := by
            intro q1
            have := hcr.2
            rw [q1, (ycr_r r1).2] at this
            exact hcs this.symm
          rw [if_neg hne]
          refine ⟨rfl, ?_⟩
          rintro ⟨i, _, d2⟩
          exact hcs d2.symm
  · rw [(ycr_r r1).2] at g2
    refine xW_t g1 (xW_some ⟨?_, h2⟩)
    have he : yen (yPl f t) (ystd f 0 t) 0 (fun _ => 0) := ⟨fun i j hi => by omega, fun c => ⟨fun ⟨L, hL⟩ => absurd (ygo_G hL) g2, fun ⟨i, hi, _⟩ => by omega⟩⟩
    show (0 : Int) = _
    rw [yrch_1 he]
    rfl
end CT
