/-! the flood of the class -/
theorem pig : ∀ (N : Nat) (n : Nat) (f : Nat → Nat), (∀ i, i < n → f i < N) → (∀ i j, i < n → j < n → f i = f j → i = j) → n ≤ N := by
  intro N
  induction N with
  | zero =>
    intro n f h _
    cases n with
    | zero => omega
    | succ n => have := h 0 (by omega); omega
  | succ N ih =>
    intro n f h hi
    cases n with
    | zero => omega
    | succ n =>
      have : n ≤ N := by
        refine ih n (fun i => if f i = N then f n else f i) ?_ ?_
        · intro i hin
          show (if f i = N then f n else f i) < N
          have h1 := h i (by omega)
          have h2 := h n (by omega)
          by_cases hc : f i = N
          · rw [if_pos hc]
            have : ¬ f n = N := fun e => by have := hi i n (by omega) (by omega) (hc.trans e.symm); omega
            omega
          · rw [if_neg hc]; omega
        · intro i j hin hjn e
          have e : (if f i = N then f n else f i) = (if f j = N then f n else f j) := e
          by_cases hc : f i = N
          · by_cases hd : f j = N
            · exact hi i j (by omega) (by omega) (hc.trans hd.symm)
            · rw [if_pos hc, if_neg hd] at e
              have := hi n j (by omega) (by omega) e; omega
          · by_cases hd : f j = N
            · rw [if_neg hc, if_pos hd] at e
              have := hi i n (by omega) (by omega) e; omega
            · rw [if_neg hc, if_neg hd] at e
              exact hi i j (by omega) (by omega) e
      omega
/-- which stands were come to: told only by the queue -/
def yfl (σ : xa_H) : Prop := ∃ n : Nat, n ≤ 3456 ∧ σ 3 0 10 = (n : Int) ∧ (∀ i, i < n → 0 ≤ σ 22 0 i ∧ σ 22 0 i < 3456) ∧ ∀ c, c < 3456 → ¬ σ 23 0 c = -1 → ∃ i, i < n ∧ σ 22 0 i = (c : Int)
theorem yfl_f {L M : List Nat} {σ σ' : xa_H} (h : xfs L M σ σ') (hL : 22 ∉ L ∧ 23 ∉ L) (hM : 10 ∉ M) (hf : yfl σ) : yfl σ' := by
  unfold yfl
  rw [h.1 22 hL.1 (by decide), h.1 23 hL.2 (by decide), h.2 0 10 hM]
  exact hf
theorem l_flood2 {σ : xa_H} {f1 f2 : Int} {K : xa_H → Option (Int × xa_H)} {Q : Int × xa_H → Prop} (hf : yfl σ)
    (hK : ∀ s, xfs [23] [] σ s → (∀ c, c < 3456 → s 23 0 c = -1) → xW (K s) Q) : xW (fm_Search_flood_2 f1 f2 K xFU 0 σ) Q := by
  obtain ⟨N, hN, h10, hq, hr⟩ := hf
  refine xfor0 (fun n (j : Int) (g : xa_H) => fm_Search_flood_2 f1 f2 K n j g) N
    (fun j g => xfs [23] [] σ g ∧ ∀ c, c < 3456 → ¬ g 23 0 c = -1 → ∃ i, j ≤ i ∧ i < N ∧ σ 22 0 i = (c : Int)) _ (by unfold xFU; omega) ?_ ?_ σ ?_
  · rintro n j g hj ⟨i1, i2⟩ ih
    show xW (fm_Search_flood_2 f1 f2 K (n + 1) (j : Int) g) Q
    rw [fm_Search_flood_2]
    have e10 : g 3 0 10 = (N : Int) := (i1.2 0 10 (by decide)).trans h10
    have e22 : g 22 = σ 22 := i1.1 22 (by decide) (by decide)
    refine xW_f (by omega) (xW_f (by omega) (xW_t ⟨by omega, by omega⟩ ?_))
    have hqj := hq j hj
    have ej : ((j : Int)).toNat = j := rfl
    rw [ej, e22]
    obtain ⟨c, hc⟩ : ∃ c : Nat, σ 22 0 j = (c : Int) := ⟨(σ 22 0 j).toNat, by omega⟩
    rw [hc]
    refine xW_be (wr23 (show c < 3456 by omega)) (xW_nm ?_)
    rw [w32_s (by omega)]
    refine ih _ ⟨xfs_t i1 (xfs_up (by decide) (by decide)), ?_⟩
    intro c' hc' hne
    by_cases he : c' = c
    · subst he; exact absurd xup_at hne
    · rw [xup_o (by rintro ⟨-, -, e⟩; exact he e)] at hne
      obtain ⟨i, h1, h2, h3⟩ := i2 c' hc' hne
      refine ⟨i, ?_, h2, h3⟩
      by_cases hij : i = j
      · subst hij
        have : (c : Int) = (c' : Int) := hc.symm.trans h3
        omega
      · omega
  · rintro n g ⟨i1, i2⟩
    show xW (fm_Search_flood_2 f1 f2 K (n + 1) (N : Int) g) Q
    rw [fm_Search_flood_2]
    have e10 : g 3 0 10 = (N : Int) := (i1.2 0 10 (by decide)).trans h10
    refine xW_t (by omega) (hK g i1 ?_)
    intro c hc
    cases Classical.em (g 23 0 c = -1) with
    | inl h => exact h
    | inr h => obtain ⟨i, h1, h2, _⟩ := i2 c hc h; omega
  · refine ⟨xfs_r _ _ _, fun c hc hne => ?_⟩
    obtain ⟨i, h1, h2⟩ := hr c hc hne
    exact ⟨i, by omega, h1, h2⟩
/-- how the stands of the queue were come to -/
def yby (sh P : xa_H) (n : Nat) (q : Nat → Nat) (row : Nat → List Nat) : Prop :=
  (sh 23 0 (q 0) = 12 ∧ row 0 = []) ∧ (∀ i, i < n → ycell P (q i)) ∧ (∀ i, 0 < i → i < n → ∃ j m : Nat, j < i ∧ m < 12 ∧ sh 23 0 (q i) = (m : Int) ∧ ynx P (q j) m = some (q i) ∧ row i = row j ++ [m])
def yfi (σ P : xa_H) (s0 h m : Nat) (n : Nat) (q : Nat → Nat) (row : Nat → List Nat) (sh : xa_H) : Prop :=
  xfs [21, 22, 23] [10] σ sh ∧ yhc sh P ∧ sh 3 0 10 = (n : Int) ∧ n ≤ 3456 ∧ (∀ i, i < n → sh 22 0 i = (q i : Int)) ∧ ybf (yG P) (ynx P) s0 q row n h m ∧
  (∀ c, c < 3456 → (¬ sh 23 0 c = -1 ↔ ∃ i, i < n ∧ q i = c)) ∧ yby sh P n q row
theorem l_flood101 {σ P : xa_H} (ht : yct σ) (hv : yPv P) (hs : ysc σ P) (hb : σ 3 0 9 = ((yhd P : Nat) : Int)) (hw : ywy σ P) {s0 h u : Nat} {f2 f3 : Int} {K : xa_H → Option (Int × xa_H)} {Q : Int × xa_H → Prop}
    {n0 : Nat} {q0 : Nat → Nat} {row0 : Nat → List Nat} {sh : xa_H}
    (hK : ∀ n q row s, h < n → (n0 ≤ n ∧ ∀ i, i < n0 → q i = q0 i) → yfi σ P s0 h 12 n q row s → xW (K s) Q) (hh : h < n0) (hu : q0 h = u) (hi : yfi σ P s0 h 0 n0 q0 row0 sh) :
    xW (fm_Search_flood_101 f2 f3 (u : Int) K xFU 0 sh) Q := by
  refine xfor0 (fun n (j : Int) (g : xa_H) => fm_Search_flood_101 f2 f3 (u : Int) K n j g) 12
    (fun m g => ∃ n q row, h < n ∧ q h = u ∧ (n0 ≤ n ∧ ∀ i, i < n0 → q i = q0 i) ∧ yfi σ P s0 h m n q row g) _ (by unfold xFU; omega) ?_ ?_ sh ⟨n0, q0, row0, hh, hu, ⟨by omega, fun _ _ => rfl⟩, hi⟩
  · rintro fu m g hm ⟨n, q, row, hn, hqu, hsm, hf⟩ ih
    show xW (fm_Search_flood_101 f2 f3 (u : Int) K (fu + 1) (m : Int) g) Q
    rw [fm_Search_flood_101]
    have hf0 := hf
    obtain ⟨i1, i2, i3, i4, i5, i6, i7, i8⟩ := hf
    have hcu : ycell P u := hqu ▸ i8.2.1 h hn
    have htg : yct g := yct_f i1 (by decide) ht
    have hsg : ysc g P := ysc_f i1 (by decide) (by decide) hs
    have hwg : ywy g P := ywy_f i1 (by decide) hw
    have hbg : g 3 0 9 = ((yhd P : Nat) : Int) := (i1.2 0 9 (by decide)).trans hb
    refine xW_f (by omega) ?_
    refine xW_be (q_step htg hv.1 hwg hcu.1 hm) ?_
    cases hnx : ynx P u m with
    | none =>
      refine xW_t (by show (-6 : Int) < 0; decide) (xW_nm ?_)
      rw [w32_s (by omega)]
      refine ih g ⟨n, q, row, hn, hqu, hsm, i1, i2, i3, i4, i5, ?_, i7, i8⟩
      refine ybf_skip i6 (fun e he _ => ?_)
      rw [hqu, hnx] at he; cases he
    | some e =>
      have hce : ycell P e := ynx_c hv.1 hcu hm hnx
      refine xW_f (by show ¬ (e : Int) < 0; omega) ?_
      show xW ((fm_S_read 23 0 (e : Int) g).bind _) Q
      refine xW_be (rd23 (show e < 3456 from hce.1)) ?_
      by_cases hr : g 23 0 e = -1
      · refine xW_t hr ?_
        have hnin : ∀ i, i < n → ¬ q i = e := fun i hi he => (i7 e hce.1).mpr ⟨i, hi, he⟩ hr
        refine xW_b2 (q_fits htg hv hsg i2 hbg hce) ?_
        rintro v s8 ⟨f1, f2', f3'⟩
        have i1' : xfs [21, 22, 23] [10] σ s8 := xfs_t i1 (xfs_m f1 (by decide) (by decide))
        have e22 : s8 22 = g 22 := f1.1 22 (by decide) (by decide)
        have e23 : s8 23 = g 23 := f1.1 23 (by decide) (by decide)
        have e10 : s8 3 0 10 = (n : Int) := (f1.2 0 10 (by decide)).trans i3
        rcases f3' with ⟨hv1, hG⟩ | ⟨hv0, hG⟩
        · refine xW_f (by show ¬ v = 0; have : v = 1 := hv1; omega) ?_
          have hn1 : n + 1 ≤ 3456 := by
            refine pig 3456 (n + 1) (fun i => if i = n then e else q i) ?_ ?_
            · intro i hi
              show (if i = n then e else q i) < 3456
              by_cases hin : i = n
              · rw [if_pos hin]; exact hce.1
              · rw [if_neg hin]; exact (i8.2.1 i (by omega)).1
            · intro i j hi hj he
              have he : (if i = n then e else q i) = (if j = n then e else q j) := he
              by_cases hin : i = n
              · by_cases hjn : j = n
                · omega
                · rw [if_pos hin, if_neg hjn] at he
                  exact absurd he.symm (hnin j (by omega))
              · by_cases hjn : j = n
                · rw [if_neg hin, if_pos hjn] at he
                  exact absurd he (hnin i (by omega))
                · rw [if_neg hin, if_neg hjn] at he
                  exact ybf_inj i6 i j (by omega) (by omega) he
          have hreach : fm_Search_reach (e : Int) (m : Int) s8 = some (xup (xup (xup s8 23 0 e (m : Int)) 22 0 n (e : Int)) 3 0 10 ((n + 1 : Nat) : Int)) := by
            unfold fm_Search_reach
            rw [wr23 (show e < 3456 from hce.1), Option.bind_some]
            have e10' : xup s8 23 0 e (m : Int) 3 0 10 = (n : Int) := by rw [xup_o (by omega)]; exact e10
            rw [e10', wr22 (show n < 3456 by omega), Option.bind_some]
            have e10'' : xup (xup s8 23 0 e (m : Int)) 22 0 n (e : Int) 3 0 10 = (n : Int) := by rw [xup_o (by omega)]; exact e10'
            rw [xnm_e, e10'', w32_s (by omega)]
          refine xW_be hreach (xW_nm ?_)
          rw [w32_s (by omega)]
          refine ih _ ⟨n + 1, fun i => if i = n then e else q i, fun i => if i = n then row h ++ [m] else row i, by omega, ?_, ⟨by omega, fun i hi => ?_⟩, ?_⟩
          · show (if h = n then e else q h) = u
            rw [if_neg (by omega)]; exact hqu
          · show (if i = n then e else q i) = q0 i
            rw [if_neg (by omega)]; exact hsm.2 i hi
          · refine ⟨?_, ?_, ?_, hn1, ?_, ?_, ?_, ?_⟩
            · exact xfs_t i1' (xfs_t (xfs_up (by decide) (by decide)) (xfs_t (xfs_up (by decide) (by decide)) (xfs_u3 (by decide))))
            · intro c hc
              rw [xup_o (by omega), xup_o (by omega), xup_o (by omega)]
              exact f2' c hc
            · exact xup_at
            · intro i hi
              show _ = (((if i = n then e else q i) : Nat) : Int)
              rw [xup_o (by omega)]
              by_cases hin : i = n
              · subst hin
                rw [if_pos rfl, xup_at]
              · rw [if_neg hin, xup_o (by omega), xup_o (by omega), e22]
                exact i5 i (by omega)
            · refine ybf_add i6 hn hm (by rw [hqu]; exact hnx) hG hnin ?_ ?_
              · intro i hi
                show (if i = n then e else q i) = q i
                rw [if_neg (by omega)]
              · show (if n = n then e else q n) = e
                rw [if_pos rfl]
            · intro c hc
              rw [xup_o (by omega), xup_o (by omega)]
              by_cases hce' : c = e
              · subst hce'
                rw [xup_at]
                constructor
                · intro _
                  exact ⟨n, by omega, by show (if n = n then c else q n) = c; rw [if_pos rfl]⟩
                · intro _; omega
              · rw [xup_o (by rintro ⟨-, -, x⟩; exact hce' x), e23, i7 c hc]
                constructor
                · rintro ⟨i, h1, h2⟩
                  exact ⟨i, by omega, by show (if i = n then e else q i) = c; rw [if_neg (by omega)]; exact h2⟩
                · rintro ⟨i, h1, h2⟩
                  have h2 : (if i = n then e else q i) = c := h2
                  by_cases hin : i = n
                  · rw [if_pos hin] at h2; exact absurd h2.symm hce'
                  · rw [if_neg hin] at h2; exact ⟨i, by omega, h2⟩
            · have hrd : ∀ i, i < n → xup (xup (xup s8 23 0 e (m : Int)) 22 0 n (e : Int)) 3 0 10 ((n + 1 : Nat) : Int) 23 0 (q i) = g 23 0 (q i) := by
                intro i hi
                rw [xup_o (by omega), xup_o (by omega), xup_o (by rintro ⟨-, -, x⟩; exact hnin i hi x), e23]
              obtain ⟨⟨b1, b2⟩, b3, b4⟩ := i8
              have h0n : ¬ 0 = n := by have := i6.1.1; omega
              refine ⟨⟨?_, ?_⟩, ?_, ?_⟩
              · show xup _ _ _ _ _ 23 0 (if 0 = n then e else q 0) = 12
                rw [if_neg h0n, hrd 0 (by omega)]; exact b1
              · show (if 0 = n then row h ++ [m] else row 0) = []
                rw [if_neg h0n]; exact b2
              · intro i hi
                show ycell P (if i = n then e else q i)
                by_cases hin : i = n
                · rw [if_pos hin]; exact hce
                · rw [if_neg hin]; exact b3 i (by omega)
              · intro i hi0 hi
                by_cases hin : i = n
                · subst hin
                  refine ⟨h, m, hn, hm, ?_, ?_, ?_⟩
                  · show xup _ _ _ _ _ 23 0 (if i = i then e else q i) = _
                    rw [if_pos rfl, xup_o (by omega), xup_o (by omega), xup_at]
                  · show ynx P (if h = i then e else q h) m = some (if i = i then e else q i)
                    rw [if_neg (by omega), if_pos rfl, hqu]; exact hnx
                  · show (if i = i then row h ++ [m] else row i) = (if h = i then row h ++ [m] else row h) ++ [m]
                    rw [if_pos rfl, if_neg (by omega)]
                · obtain ⟨j, m', c1, c2, c3, c4, c5⟩ := b4 i hi0 (by omega)
                  refine ⟨j, m', c1, c2, ?_, ?_, ?_⟩
                  · show xup _ _ _ _ _ 23 0 (if i = n then e else q i) = _
                    rw [if_neg hin, hrd i (by omega)]; exact c3
                  · show ynx P (if j = n then e else q j) m' = some (if i = n then e else q i)
                    rw [if_neg (by omega), if_neg hin]; exact c4
                  · show (if i = n then row h ++ [m] else row i) = (if j = n then row h ++ [m] else row j) ++ [m']
                    rw [if_neg hin, if_neg (by omega)]; exact c5
        · refine xW_t hv0 (xW_nm ?_)
          rw [w32_s (by omega)]
          refine ih s8 ⟨n, q, row, hn, hqu, hsm, i1', f2', e10, i4, ?_, ?_, ?_, ?_⟩
          · rw [e22]; exact i5
          · refine ybf_skip i6 (fun e' he' hg' => ?_)
            rw [hqu, hnx] at he'
            exact absurd ((Option.some.inj he').symm ▸ hg') hG
          · rw [e23]; exact i7
          · unfold yby; rw [e23]; exact i8
      · refine xW_f hr (xW_nm ?_)
        rw [w32_s (by omega)]
        refine ih g ⟨n, q, row, hn, hqu, hsm, i1, i2, i3, i4, i5, ?_, i7, i8⟩
        refine ybf_skip i6 (fun e' he' _ => ?_)
        rw [hqu, hnx] at he'
        have := Option.some.inj he'
        subst this
        exact (i7 e hce.1).mp hr
  · rintro fu g ⟨n, q, row, hn, hqu, hsm, hf⟩
    show xW (fm_Search_flood_101 f2 f3 (u : Int) K (fu + 1) ((12 : Nat) : Int) g) Q
    rw [fm_Search_flood_101]
    exact xW_t (by omega) (hK n q row g hn hsm hf)
/-- what a flood comes to: no row to the goal; or the first of the shortest -/
def yfp (σ P : xa_H) (s0 : Nat) (gl : Int) (r : Int × xa_H) : Prop :=
  xfs [21, 22, 23] [10] σ r.2 ∧ yhc r.2 P ∧ yfl r.2 ∧
  ((r.1 = -6 ∧ (∀ L e, ygo (yG P) (ynx P) s0 L e → ¬ ((e / 24 : Nat) : Int) = gl) ∧ ∃ (n : Nat) (q : Nat → Nat), r.2 3 0 10 = (n : Int) ∧ (∀ i j, i < n → j < n → q i = q j → i = j) ∧ ∀ c, (∃ L, ygo (yG P) (ynx P) s0 L c) ↔ ∃ i, i < n ∧ q i = c) ∨
   (∃ (n : Nat) (q : Nat → Nat) (row : Nat → List Nat) (h : Nat), h < n ∧ n ≤ 3456 ∧ r.1 = (q h : Int) ∧ ((q h / 24 : Nat) : Int) = gl ∧ ygo (yG P) (ynx P) s0 (row h) (q h) ∧ (∀ L e, ygo (yG P) (ynx P) s0 L e → ((e / 24 : Nat) : Int) = gl → yrk (row h) ≤ yrk L) ∧ yby r.2 P n q row))
theorem yfi_fl {σ P sh : xa_H} {s0 h m n : Nat} {q : Nat → Nat} {row : Nat → List Nat} (hf : yfi σ P s0 h m n q row sh) : yfl sh := by
  obtain ⟨i1, i2, i3, i4, i5, i6, i7, i8⟩ := hf
  refine ⟨n, i4, i3, fun i hi => ?_, fun c hc hne => ?_⟩
  · have := (i8.2.1 i hi).1
    rw [i5 i hi]; omega
  · obtain ⟨i, h1, h2⟩ := (i7 c hc).mp hne
    exact ⟨i, h1, by rw [i5 i h1, h2]⟩
theorem l_flood61 {σ P : xa_H} (ht : yct σ) (hv : yPv P) (hs : ysc σ P) (hb : σ 3 0 9 = ((yhd P : Nat) : Int)) (hw : ywy σ P) {s0 : Nat} {gl : Int} :
    ∀ (d h fu n : Nat) (q : Nat → Nat) (row : Nat → List Nat) (sh : xa_H), h + d = 3457 → d < fu → h ≤ n → yfi σ P s0 h 0 n q row sh → (∀ j, j < h → ¬ ((q j / 24 : Nat) : Int) = gl) →
    xW (fm_Search_flood_61 gl (fun s => some ((-6), s)) fu (h : Int) sh) (yfp σ P s0 gl) := by
  intro d
  induction d with
  | zero =>
    intro h fu n q row sh hd _ hh hf _
    have := hf.2.2.2.1
    omega
  | succ d ih =>
    intro h fu n q row sh hd hfu hh hf hng
    obtain ⟨m, rfl⟩ : ∃ m, fu = m + 1 := ⟨fu - 1, by omega⟩
    have hf0 := hf
    obtain ⟨i1, i2, i3, i4, i5, i6, i7, i8⟩ := hf
    rw [fm_Search_flood_61]
    by_cases hhn : h = n
    · subst hhn
      refine xW_t (by omega) (xW_some ⟨i1, i2, yfi_fl hf0, Or.inl ⟨rfl, ?_, h, q, i3, fun i j hi hj he => ybf_inj i6 i j hi hj he, fun c => ?_⟩⟩)
      · intro L e hL hg
        obtain ⟨i, h1, h2⟩ := ybf_all i6 L.length L e rfl hL
        subst h2
        exact hng i h1 hg
      · constructor
        · rintro ⟨L, hL⟩
          exact ybf_all i6 L.length L c rfl hL
        · rintro ⟨i, h1, h2⟩
          subst h2
          exact ⟨row i, i6.2.1 i h1⟩
    · refine xW_f (by omega) (xW_f (by omega) (xW_t ⟨by omega, by omega⟩ (xW_nm ?_)))
      have hhn' : h < n := by omega
      have e22 : sh 22 0 ((h : Int)).toNat = (q h : Int) := i5 h hhn'
      rw [e22]
      have hc := i8.2.1 h hhn'
      have e1 : xdiv (q h : Int) 24 = ((q h / 24 : Nat) : Int) := by rw [xdiv_p (by omega)]; omega
      rw [e1]
      refine xW_if (fun hg => xW_some ?_) (fun hg => ?_)
      · exact ⟨i1, i2, yfi_fl hf0, Or.inr ⟨n, q, row, h, hhn', i4, rfl, hg, i6.2.1 h hhn', fun L e hL he => ybf_goal (gl := fun c => ((c / 24 : Nat) : Int) = gl) i6 hhn' hng hL he, i8⟩⟩
      · refine l_flood101 (u := q h) ht hv hs hb hw ?_ hhn' rfl hf0
        intro n' q' row' s hn' hsm hf'
        refine xW_nm ?_
        rw [w32_s (by omega)]
        obtain ⟨j1, j2, j3, j4, j5, j6, j7, j8⟩ := hf'
        refine ih (h + 1) m n' q' row' s (by omega) (by omega) (by omega) ⟨j1, j2, j3, j4, j5, ybf_next j6 hn', j7, j8⟩ ?_
        intro j hj
        rw [hsm.2 j (by omega)]
        by_cases hjh : j = h
        · subst hjh; exact hg
        · exact hng j (by omega)
