/-! bar, in the class -/
section BC
variable {σ f : xa_H} {m D : Nat}
theorem q_becomeBar (hm : 1 ≤ m ∧ m ≤ 6) (σ : xa_H) : xW (fm_Thing_becomeBar 12 (m : Int) σ) fun g => (∀ K i s, ¬ ((K = 5 ∨ K = 27 ∨ K = 29) ∧ i = 12) → g K i s = σ K i s) ∧ g 5 12 0 = (m : Int) ∧
    (∀ k, k < m → ∀ a, a < 3 → g 27 12 (3 * k + a) = if a = 0 then (k : Int) else 0) ∧ ∀ a, a < 3 → g 29 12 a = ygr (fun k s => if s = 0 then (k : Int) else 0) a m := by
  unfold fm_Thing_becomeBar
  rw [if_neg (show ¬ 6 < (m : Int) by omega)]
  refine xW_nm (xW_bind (q_fill (K := 29) (i := 12) (n := 3) rfl (by decide) 0 _) ?_)
  rintro s2 ⟨r1, r2⟩
  have key : ∀ (d k fu : Nat) (g : xa_H), k + d = m → d < fu → (∀ K i s, ¬ ((K = 5 ∨ K = 27 ∨ K = 29) ∧ i = 12) → g K i s = σ K i s) → g 5 12 0 = (m : Int) → (∀ k', k' < k → ∀ a, a < 3 → g 27 12 (3 * k' + a) = if a = 0 then (k' : Int) else 0) → (∀ a, a < 3 → g 29 12 a = ygr (fun k s => if s = 0 then (k : Int) else 0) a k) →
      xW (fm_Thing_becomeBar_20 12 (fun s4 => some s4) fu (k : Int) g) fun g => (∀ K i s, ¬ ((K = 5 ∨ K = 27 ∨ K = 29) ∧ i = 12) → g K i s = σ K i s) ∧ g 5 12 0 = (m : Int) ∧
    (∀ k, k < m → ∀ a, a < 3 → g 27 12 (3 * k + a) = if a = 0 then (k : Int) else 0) ∧ ∀ a, a < 3 → g 29 12 a = ygr (fun k s => if s = 0 then (k : Int) else 0) a m := by
    intro d
    induction d with
    | zero =>
      intro k fu g hk hd h1 h2 h3 h4
      obtain ⟨n, rfl⟩ : ∃ n, fu = n + 1 := ⟨fu - 1, by omega⟩
      have e : k = m := by omega
      subst e
      rw [fm_Thing_becomeBar_20, h2]
      exact xW_t (by omega) (xW_some ⟨h1, h2, h3, h4⟩)
    | succ d ih =>
      intro k fu g hk hd h1 h2 h3 h4
      obtain ⟨n, rfl⟩ : ∃ n, fu = n + 1 := ⟨fu - 1, by omega⟩
      rw [fm_Thing_becomeBar_20, h2]
      refine xW_f (by omega) (xW_bind (q_putC (i0 := 12) (j := k) (by omega) (k : Int) 0 0 g) ?_)
      rintro s ⟨p1, ⟨p2, p3, p4⟩, p5, p6, p7⟩
      refine xW_nm ?_
      rw [w32_s (by omega)]
      refine ih (k + 1) n s (by omega) (by omega) (fun K i s' hK => ?_) ?_ (fun k' hk' a ha => ?_) (fun a ha => ?_)
      · rw [p1 K i s' (by omega) (by omega)]; exact h1 K i s' hK
      · rw [p1 5 12 0 (by omega) (by omega)]; exact h2
      · by_cases e : k' = k
        · subst e
          have : a = 0 ∨ a = 1 ∨ a = 2 := by omega
          rcases this with e | e | e
          · subst e; rw [if_pos rfl]; exact p2
          · subst e; rw [if_neg (by decide)]; exact p3
          · subst e; rw [if_neg (by decide)]; exact p4
        · rw [p1 27 12 (3 * k' + a) (by omega) (by omega)]
          exact h3 k' (by omega) a ha
      · have : a = 0 ∨ a = 1 ∨ a = 2 := by omega
        rcases this with e | e | e
        · subst e; rw [p5, h4 0 (by decide)]; rfl
        · subst e; rw [p6, h4 1 (by decide)]; rfl
        · subst e; rw [p7, h4 2 (by decide)]; rfl
  refine key m 0 xFU s2 (by omega) (xfu_b (by omega)) (fun K i s hK => ?_) ?_ (fun k' hk' => by omega) (fun a ha => r2 a ha)
  · rw [r1 K i s (by omega), xup_o (by omega)]
  · rw [r1 5 12 0 (by omega), xup_at]
theorem ybc_cell {Di : Int} (hv : yv f) (hl : ¬ f 2 0 1 < 0) {a : Nat} (ha : a < 3) : ycell (ybp f m 0 Di) (ybc f a) ∧ ybc f a / 24 = (f 2 0 1).toNat := by
  have hlie := (ystd_q hv (t := 0) (by decide) hl).2
  have hp : 0 ≤ f 2 0 1 ∧ f 2 0 1 < 144 := hlie.2.1
  have hq : qin (f 0 0 0) (f 0 0 1) (f 0 0 2) (f 2 0 1 / 24) (f 2 0 1 / 4 % 6) (f 2 0 1 % 4) := hlie.2.2.1
  have h := yph_r a ha 0 (by decide)
  have hd : ybc f a / 24 = (f 2 0 1).toNat := by unfold ybc; omega
  refine ⟨⟨by unfold ybc; omega, ?_⟩, hd⟩
  have eX : yX (ybc f a) = f 2 0 1 / 24 := by unfold yX; rw [hd]; omega
  have eY : yY (ybc f a) = f 2 0 1 / 4 % 6 := by unfold yY; rw [hd]; omega
  have eZ : yZ (ybc f a) = f 2 0 1 % 4 := by unfold yZ; rw [hd]; omega
  rw [eX, eY, eZ]
  exact hq
theorem q_barGoes (hs : yst σ f) (hv : yv f) (hf : yfl σ) (hl : ¬ f 2 0 1 < 0) (hm : 1 ≤ m ∧ m ≤ 6) (hD : D < 16) : xW (fm_S_barGoes 0 (m : Int) (D : Int) σ) fun r => yst r.2 f ∧ yfl r.2 ∧ r.2 3 0 8 = 12 ∧ (r.2 0 = σ 0 ∧ r.2 12 = σ 12) ∧ ((r.1 = 1 ∧ ybg f m D) ∨ (r.1 = 0 ∧ ¬ ybg f m D)) := by
  have hlie := (ystd_q hv (t := 0) (by decide) hl).2
  have hp : 0 ≤ f 2 0 1 ∧ f 2 0 1 < 144 := hlie.2.1
  have hP := ybp_v (f := f) (m := m) (a := 0) (D := (D : Int)) hv.1.1 hv.1.2.1 hm (by omega)
  unfold fm_S_barGoes
  refine xW_bind (q_becomeBar hm σ) ?_
  rintro s1 ⟨fr, g5, g27, g29⟩
  have fx1 : xfs [5, 27, 29] [] σ s1 := ⟨fun K hK _ => by
    funext i s
    exact fr K i s (fun q => hK (by rcases q.1 with e | e | e <;> rw [e] <;> decide)), fun i s _ => fr 3 i s (by omega)⟩
  have hs1 : yst s1 f := yst_f (fun K hK i hi => by
    funext s
    exact fr K i s (by omega)) hs
  have hf1 : yfl s1 := yfl_f fx1 (by decide) (by decide) hf
  have hfo : fm_Search_forget s1 = some (xup s1 3 0 8 (-1)) := rfl
  refine xW_be hfo ?_
  have f2 : xfs [] [8] s1 (xup s1 3 0 8 (-1)) := xfs_u3 (by decide)
  have h38 : xup s1 3 0 8 (-1) 3 0 8 < 0 := by rw [xup_at]; decide
  have g5 : xup s1 3 0 8 (-1) 5 12 0 = (m : Int) := by rw [xup_o (by omega)]; exact g5
  have g27 : ∀ k, k < m → ∀ a, a < 3 → xup s1 3 0 8 (-1) 27 12 (3 * k + a) = if a = 0 then (k : Int) else 0 := fun k hk a ha => by rw [xup_o (by omega)]; exact g27 k hk a ha
  have g29 : ∀ a, a < 3 → xup s1 3 0 8 (-1) 29 12 a = ygr (fun k s => if s = 0 then (k : Int) else 0) a m := fun a ha => by rw [xup_o (by omega)]; exact g29 a ha
  generalize xup s1 3 0 8 (-1) = s2 at f2 h38 g5 g27 g29 ⊢
  have hs2 := yst_f (xfc_s f2 (by intro K hK; exact absurd hK List.not_mem_nil)) hs1
  have hf2 : yfl s2 := yfl_f f2 (by decide) (by decide) hf1
  have hth : yth s2 12 (ybp f m 0 (D : Int) 2 0 0).toNat (ybp f m 0 (D : Int) 3) := ⟨by show m ≤ 10; omega, hP.2.2.2.1, g27, g29⟩
  have hab : xW (fm_Search_about 12 s2) fun s => xfs [18, 20, 21] [8] s2 s ∧ ysc s (ybp f m 0 (D : Int)) ∧ (∀ c, c < 3456 → s 21 0 c = -1) ∧ s 3 0 8 = ((12 : Nat) : Int) := by
    unfold fm_Search_about
    refine xW_t h38 ?_
    exact q_look (P := ybp f m 0 (D : Int)) hs2.1 hP hs2.2.1.1 (fun q hq => hs2.2.1.2.1 q hq) (i := 12) hth g5 (fun k hk => hs2.1.2.2.2 k (by have hk : k < m := hk; omega))
  refine xW_bind hab ?_
  rintro s3 ⟨f3, b1, b2, b3⟩
  have hoff : xW (fm_Search_off 0 (D : Int) s3) fun σ' => xfs [] [9] s3 σ' ∧ σ' 3 0 9 = ((yhn 0 D 5 : Nat) : Int) := q_off (A := 0) (D := D) (by decide) hD s3
  refine xW_bind hoff ?_
  rintro s4 ⟨f4, b4⟩
  have f24 : xfs [18, 20, 21] [8, 9] s2 s4 := xfs_t (xfs_m f3 (by decide) (by decide)) (xfs_m f4 (by decide) (by decide))
  have hs4 := yst_f (xfc_s f24 (by decide)) hs2
  have hf4 : yfl s4 := yfl_f f24 (by decide) (by decide) hf2
  have hsc4 : ysc s4 (ybp f m 0 (D : Int)) := ysc_f f4 (by decide) (by decide) b1
  have hhc4 : yhc s4 (ybp f m 0 (D : Int)) := yhc_f f4 (by decide) (yhc_1 b2)
  have hb4 : s4 3 0 9 = ((yhd (ybp f m 0 (D : Int)) : Nat) : Int) := b4
  have h84 : s4 3 0 8 = 12 := by rw [f4.2 0 8 (by decide)]; exact b3
  have h51 : s4 5 0 1 = f 2 0 1 := (hs4.2.1.2.2.1 0 (by decide)).1.2.1
  have h53 : s4 5 0 3 = f 2 0 3 := (hs4.2.1.2.2.1 0 (by decide)).1.2.2.2
  have hwy4 : ywy s4 (ybp f m 0 (D : Int)) := ⟨hs4.2.1.1, hs4.2.2.1⟩
  have ea2 : fm_Turns_after 0 2 s4 = some ((yn 0 2 : Nat) : Int) := q_after hs4.1 (w := 0) (t := 2) (by decide) (by decide)
  have ea1 : fm_Turns_after 0 1 s4 = some ((yn 0 1 : Nat) : Int) := q_after hs4.1 (w := 0) (t := 1) (by decide) (by decide)
  have hr1 := yph_r 1 (by decide) 0 (by decide)
  have hr2 := yph_r 2 (by decide) 0 (by decide)
  have e5 : w32 (s4 5 0 1 * 24) = ((ybc f 0 : Nat) : Int) := by
    rw [h51]
    refine w32_k ?_ ?_
    · show f 2 0 1 * 24 = ((24 * (f 2 0 1).toNat + 0 : Nat) : Int)
      omega
    · show 24 * (f 2 0 1).toNat + 0 < _
      omega
  have e7 : w32 (((ybc f 0 : Nat) : Int) + ((yn 0 2 : Nat) : Int)) = ((ybc f 1 : Nat) : Int) := by
    rw [← yph_1]
    refine w32_k ?_ ?_
    · show ((24 * (f 2 0 1).toNat + 0 : Nat) : Int) + ((yph 1 0 : Nat) : Int) = ((24 * (f 2 0 1).toNat + yph 1 0 : Nat) : Int)
      omega
    · show 24 * (f 2 0 1).toNat + yph 1 0 < _
      omega
  have e9 : w32 (((ybc f 0 : Nat) : Int) + ((yn 0 1 : Nat) : Int)) = ((ybc f 2 : Nat) : Int) := by
    rw [← yph_2]
    refine w32_k ?_ ?_
    · show ((24 * (f 2 0 1).toNat + 0 : Nat) : Int) + ((yph 2 0 : Nat) : Int) = ((24 * (f 2 0 1).toNat + yph 2 0 : Nat) : Int)
      omega
    · show 24 * (f 2 0 1).toNat + yph 2 0 < _
      omega
  refine xW_nm (xW_be ea2 (xW_nm (xW_be ea1 (xW_nm ?_))))
  rw [e5, e7, e9]
  have hflood : ∀ (c : Nat) (s : xa_H), xfs [21] [] s4 s → yhc s (ybp f m 0 (D : Int)) → ycell (ybp f m 0 (D : Int)) c → (ybg f m D ↔ ygoes (ybp f m 0 (D : Int)) c (f 2 0 3)) →
      xW (xb2 (fm_Search_flood (c : Int) (s 5 0 3) s) fun v20 s21 => if v20 < 0 then some ((0 : Int), s21) else some ((1 : Int), s21)) fun r => yst r.2 f ∧ yfl r.2 ∧ r.2 3 0 8 = 12 ∧ (r.2 0 = σ 0 ∧ r.2 12 = σ 12) ∧ ((r.1 = 1 ∧ ybg f m D) ∨ (r.1 = 0 ∧ ¬ ybg f m D)) := by
    intro c s fs hh hcell hiff
    have e53 : s 5 0 3 = f 2 0 3 := by rw [fs.1 5 (by decide) (by decide)]; exact h53
    rw [e53, hiff]
    have hss := yst_f (xfc_s fs (by decide)) hs4
    refine xW_b2 (q_flood hss.1 hP (ysc_f fs (by decide) (by decide) hsc4) hh (by rw [fs.2 0 9 (by decide)]; exact hb4) (ywy_f fs (by decide) hwy4) (yfl_f fs (by decide) (by decide) hf4) hcell (f 2 0 3)) ?_
    rintro v s21 ⟨c1, c2, c3, c4⟩
    have c1 : xfs [21, 22, 23] [10] s s21 := c1
    have c3 : yfl s21 := c3
    have hs21 := yst_f (xfc_s c1 (by decide)) hss
    have k8 : s21 3 0 8 = 12 := by rw [c1.2 0 8 (by decide), fs.2 0 8 (by decide)]; exact h84
    have k0 : s21 0 = σ 0 := by rw [c1.1 0 (by decide) (by decide), fs.1 0 (by decide) (by decide), f24.1 0 (by decide) (by decide), f2.1 0 (by decide) (by decide), fx1.1 0 (by decide) (by decide)]
    have k12 : s21 12 = σ 12 := by rw [c1.1 12 (by decide) (by decide), fs.1 12 (by decide) (by decide), f24.1 12 (by decide) (by decide), f2.1 12 (by decide) (by decide), fx1.1 12 (by decide) (by decide)]
    rcases c4 with ⟨d1, d2, _⟩ | ⟨n, q, row, h, d1, d2, d3, d4, d5, _⟩
    · have d1 : v = -6 := d1
      refine xW_t (by omega) (xW_some ⟨hs21, c3, k8, ⟨k0, k12⟩, Or.inr ⟨rfl, ?_⟩⟩)
      rintro ⟨L, e, q1, q2⟩
      exact d2 L e q1 q2
    · have d3 : v = (q h : Int) := d3
      exact xW_f (by omega) (xW_some ⟨hs21, c3, k8, ⟨k0, k12⟩, Or.inl ⟨rfl, row h, q h, d5, d4⟩⟩)
  have hc0 := (ybc_cell (m := m) (Di := (D : Int)) hv hl (a := 0) (by decide)).1
  have hc1 := (ybc_cell (m := m) (Di := (D : Int)) hv hl (a := 1) (by decide)).1
  have hc2 := (ybc_cell (m := m) (Di := (D : Int)) hv hl (a := 2) (by decide)).1
  refine xW_b2 (q_fits hs4.1 hP hsc4 hhc4 hb4 hc0) ?_
  rintro v10 s11 ⟨a1, a2, a3⟩
  have a1 : xfs [21] [] s4 s11 := a1
  have a2 : yhc s11 (ybp f m 0 (D : Int)) := a2
  refine xW_j ?_
  rcases a3 with ⟨a3, a4⟩ | ⟨a3, a4⟩
  · have a3 : v10 = 1 := a3
    exact xW_f (by omega) (hflood _ s11 a1 a2 hc0 (ybg_c hm.1 (Or.inl ⟨a4, rfl⟩)))
  · have a3 : v10 = 0 := a3
    refine xW_t a3 (xW_b2 (q_fits (yct_f a1 (by decide) hs4.1) hP (ysc_f a1 (by decide) (by decide) hsc4) a2 (by rw [a1.2 0 9 (by decide)]; exact hb4) hc1) ?_)
    rintro v17 s18 ⟨d1, d2, d3⟩
    have d1 : xfs [21] [] s11 s18 := d1
    have d2 : yhc s18 (ybp f m 0 (D : Int)) := d2
    rcases d3 with ⟨d3, d4⟩ | ⟨d3, d4⟩
    · have d3 : v17 = 1 := d3
      exact xW_f (by omega) (hflood _ s18 (xfs_t a1 d1) d2 hc1 (ybg_c hm.1 (Or.inr (Or.inl ⟨a4, d4, rfl⟩))))
    · have d3 : v17 = 0 := d3
      exact xW_t d3 (hflood _ s18 (xfs_t a1 d1) d2 hc2 (ybg_c hm.1 (Or.inr (Or.inr ⟨a4, d4, rfl⟩))))
theorem q_findBar (hs : yst σ f) (hv : yv f) (hc : yca σ f) (hf : yfl σ) (hl : ¬ f 2 0 1 < 0) (hD : D < 16) (hk : σ 0 0 1 = ((ykey 4 0 0 D : Nat) : Int)) : xW (fm_S_findBar 0 (D : Int) σ) (ypo f 4 0 0 D) := by
  have key : ∀ (m fu : Nat) (g : xa_H), m < fu → m ≤ 6 → yst g f → yca g f → yfl g → g 0 0 1 = ((ykey 4 0 0 D : Nat) : Int) → g 0 0 2 = ((0 : Nat) : Int) → (∀ m', m < m' → m' ≤ 6 → ¬ ybg f m' D) → xW (fm_S_findBar_10 0 (D : Int) (fun s7 => some s7) fu (m : Int) g) (ypo f 4 0 0 D) := by
    intro m
    induction m with
    | zero =>
      intro fu g hfu _ h1 h2 h3 h4 h5 hno
      obtain ⟨n, rfl⟩ : ∃ n, fu = n + 1 := ⟨fu - 1, by omega⟩
      rw [fm_S_findBar_10]
      exact xW_t (by decide) (xW_some ⟨h1, h2, h3, h4, 0, ⟨by decide, hno, Or.inl rfl⟩, Or.inl ⟨rfl, h5⟩⟩)
    | succ m ih =>
      intro fu g hfu hm6 h1 h2 h3 h4 h5 hno
      obtain ⟨n, rfl⟩ : ∃ n, fu = n + 1 := ⟨fu - 1, by omega⟩
      rw [fm_S_findBar_10]
      refine xW_f (by omega) (xW_b2 (q_barGoes h1 hv h3 hl ⟨by omega, hm6⟩ hD) ?_)
      rintro v s ⟨a1, a2, a3, ⟨a4, a5⟩, a6⟩
      have a1 : yst s f := a1
      have a2 : yfl s := a2
      have a3 : s 3 0 8 = 12 := a3
      have a4 : s 0 = g 0 := a4
      have k4 : s 0 0 1 = ((ykey 4 0 0 D : Nat) : Int) := by rw [a4]; exact h4
      have k5 : s 0 0 2 = ((0 : Nat) : Int) := by rw [a4]; exact h5
      rcases a6 with ⟨a6, a7⟩ | ⟨a6, a7⟩
      · have a6 : v = 1 := a6
        have fr : xfs [0, 12] [] s (xup (xup s 12 0 0 ((m + 1 : Nat) : Int)) 0 0 2 ((0 + 1 : Nat) : Int)) := xfs_t (xfs_up (by decide) (by decide)) (xfs_up (by decide) (by decide))
        refine xW_f (by omega) (xW_be (q_add k5 (by decide)) (xW_some ⟨yst_f (xfc_s fr (by decide)) a1, Or.inr (Or.inl ?_), yfl_f fr (by decide) (by decide) a2, ?_, m + 1, ⟨hm6, hno, Or.inr a7⟩, Or.inr ⟨by omega, xup_at, ?_⟩⟩))
        · rw [fr.2 0 8 (by decide)]; exact a3
        · rw [xup_o (by omega), xup_o (by omega)]; exact k4
        · rw [xup_o (by omega), xup_at]
      · have a6 : v = 0 := a6
        refine xW_t a6 (xW_nm ?_)
        rw [w32_k (x := ((m + 1 : Nat) : Int) + (-1)) (k := m) (by omega) (by omega)]
        refine ih n s (by omega) (by omega) a1 (Or.inr (Or.inl a3)) a2 k4 k5 (fun m' h h6 => ?_)
        by_cases e : m' = m + 1
        · rw [e]; exact a7
        · exact hno m' (by omega) h6
  have hn0 : fm_Answer_none σ = some (xup (xup σ 0 0 2 0) 0 0 3 (-6)) := rfl
  have f1 : xfs [0] [] σ (xup (xup σ 0 0 2 0) 0 0 3 (-6)) := xfs_t (xfs_up (by decide) (by decide)) (xfs_up (by decide) (by decide))
  unfold fm_S_findBar
  refine xW_be hn0 ?_
  refine key 6 xFU _ (xfu_b (by omega)) (by decide) (yst_f (xfc_s f1 (by decide)) hs) (yca_f f1 (by decide) (by decide) hc) (yfl_f f1 (by decide) (by decide) hf) ?_ ?_ (fun m' h h6 => by omega)
  · rw [xup_o (by omega), xup_o (by omega)]; exact hk
  · rw [xup_o (by omega), xup_at]; rfl
theorem ybl_1 {u v : Nat} (h1 : ybl f D u) (h2 : ybl f D v) : u = v := by
  by_cases h : u < v
  · rcases h2.2.2 with e | e
    · omega
    · exact absurd e (h1.2.1 v h h2.1)
  · by_cases h' : v < u
    · rcases h1.2.2 with e | e
      · omega
      · exact absurd e (h2.2.1 u h' h1.1)
    · omega
noncomputable def yba (f : xa_H) (D : Nat) : Int := @dite Int (∃ n, ybl f D n) (Classical.propDecidable _) (fun h => if Classical.choose h = 0 then -6 else ((Classical.choose h : Nat) : Int)) (fun _ => -6)
theorem yba_1 {n : Nat} (h : ybl f D n) : yba f D = if n = 0 then -6 else (n : Int) := by
  have he : ∃ n, ybl f D n := ⟨n, h⟩
  have e : Classical.choose he = n := ybl_1 (Classical.choose_spec he) h
  unfold yba
  rw [dif_pos he, e]
theorem yspec_4 {s : xa_H} (h : yspec 4 0 0 D f s) : (if 0 ≤ (0 : Int) ∧ (0 : Int) < s 0 0 2 then (if 0 ≤ (0 : Int) ∧ (0 : Int) < 3456 then s 12 0 ((0 : Int)).toNat else 0) else -6) = yba f D := by
  obtain ⟨n, h1, h2⟩ := h
  rw [yba_1 h1]
  rcases h2 with ⟨h2, h3⟩ | ⟨h2, h3, h4⟩
  · rw [h3, if_pos h2]
    exact if_neg (by decide)
  · have e : (if n = 0 then (-6 : Int) else (n : Int)) = (n : Int) := if_neg (by omega)
    rw [h3, e]
    exact h4
noncomputable def abar (f : xa_H) (D : Int) : Int := if 0 ≤ D ∧ D ≤ 15 then (if f 2 0 1 < 0 then -3 else yba f D.toNat) else -2
theorem K_bar (hs : yc σ f) (hv : yv f) (D : Int) : xW (fm_S_bar D σ) fun r => r.1 = abar f D ∧ yc r.2 f := by
  unfold fm_S_bar
  refine xW_be (q_isSetC D) ?_
  by_cases h2 : 0 ≤ D ∧ D ≤ 15
  · rw [if_pos h2]
    obtain ⟨d, hu⟩ : ∃ u : Nat, D = (u : Int) := ⟨D.toNat, by omega⟩
    subst hu
    have h51 : σ 5 0 1 = f 2 0 1 := (hs.1.2.1.2.2.1 0 (by decide)).1.2.1
    have e0 : 4 * 0 + (0 : Int).toNat = 0 := rfl
    rw [e0, h51]
    refine xW_f (by decide) (xW_f (by decide) (xW_f (by decide) (xW_t (by decide) ?_)))
    by_cases hl : f 2 0 1 < 0
    · have eA : abar f (d : Int) = -3 := by unfold abar; rw [if_pos h2, if_pos hl]
      rw [eA]
      exact xW_f (by omega) (xW_some ⟨rfl, hs⟩)
    · have eA : abar f (d : Int) = yba f d := by unfold abar; rw [if_pos h2, if_neg hl]; rfl
      rw [eA]
      refine xW_t (by omega) (xW_mono (l_ans (a := 4) (t := 0) (A := 0) (D := d) hs (by decide) (by decide) (by decide) (by decide) (by omega) (F := fun s => fm_S_findBar 0 (d : Int) s) (fun s k1 k2 k3 k4 => q_findBar k1 hv k2 k3 hl (by omega) k4) 0) ?_)
      rintro r ⟨r1, r2, r3⟩
      exact ⟨r2.trans (yspec_4 r1), r3⟩
  · have eA : abar f D = -2 := if_neg h2
    rw [eA, if_neg h2]
    exact xW_t rfl (xW_some ⟨rfl, hs⟩)
end BC
