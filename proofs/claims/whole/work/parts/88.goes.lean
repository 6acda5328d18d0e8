/-! the rows that go, in the class -/
theorem q_flood {σ P : xa_H} (ht : yct σ) (hv : yPv P) (hs : ysc σ P) (hh : yhc σ P) (hb : σ 3 0 9 = ((yhd P : Nat) : Int)) (hw : ywy σ P) (hf : yfl σ) {s0 : Nat} (hs0 : ycell P s0) (gl : Int) :
    xW (fm_Search_flood (s0 : Int) gl σ) (yfp σ P s0 gl) := by
  unfold fm_Search_flood
  refine l_flood2 hf ?_
  intro s f1 hclr
  refine xW_nm ?_
  have f2 : xfs [23] [10] σ (xup s 3 0 10 0) := xfs_t (xfs_m f1 (by decide) (by decide)) (xfs_u3 (by decide))
  have c2 : ∀ c, c < 3456 → xup s 3 0 10 0 23 0 c = -1 := fun c hc => by rw [xup_o (by omega)]; exact hclr c hc
  have d2 : xup s 3 0 10 0 3 0 10 = 0 := xup_at
  generalize xup s 3 0 10 0 = s6 at f2 c2 d2 ⊢
  have hh6 := yhc_f f2 (by decide) hh
  refine xW_b2 (q_fits (yct_f f2 (by decide) ht) hv (ysc_f f2 (by decide) (by decide) hs) hh6 (by rw [f2.2 0 9 (by decide)]; exact hb) hs0) ?_
  rintro v7 s8 ⟨g1, g2, g3⟩
  have g1 : xfs [21] [] s6 s8 := g1
  have g2 : yhc s8 P := g2
  have g3 : (v7 = 1 ∧ yG P s0) ∨ (v7 = 0 ∧ ¬ yG P s0) := g3
  have f8 : xfs [21, 23] [10] σ s8 := xfs_t (xfs_m f2 (by decide) (by decide)) (xfs_m g1 (by decide) (by decide))
  have c8 : ∀ c, c < 3456 → s8 23 0 c = -1 := fun c hc => by rw [g1.1 23 (by decide) (by decide)]; exact c2 c hc
  have d8 : s8 3 0 10 = 0 := by rw [g1.2 0 10 (by decide)]; exact d2
  refine xW_j ?_
  rcases g3 with ⟨g3, g4⟩ | ⟨g3, g4⟩
  · refine xW_f (by rw [g3]; decide) ?_
    have hr : fm_Search_reach (s0 : Int) 12 s8 = some (xup (xup (xup s8 23 0 s0 12) 22 0 0 (s0 : Int)) 3 0 10 1) := by
      unfold fm_Search_reach
      rw [wr23 (show s0 < 3456 from hs0.1), Option.bind_some]
      have e0 : xup s8 23 0 s0 12 3 0 10 = ((0 : Nat) : Int) := by rw [xup_o (by omega)]; exact d8
      rw [e0, wr22 (by decide), Option.bind_some, xnm_e]
      have e1 : xup (xup s8 23 0 s0 12) 22 0 0 (s0 : Int) 3 0 10 = ((0 : Nat) : Int) := by rw [xup_o (by omega)]; exact e0
      rw [e1, w32_s (by decide)]
      rfl
    refine xW_be hr ?_
    refine l_flood61 ht hv hs hb hw 3457 0 xFU 1 (fun _ => s0) (fun _ => []) _ (by omega) (xfu_b (by omega)) (by omega) ?_ (fun j hj => by omega)
    refine ⟨?_, ?_, xup_at, by omega, fun i hi => ?_, ybf_0 g4 rfl, fun c hc => ?_, ⟨?_, rfl⟩, fun i hi => hs0, fun i h0 hi => by omega⟩
    · exact xfs_t (xfs_m f8 (by decide) (by decide)) (xfs_t (xfs_t (xfs_up (by decide) (by decide)) (xfs_up (by decide) (by decide))) (xfs_u3 (by decide)))
    · refine yhc_f (L := [22, 23]) (M := [10]) (xfs_t (xfs_t (xfs_up (by decide) (by decide)) (xfs_up (by decide) (by decide))) (xfs_u3 (by decide))) (by decide) g2
    · have : i = 0 := by omega
      subst this
      rw [xup_o (by omega), xup_at]
    · rw [xup_o (by omega), xup_o (by omega), xup_v]
      by_cases hcs : c = s0
      · rw [if_pos ⟨rfl, rfl, hcs⟩]
        exact ⟨fun _ => ⟨0, by omega, hcs.symm⟩, fun _ => by decide⟩
      · rw [if_neg (fun q => hcs q.2.2), c8 c hc]
        refine ⟨fun q => absurd rfl q, ?_⟩
        rintro ⟨i, _, q⟩
        exact absurd q.symm hcs
    · rw [xup_o (by omega), xup_o (by omega), xup_at]
  · refine xW_t g3 ?_
    have hfu : ∃ m, xFU = m + 1 := ⟨xFU - 1, by unfold xFU; omega⟩
    obtain ⟨m, hm⟩ := hfu
    show xW (fm_Search_flood_61 gl (fun s => some ((-6), s)) xFU 0 s8) _
    rw [hm, fm_Search_flood_61, d8]
    refine xW_t (by omega) (xW_some ⟨xfs_m f8 (by decide) (by decide), g2, ⟨0, by omega, d8, fun i hi => by omega, fun c hc q => absurd (c8 c hc) q⟩, Or.inl ⟨rfl, fun L e q => absurd (ygo_G q) g4, 0, fun _ => 0, d8, fun i j hi => by omega, fun c => ?_⟩⟩)
    refine ⟨?_, ?_⟩
    · rintro ⟨L, q⟩
      exact absurd (ygo_G q) g4
    · rintro ⟨i, q, _⟩
      omega
theorem ysum_0 {c : Nat → Nat} (h : ∀ m, c m = 0) : ∀ L : List Nat, ysum c L = 0 := by
  intro L
  induction L with
  | nil => rfl
  | cons m r ih => unfold ysum; rw [h m, ih]
section GC
variable {σ f : xa_H} {t A D : Nat}
/-- findGoes -/
theorem q_findGoes (hs : yst σ f) (hv : yv f) (ht : t < 4) (hl : ¬ f 2 t 1 < 0) (hP : yPv (ypr f 0 t (ykd f 0) (A : Int) (D : Int))) (hsc : ysc σ (ypr f 0 t (ykd f 0) (A : Int) (D : Int))) (hh : yhc σ (ypr f 0 t (ykd f 0) (A : Int) (D : Int))) (hb : σ 3 0 9 = ((yhd (ypr f 0 t (ykd f 0) (A : Int) (D : Int)) : Nat) : Int)) (hfl : yfl σ) {v : Int} (hk : σ 0 0 1 = v) :
    xW (fm_S_findGoes t σ) fun s => xfs [0, 12, 21, 22, 23] [10] σ s ∧ yhc s (ypr f 0 t (ykd f 0) (A : Int) (D : Int)) ∧ yfl s ∧ s 0 0 1 = v ∧ yra s (ypr f 0 t (ykd f 0) (A : Int) (D : Int)) (ystd f 0 t) (f 2 t 3) (fun _ => 0) (fun L => (L.length : Int)) := by
  obtain ⟨hq, hlie⟩ := ystd_q hv ht hl
  have hth := hs.2.1.2.2.1 t ht
  have e4 : 4 * 0 + t = t := by omega
  rw [e4] at hth
  have h53 : σ 5 t 3 = f 2 t 3 := hth.1.2.2.2
  have hcell : ycell (ypr f 0 t (ykd f 0) (A : Int) (D : Int)) (ystd f 0 t) := ystd_c hlie (hv.1.2.2.1 t ht).2.2.2.2.1
  generalize hPP : ypr f 0 t (ykd f 0) (A : Int) (D : Int) = P at hP hsc hh hb hcell ⊢
  have hwy : ywy σ P := by rw [← hPP]; exact yst_wy hs
  unfold fm_S_findGoes
  refine xW_be (q_stand hs hv ht hl) ?_
  rw [h53]
  refine xW_b2 (q_flood hs.1 hP hsc hh hb hwy hfl hcell (f 2 t 3)) ?_
  rintro v2 s3 ⟨a1, a2, a3, a4⟩
  have a1 : xfs [21, 22, 23] [10] σ s3 := a1
  have a2 : yhc s3 P := a2
  have a3 : yfl s3 := a3
  have k3 : s3 0 0 1 = v := by rw [a1.1 0 (by decide) (by decide)]; exact hk
  rcases a4 with ⟨b1, b2, _⟩ | ⟨n, q, row, h, b1, b2, b3, b4, b5, b6, b7⟩
  · have b1 : v2 = -6 := b1
    have hn0 : fm_Answer_none s3 = some (xup (xup s3 0 0 2 0) 0 0 3 (-6)) := rfl
    refine xW_f (by omega) (xW_be hn0 (xW_some ⟨?_, ?_, ?_, ?_, Or.inl ⟨?_, ?_, xup_at⟩⟩))
    · exact xfs_t (xfs_m a1 (by decide) (by decide)) (xfs_t (xfs_up (by decide) (by decide)) (xfs_up (by decide) (by decide)))
    · exact yhc_f (L := [0]) (M := []) (xfs_t (xfs_up (by decide) (by decide)) (xfs_up (by decide) (by decide))) (by decide) a2
    · exact yfl_f (L := [0]) (M := []) (xfs_t (xfs_up (by decide) (by decide)) (xfs_up (by decide) (by decide))) (by decide) (by decide) a3
    · rw [xup_o (by omega), xup_o (by omega)]; exact k3
    · rintro ⟨L, e, h1, h2⟩
      exact b2 L e h1 h2
    · rw [xup_o (by omega), xup_at]
  · have b3 : v2 = (q h : Int) := b3
    refine xW_t (by omega) ?_
    rw [b3]
    have hwy3 : ywy s3 P := ywy_f a1 (by decide) hwy
    have htr := q_trace (yct_f a1 (by decide) hs.1) hP.1 hwy3 b7 b1 b2
    refine xW_bind (xPr_W (k_trace k3) htr) ?_
    rintro s5 ⟨⟨c1, c2⟩, c3⟩
    refine xW_nm (xW_some ⟨?_, ?_, ?_, ?_, Or.inr ⟨row h, ⟨q h, b5, b4, fun L' e' k1 k2 => ?_⟩, ?_, ?_⟩⟩)
    · exact xfs_t (xfs_m a1 (by decide) (by decide)) (xfs_t (xfs_m c1 (by decide) (by decide)) (xfs_up (by decide) (by decide)))
    · exact yhc_f (L := [0, 12]) (M := []) (xfs_t c1 (xfs_up (by decide) (by decide))) (by decide) a2
    · exact yfl_f (L := [0, 12]) (M := []) (xfs_t c1 (xfs_up (by decide) (by decide))) (by decide) (by decide) a3
    · rw [xup_o (by omega)]; exact c3
    · rw [ysum_0 (fun _ => rfl), ysum_0 (fun _ => rfl)]
      exact Or.inr ⟨rfl, b6 L' e' k1 k2⟩
    · refine ⟨by rw [xup_o (by omega)]; exact c2.1, fun k hk' => by rw [xup_o (by omega)]; exact c2.2 k hk'⟩
    · rw [xup_at]; exact c2.1
/-- cubes that are on -/
theorem q_cubesOnC (hs : yst σ f) (hv : yv f) (ht : t < 4) (hA : A < 16) (hP : yPv (ypr f 0 t (ykd f 0) (A : Int) (D : Int))) : fm_Thing_cubesOn t (A : Int) σ = some ((ycn (ypr f 0 t (ykd f 0) (A : Int) (D : Int)) : Nat) : Int) := by
  have hth := hs.2.1.2.2.1 t ht
  have e4 : 4 * 0 + t = t := by omega
  rw [e4] at hth
  have h50 : σ 5 t 0 = f 2 t 0 := hth.1.1
  have h28 : ∀ k, k < (f 2 t 0).toNat → σ 28 t k = ypr f 0 t (ykd f 0) (A : Int) (D : Int) 4 k 0 := fun k hk => (hth.2.2.1 k hk).2
  have e2 : ypr f 0 t (ykd f 0) (A : Int) (D : Int) 2 0 0 = f 2 t 0 := rfl
  have e5 : ypr f 0 t (ykd f 0) (A : Int) (D : Int) 5 0 0 = (A : Int) := rfl
  generalize ypr f 0 t (ykd f 0) (A : Int) (D : Int) = P at hP h28 e2 e5 ⊢
  have hn := hP.2.2.1
  rw [e2] at hn
  have key : ∀ (d j fu : Nat), j + d = (f 2 t 0).toNat → d < fu → fm_Thing_cubesOn_4 t (A : Int) σ (fun v => some v) fu ((yco P j : Nat) : Int) (j : Int) = some ((ycn P : Nat) : Int) := by
    intro d
    induction d with
    | zero =>
      intro j fu hj hd
      obtain ⟨m, rfl⟩ : ∃ m, fu = m + 1 := ⟨fu - 1, by omega⟩
      rw [fm_Thing_cubesOn_4, h50, if_pos (by omega)]
      unfold ycn
      rw [e2, ← hj]
      rfl
    | succ d ih =>
      intro j fu hj hd
      obtain ⟨m, rfl⟩ : ∃ m, fu = m + 1 := ⟨fu - 1, by omega⟩
      have hjn : j < (f 2 t 0).toNat := by omega
      have hle := yco_le (P := P) (n := j)
      have hg := hP.2.2.2.2.1 j (by rw [e2]; exact hjn)
      have hgo : fm_Thing_groupOf t (j : Int) σ = some (σ 28 t j) := by
        unfold fm_Thing_groupOf
        rw [rd28 (by omega)]; rfl
      have hsh : xshl (A : Int) 1 = ((A <<< 1 : Nat) : Int) := xshl_n (b := 1) (by decide) (by rw [Nat.shiftLeft_eq]; omega) (by omega)
      have hA2 : A <<< 1 < 2147483648 := by rw [Nat.shiftLeft_eq]; omega
      obtain ⟨g, hge⟩ : ∃ g : Nat, P 4 j 0 = (g : Int) := ⟨(P 4 j 0).toNat, by omega⟩
      have hnext := ih (j + 1) m (by omega) (by omega)
      have hon : yon P j ↔ (A <<< 1).testBit g = false := by
        rw [yon_b (by omega)]
        unfold yon
        rw [e5, hge]
        have tn : ∀ j : Nat, ((j : Int)).toNat = j := fun j => rfl
        rw [tn, tn]
        constructor
        · rintro (q | q)
          · exact Or.inl (by omega)
          · exact Or.inr q
        · rintro (q | q)
          · exact Or.inl (by omega)
          · exact Or.inr q
      rw [fm_Thing_cubesOn_4, h50, if_neg (by omega), hgo, Option.bind_some, h28 j hjn, hge, hsh, q_has hA2 (by omega), Option.bind_some]
      by_cases hc : yon P j
      · have e : yco P (j + 1) = yco P j + 1 := by
          show yco P j + @ite Nat (yon P j) (Classical.propDecidable _) 1 0 = _
          rw [if_pos hc]
        have hb := hon.mp hc
        rw [if_neg (show ¬ (A <<< 1).testBit g = true by rw [hb]; decide), if_pos rfl, xnm_e, xnm_e, w32_s (by omega), w32_s (by omega), ← e]
        exact hnext
      · have e : yco P (j + 1) = yco P j := by
          show yco P j + @ite Nat (yon P j) (Classical.propDecidable _) 1 0 = _
          rw [if_neg hc]; rfl
        have hb : (A <<< 1).testBit g = true := by
          cases hx : (A <<< 1).testBit g with
          | true => rfl
          | false => exact absurd (hon.mpr hx) hc
        rw [if_pos hb, if_neg (by decide), xnm_e, xnm_e, w32_k (x := ((yco P j : Nat) : Int) + 0) (k := yco P j) (by omega) (by omega), w32_s (by omega)]
        rw [e] at hnext
        exact hnext
  unfold fm_Thing_cubesOn
  exact key (f 2 t 0).toNat 0 xFU (by omega) (xfu_b (by omega))
theorem q_weigh {n : Nat} (hs : yst σ f) (hv : yv f) (hn : n ≤ 10) : xW (fm_Cheapest_weigh 26 0 (n : Int) σ) fun s => xfs [13] [] σ s ∧ ∀ m, m < 12 → s 13 0 m = ((ywt 4096 (ycs (ymcs f) n) m : Nat) : Int) := by
  have h26 : ∀ i, i < 4 → σ 26 0 i = ((ymcs f i : Nat) : Int) ∧ ymcs f i ≤ 9 := by
    intro i hi
    have h1 := (hs.2.1.2.2.2 i hi).2
    have h2 := (hv.1.2.2.2 i hi).2
    have h2 : 0 ≤ f 4 0 i ∧ f 4 0 i ≤ 9 := h2
    have h1 : σ 26 0 i = f 4 0 i := h1
    unfold ymcs
    omega
  unfold fm_Cheapest_weigh
  refine xfor0 (fun m (x : Int) (g : xa_H) => fm_Cheapest_weigh_2 26 0 (n : Int) (fun s => some s) m x g) 12
    (fun x g => xfs [13] [] σ g ∧ ∀ m, m < x → g 13 0 m = ((ywt 4096 (ycs (ymcs f) n) m : Nat) : Int)) _ (xfu_b (by omega)) ?_ ?_ σ ⟨xfs_r _ _ _, fun m hm => by omega⟩
  · rintro fu x g hx ⟨i1, i2⟩ ih
    show xW (fm_Cheapest_weigh_2 26 0 (n : Int) _ (fu + 1) (x : Int) g) _
    rw [fm_Cheapest_weigh_2]
    have e26 : g 26 = σ 26 := i1.1 26 (by decide) (by decide)
    have r0 : fm_S_read 26 0 0 g = some ((ymcs f 0 : Nat) : Int) := by rw [show fm_S_read 26 0 0 g = some (g 26 0 0) from rd26 (j := 0) (by decide), e26, (h26 0 (by decide)).1]
    have r1 : fm_S_read 26 0 1 g = some ((ymcs f 1 : Nat) : Int) := by rw [show fm_S_read 26 0 1 g = some (g 26 0 1) from rd26 (j := 1) (by decide), e26, (h26 1 (by decide)).1]
    have r2 : fm_S_read 26 0 2 g = some ((ymcs f 2 : Nat) : Int) := by rw [show fm_S_read 26 0 2 g = some (g 26 0 2) from rd26 (j := 2) (by decide), e26, (h26 2 (by decide)).1]
    have r3 : fm_S_read 26 0 3 g = some ((ymcs f 3 : Nat) : Int) := by rw [show fm_S_read 26 0 3 g = some (g 26 0 3) from rd26 (j := 3) (by decide), e26, (h26 3 (by decide)).1]
    have tn : ((x : Int)).toNat = x := rfl
    refine xW_f (by omega) (xW_be r0 (xW_j ?_))
    have hfin : ∀ (c : Nat) (v : Int), v = (c : Int) → c ≤ 90 → ycs (ymcs f) n x = c → xW (if 0 ≤ (x : Int) ∧ (x : Int) < 12 then xnm (xup g 13 0 ((x : Int)).toNat (w32 ((w32 (v * 4096)) + 1))) fun s13 => xnm (w32 ((x : Int) + 1) : Int) fun v14 => fm_Cheapest_weigh_2 26 0 (n : Int) (fun s => some s) fu v14 s13 else none) fun s => xfs [13] [] σ s ∧ ∀ m, m < 12 → s 13 0 m = ((ywt 4096 (ycs (ymcs f) n) m : Nat) : Int) := by
      intro c v hvc hc hy
      subst hvc
      have e : w32 (w32 ((c : Int) * 4096) + 1) = ((4096 * c + 1 : Nat) : Int) := w32_2 (by omega) (by omega) (by omega)
      rw [e, tn]
      refine xW_t ⟨by omega, by omega⟩ (xW_nm (xW_nm ?_))
      rw [w32_s (by omega)]
      refine ih _ ⟨xfs_t i1 (xfs_up (by decide) (by decide)), fun m hm => ?_⟩
      by_cases hmx : m = x
      · rw [hmx, xup_at]
        unfold ywt
        rw [hy]
      · rw [xup_o (by omega)]; exact i2 m (by omega)
    have hb : ∀ i, i < 4 → ymcs f i ≤ 9 := fun i hi => (h26 i hi).2
    by_cases x4 : x = 4
    · refine xW_t (by omega) (xW_be r1 (xW_nm ?_))
      have hm : ymcs f 1 * n ≤ 9 * 10 := Nat.mul_le_mul (hb 1 (by decide)) hn
      refine hfin (ymcs f 1 * n) _ (w32_k (Int.natCast_mul _ _).symm (by omega)) (by omega) ?_
      unfold ycs
      rw [if_neg (by omega), if_pos x4]
    · refine xW_f (by omega) ?_
      by_cases x5 : x = 5
      · refine xW_t (by omega) (xW_be r2 (hfin (ymcs f 2) _ rfl (by have := hb 2 (by decide); omega) ?_))
        unfold ycs
        rw [if_neg (by omega), if_neg x4, if_pos x5]
      · refine xW_f (by omega) ?_
        by_cases x6 : x < 6
        · refine xW_t (by omega) (hfin (ymcs f 0) _ rfl (by have := hb 0 (by decide); omega) ?_)
          unfold ycs
          rw [if_pos (by omega)]
        · refine xW_f (by omega) (xW_be r3 (hfin (ymcs f 3) _ rfl (by have := hb 3 (by decide); omega) ?_))
          unfold ycs
          rw [if_neg (by omega), if_neg x4, if_neg x5]
  · rintro fu g ⟨i1, i2⟩
    show xW (fm_Cheapest_weigh_2 26 0 (n : Int) _ (fu + 1) ((12 : Nat) : Int) g) _
    rw [fm_Cheapest_weigh_2]
    exact xW_t (by omega) (xW_some ⟨i1, i2⟩)
end GC
