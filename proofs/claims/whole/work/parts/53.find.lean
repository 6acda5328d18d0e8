/-! the row of least effort is found: the whole search -/
def ygl (g : Int) (e : Nat) : Prop := ((e / 24 : Nat) : Int) = g
section FD
variable {P : xa_H} {c : Nat → Nat} {σ : xa_H}
def yfnd (σ P : xa_H) (c : Nat → Nat) (s0 : Nat) (g : Int) (s : xa_H) : Prop :=
  xfs [0, 1, 12, 14, 15, 16, 21] [] σ s ∧ yhc s P ∧
  (((∀ L e, ygo (yG P) (ynx P) s0 L e → ¬ ygl g e) ∧ s 0 0 2 = 0 ∧ s 0 0 3 = -6) ∨ ∃ L, yopt (yG P) (ynx P) (ygl g) c s0 L ∧ yrw s L ∧ s 0 0 3 = (ysum c L : Int))
theorem ywt_r (hc : ∀ m, m < 12 → c m ≤ 90) : ∀ m, m < 12 → 1 ≤ ywt 4096 c m ∧ ywt 4096 c m ≤ 368641 := by
  intro m hm
  have := hc m hm
  unfold ywt
  omega
theorem yG_lt {u : Nat} (h : yG P u) : u < 3456 := h.1
theorem l_find61 (ht : yct σ) (hv : yPv P) (hs : ysc σ P) (hb : σ 3 0 9 = ((yhd P : Nat) : Int)) (hwy : ywy σ P) (hc : ∀ m, m < 12 → c m ≤ 90) (hwt : ∀ m, m < 12 → σ 13 0 m = ((ywt 4096 c m : Nat) : Int))
    {s0 : Nat} (hs0 : ycell P s0) {gl : Nat → Prop} {Q : xa_H → Prop} {K : xa_H → Option xa_H}
    (hQ1 : ∀ s, xfs [1, 14, 15, 16, 21] [] σ s → yhc s P → (∀ L e, ygo (yG P) (ynx P) s0 L e → ¬ gl e) → xW (K s) Q)
    (hQ2 : ∀ s L, xfs [0, 1, 12, 14, 15, 16, 21] [] σ s → yhc s P → yopt (yG P) (ynx P) gl c s0 L → yrw s L → s 0 0 3 = (ysum c L : Int) → Q s)
    {F0 : Nat → Int} {N0 : Nat} {M0 : Nat → Prop} {g0 : xa_H} (S0 : yds σ g0 P F0 N0 M0) (J0 : ydj P gl (ywt 4096 c) F0 M0 (fun _ => False)) (h2 : σ 0 0 2 = 0) :
    xW (fm_Cheapest_find_61 (s0 : Int) K xFU 0 g0) Q := by
  have hW := ywt_r hc
  have hW2 : ∀ m, m < 12 → ywt 4096 c m ≤ 368641 := fun m hm => (hW m hm).2
  have hw1 : ∀ m, 1 ≤ ywt 4096 c m := fun m => by unfold ywt; omega
  refine xfor0 (fun n (j : Int) (g : xa_H) => fm_Cheapest_find_61 (s0 : Int) K n j g) 3456
    (fun j g => ∃ F N M Sd z, yds σ g P F N M ∧ ydj P gl (ywt 4096 c) F M Sd ∧ ydn P (ywt 4096 c) F Sd 3456 0 ∧ ¬ Sd s0 ∧ (∀ i, i < j → Sd (z i)) ∧ (∀ i k, i < j → k < j → z i = z k → i = k))
    _ (xfu_b (by omega)) ?_ ?_ g0 ⟨F0, N0, M0, fun _ => False, fun _ => 0, S0, J0, fun s (hs' : False) => hs'.elim, fun h => h, fun i hi => by omega, fun i k hi => by omega⟩
  · rintro fu j g hj ⟨F, N, M, Sd, z, S, J, D, hn0, z1, z2⟩ ih
    show xW (fm_Cheapest_find_61 (s0 : Int) K (fu + 1) (j : Int) g) Q
    rw [fm_Cheapest_find_61]
    obtain ⟨s1, s13, s2, s3, s4, s5, s6⟩ := S
    refine xW_f (by omega) ?_
    refine xW_if (fun hle => ?_) (fun hgt => ?_)
    · refine hQ1 g s1 s2 ?_
      intro L e hL he
      obtain ⟨v, hv1, _⟩ := (ydj_low hW2 J D hL he).2 hn0
      obtain ⟨h, k1, k2⟩ := s6
      obtain ⟨i, hi, _⟩ := (k1.2.2.2 v).mp hv1
      omega
    · obtain ⟨N', rfl⟩ : ∃ N', N = N' + 1 := ⟨N - 1, by omega⟩
      refine xW_b2 (q_take s3 s5 s4 s6) ?_
      rintro v s4' ⟨f1, f2, u, f3, f4, f5, f6, f7⟩
      have f3 : v = (u : Int) := f3
      have f1 : ∀ K, ¬ K = 1 → ¬ K = 15 → ¬ K = 16 → s4' K = g K := f1
      have hfr : xfs [1, 14, 15, 16, 21] [] σ s4' := by
        refine xfs_t s1 ⟨fun K hK _ => f1 K (fun e => hK (by rw [e]; decide)) (fun e => hK (by rw [e]; decide)) (fun e => hK (by rw [e]; decide)), fun i s _ => ?_⟩
        rw [f1 3 (by decide) (by decide) (by decide)]
      have hyh : yhc s4' P := by
        unfold yhc
        rw [f1 21 (by decide) (by decide) (by decide)]
        exact s2
      have e14 : s4' 14 = g 14 := f1 14 (by decide) (by decide) (by decide)
      have e0 : s4' 0 = σ 0 := (f1 0 (by decide) (by decide) (by decide)).trans (s1.1 0 (by decide) (by decide))
      have e13 : s4' 13 = g 13 := f1 13 (by decide) (by decide) (by decide)
      have hGu := J.1 u (Or.inl f5)
      obtain ⟨hG, hF0, hFB, L0, e0', l1, l2, l3⟩ := hGu
      have hnu : ¬ Sd u := J.2.2.1 u f5
      have hlb : ∀ {L : List Nat} {e : Nat}, ygo (yG P) (ynx P) u L e → gl e → F u ≤ (ysum (ywt 4096 c) L : Int) := by
        intro L e hL he
        obtain ⟨v', hv1, hv2⟩ := (ydj_low hW2 J D hL he).2 hnu
        have := f6 v' hv1
        omega
      have hdi : ydi (yG P) (ynx P) gl (ywt 4096 c) u (F u).toNat := by
        refine ⟨⟨L0, e0', l1, l2, by omega⟩, fun L e hL he => ?_⟩
        have := hlb hL he
        omega
      have hbd := ydi_b (N := 3456) (W := 368641) (fun u hu => yG_lt hu) hw1 hW2 hdi
      rw [f3]
      refine xW_if (fun hst => ?_) (fun hst => ?_)
      · have hus : u = s0 := by omega
        subst hus
        refine xW_be (rd14 hs0.1) (xW_nm ?_)
        rw [e14, s3 u hs0.1]
        obtain ⟨L, hL⟩ := ygre_ex hw1 _ hdi
        have hopt := yopt_g (N := 3456) (K := 4096) (fun u hu => yG_lt hu) (by decide) hL
        obtain ⟨eL, r1, r2, r3⟩ := ygre_go hw1 hL
        have hlen := yopt_len (N := 3456) (fun u hu => yG_lt hu) hopt
        unfold fm_Cheapest_walk
        have hlow : ∀ v, ycell P v → xup s4' 0 0 3 (xdiv (F u) 4096) 14 0 v < (((F u).toNat : Nat) : Int) → ∃ d, xup s4' 0 0 3 (xdiv (F u) 4096) 14 0 v = ((d : Nat) : Int) ∧ ydi (yG P) (ynx P) gl (ywt 4096 c) v d := by
          intro v hv' hlt
          rw [xup_o (by omega), e14, s3 v hv'.1] at hlt ⊢
          have hnM : ¬ M v := fun hM => by have := f6 v hM; omega
          have hSv : Sd v := by
            cases Classical.em (Sd v) with
            | inl h => exact h
            | inr hn => have := J.2.1 v hv'.1 hnM hn; omega
          obtain ⟨b1, b2, b3, L', e', b4, b5, b6⟩ := J.1 v (Or.inr hSv)
          refine ⟨(F v).toNat, by omega, ⟨L', e', b4, b5, by omega⟩, fun L'' e'' b7 b8 => ?_⟩
          have := (ydj_low hW2 J D b7 b8).1 hSv
          omega
        have hup : ∀ v d, ydi (yG P) (ynx P) gl (ywt 4096 c) v d → d < (F u).toNat → xup s4' 0 0 3 (xdiv (F u) 4096) 14 0 v = (d : Int) := by
          intro v d hd hlt
          have hGv := ydi_G hd
          rw [xup_o (by omega), e14, s3 v hGv.1]
          obtain ⟨L', e', b4, b5, b6⟩ := hd.1
          have hlow' := ydj_low hW2 J D b4 b5
          have hSv : Sd v := by
            cases Classical.em (Sd v) with
            | inl h => exact h
            | inr hn =>
              obtain ⟨v', w1, w2⟩ := hlow'.2 hn
              have := f6 v' w1
              omega
          have h7 := hlow'.1 hSv
          obtain ⟨b1, b2, b3, L2, e2, c4, c5, c6⟩ := J.1 v (Or.inr hSv)
          have := hd.2 L2 e2 c4 c5
          omega
        have hfr7 : xfs [0, 1, 12, 14, 15, 16, 21] [] σ (xup s4' 0 0 3 (xdiv (F u) 4096)) := xfs_t (xfs_m hfr (by decide) (by decide)) (xfs_up (by decide) (by decide))
        have hud : xup s4' 0 0 3 (xdiv (F u) 4096) 14 0 u = (((F u).toNat : Nat) : Int) := by
          rw [xup_o (by omega), e14, s3 u hs0.1]; omega
        have hwk := l_walk (σ0 := xup s4' 0 0 3 (xdiv (F u) 4096)) (yct_f hfr7 (by decide) ht) hv.1 (ywy_f hfr7 (by decide) hwy) (by
            intro m hm
            rw [xup_o (by omega), e13, s13]
            exact hwt m hm) hW (D0 := (F u).toNat) (by omega) hlow hup L [] u (F u).toNat xFU _ hL hud (Nat.le_refl _) (xfu_b (by omega)) (by show 0 + L.length < 3456; omega) (fun _ _ _ => rfl) (by
            refine ⟨?_, fun k hk => by cases hk⟩
            rw [xup_o (by omega), e0]; exact h2)
        refine xW_bind hwk ?_
        rintro s8 ⟨k1, k2, k3⟩
        refine xW_some (hQ2 s8 L ?_ ?_ hopt k3 ?_)
        · refine xfs_t hfr7 ⟨fun K hK _ => k1 K (fun e => hK (by rw [e]; decide)) (fun e => hK (by rw [e]; decide)), fun i s _ => by rw [k1 3 (by decide) (by decide)]⟩
        · unfold yhc
          rw [k1 21 (by decide) (by decide)]
          intro c' hc'
          rw [xup_o (by omega)]
          exact hyh c' hc'
        · rw [k2, xup_at, xdiv_p hF0]
          have : (ysum (ywt 4096 c) L : Int) = F u := by omega
          rw [ysum_w] at this
          omega
      · have htk := ydj_take J f5 f6
        have hSt : yds σ s4' P F N' (fun c => M c ∧ ¬ c = u) := ⟨hfr, e13.trans s13, hyh, by rw [e14]; exact s3, f2, by omega, f7⟩
        have hDn : ydn P (ywt 4096 c) F (fun c => Sd c ∨ c = u) u 0 := by
          rintro s (hs' | hs') a v' ha hx hG' hd
          · exact D s hs' a v' ha hx hG' (fun e => by
              have := (J.1 s (Or.inr hs')).1.1
              omega)
          · have := hd hs'; omega
        refine xW_bind (q_back ht hv hs hb hwy hwt hW2 hSt htk (Or.inr rfl) ?_ (by omega) hDn) ?_
        · rintro s (hs' | hs')
          · exact J.2.2.2.2 s u hs' f5
          · rw [hs']; exact Int.le_refl _
        rintro s9 ⟨F', N2, M', b1, b2, b3, b4⟩
        refine xW_nm ?_
        rw [w32_s (by omega)]
        refine ih s9 ⟨F', N2, M', fun c => Sd c ∨ c = u, fun i => if i = j then u else z i, b1, b2, ?_, ?_, ?_, ?_⟩
        · intro s hs' a v' ha hx hG' _
          exact b3 s hs' a v' ha hx hG' (fun _ => ha)
        · rintro (h | h)
          · exact hn0 h
          · exact hst (by rw [h])
        · intro i hi
          show Sd (if i = j then u else z i) ∨ (if i = j then u else z i) = u
          by_cases hij : i = j
          · rw [if_pos hij]; exact Or.inr rfl
          · rw [if_neg hij]; exact Or.inl (z1 i (by omega))
        · intro i k hi hk e
          have e : (if i = j then u else z i) = (if k = j then u else z k) := e
          by_cases hij : i = j
          · by_cases hkj : k = j
            · omega
            · rw [if_pos hij, if_neg hkj] at e
              exact absurd (e ▸ z1 k (by omega)) hnu
          · by_cases hkj : k = j
            · rw [if_neg hij, if_pos hkj] at e
              exact absurd (e ▸ z1 i (by omega)) hnu
            · rw [if_neg hij, if_neg hkj] at e
              exact z2 i k (by omega) (by omega) e
  · rintro fu g ⟨F, N, M, Sd, z, S, J, D, hn0, z1, z2⟩
    exfalso
    have := pig 3456 3457 (fun i => if i = 3456 then s0 else z i) ?_ ?_
    · omega
    · intro i hi
      show (if i = 3456 then s0 else z i) < 3456
      by_cases h : i = 3456
      · rw [if_pos h]; exact hs0.1
      · rw [if_neg h]; exact (J.1 _ (Or.inr (z1 i (by omega)))).1.1
    · intro i k hi hk e
      have e : (if i = 3456 then s0 else z i) = (if k = 3456 then s0 else z k) := e
      by_cases h : i = 3456
      · by_cases h' : k = 3456
        · omega
        · rw [if_pos h, if_neg h'] at e
          exact absurd (e ▸ z1 k (by omega)) hn0
      · by_cases h' : k = 3456
        · rw [if_neg h, if_pos h'] at e
          exact absurd (e ▸ z1 i (by omega)) hn0
        · rw [if_neg h, if_neg h'] at e
          exact z2 i k (by omega) (by omega) e
theorem l_find33 (ht : yct σ) (hv : yPv P) (hs : ysc σ P) (hb : σ 3 0 9 = ((yhd P : Nat) : Int)) {g : Nat} (hg : ∀ t, t < 24 → ycell P (24 * g + t)) {f1 : Int} {Q : xa_H → Prop} {K : xa_H → Option xa_H}
    (hK : ∀ s F N M, yds σ s P F N M → ydj P (ygl (g : Int)) (ywt 4096 c) F M (fun _ => False) → xW (K s) Q) {g0 : xa_H} (S0 : yds σ g0 P (fun _ => 2147483647) 0 (fun _ => False)) :
    xW (fm_Cheapest_find_33 f1 (g : Int) K xFU 0 g0) Q := by
  refine xfor0 (fun n (j : Int) (h : xa_H) => fm_Cheapest_find_33 f1 (g : Int) K n j h) 24
    (fun j h => ∃ F N M, yds σ h P F N M ∧ (∀ v, M v → yG P v ∧ F v = 0 ∧ v / 24 = g) ∧ (∀ v, v < 3456 → ¬ M v → F v = 2147483647) ∧ ∀ t, t < j → yG P (24 * g + t) → M (24 * g + t))
    _ (xfu_b (by omega)) ?_ ?_ g0 ⟨_, _, _, S0, fun v (h : False) => h.elim, fun _ _ _ => rfl, fun t ht => by omega⟩
  · rintro fu j h hj ⟨F, N, M, S, m1, m2, m3⟩ ih
    show xW (fm_Cheapest_find_33 f1 (g : Int) K (fu + 1) (j : Int) h) Q
    rw [fm_Cheapest_find_33]
    have hc := hg j hj
    refine xW_f (by omega) ?_
    have e : w32 (w32 ((g : Int) * 24) + (j : Int)) = ((24 * g + j : Nat) : Int) := by
      have := hc.1
      exact w32_2 (by omega) (by omega) (by omega)
    rw [e]
    refine xW_bind (q_come (Sd := fun _ => False) ht hv hs hb S (fun v hM => by rw [(m1 v hM).2.1]; decide) (fun v hv' hM _ => m2 v hv' hM) hc (by decide) (fun h => by cases h)) ?_
    rintro s' (⟨h1, h2⟩ | ⟨h1, h2, h3, N2, h4⟩)
    · refine xW_nm ?_
      rw [w32_s (by omega)]
      refine ih s' ⟨F, N, M, h2, m1, m2, ?_⟩
      intro t ht' hG
      by_cases htj : t = j
      · subst htj
        rcases h1 with h1 | h1
        · exact absurd hG h1
        · cases Classical.em (M (24 * g + t)) with
          | inl h => exact h
          | inr hn =>
            have := m2 _ hc.1 hn
            omega
      · exact m3 t (by omega) hG
    · refine xW_nm ?_
      rw [w32_s (by omega)]
      refine ih s' ⟨_, N2, _, h4, ?_, ?_, ?_⟩
      · rintro v (hM | hM)
        · obtain ⟨a1, a2, a3⟩ := m1 v hM
          refine ⟨a1, ?_, a3⟩
          show (if v = 24 * g + j then (0 : Int) else F v) = 0
          by_cases hvj : v = 24 * g + j
          · rw [if_pos hvj]
          · rw [if_neg hvj]; exact a2
        · refine ⟨hM ▸ h1, ?_, by omega⟩
          show (if v = 24 * g + j then (0 : Int) else F v) = 0
          rw [if_pos hM]
      · intro v hv' hM
        show (if v = 24 * g + j then (0 : Int) else F v) = _
        rw [if_neg (fun e => hM (Or.inr e))]
        exact m2 v hv' (fun h => hM (Or.inl h))
      · intro t ht' hG
        by_cases htj : t = j
        · subst htj; exact Or.inr rfl
        · exact Or.inl (m3 t (by omega) hG)
  · rintro fu h ⟨F, N, M, S, m1, m2, m3⟩
    show xW (fm_Cheapest_find_33 f1 (g : Int) K (fu + 1) ((24 : Nat) : Int) h) Q
    rw [fm_Cheapest_find_33]
    refine xW_t (by omega) (hK h F N M S ⟨?_, ?_, ?_, ?_, ?_⟩)
    · rintro v (hM | hM)
      · obtain ⟨a1, a2, a3⟩ := m1 v hM
        refine ⟨a1, by omega, by omega, [], v, ygo_0 a1, ?_, ?_⟩
        · show ((v / 24 : Nat) : Int) = (g : Int)
          omega
        · show ((0 : Nat) : Int) = F v
          omega
      · cases hM
    · intro v hv' hM _
      exact m2 v hv' hM
    · intro v _ h; exact h
    · intro v hgl hG
      have hgl : ((v / 24 : Nat) : Int) = (g : Int) := hgl
      have e : v = 24 * g + v % 24 := by omega
      have := m3 (v % 24) (by omega) (e ▸ hG)
      rw [← e] at this
      exact (m1 v this).2.1
    · intro u v h; cases h
theorem q_find (ht : yct σ) (hv : yPv P) (hs : ysc σ P) (hh : yhc σ P) (hb : σ 3 0 9 = ((yhd P : Nat) : Int)) (hwy : ywy σ P) (hc : ∀ m, m < 12 → c m ≤ 90) (hwt : ∀ m, m < 12 → σ 13 0 m = ((ywt 4096 c m : Nat) : Int))
    {s0 g : Nat} (hs0 : ycell P s0) (hg : ∀ t, t < 24 → ycell P (24 * g + t)) : xW (fm_Cheapest_find (s0 : Int) (g : Int) σ) (yfnd σ P c s0 (g : Int)) := by
  unfold fm_Cheapest_find
  have hn0 : fm_Answer_none σ = some (xup (xup σ 0 0 2 0) 0 0 3 (-6)) := rfl
  refine xW_be hn0 ?_
  have f1 : xfs [0] [] σ (xup (xup σ 0 0 2 0) 0 0 3 (-6)) := xfs_t (xfs_up (by decide) (by decide)) (xfs_up (by decide) (by decide))
  have c2 : xup (xup σ 0 0 2 0) 0 0 3 (-6) 0 0 2 = 0 := by rw [xup_o (by omega), xup_at]
  have c3 : xup (xup σ 0 0 2 0) 0 0 3 (-6) 0 0 3 = -6 := xup_at
  generalize xup (xup σ 0 0 2 0) 0 0 3 (-6) = σ1 at f1 c2 c3 ⊢
  have ht1 := yct_f f1 (by decide) ht
  have hs1 := ysc_f f1 (by decide) (by decide) hs
  have hw1 := ywy_f f1 (by decide) hwy
  have hh1 := yhc_f f1 (by decide) hh
  have hb1 : σ1 3 0 9 = ((yhd P : Nat) : Int) := (f1.2 0 9 (by decide)).trans hb
  refine xW_b2 (q_fits ht1 hv hs1 hh1 hb1 hs0) ?_
  rintro b s3 ⟨k1, k2, k3⟩
  have k1 : xfs [21] [] σ1 s3 := k1
  refine xW_if (fun h0 => ?_) (fun h1 => ?_)
  · have h0 : b = 0 := h0
    have hnG : ¬ yG P s0 := by
      rcases k3 with ⟨h, _⟩ | ⟨_, h⟩
      · have h : b = 1 := h
        omega
      · exact h
    refine xW_some ⟨xfs_t (xfs_m f1 (by decide) (by decide)) (xfs_m k1 (by decide) (by decide)), k2, Or.inl ⟨fun L e hL _ => hnG (ygo_G hL), ?_, ?_⟩⟩
    · rw [k1.1 0 (by decide) (by decide)]; exact c2
    · rw [k1.1 0 (by decide) (by decide)]; exact c3
  · refine xW_bind (q_fill (K := 14) (i := 0) (n := 3456) rfl (by decide) 2147483647 s3) ?_
    rintro s5 ⟨r1, r2⟩
    refine xW_nm ?_
    have f5 : xfs [14] [] s3 s5 := ⟨fun K hK _ => by
      funext i' s'
      exact r1 K i' s' (fun e => hK (by rw [e.1]; decide)), fun i s _ => r1 3 i s (fun e => by omega)⟩
    have f6 : xfs [1, 14, 15, 16, 21] [] σ1 (xup s5 1 0 5 0) := xfs_t (xfs_m k1 (by decide) (by decide)) (xfs_t (xfs_m f5 (by decide) (by decide)) (xfs_up (by decide) (by decide)))
    have S0 : yds σ1 (xup s5 1 0 5 0) P (fun _ => 2147483647) 0 (fun _ => False) := by
      refine ⟨f6, f6.1 13 (by decide) (by decide), ?_, ?_, xup_at, by decide, fun _ => 0, ⟨fun i hi => by omega, fun i j hi => by omega, fun i _ hi => by omega, fun v => ⟨fun (h : False) => h.elim, fun (h : ∃ i, i < 0 ∧ 0 = v) => by obtain ⟨i, hi, _⟩ := h; omega⟩⟩, fun i hi => by omega⟩
      · intro v hv'
        rw [xup_o (by omega), f5.1 21 (by decide) (by decide)]
        exact k2 v hv'
      · intro v hv'
        rw [xup_o (by omega)]
        exact r2 v hv'
    refine l_find33 (c := c) ht1 hv hs1 hb1 hg ?_ S0
    intro s F N M S J
    have hwt1 : ∀ m, m < 12 → σ1 13 0 m = ((ywt 4096 c m : Nat) : Int) := by
      intro m hm
      rw [f1.1 13 (by decide) (by decide)]; exact hwt m hm
    refine l_find61 ht1 hv hs1 hb1 hw1 hc hwt1 hs0 (gl := ygl (g : Int)) ?_ ?_ S J c2
    · intro s' g1 g2 g3
      refine xW_some ⟨xfs_t (xfs_m f1 (by decide) (by decide)) (xfs_m g1 (by decide) (by decide)), g2, Or.inl ⟨g3, ?_, ?_⟩⟩
      · rw [g1.1 0 (by decide) (by decide)]; exact c2
      · rw [g1.1 0 (by decide) (by decide)]; exact c3
    · intro s' L g1 g2 g3 g4 g5
      exact ⟨xfs_t (xfs_m f1 (by decide) (by decide)) g1, g2, Or.inr ⟨L, g3, g4, g5⟩⟩
end FD
