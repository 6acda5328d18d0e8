/-! rows filled; the row of least effort is found -/
theorem q_fill {K i n : Nat} (hk : xalen K = n) (hn : n < 10000) (v : Int) (σ : xa_H) : xW (fm_Arrays_fill K i v σ) fun s => (∀ K' i' s', ¬ (K' = K ∧ i' = i) → s K' i' s' = σ K' i' s') ∧ ∀ j, j < n → s K i j = v := by
  unfold fm_Arrays_fill
  refine xW_nm ?_
  rw [hk]
  refine xfor0 (fun m (j : Int) (g : xa_H) => fm_Arrays_fill_5 K i v (n : Int) (fun s => some s) m j g) n
    (fun j g => (∀ K' i' s', ¬ (K' = K ∧ i' = i) → g K' i' s' = σ K' i' s') ∧ ∀ k, k < j → g K i k = v) _ (xfu_b (by omega)) ?_ ?_ σ ⟨fun _ _ _ _ => rfl, fun k hk => by omega⟩
  · rintro m j g hj ⟨i1, i2⟩ ih
    show xW (fm_Arrays_fill_5 K i v (n : Int) (fun s => some s) (m + 1) (j : Int) g) _
    rw [fm_Arrays_fill_5]
    refine xW_f (by omega) (xW_t ⟨by omega, by rw [hk]; omega⟩ (xW_nm (xW_nm ?_)))
    rw [w32_s (by omega)]
    refine ih _ ⟨fun K' i' s' hne => ?_, fun k hk' => ?_⟩
    · rw [xup_o (by rintro ⟨a, b, _⟩; exact hne ⟨a, b⟩)]
      exact i1 K' i' s' hne
    · have ej : ((j : Int)).toNat = j := rfl
      rw [ej]
      by_cases hkj : k = j
      · rw [hkj, xup_at]
      · rw [xup_o (by omega)]
        exact i2 k (by omega)
  · rintro m g ⟨i1, i2⟩
    show xW (fm_Arrays_fill_5 K i v (n : Int) (fun s => some s) (m + 1) (n : Int) g) _
    rw [fm_Arrays_fill_5]
    exact xW_t (by omega) (xW_some ⟨i1, i2⟩)
section FI
variable {P : xa_H} {gl : Nat → Prop} {w : Nat → Nat} {σ0 : xa_H}
theorem q_back (ht : yct σ0) (hv : yPv P) (hs : ysc σ0 P) (hb : σ0 3 0 9 = ((yhd P : Nat) : Int)) (hwy : ywy σ0 P) (hwt : ∀ m, m < 12 → σ0 13 0 m = (w m : Int)) (hW : ∀ m, m < 12 → w m ≤ 368641)
    {σ : xa_H} {F : Nat → Int} {N : Nat} {M Sd : Nat → Prop} {u : Nat} (S : yds σ0 σ P F N M) (J : ydj P gl w F M Sd) (hu : Sd u) (hmax : ∀ s, Sd s → F s ≤ F u) (hB : F u + 368641 ≤ 1274023296) (D : ydn P w F Sd u 0) :
    xW (fm_Cheapest_comeBackFrom (u : Int) σ) fun s => ∃ F' N' M', yds σ0 s P F' N' M' ∧ ydj P gl w F' M' Sd ∧ ydn P w F' Sd u 12 ∧ ∀ c, Sd c → F' c = F c := by
  have hGu := (J.1 u (Or.inr hu)).1
  have hcu := yG_cell hGu
  unfold fm_Cheapest_comeBackFrom
  refine xfor0 (fun n (j : Int) (g : xa_H) => fm_Cheapest_comeBackFrom_2 (u : Int) (fun s => some s) n j g) 12
    (fun m g => ∃ F' N' M', yds σ0 g P F' N' M' ∧ ydj P gl w F' M' Sd ∧ ydn P w F' Sd u m ∧ ∀ c, Sd c → F' c = F c) _ (xfu_b (by omega)) ?_ ?_ σ ⟨F, N, M, S, J, D, fun _ _ => rfl⟩
  · rintro fu m g hm ⟨F', N', M', S', J', D', E'⟩ ih
    show xW (fm_Cheapest_comeBackFrom_2 (u : Int) (fun s => some s) (fu + 1) (m : Int) g) _
    rw [fm_Cheapest_comeBackFrom_2]
    refine xW_f (by omega) ?_
    have htg : yct g := yct_f S'.1 (by decide) ht
    have hwg : ywy g P := ywy_f S'.1 (by decide) hwy
    refine xW_be (q_opp hm) (xW_be (q_step htg hv.1 hwg hcu.1 (yud_r hm)) ?_)
    cases hnx : ynx P u (yud m) with
    | none =>
      refine xW_t (by show (-6 : Int) < 0; decide) (xW_nm ?_)
      rw [w32_s (by omega)]
      refine ih g ⟨F', N', M', S', J', ?_, E'⟩
      intro s hs' a v ha hx hG hd
      by_cases hsu : s = u ∧ a = m
      · obtain ⟨e1, e2⟩ := hsu
        subst e1; subst e2
        have := (ynx_u hv.1 (yG_cell hG) ha hx).2
        rw [hnx] at this; cases this
      · exact D' s hs' a v ha hx hG (fun e => by have := hd e; have : ¬ a = m := fun e2 => hsu ⟨e, e2⟩; omega)
    | some v =>
      have hcv : ycell P v := ynx_c hv.1 hcu (yud_r hm) hnx
      refine xW_f (by show ¬ (v : Int) < 0; omega) ?_
      have h14 := S'.2.2.2.1
      refine xW_be (rd14 hcu.1) (xW_t ⟨by omega, by omega⟩ ?_)
      have ej : ((m : Int)).toNat = m := rfl
      rw [h14 u hcu.1, ej, S'.2.1, hwt m hm, E' u hu]
      have hwm := hW m hm
      have hF0 := (J.1 u (Or.inr hu)).2.1
      have ew : w32 (F u + (w m : Int)) = F u + (w m : Int) := w32_n (by omega) (by omega)
      rw [ew]
      show xW ((fm_Cheapest_come (v : Int) (F u + (w m : Int)) g).bind _) _
      have hback : ynx P v m = some u := ynx_b hv.1 hcu hm hnx
      refine xW_bind (q_come (Sd := Sd) ht hv hs hb S' (fun c hc => (J'.1 c (Or.inl hc)).2.2.1) J'.2.1 hcv (by omega) (fun hSv => ?_)) ?_
      · rw [E' v hSv]
        have := hmax v hSv
        omega
      · rintro s' (⟨h1, h2⟩ | ⟨h1, h2, h3, N2, h4⟩)
        · refine xW_nm ?_
          rw [w32_s (by omega)]
          refine ih s' ⟨F', N', M', h2, J', ?_, E'⟩
          intro s hs' a v' ha hx hG hd
          by_cases hsu : s = u ∧ a = m
          · obtain ⟨e1, e2⟩ := hsu
            subst e1; subst e2
            have := (ynx_u hv.1 (yG_cell hG) ha hx).2
            rw [hnx] at this
            have := Option.some.inj this
            subst this
            rcases h1 with h1 | h1
            · exact absurd hG h1
            · rw [E' s hu]; exact h1
          · exact D' s hs' a v' ha hx hG (fun e => by have := hd e; have : ¬ a = m := fun e2 => hsu ⟨e, e2⟩; omega)
        · refine xW_nm ?_
          rw [w32_s (by omega)]
          have hrow : ∃ L e, ygo (yG P) (ynx P) v L e ∧ gl e ∧ (ysum w L : Int) = F u + (w m : Int) := by
            obtain ⟨L, e, g1, g2, g3⟩ := (J.1 u (Or.inr hu)).2.2.2
            refine ⟨m :: L, e, ⟨h1, hm, u, hback, g1⟩, g2, ?_⟩
            show ((w m + ysum w L : Nat) : Int) = _
            omega
          refine ih s' ⟨_, N2, _, h4, ydj_come J' h1 h2 (by omega) (by omega) h3 hrow (fun s hs' => by rw [E' s hs']; have := hmax s hs'; omega), ?_, ?_⟩
          · intro s hs' a v' ha hx hG hd
            show (if v' = v then F u + (w m : Int) else F' v') ≤ (if s = v then F u + (w m : Int) else F' s) + (w a : Int)
            have hsv : ¬ s = v := fun e => h3 (e ▸ hs')
            rw [if_neg hsv]
            by_cases hsu : s = u ∧ a = m
            · obtain ⟨e1, e2⟩ := hsu
              subst e1; subst e2
              have := (ynx_u hv.1 (yG_cell hG) ha hx).2
              rw [hnx] at this
              have := Option.some.inj this
              subst this
              rw [if_pos rfl, E' s hu]
              exact Int.le_refl _
            · have h5 := D' s hs' a v' ha hx hG (fun e => by have := hd e; have : ¬ a = m := fun e2 => hsu ⟨e, e2⟩; omega)
              by_cases hvv : v' = v
              · rw [if_pos hvv]
                subst hvv
                omega
              · rw [if_neg hvv]; exact h5
          · intro c hc
            show (if c = v then F u + (w m : Int) else F' c) = F c
            rw [if_neg (fun e : c = v => h3 (e ▸ hc))]
            exact E' c hc
  · rintro fu g h
    show xW (fm_Cheapest_comeBackFrom_2 (u : Int) (fun s => some s) (fu + 1) ((12 : Nat) : Int) g) _
    rw [fm_Cheapest_comeBackFrom_2]
    exact xW_t (by omega) (xW_some h)
/-- from the start on -/
theorem q_first (ht : yct σ0) (hz : qsz (P 0 0 0) (P 0 0 1) (P 0 0 2)) (hwy : ywy σ0 P) (hwt : ∀ m, m < 12 → σ0 13 0 m = (w m : Int)) (hW : ∀ m, m < 12 → 1 ≤ w m ∧ w m ≤ 368641) {D0 : Nat} (hD0 : D0 ≤ 1274023296)
    (hlow : ∀ v, ycell P v → σ0 14 0 v < (D0 : Int) → ∃ d, σ0 14 0 v = ((d : Nat) : Int) ∧ ydi (yG P) (ynx P) gl w v d) (hup : ∀ v d, ydi (yG P) (ynx P) gl w v d → d < D0 → σ0 14 0 v = (d : Int))
    {u d : Nat} (hu : ydi (yG P) (ynx P) gl w u d) (hud : σ0 14 0 u = (d : Int)) (hd : d ≤ D0) {m v : Nat} (hf : yfst (yG P) (ynx P) gl w u d m v) : fm_Cheapest_firstMove (u : Int) σ0 = some (m : Int) := by
  obtain ⟨f1, f2, d', f3, f4, f5⟩ := hf
  have hc := yG_cell (ydi_G hu)
  have hwm := hW m f1
  have key : ∀ (e j n : Nat), j + e = m → e < n → fm_Cheapest_firstMove_2 (u : Int) σ0 (some 0) n (j : Int) = some (m : Int) := by
    intro e
    induction e with
    | zero =>
      intro j n hj hn
      obtain ⟨n', rfl⟩ : ∃ n', n = n' + 1 := ⟨n - 1, by omega⟩
      have : j = m := by omega
      subst this
      rw [fm_Cheapest_firstMove_2, if_neg (by omega), q_step ht hz hwy hc.1 f1, Option.bind_some, f2, if_neg (by show ¬ (v : Int) < 0; omega)]
      have hcv := yG_cell (ydi_G f3)
      show ((fm_S_read 14 0 (v : Int) σ0).bind _) = _
      have ej : ((j : Int)).toNat = j := rfl
      rw [rd14 hcv.1, Option.bind_some, rd14 hc.1, Option.bind_some, if_pos ⟨by omega, by omega⟩, hup v d' f3 (by omega), hud, ej, hwt j f1, w32_n (by omega) (by omega), if_pos (by omega)]
    | succ e ih =>
      intro j n hj hn
      obtain ⟨n', rfl⟩ : ∃ n', n = n' + 1 := ⟨n - 1, by omega⟩
      have hwj := hW j (by omega)
      rw [fm_Cheapest_firstMove_2, if_neg (by omega), q_step ht hz hwy hc.1 (by omega), Option.bind_some]
      cases hnx : ynx P u j with
      | none =>
        rw [if_pos (by show (-6 : Int) < 0; decide), xnm_e, w32_s (by omega)]
        exact ih (j + 1) n' (by omega) (by omega)
      | some v' =>
        have hcv := ynx_c hz hc (by omega) hnx
        rw [if_neg (by show ¬ (v' : Int) < 0; omega)]
        show ((fm_S_read 14 0 (v' : Int) σ0).bind _) = _
        have ej : ((j : Int)).toNat = j := rfl
        rw [rd14 hcv.1, Option.bind_some, rd14 hc.1, Option.bind_some, if_pos ⟨by omega, by omega⟩, hud, ej, hwt j (by omega), w32_n (by omega) (by omega), if_neg ?_, xnm_e, w32_s (by omega)]
        · exact ih (j + 1) n' (by omega) (by omega)
        · intro he
          obtain ⟨d2, g1, g2⟩ := hlow v' hcv (by omega)
          exact f5 j v' d2 (by omega) hnx g2 (by omega)
  unfold fm_Cheapest_firstMove
  exact key m 0 xFU (by omega) (xfu_b (by omega))
theorem q_add {σ : xa_H} {n : Nat} {v : Int} (h : σ 0 0 2 = (n : Int)) (hn : n < 3456) : fm_Answer_add v σ = some (xup (xup σ 12 0 n v) 0 0 2 ((n + 1 : Nat) : Int)) := by
  unfold fm_Answer_add
  rw [h, wr12 hn, Option.bind_some, xnm_e, xup_o (by omega), h, w32_s (by omega)]
theorem l_walk (ht : yct σ0) (hz : qsz (P 0 0 0) (P 0 0 1) (P 0 0 2)) (hwy : ywy σ0 P) (hwt : ∀ m, m < 12 → σ0 13 0 m = (w m : Int)) (hW : ∀ m, m < 12 → 1 ≤ w m ∧ w m ≤ 368641) {D0 : Nat} (hD0 : D0 ≤ 1274023296)
    (hlow : ∀ v, ycell P v → σ0 14 0 v < (D0 : Int) → ∃ d, σ0 14 0 v = ((d : Nat) : Int) ∧ ydi (yG P) (ynx P) gl w v d) (hup : ∀ v d, ydi (yG P) (ynx P) gl w v d → d < D0 → σ0 14 0 v = (d : Int)) :
    ∀ (r A : List Nat) (u d fu : Nat) (σ : xa_H), ygre (yG P) (ynx P) gl w u d r → σ0 14 0 u = (d : Int) → d ≤ D0 → r.length < fu → A.length + r.length < 3456 → (∀ K, ¬ K = 0 → ¬ K = 12 → σ K = σ0 K) → yrw σ A →
      xW (fm_Cheapest_walk_5 (fun s => some s) fu (u : Int) (A.length : Int) σ) fun s => (∀ K, ¬ K = 0 → ¬ K = 12 → s K = σ0 K) ∧ s 0 0 3 = σ 0 0 3 ∧ yrw s (A ++ r) := by
  intro r
  induction r with
  | nil =>
    rintro A u d fu σ ⟨g1, g2⟩ hud hd hfu hl hfr hA
    obtain ⟨n', rfl⟩ : ∃ n', fu = n' + 1 := ⟨fu - 1, by omega⟩
    have hc := yG_cell (ydi_G g1)
    rw [fm_Cheapest_walk_5]
    refine xW_f (by omega) (xW_be (rd14 hc.1) ?_)
    rw [hfr 14 (by decide) (by decide), hud]
    refine xW_t (by omega) (xW_some ⟨hfr, rfl, ?_⟩)
    rw [List.append_nil]; exact hA
  | cons m r ih =>
    rintro A u d fu σ ⟨g1, g2, v, d', g3, g4, g5⟩ hud hd hfu hl hfr hA
    have hl1 : (m :: r).length = r.length + 1 := rfl
    obtain ⟨n', rfl⟩ : ∃ n', fu = n' + 1 := ⟨fu - 1, by omega⟩
    have hc := yG_cell (ydi_G g1)
    rw [fm_Cheapest_walk_5]
    refine xW_f (by omega) (xW_be (rd14 hc.1) ?_)
    have e14 := hfr 14 (by decide) (by decide)
    rw [e14, hud]
    refine xW_f (by omega) ?_
    have htg : yct σ := by
      unfold yct
      rw [hfr 31 (by decide) (by decide), hfr 32 (by decide) (by decide), hfr 19 (by decide) (by decide), hfr 28 (by decide) (by decide)]
      exact ht
    have hwg : ywy σ P := by
      unfold ywy
      rw [hfr 7 (by decide) (by decide), hfr 34 (by decide) (by decide)]
      exact hwy
    have hm := g3.1
    have hwm := hW m hm
    refine xW_be (q_first htg hz hwg (by rw [hfr 13 (by decide) (by decide)]; exact hwt) hW hD0 (by rw [e14]; exact hlow) (by rw [e14]; exact hup) g1 (by rw [e14]; exact hud) hd g3) ?_
    refine xW_be (q_sign hm) (xW_be (q_add hA.1 (by omega)) ?_)
    have hfr' : ∀ K, ¬ K = 0 → ¬ K = 12 → xup (xup σ 12 0 A.length (ysg m)) 0 0 2 ((A.length + 1 : Nat) : Int) K = σ0 K := by
      intro K k1 k2
      rw [← hfr K k1 k2]
      funext i s
      rw [xup_o (by omega), xup_o (by omega)]
    have htg' : yct (xup (xup σ 12 0 A.length (ysg m)) 0 0 2 ((A.length + 1 : Nat) : Int)) := by
      unfold yct
      rw [hfr' 31 (by decide) (by decide), hfr' 32 (by decide) (by decide), hfr' 19 (by decide) (by decide), hfr' 28 (by decide) (by decide)]
      exact ht
    have hwg' : ywy (xup (xup σ 12 0 A.length (ysg m)) 0 0 2 ((A.length + 1 : Nat) : Int)) P := by
      unfold ywy
      rw [hfr' 7 (by decide) (by decide), hfr' 34 (by decide) (by decide)]
      exact hwy
    refine xW_be (q_step htg' hz hwg' hc.1 hm) (xW_nm ?_)
    rw [g3.2.1, w32_s (by omega)]
    have hdv := ygre_d g5
    have hA' : yrw (xup (xup σ 12 0 A.length (ysg m)) 0 0 2 ((A.length + 1 : Nat) : Int)) (A ++ [m]) := by
      have hlen : (A ++ [m]).length = A.length + 1 := by rw [List.length_append]; rfl
      refine ⟨by rw [hlen]; exact xup_at, fun k hk => ?_⟩
      rw [hlen] at hk
      rw [xup_o (by omega)]
      by_cases hkA : k = A.length
      · rw [hkA, xup_at, getD_mid]
      · rw [xup_o (by omega), hA.2 k (by omega), List.getD_eq_getElem?_getD, List.getD_eq_getElem?_getD, List.getElem?_append_left (by omega)]
    have hlenA : (A ++ [m]).length = A.length + 1 := by rw [List.length_append]; rfl
    have hres := ih (A ++ [m]) v d' n' _ g5 (hup v d' hdv (by omega)) (by omega) (by omega) (by rw [hlenA]; omega) hfr' hA'
    rw [hlenA] at hres
    refine xW_mono hres ?_
    rintro s ⟨k1, k2, k3⟩
    refine ⟨k1, k2.trans (by rw [xup_o (by omega), xup_o (by omega)]), ?_⟩
    rw [List.append_assoc] at k3
    exact k3
end FI
