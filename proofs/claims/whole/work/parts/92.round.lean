/-! where a thing can be turned round, on both sides -/
noncomputable def yzt (w : Nat) : Nat → Nat
  | 0 => w
  | k + 1 => yn (yzt w k) 2
theorem yzt_r {w : Nat} (hw : w < 24) : ∀ k, yzt w k < 24 := by
  intro k
  induction k with
  | zero => exact hw
  | succ k ih => exact yn_r _ ih 2 (by decide)
def yall (P : xa_H) (w q n : Nat) : Prop := ∀ k, k < n → yG P (24 * q + yzt w k)
noncomputable def ytb (P : xa_H) (w : Nat) : Nat → Nat
  | 0 => 0
  | q + 1 => ytb P w q + @ite Nat (yall P w q 4) (Classical.propDecidable _) 1 0
theorem ytb_le {P : xa_H} {w : Nat} : ∀ {n : Nat}, ytb P w n ≤ n := by
  intro n
  induction n with
  | zero => exact Nat.le_refl _
  | succ n ih =>
    unfold ytb
    by_cases h : yall P w n 4
    · rw [if_pos h]; omega
    · rw [if_neg h]; omega
theorem yall_s {P : xa_H} {w q n : Nat} : yall P w q (n + 1) ↔ yall P w q n ∧ yG P (24 * q + yzt w n) := by
  constructor
  · intro h
    exact ⟨fun k hk => h k (by omega), h n (by omega)⟩
  · rintro ⟨h1, h2⟩ k hk
    by_cases hkn : k = n
    · rw [hkn]; exact h2
    · exact h1 k (by omega)
section RD
variable {P : xa_H} {w : Nat}
theorem l_all5 {σ : xa_H} (ht : yct σ) (hv : yPv P) (hs : ysc σ P) (hb : σ 3 0 9 = ((yhd P : Nat) : Int)) (hw : w < 24) {q : Nat} (hq : q < 144) (hin : yqin P ((q / 24 : Nat) : Int) ((q / 4 % 6 : Nat) : Int) ((q % 4 : Nat) : Int)) {sh : xa_H} (hf : xfs [21] [] σ sh) (hh : yhc sh P) :
    xW (fm_S_fitsAllRound (q : Int) (w : Int) sh) fun r => xfs [21] [] σ r.2 ∧ yhc r.2 P ∧ ((r.1 = 1 ∧ yall P w q 4) ∨ (r.1 = 0 ∧ ¬ yall P w q 4)) := by
  have key : ∀ (d k fu : Nat) (g : xa_H), k + d = 4 → d < fu → xfs [21] [] σ g → yhc g P → yall P w q k → xW (fm_S_fitsAllRound_5 (q : Int) (fun s => some (1, s)) fu ((yzt w k : Nat) : Int) (k : Int) g) fun r => xfs [21] [] σ r.2 ∧ yhc r.2 P ∧ ((r.1 = 1 ∧ yall P w q 4) ∨ (r.1 = 0 ∧ ¬ yall P w q 4)) := by
    intro d
    induction d with
    | zero =>
      intro k fu g hk hd hf hh ha
      obtain ⟨m, rfl⟩ : ∃ m, fu = m + 1 := ⟨fu - 1, by omega⟩
      have : k = 4 := by omega
      subst this
      rw [fm_S_fitsAllRound_5]
      exact xW_t (by omega) (xW_some ⟨hf, hh, Or.inl ⟨rfl, ha⟩⟩)
    | succ d ih =>
      intro k fu g hk hd hf hh ha
      obtain ⟨m, rfl⟩ : ∃ m, fu = m + 1 := ⟨fu - 1, by omega⟩
      have hz := yzt_r hw k
      have e : w32 (w32 ((q : Int) * 24) + ((yzt w k : Nat) : Int)) = ((24 * q + yzt w k : Nat) : Int) := w32_2 (by omega) (by omega) (by omega)
      have hc : ycell P (24 * q + yzt w k) := by
        have hd : (24 * q + yzt w k) / 24 = q := by omega
        refine ⟨by omega, ?_⟩
        unfold yX yY yZ
        rw [hd]
        exact hin
      rw [fm_S_fitsAllRound_5, e]
      refine xW_f (by omega) (xW_b2 (q_fits (yct_f hf (by decide) ht) hv (ysc_f hf (by decide) (by decide) hs) hh (by rw [hf.2 0 9 (by decide)]; exact hb) hc) ?_)
      rintro v s3 ⟨f1, f2, f3⟩
      have f1' : xfs [21] [] σ s3 := xfs_t hf f1
      rcases f3 with ⟨g1, g2⟩ | ⟨g1, g2⟩
      · have g1 : v = 1 := g1
        refine xW_f (by omega) (xW_be (q_after (yct_f f1' (by decide) ht) hz (t := 2) (by decide)) (xW_nm ?_))
        rw [w32_s (by omega)]
        exact ih (k + 1) m s3 (by omega) (by omega) f1' f2 (yall_s.mpr ⟨ha, g2⟩)
      · have g1 : v = 0 := g1
        exact xW_t g1 (xW_some ⟨f1', f2, Or.inr ⟨rfl, fun h => g2 (h k (by omega))⟩⟩)
  unfold fm_S_fitsAllRound
  exact key 4 0 xFU sh (by omega) (xfu_b (by omega)) hf hh (fun k hk => by omega)
theorem q_turnableC {σ : xa_H} (ht : yct σ) (hv : yPv P) (hs : ysc σ P) (hh : yhc σ P) (hb : σ 3 0 9 = ((yhd P : Nat) : Int)) (hwy : ywy σ P) (hw : w < 24) {i : Nat} (h52 : σ 5 i 2 = (w : Int)) :
    xW (fm_S_turnable i σ) fun r => r.1 = ((ytb P w 144 : Nat) : Int) ∧ xfs [21] [] σ r.2 ∧ yhc r.2 P := by
  unfold fm_S_turnable
  have key : ∀ (d q fu : Nat) (g : xa_H), q + d = 144 → d < fu → xfs [21] [] σ g → yhc g P → xW (fm_S_turnable_4 i (fun v s => some (v, s)) fu ((ytb P w q : Nat) : Int) (q : Int) g) fun r => r.1 = ((ytb P w 144 : Nat) : Int) ∧ xfs [21] [] σ r.2 ∧ yhc r.2 P := by
    intro d
    induction d with
    | zero =>
      intro q fu g hk hd hf hh
      obtain ⟨m, rfl⟩ : ∃ m, fu = m + 1 := ⟨fu - 1, by omega⟩
      have : q = 144 := by omega
      subst this
      rw [fm_S_turnable_4]
      exact xW_t (by omega) (xW_some ⟨rfl, hf, hh⟩)
    | succ d ih =>
      intro q fu g hk hd hf hh
      obtain ⟨m, rfl⟩ : ∃ m, fu = m + 1 := ⟨fu - 1, by omega⟩
      have hwg := ywy_f hf (by decide) hwy
      obtain ⟨t1, t2⟩ := q_isCell (σ := g) hwg.1.1 hwg.1.2.1 hwg.1.2.2 (p := q) (by omega)
      have hle := ytb_le (P := P) (w := w) (n := q)
      rw [fm_S_turnable_4]
      refine xW_f (by omega) ?_
      by_cases hin : yqin P ((q / 24 : Nat) : Int) ((q / 4 % 6 : Nat) : Int) ((q % 4 : Nat) : Int)
      · refine xW_be (t1 hin) (xW_f (by decide) ?_)
        have e52 : g 5 i 2 = (w : Int) := by rw [hf.1 5 (by decide) (by decide)]; exact h52
        rw [e52]
        refine xW_b2 (l_all5 ht hv hs hb hw (by omega) hin hf hh) ?_
        rintro v s6 ⟨f1, f2, f3⟩
        rcases f3 with ⟨g1, g2⟩ | ⟨g1, g2⟩
        · have g1 : v = 1 := g1
          have e : ytb P w (q + 1) = ytb P w q + 1 := by
            show ytb P w q + @ite Nat (yall P w q 4) (Classical.propDecidable _) 1 0 = _
            rw [if_pos g2]
          refine xW_f (by omega) (xW_nm (xW_nm ?_))
          rw [w32_s (j := ytb P w q) (by omega), w32_s (j := q) (by omega), ← e]
          exact ih (q + 1) m s6 (by omega) (by omega) f1 f2
        · have g1 : v = 0 := g1
          have e : ytb P w (q + 1) = ytb P w q := by
            show ytb P w q + @ite Nat (yall P w q 4) (Classical.propDecidable _) 1 0 = _
            rw [if_neg g2]; rfl
          refine xW_t g1 (xW_nm ?_)
          rw [w32_s (j := q) (by omega), ← e]
          exact ih (q + 1) m s6 (by omega) (by omega) f1 f2
      · have hno : ¬ yall P w q 4 := by
          intro h
          have h0 := h 0 (by decide)
          have hd : (24 * q + yzt w 0) / 24 = q := by
            have := yzt_r hw 0
            omega
          have h1 := h0.2.1
          unfold yX yY yZ at h1
          rw [hd] at h1
          exact hin h1
        have e : ytb P w (q + 1) = ytb P w q := by
          show ytb P w q + @ite Nat (yall P w q 4) (Classical.propDecidable _) 1 0 = _
          rw [if_neg hno]; rfl
        refine xW_be (t2 hin) (xW_t rfl (xW_nm ?_))
        rw [w32_s (j := q) (by omega), ← e]
        exact ih (q + 1) m g (by omega) (by omega) hf hh
  exact key 144 0 xFU σ (by omega) (xfu_b (by omega)) (xfs_r _ _ _) hh
theorem l_round36 {σ : xa_H} (ht : ymt σ) (hf : ymf σ P) (hw : w < 24) {q : Nat} (hq : q < 144) {f1 f2 : Int} {K : Int → Option (Int × xa_H)} {Q : Int × xa_H → Prop} (hK : ∀ v, (v = 1 ∧ yall P w q 4) ∨ (v = 0 ∧ ¬ yall P w q 4) → xW (K v) Q) :
    xW (fm_M_turnable_36 f1 f2 (q : Int) σ K xFU (w : Int) 1 0) Q := by
  have tn : ∀ j : Nat, ((j : Int)).toNat = j := fun j => rfl
  have key : ∀ (d k fu : Nat) (v : Int), k + d = 4 → d < fu → (v = 1 ∧ yall P w q k) ∨ (v = 0 ∧ ¬ yall P w q k) → xW (fm_M_turnable_36 f1 f2 (q : Int) σ K fu ((yzt w k : Nat) : Int) v (k : Int)) Q := by
    intro d
    induction d with
    | zero =>
      intro k fu v hk hd hv
      obtain ⟨m, rfl⟩ : ∃ m, fu = m + 1 := ⟨fu - 1, by omega⟩
      have : k = 4 := by omega
      subst this
      rw [fm_M_turnable_36]
      exact xW_t (by omega) (hK v hv)
    | succ d ih =>
      intro k fu v hk hd hv
      obtain ⟨m, rfl⟩ : ∃ m, fu = m + 1 := ⟨fu - 1, by omega⟩
      have hz := yzt_r hw k
      have e6 : w32 (w32 (6 * ((yzt w k : Nat) : Int)) + 2) = ((6 * yzt w k + 2 : Nat) : Int) := w32_2 (by omega) (by omega) (by omega)
      have e144 : w32 (w32 (144 * ((yzt w k : Nat) : Int)) + (q : Int)) = ((144 * yzt w k + q : Nat) : Int) := w32_2 (by omega) (by omega) (by omega)
      have e51 : σ 51 0 (6 * yzt w k + 2) = ((yzt w (k + 1) : Nat) : Int) := by
        rw [ht.2 _ (by omega)]
        show _ = ((yn (yzt w k) 2 : Nat) : Int)
        rw [yn_e]
        rfl
      have hnext : ∀ v3 : Int, (v3 = 1 ∧ yall P w q (k + 1)) ∨ (v3 = 0 ∧ ¬ yall P w q (k + 1)) → xW (if 0 ≤ ((6 * yzt w k + 2 : Nat) : Int) ∧ ((6 * yzt w k + 2 : Nat) : Int) < 144 then xnm ((σ 51 0 (6 * yzt w k + 2)) : Int) fun v7 => xnm (w32 ((k : Int) + 1) : Int) fun v8 => fm_M_turnable_36 f1 f2 (q : Int) σ K m v7 v3 v8 else none) Q := by
        intro v3 h3
        refine xW_t ⟨by omega, by omega⟩ (xW_nm (xW_nm ?_))
        rw [w32_s (by omega), e51]
        exact ih (k + 1) m v3 (by omega) (by omega) h3
      rw [fm_M_turnable_36, e6, e144, tn, tn]
      refine xW_f (by omega) (xW_j ?_)
      rcases hv with ⟨h1, h2⟩ | ⟨h1, h2⟩
      · refine xW_f (by omega) (xW_t ⟨by omega, by omega⟩ ?_)
        have er : yrc (144 * yzt w k + q) = 24 * q + yzt w k := by unfold yrc; omega
        have hr := hf (144 * yzt w k + q) (by omega)
        rw [er] at hr
        rcases hr with ⟨g1, g2⟩ | ⟨g1, g2⟩
        · exact xW_f (by rw [g1]; decide) (hnext 1 (Or.inl ⟨rfl, yall_s.mpr ⟨h2, g2⟩⟩))
        · exact xW_t g1 (hnext 0 (Or.inr ⟨rfl, fun h => g2 (yall_s.mp h).2⟩))
      · exact xW_t h1 (hnext 0 (Or.inr ⟨rfl, fun h => h2 (yall_s.mp h).1⟩))
  exact key 4 0 xFU 1 (by omega) (xfu_b (by omega)) (Or.inl ⟨rfl, fun k hk => by omega⟩)
theorem q_turnableM {σ f : xa_H} {t : Nat} (hs : ym σ f) (hv : yv f) (ht : t < 4) (hl : ¬ f 2 t 1 < 0) : xW (fm_M_turnable (t : Int) σ) fun r => r.1 = ((ytb (yPl f t) (f 2 t 2).toNat 144 : Nat) : Int) ∧ ym r.2 f := by
  obtain ⟨hq, hlie⟩ := ystd_q hv ht hl
  have hn1 : 1 ≤ f 2 t 0 := hlie.1
  have hP := yPl_v hv ht hn1
  have tn : ∀ j : Nat, ((j : Int)).toNat = j := fun j => rfl
  have hth := hv.1.2.2.1 t ht
  unfold fm_M_turnable
  have h0 : xW (fm_M_takeOff 0 0 σ) fun s => ym s f ∧ xfm [69] [23, 24] σ s ∧ ∀ t, ymw s (yPl f t) := q_take0 hs (A := 0) (D := 0)
  refine xW_bind h0 ?_
  rintro s1 ⟨a1, a2, a3⟩
  refine xW_bind (q_findFits a1.1 hP (yrf_mc a1.2.1 hth ht) (a3 t)) ?_
  rintro s2 ⟨b1, b2⟩
  have h2 : ym s2 f := ym_f b1 (by decide) (by decide) a1
  have h63 : s2 63 0 t = (((f 2 t 2).toNat : Nat) : Int) := by
    have h1 := (h2.2.1.2.2.1 t ht).2.2.1
    have h3 : 0 ≤ f 2 t 2 := hth.2.2.2.2.1.1
    omega
  have hw : (f 2 t 2).toNat < 24 := by
    have h3 : f 2 t 2 ≤ 23 := hth.2.2.2.2.1.2
    omega
  generalize (f 2 t 2).toNat = w at h63 hw ⊢
  have key : ∀ (d q fu : Nat), q + d = 144 → d < fu → xW (fm_M_turnable_15 (t : Int) s2 (fun v => some (v, s2)) fu ((ytb (yPl f t) w q : Nat) : Int) (q : Int)) fun r => r.1 = ((ytb (yPl f t) w 144 : Nat) : Int) ∧ ym r.2 f := by
    intro d
    induction d with
    | zero =>
      intro q fu hk hd
      obtain ⟨m, rfl⟩ : ∃ m, fu = m + 1 := ⟨fu - 1, by omega⟩
      have : q = 144 := by omega
      subst this
      rw [fm_M_turnable_15]
      exact xW_t (by omega) (xW_some ⟨rfl, h2⟩)
    | succ d ih =>
      intro q fu hk hd
      obtain ⟨m, rfl⟩ : ∃ m, fu = m + 1 := ⟨fu - 1, by omega⟩
      have hle := ytb_le (P := yPl f t) (w := w) (n := q)
      rw [fm_M_turnable_15, tn, h63]
      refine xW_f (by omega) (xW_t ⟨by omega, by omega⟩ (xW_nm (l_round36 h2.1 b2 hw (by omega) ?_)))
      rintro v (⟨g1, g2⟩ | ⟨g1, g2⟩)
      · have e : ytb (yPl f t) w (q + 1) = ytb (yPl f t) w q + 1 := by
          show ytb (yPl f t) w q + @ite Nat (yall (yPl f t) w q 4) (Classical.propDecidable _) 1 0 = _
          rw [if_pos g2]
        refine xW_f (by omega) (xW_nm (xW_nm ?_))
        rw [w32_s (j := ytb (yPl f t) w q) (by omega), w32_s (j := q) (by omega), ← e]
        exact ih (q + 1) m (by omega) (by omega)
      · have e : ytb (yPl f t) w (q + 1) = ytb (yPl f t) w q := by
          show ytb (yPl f t) w q + @ite Nat (yall (yPl f t) w q 4) (Classical.propDecidable _) 1 0 = _
          rw [if_neg g2]; rfl
        refine xW_t g1 (xW_nm (xW_nm ?_))
        rw [w32_k (x := ((ytb (yPl f t) w q : Nat) : Int) + 0) (k := ytb (yPl f t) w q) (by omega) (by omega), w32_s (j := q) (by omega), ← e]
        exact ih (q + 1) m (by omega) (by omega)
  exact key 144 0 xFU (by omega) (xfu_b (by omega))
end RD
