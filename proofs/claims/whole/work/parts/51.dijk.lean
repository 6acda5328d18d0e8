/-! the row of least effort: from the goal back -/
section DJ
variable {P : xa_H} {gl : Nat → Prop} {w : Nat → Nat}
def ydj (P : xa_H) (gl : Nat → Prop) (w : Nat → Nat) (F : Nat → Int) (M Sd : Nat → Prop) : Prop :=
  (∀ c, M c ∨ Sd c → yG P c ∧ 0 ≤ F c ∧ F c ≤ 1274023296 ∧ ∃ L e, ygo (yG P) (ynx P) c L e ∧ gl e ∧ (ysum w L : Int) = F c) ∧
  (∀ c, c < 3456 → ¬ M c → ¬ Sd c → F c = 2147483647) ∧ (∀ c, M c → ¬ Sd c) ∧ (∀ c, gl c → yG P c → F c = 0) ∧ (∀ u v, Sd u → M v → F u ≤ F v)
/-- all that leads to a settled stand was looked at; of one the first moves alone -/
def ydn (P : xa_H) (w : Nat → Nat) (F : Nat → Int) (Sd : Nat → Prop) (u m : Nat) : Prop :=
  ∀ s, Sd s → ∀ a v, a < 12 → ynx P v a = some s → yG P v → (s = u → a < m) → F v ≤ F s + (w a : Int)
theorem ydj_low (hW : ∀ m, m < 12 → w m ≤ 368641) {F : Nat → Int} {M Sd : Nat → Prop} (h : ydj P gl w F M Sd) (hd : ydn P w F Sd 3456 0) :
    ∀ {L : List Nat} {c e : Nat}, ygo (yG P) (ynx P) c L e → gl e → (Sd c → F c ≤ (ysum w L : Int)) ∧ (¬ Sd c → ∃ v, M v ∧ F v ≤ (ysum w L : Int)) := by
  obtain ⟨h1, h2, h3, h4, h5⟩ := h
  intro L
  induction L with
  | nil =>
    rintro c e ⟨g1, g2⟩ hg
    subst g2
    have h0 := h4 c hg g1
    refine ⟨fun _ => by rw [h0]; exact Int.le_refl _, fun hn => ⟨c, ?_, by rw [h0]; exact Int.le_refl _⟩⟩
    cases Classical.em (M c) with
    | inl h => exact h
    | inr hm =>
      have := h2 c g1.1 hm hn
      rw [h0] at this
      exact absurd this (by decide)
  | cons m r ih =>
    rintro c e ⟨g1, g2, c', g3, g4⟩ hg
    obtain ⟨i1, i2⟩ := ih g4 hg
    have hsum : (ysum w (m :: r) : Int) = (w m : Int) + (ysum w r : Int) := by
      show ((w m + ysum w r : Nat) : Int) = _
      omega
    rw [hsum]
    by_cases hc' : Sd c'
    · have k1 := i1 hc'
      have k2 := hd c' hc' m c g2 g3 g1 (fun e => by have := (h1 c' (Or.inr hc')).1.1; omega)
      refine ⟨fun _ => by omega, fun hn => ⟨c, ?_, by omega⟩⟩
      cases Classical.em (M c) with
      | inl h => exact h
      | inr hm =>
        have a1 := h2 c g1.1 hm hn
        have a2 := (h1 c' (Or.inr hc')).2.2.1
        have a3 := hW m g2
        omega
    · obtain ⟨v, hv, hle⟩ := i2 hc'
      refine ⟨fun hs => ?_, fun _ => ⟨v, hv, by omega⟩⟩
      have := h5 c v hs hv
      omega
/-- a stand comes into the heap, or nearer -/
theorem ydj_come {F : Nat → Int} {M Sd : Nat → Prop} (h : ydj P gl w F M Sd) {v : Nat} {d : Int} (hG : yG P v) (hd : d < F v) (h0 : 0 ≤ d) (hB : d ≤ 1274023296) (hS : ¬ Sd v)
    (hr : ∃ L e, ygo (yG P) (ynx P) v L e ∧ gl e ∧ (ysum w L : Int) = d) (hm : ∀ u, Sd u → F u ≤ d) : ydj P gl w (fun c => if c = v then d else F c) (fun c => M c ∨ c = v) Sd := by
  obtain ⟨h1, h2, h3, h4, h5⟩ := h
  refine ⟨?_, ?_, ?_, ?_, ?_⟩
  · intro c hc
    show yG P c ∧ 0 ≤ (if c = v then d else F c) ∧ (if c = v then d else F c) ≤ 1274023296 ∧ ∃ L e, ygo (yG P) (ynx P) c L e ∧ gl e ∧ (ysum w L : Int) = (if c = v then d else F c)
    by_cases hcv : c = v
    · subst hcv
      rw [if_pos rfl]
      exact ⟨hG, h0, hB, hr⟩
    · rw [if_neg hcv]
      refine h1 c ?_
      rcases hc with (hc | hc) | hc
      · exact Or.inl hc
      · exact absurd hc hcv
      · exact Or.inr hc
  · intro c hc hn hs
    show (if c = v then d else F c) = _
    rw [if_neg (fun e => hn (Or.inr e))]
    exact h2 c hc (fun hm => hn (Or.inl hm)) hs
  · rintro c (hc | hc)
    · exact h3 c hc
    · rw [hc]; exact hS
  · intro c hg hGc
    show (if c = v then d else F c) = 0
    have := h4 c hg hGc
    by_cases hcv : c = v
    · subst hcv; omega
    · rw [if_neg hcv]; exact this
  · intro u v' hu hv
    show (if u = v then d else F u) ≤ (if v' = v then d else F v')
    rw [if_neg (fun e : u = v => hS (e ▸ hu))]
    by_cases hvv : v' = v
    · rw [if_pos hvv]; exact hm u hu
    · rw [if_neg hvv]
      rcases hv with hv | hv
      · exact h5 u v' hu hv
      · exact absurd hv hvv
/-- the nearest is settled -/
theorem ydj_take {F : Nat → Int} {M Sd : Nat → Prop} (h : ydj P gl w F M Sd) {u : Nat} (hu : M u) (hm : ∀ c, M c → F u ≤ F c) : ydj P gl w F (fun c => M c ∧ ¬ c = u) (fun c => Sd c ∨ c = u) := by
  obtain ⟨h1, h2, h3, h4, h5⟩ := h
  refine ⟨?_, ?_, ?_, h4, ?_⟩
  · rintro c (⟨hc, _⟩ | hc | hc)
    · exact h1 c (Or.inl hc)
    · exact h1 c (Or.inr hc)
    · rw [hc]; exact h1 u (Or.inl hu)
  · intro c hc hn hs
    refine h2 c hc (fun hM => hn ⟨hM, fun e => hs (Or.inr e)⟩) (fun hS => hs (Or.inl hS))
  · rintro c ⟨hc, hne⟩ (hs | hs)
    · exact h3 c hc hs
    · exact hne hs
  · rintro a b (ha | ha) ⟨hb, _⟩
    · exact h5 a b ha hb
    · rw [ha]; exact hm b hb
/-- the state: far, the heap -/
def yds (σ0 σ P : xa_H) (F : Nat → Int) (N : Nat) (M : Nat → Prop) : Prop :=
  xfs [1, 14, 15, 16, 21] [] σ0 σ ∧ σ 13 = σ0 13 ∧ yhc σ P ∧ (∀ c, c < 3456 → σ 14 0 c = F c) ∧ σ 1 0 5 = (N : Int) ∧ N ≤ 3456 ∧ yhe σ F N M
theorem q_come {σ0 σ : xa_H} (ht : yct σ0) (hv : yPv P) (hs : ysc σ0 P) (hb : σ0 3 0 9 = ((yhd P : Nat) : Int)) {F : Nat → Int} {N : Nat} {M Sd : Nat → Prop} (S : yds σ0 σ P F N M) (J1 : ∀ c, M c → F c ≤ 1274023296) (J2 : ∀ c, c < 3456 → ¬ M c → ¬ Sd c → F c = 2147483647)
    {v : Nat} {d : Int} (hc : ycell P v) (hdB : d ≤ 1274023296) (hset : Sd v → F v ≤ d) :
    xW (fm_Cheapest_come (v : Int) d σ) fun s => ((¬ yG P v ∨ F v ≤ d) ∧ yds σ0 s P F N M) ∨ (yG P v ∧ d < F v ∧ ¬ Sd v ∧ ∃ N', yds σ0 s P (fun c => if c = v then d else F c) N' (fun c => M c ∨ c = v)) := by
  have S0 := S
  obtain ⟨s1, s13, s2, s3, s4, s5, s6⟩ := S
  have htg : yct σ := yct_f s1 (by decide) ht
  have hsg : ysc σ P := ysc_f s1 (by decide) (by decide) hs
  have hbg : σ 3 0 9 = ((yhd P : Nat) : Int) := (s1.2 0 9 (by decide)).trans hb
  unfold fm_Cheapest_come
  refine xW_be (rd14 hc.1) ?_
  rw [s3 v hc.1]
  refine xW_if (fun hle => xW_some (Or.inl ⟨Or.inr hle, S0⟩)) (fun hgt => ?_)
  refine xW_b2 (q_fits htg hv hsg s2 hbg hc) ?_
  rintro b s4' ⟨f1, f2, f3⟩
  have f1 : xfs [21] [] σ s4' := f1
  have e14 : s4' 14 = σ 14 := f1.1 14 (by decide) (by decide)
  have e15 : s4' 15 = σ 15 := f1.1 15 (by decide) (by decide)
  have e16 : s4' 16 = σ 16 := f1.1 16 (by decide) (by decide)
  have e1 : s4' 1 = σ 1 := f1.1 1 (by decide) (by decide)
  have e13 : s4' 13 = σ 13 := f1.1 13 (by decide) (by decide)
  have hf : xfs [1, 14, 15, 16, 21] [] σ0 s4' := xfs_t s1 (xfs_m f1 (by decide) (by decide))
  refine xW_if (fun h0 => ?_) (fun h1 => ?_)
  · have h0 : b = 0 := h0
    refine xW_some (Or.inl ⟨Or.inl ?_, hf, e13.trans s13, f2, by rw [e14]; exact s3, by rw [e1]; exact s4, s5, ?_⟩)
    · rcases f3 with ⟨h, _⟩ | ⟨_, h⟩
      · have h : b = 1 := h
        omega
      · exact h
    · obtain ⟨h, k1, k2⟩ := s6
      exact ⟨h, k1, by rw [e15, e16]; exact k2⟩
  · have hG : yG P v := by
      rcases f3 with ⟨_, h⟩ | ⟨h, _⟩
      · exact h
      · exact absurd h h1
    have hdF : d < F v := by omega
    have hnS : ¬ Sd v := fun h => by have := hset h; omega
    refine xW_be (rd14 hc.1) (xW_j ?_)
    rw [e14, s3 v hc.1]
    obtain ⟨h, ⟨k1, k2, k3, k4⟩, k5⟩ := s6
    have hF' : ∀ i, i < N → ¬ h i = v → (if h i = v then d else F (h i)) = F (h i) := fun i _ hne => if_neg hne
    refine xW_if (fun hfar => ?_) (fun hnfar => ?_)
    · have hnM : ¬ M v := by
        intro hM
        have := J1 v hM
        omega
      have hne : ∀ i, i < N → ¬ h i = v := fun i hi e => hnM ((k4 v).mpr ⟨i, hi, e⟩)
      have hN1 : N + 1 ≤ 3456 := by
        refine pig 3456 (N + 1) (fun i => if i = N then v else h i) ?_ ?_
        · intro i hi
          show (if i = N then v else h i) < 3456
          by_cases hiN : i = N
          · rw [if_pos hiN]; exact hc.1
          · rw [if_neg hiN]; exact k1 i (by omega)
        · intro i j hi hj e
          have e : (if i = N then v else h i) = (if j = N then v else h j) := e
          by_cases hiN : i = N
          · by_cases hjN : j = N
            · omega
            · rw [if_pos hiN, if_neg hjN] at e
              exact absurd e.symm (hne j (by omega))
          · by_cases hjN : j = N
            · rw [if_neg hiN, if_pos hjN] at e
              exact absurd e (hne i (by omega))
            · rw [if_neg hiN, if_neg hjN] at e
              exact k2 i j (by omega) (by omega) e
      rw [e1, s4]
      refine xW_be (wr16 hc.1) (xW_nm ?_)
      have ew : w32 (xup s4' 16 0 v (N : Int) 1 0 5 + 1) = ((N + 1 : Nat) : Int) := by
        rw [xup_o (by omega), e1, s4]
        exact w32_s (by omega)
      rw [ew]
      refine xW_be (wr14 hc.1) ?_
      have hfs : xfs [1, 14, 15, 16, 21] [] σ0 (xup (xup (xup s4' 16 0 v (N : Int)) 1 0 5 ((N + 1 : Nat) : Int)) 14 0 v d) :=
        xfs_t hf (xfs_t (xfs_up (by decide) (by decide)) (xfs_t (xfs_up (by decide) (by decide)) (xfs_up (by decide) (by decide))))
      have hFn : ∀ c, c < 3456 → xup (xup (xup s4' 16 0 v (N : Int)) 1 0 5 ((N + 1 : Nat) : Int)) 14 0 v d 14 0 c = (if c = v then d else F c) := by
        intro c hc'
        by_cases hcv : c = v
        · rw [hcv, xup_at, if_pos rfl]
        · rw [xup_o (by rintro ⟨-, -, e⟩; exact hcv e), xup_o (by omega), xup_o (by omega), if_neg hcv, e14]
          exact s3 c hc'
      have HO : yho (fun c => if c = v then d else F c) h (N + 1) N v (fun c => M c ∨ c = v) := by
        refine ⟨⟨by omega, hc.1⟩, ?_, ?_, ?_, ?_, ?_⟩
        · intro i hi hiN
          exact ⟨k1 i (by omega), hne i (by omega)⟩
        · intro i j hi hj hiN hjN e
          exact k2 i j (by omega) (by omega) e
        · intro i hi0 hi hiN hpN
          show (if h ((i - 1) / 2) = v then d else F (h ((i - 1) / 2))) ≤ (if h i = v then d else F (h i))
          rw [if_neg (hne i (by omega)), if_neg (hne ((i - 1) / 2) (by omega))]
          exact k3 i hi0 (by omega)
        · intro i hi0 hi hp _
          omega
        · intro c
          constructor
          · rintro (hM | hcv)
            · obtain ⟨i, hi, e⟩ := (k4 c).mp hM
              exact Or.inr ⟨i, by omega, by omega, e⟩
            · exact Or.inl hcv
          · rintro (hcv | ⟨i, hi, hiN, e⟩)
            · exact Or.inr hcv
            · exact Or.inl ((k4 c).mpr ⟨i, by omega, e⟩)
      have HT : yti (xup (xup (xup s4' 16 0 v (N : Int)) 1 0 5 ((N + 1 : Nat) : Int)) 14 0 v d) h (N + 1) N := by
        intro i hi hiN
        rw [xup_o (by omega), xup_o (by omega), xup_o (by omega), xup_o (by omega), xup_o (by omega), xup_o (by rintro ⟨-, -, e⟩; exact hne i (by omega) e), e15, e16]
        exact k5 i (by omega)
      have HX : xup (xup (xup s4' 16 0 v (N : Int)) 1 0 5 ((N + 1 : Nat) : Int)) 14 0 v d 16 0 v = (N : Int) := by
        rw [xup_o (by omega), xup_o (by omega), xup_at]
      refine xW_bind (q_rise hFn hN1 HO HT HX (fun i h0 hi hp => by omega)) ?_
      rintro s5' ⟨r1, r2⟩
      refine xW_some (Or.inr ⟨hG, hdF, hnS, N + 1, xfs_t hfs (xfs_m r1 (by decide) (by decide)), ?_, ?_, ?_, ?_, hN1, r2⟩)
      · rw [r1.1 13 (by decide) (by decide)]
        funext a b
        rw [xup_o (by omega), xup_o (by omega), xup_o (by omega), e13, s13]
      · refine yhc_f r1 (by decide) ?_
        intro c hcc
        rw [xup_o (by omega), xup_o (by omega), xup_o (by omega)]
        exact f2 c hcc
      · intro c hcc
        rw [r1.1 14 (by decide) (by decide)]; exact hFn c hcc
      · rw [r1.1 1 (by decide) (by decide), xup_o (by omega), xup_at]
    · have hM : M v := by
        cases Classical.em (M v) with
        | inl h => exact h
        | inr hn => exact absurd (J2 v hc.1 hn hnS) hnfar
      obtain ⟨i0, hi0, ei0⟩ := (k4 v).mp hM
      refine xW_be (wr14 hc.1) ?_
      have hfs : xfs [1, 14, 15, 16, 21] [] σ0 (xup s4' 14 0 v d) := xfs_t hf (xfs_up (by decide) (by decide))
      have hFn : ∀ c, c < 3456 → xup s4' 14 0 v d 14 0 c = (if c = v then d else F c) := by
        intro c hc'
        by_cases hcv : c = v
        · rw [hcv, xup_at, if_pos rfl]
        · rw [xup_o (by rintro ⟨-, -, e⟩; exact hcv e), if_neg hcv, e14]
          exact s3 c hc'
      have hne : ∀ i, i < N → ¬ i = i0 → ¬ h i = v := fun i hi hii e => hii (k2 i i0 hi hi0 (e.trans ei0.symm))
      have HO : yho (fun c => if c = v then d else F c) h N i0 v (fun c => M c ∨ c = v) := by
        refine ⟨⟨hi0, hc.1⟩, ?_, ?_, ?_, ?_, ?_⟩
        · intro i hi hii
          exact ⟨k1 i hi, hne i hi hii⟩
        · intro i j hi hj _ _ e
          exact k2 i j hi hj e
        · intro i h0 hi hii hpi
          show (if h ((i - 1) / 2) = v then d else F (h ((i - 1) / 2))) ≤ (if h i = v then d else F (h i))
          rw [if_neg (hne i hi hii), if_neg (hne ((i - 1) / 2) (by omega) hpi)]
          exact k3 i h0 hi
        · intro i h0 hi hp hp0
          show (if h ((i0 - 1) / 2) = v then d else F (h ((i0 - 1) / 2))) ≤ (if h i = v then d else F (h i))
          rw [if_neg (hne i hi (by omega)), if_neg (hne ((i0 - 1) / 2) (by omega) (by omega))]
          have a1 := k3 i h0 hi
          have a2 := k3 i0 hp0 hi0
          rw [hp] at a1
          omega
        · intro c
          constructor
          · rintro (hM' | hcv)
            · obtain ⟨i, hi, e⟩ := (k4 c).mp hM'
              by_cases hii : i = i0
              · rw [hii, ei0] at e; exact Or.inl e.symm
              · exact Or.inr ⟨i, hi, hii, e⟩
            · exact Or.inl hcv
          · rintro (hcv | ⟨i, hi, _, e⟩)
            · exact Or.inr hcv
            · exact Or.inl ((k4 c).mpr ⟨i, hi, e⟩)
      have HT : yti (xup s4' 14 0 v d) h N i0 := by
        intro i hi hii
        rw [xup_o (by omega), xup_o (by omega), e15, e16]
        exact k5 i hi
      have HX : xup s4' 14 0 v d 16 0 v = (i0 : Int) := by
        rw [xup_o (by omega), e16, ← ei0]
        exact (k5 i0 hi0).2
      refine xW_bind (q_rise hFn s5 HO HT HX (fun i h0 hi hp => ?_)) ?_
      · show (if v = v then d else F v) ≤ (if h i = v then d else F (h i))
        rw [if_pos rfl, if_neg (hne i hi (by omega))]
        have a1 := k3 i h0 hi
        rw [hp, ei0] at a1
        omega
      rintro s5' ⟨r1, r2⟩
      refine xW_some (Or.inr ⟨hG, hdF, hnS, N, xfs_t hfs (xfs_m r1 (by decide) (by decide)), ?_, ?_, ?_, ?_, s5, r2⟩)
      · rw [r1.1 13 (by decide) (by decide)]
        funext a b
        rw [xup_o (by omega), e13, s13]
      · refine yhc_f r1 (by decide) ?_
        intro c hcc
        rw [xup_o (by omega)]
        exact f2 c hcc
      · intro c hcc
        rw [r1.1 14 (by decide) (by decide)]; exact hFn c hcc
      · rw [r1.1 1 (by decide) (by decide), xup_o (by omega), e1]; exact s4
end DJ
