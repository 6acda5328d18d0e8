/-! goes and effort, on both sides -/
noncomputable def yopl (P : xa_H) (s0 : Nat) (g : Int) (c : Nat → Nat) : List Nat := @dite (List Nat) (∃ L, yopt (yG P) (ynx P) (ygl g) c s0 L) (Classical.propDecidable _) (fun h => Classical.choose h) (fun _ => [])
theorem yopl_1 {P : xa_H} {s0 : Nat} {g : Int} {c : Nat → Nat} {L : List Nat} (h : yopt (yG P) (ynx P) (ygl g) c s0 L) : yopl P s0 g c = L := by
  unfold yopl
  have he : ∃ L, yopt (yG P) (ynx P) (ygl g) c s0 L := ⟨L, h⟩
  rw [dif_pos he]
  exact yopt_1 (Classical.choose_spec he) h
noncomputable def yrans (P : xa_H) (s0 : Nat) (g : Int) (c : Nat → Nat) (tot : List Nat → Int) (i : Int) : Int :=
  @ite Int (ygoes P s0 g) (Classical.propDecidable _) (if i = -1 then tot (yopl P s0 g c) else if 0 ≤ i ∧ i < ((yopl P s0 g c).length : Int) then ysg ((yopl P s0 g c).getD i.toNat 0) else -6) (-6)
noncomputable def ycx (a : Nat) (f P : xa_H) : Nat → Nat := if a = 1 then (fun _ => 0) else ycs (ymcs f) (ycn P)
noncomputable def ytx (a : Nat) (f P : xa_H) : List Nat → Int := if a = 1 then (fun L => (L.length : Int)) else (fun L => (ysum (ycs (ymcs f) (ycn P)) L : Int))
noncomputable def arow (f : xa_H) (a : Nat) (t A D i : Int) : Int := if 0 ≤ t ∧ t ≤ 3 then (if (0 ≤ A ∧ A ≤ 15) ∧ (0 ≤ D ∧ D ≤ 15) then (if f 2 t.toNat 1 < 0 then -3 else
  yrans (ypr f 0 t.toNat (ykd f 0) A D) (ystd f 0 t.toNat) (f 2 t.toNat 3) (ycx a f (ypr f 0 t.toNat (ykd f 0) A D)) (ytx a f (ypr f 0 t.toNat (ykd f 0) A D)) i) else -2) else -1
theorem l_yra {s P : xa_H} {s0 : Nat} {g : Int} {c : Nat → Nat} {tot : List Nat → Int} {i : Int} (h : yra s P s0 g c tot) : xW (if i = (-1) then some ((s 0 0 3), s) else (fm_Answer_at i s).bind fun v => some (v, s)) fun r => r.1 = yrans P s0 g c tot i ∧ r.2 = s := by
  rcases h with ⟨h1, h2, h3⟩ | ⟨L, h1, ⟨h2, h3⟩, h4⟩
  · have eA : yrans P s0 g c tot i = -6 := if_neg h1
    rw [eA]
    by_cases hi : i = -1
    · exact xW_t hi (xW_some ⟨h3, rfl⟩)
    · refine xW_f hi ?_
      unfold fm_Answer_at
      by_cases h0 : i < 0
      · rw [if_pos h0]; exact xW_some ⟨rfl, rfl⟩
      · rw [if_neg h0, h2, if_pos (by omega)]; exact xW_some ⟨rfl, rfl⟩
  · have hg : ygoes P s0 g := by
      obtain ⟨e, k1, k2, _⟩ := h1
      exact ⟨L, e, k1, k2⟩
    have eA : yrans P s0 g c tot i = if i = -1 then tot L else if 0 ≤ i ∧ i < (L.length : Int) then ysg (L.getD i.toNat 0) else -6 := by
      unfold yrans
      rw [if_pos hg, yopl_1 h1]
    rw [eA]
    have hlen := yopt_len (N := 3456) (fun u hu => yG_lt hu) h1
    by_cases hi : i = -1
    · rw [if_pos hi, if_pos hi]
      exact xW_some ⟨h4, rfl⟩
    · rw [if_neg hi, if_neg hi]
      unfold fm_Answer_at
      by_cases h0 : i < 0
      · rw [if_pos h0, if_neg (by omega)]; exact xW_some ⟨rfl, rfl⟩
      · rw [if_neg h0, h2]
        by_cases hL : (L.length : Int) ≤ i
        · rw [if_pos hL, if_neg (by omega)]; exact xW_some ⟨rfl, rfl⟩
        · obtain ⟨k, hk⟩ : ∃ k : Nat, i = (k : Int) := ⟨i.toNat, by omega⟩
          subst hk
          rw [if_neg hL, if_pos ⟨by omega, by omega⟩, rd12 (by omega), Option.bind_some, h3 k (by omega)]
          exact xW_some ⟨rfl, rfl⟩
theorem q_isSetC (a : Int) : fm_S_isSet a = some (if 0 ≤ a ∧ a ≤ 15 then 1 else 0) := by
  unfold fm_S_isSet
  rw [q_upTo, Option.bind_some]
  by_cases h : 0 ≤ a ∧ a ≤ 15
  · rw [if_pos h]; rfl
  · rw [if_neg h]; rfl
theorem q_isSetM (a : Int) : fm_M_isSet a = some (if 0 ≤ a ∧ a ≤ 15 then 1 else 0) := by
  unfold fm_M_isSet
  rw [q_in, Option.bind_some]
  by_cases h : 0 ≤ a ∧ a ≤ 15
  · rw [if_pos h]; rfl
  · rw [if_neg h]; rfl
def ykey (a t A D : Nat) : Nat := ((a * 4 + t) * 16 + A) * 16 + D
theorem q_isNew {σ : xa_H} {a t A D : Nat} (ha : a ≤ 6) (ht : t < 4) (hA : A < 16) (hD : D < 16) : fm_Answer_isNew (a : Int) (t : Int) (A : Int) (D : Int) σ = some (if ((ykey a t A D : Nat) : Int) = σ 0 0 1 then 0 else 1, xup σ 0 0 1 ((ykey a t A D : Nat) : Int)) := by
  have e : w32 (w32 (w32 (w32 (w32 (w32 ((a : Int) * 4) + (t : Int)) * 16) + (A : Int)) * 16) + (D : Int)) = ((ykey a t A D : Nat) : Int) := by
    unfold ykey
    rw [w32_k (x := (a : Int) * 4) (k := a * 4) (by omega) (by omega), w32_k (x := ((a * 4 : Nat) : Int) + (t : Int)) (k := a * 4 + t) (by omega) (by omega), w32_k (x := ((a * 4 + t : Nat) : Int) * 16) (k := (a * 4 + t) * 16) (by omega) (by omega),
      w32_k (x := (((a * 4 + t) * 16 : Nat) : Int) + (A : Int)) (k := (a * 4 + t) * 16 + A) (by omega) (by omega), w32_k (x := (((a * 4 + t) * 16 + A : Nat) : Int) * 16) (k := ((a * 4 + t) * 16 + A) * 16) (by omega) (by omega), w32_k (k := ((a * 4 + t) * 16 + A) * 16 + D) (by omega) (by omega)]
  unfold fm_Answer_isNew
  rw [e, xnm_e, xnm_e, xnm_e]
  by_cases h : ((ykey a t A D : Nat) : Int) = σ 0 0 1
  · rw [if_pos h]; rfl
  · rw [if_neg h]; rfl
/-- the answer is the one asked for -/
theorem yan_at {σ f : xa_H} (h : yan σ f) {a t A D : Nat} (ha : 1 ≤ a) (ht : t < 4) (hA : A < 16) (hD : D < 16) (hk : ((ykey a t A D : Nat) : Int) = σ 0 0 1) : yspec a t A D f σ := by
  unfold ykey at hk
  rcases h with h | ⟨a', t', A', D', h1, h2, h3, h4, h5, h6⟩
  · rw [h] at hk; omega
  · rw [h5] at hk
    have e1 : a' = a := by omega
    have e2 : t' = t := by omega
    have e3 : A' = A := by omega
    have e4 : D' = D := by omega
    rw [e1, e2, e3, e4] at h6
    exact h6
theorem xup_same {σ : xa_H} {K i s : Nat} {v : Int} (h : v = σ K i s) : xup σ K i s v = σ := by
  funext K' i' s'
  rw [xup_v]
  by_cases hc : K' = K ∧ i' = i ∧ s' = s
  · rw [if_pos hc, h, hc.1, hc.2.1, hc.2.2]
  · rw [if_neg hc]
theorem yspec_row {f σ : xa_H} {a t A D : Nat} (ha : a = 1 ∨ a = 2) : yspec a t A D f σ ↔ yra σ (ypr f 0 t (ykd f 0) (A : Int) (D : Int)) (ystd f 0 t) (f 2 t 3) (ycx a f (ypr f 0 t (ykd f 0) (A : Int) (D : Int))) (ytx a f (ypr f 0 t (ykd f 0) (A : Int) (D : Int))) := by
  rcases ha with h | h <;> subst h
  · unfold ycx ytx
    rw [if_pos rfl, if_pos rfl]
    exact Iff.rfl
  · unfold ycx ytx
    rw [if_neg (by decide), if_neg (by decide)]
    exact Iff.rfl
section KR
variable {σ f : xa_H}
/-- what follows once the key is known -/
theorem l_row (hs : yc σ f) (hv : yv f) {a t A D : Nat} (ha : a = 1 ∨ a = 2) (ht : t < 4) (hA : A < 16) (hD : D < 16) (hl : ¬ f 2 t 1 < 0) (i : Int) :
    xW (xb2 (fm_Answer_isNew (a : Int) (t : Int) (A : Int) (D : Int) σ) fun v40 s41 =>
                xj (fun (s43 : xa_H) =>
                  if i = (-1) then
                    some ((s43 0 0 3), s43)
                  else
                    (fm_Answer_at i s43).bind fun v55 =>
                    some (v55, s43)) fun K44 =>
                if v40 = 0 then
                  K44 s41
                else
                  (fm_Search_about t s41).bind fun s46 =>
                  (fm_Search_off (A : Int) (D : Int) s46).bind fun s47 =>
                  if (a : Int) = 1 then
                    (fm_S_findGoes t s47).bind fun s49 =>
                    K44 s49
                  else
                    (fm_Thing_cubesOn t (A : Int) s47).bind fun v50 =>
                    (fm_Cheapest_weigh 26 0 v50 s47).bind fun s51 =>
                    (fm_Thing_stand t s51).bind fun v52 =>
                    (fm_Cheapest_find v52 (s51 5 t 3) s51).bind fun s53 =>
                    K44 s53) fun r => r.1 = yrans (ypr f 0 t (ykd f 0) (A : Int) (D : Int)) (ystd f 0 t) (f 2 t 3) (ycx a f (ypr f 0 t (ykd f 0) (A : Int) (D : Int))) (ytx a f (ypr f 0 t (ykd f 0) (A : Int) (D : Int))) i ∧ yc r.2 f := by
  obtain ⟨hq, hlie⟩ := ystd_q hv ht hl
  have hn1 : 1 ≤ f 2 t 0 := hlie.1
  have hP := ypr_v (b := 0) hv.1 ht hn1 (ykd_v hv.1) (A := (A : Int)) (D := (D : Int)) (by omega) (by omega)
  refine xW_be2 (q_isNew (by omega) ht hA hD) (xW_j ?_)
  have hans : ∀ s, yc s f → yspec a t A D f s → xW (if i = (-1) then some ((s 0 0 3), s) else (fm_Answer_at i s).bind fun v55 => some (v55, s)) fun r => r.1 = yrans (ypr f 0 t (ykd f 0) (A : Int) (D : Int)) (ystd f 0 t) (f 2 t 3) (ycx a f (ypr f 0 t (ykd f 0) (A : Int) (D : Int))) (ytx a f (ypr f 0 t (ykd f 0) (A : Int) (D : Int))) i ∧ yc r.2 f := by
    intro s h1 h2
    refine xW_mono (l_yra ((yspec_row ha).mp h2)) ?_
    rintro r ⟨c1, c2⟩
    exact ⟨c1, by rw [c2]; exact h1⟩
  by_cases hk : ((ykey a t A D : Nat) : Int) = σ 0 0 1
  · rw [if_pos hk]
    refine xW_t rfl ?_
    rw [xup_same hk]
    exact hans σ hs (yan_at hs.2.2.2 (by omega) ht hA hD hk)
  · rw [if_neg hk]
    refine xW_f (by decide) ?_
    have f1 : xfs [0] [] σ (xup σ 0 0 1 ((ykey a t A D : Nat) : Int)) := xfs_up (by decide) (by decide)
    have k1 : xup σ 0 0 1 ((ykey a t A D : Nat) : Int) 0 0 1 = ((ykey a t A D : Nat) : Int) := xup_at
    generalize xup σ 0 0 1 ((ykey a t A D : Nat) : Int) = s1 at f1 k1 ⊢
    have hs1 := yst_f (xfc_s f1 (by decide)) hs.1
    refine xW_bind (q_about hs1 hv (yca_f f1 (by decide) (by decide) hs.2.1) ht hn1) ?_
    rintro s2 ⟨f2, b1, b2, b3, _⟩
    have f12 : xfs [0, 18, 20, 21] [8] σ s2 := xfs_t (xfs_m f1 (by decide) (by decide)) (xfs_m f2 (by decide) (by decide))
    refine xW_bind (q_off hA hD s2) ?_
    rintro s3 ⟨f3, b4⟩
    have f13 : xfs [0, 18, 20, 21] [8, 9] σ s3 := xfs_t (xfs_m f12 (by decide) (by decide)) (xfs_m f3 (by decide) (by decide))
    have hs3 := yst_f (xfc_s f13 (by decide)) hs.1
    have hsc3 : ysc s3 (ypr f 0 t (ykd f 0) (A : Int) (D : Int)) := ysc_p ypr_s (ysc_f f3 (by decide) (by decide) b1)
    have hhc3 : yhc s3 (ypr f 0 t (ykd f 0) (A : Int) (D : Int)) := yhc_p ypr_s (yhc_f f3 (by decide) b2)
    have hb3 : s3 3 0 9 = ((yhd (ypr f 0 t (ykd f 0) (A : Int) (D : Int)) : Nat) : Int) := b4
    have h38 : s3 3 0 8 = (t : Int) := by rw [f3.2 0 8 (by decide)]; exact b3
    have hfl3 : yfl s3 := yfl_f f13 (by decide) (by decide) hs.2.2.1
    have k3 : s3 0 0 1 = ((ykey a t A D : Nat) : Int) := by rw [f3.1 0 (by decide) (by decide), f2.1 0 (by decide) (by decide)]; exact k1
    have hend : ∀ s L M, xfs L M s3 s → (∀ K ∈ L, K ∈ [0, 1, 3, 11, 12, 13, 14, 15, 16, 18, 20, 21, 22, 23]) → (5 ∉ L ∧ 28 ∉ L ∧ 18 ∉ L ∧ 20 ∉ L) → 8 ∉ M → yhc s (ypr f 0 t (ykd f 0) (A : Int) (D : Int)) → yfl s → s 0 0 1 = ((ykey a t A D : Nat) : Int) →
        yra s (ypr f 0 t (ykd f 0) (A : Int) (D : Int)) (ystd f 0 t) (f 2 t 3) (ycx a f (ypr f 0 t (ykd f 0) (A : Int) (D : Int))) (ytx a f (ypr f 0 t (ykd f 0) (A : Int) (D : Int))) → xW (if i = (-1) then some ((s 0 0 3), s) else (fm_Answer_at i s).bind fun v55 => some (v55, s)) fun r => r.1 = yrans (ypr f 0 t (ykd f 0) (A : Int) (D : Int)) (ystd f 0 t) (f 2 t 3) (ycx a f (ypr f 0 t (ykd f 0) (A : Int) (D : Int))) (ytx a f (ypr f 0 t (ykd f 0) (A : Int) (D : Int))) i ∧ yc r.2 f := by
      intro s L M fs hL hL2 hM c1 c2 c3 c4
      have h2 := (yspec_row (D := D) ha).mpr c4
      refine hans s ⟨yst_f (xfc_t (xfc_s f13 (by decide)) (xfc_s fs hL)) hs.1, Or.inr (Or.inr ⟨t, ht, by rw [fs.2 0 8 hM]; exact h38, hn1, ysc_p ypr_s (ysc_f fs hL2 hM hsc3), yhc_p ypr_s c1⟩), c2, Or.inr ⟨a, t, A, D, by omega, ht, hA, hD, c3, h2⟩⟩ h2
    rcases ha with h1 | h2
    · subst h1
      refine xW_t rfl (xW_bind (q_findGoes hs3 hv ht hl hP hsc3 hhc3 hb3 hfl3 k3) ?_)
      rintro s ⟨c1, c2, c3, c4, c5⟩
      refine hend s _ _ c1 (by decide) (by decide) (by decide) c2 c3 c4 ?_
      unfold ycx ytx
      rw [if_pos rfl, if_pos rfl]
      exact c5
    · subst h2
      have hcn : ycn (ypr f 0 t (ykd f 0) (A : Int) (D : Int)) ≤ 10 := by
        have h1 := yco_le (P := ypr f 0 t (ykd f 0) (A : Int) (D : Int)) (n := (ypr f 0 t (ykd f 0) (A : Int) (D : Int) 2 0 0).toNat)
        have h2 := hP.2.2.1
        unfold ycn
        omega
      refine xW_f (by decide) (xW_be (q_cubesOnC hs3 hv ht hA hP) (xW_bind (q_weigh hs3 hv hcn) ?_))
      rintro s4 ⟨f4, b5⟩
      have hs4 := yst_f (xfc_s f4 (by decide)) hs3
      refine xW_be (q_stand hs4 hv ht hl) ?_
      have hth := hs4.2.1.2.2.1 t ht
      have e4 : 4 * 0 + t = t := by omega
      rw [e4] at hth
      have h53 : s4 5 t 3 = (((f 2 t 3).toNat : Nat) : Int) := by
        have h1 : s4 5 t 3 = f 2 t 3 := hth.1.2.2.2
        have h2 : 0 ≤ f 2 t 3 := (hv.1.2.2.1 t ht).2.2.2.2.2.1.1.1
        omega
      have hg3 : (((f 2 t 3).toNat : Nat) : Int) = f 2 t 3 := by
        have h2 : 0 ≤ f 2 t 3 := (hv.1.2.2.1 t ht).2.2.2.2.2.1.1.1
        omega
      rw [h53]
      have hcs : ∀ m, m < 12 → ycs (ymcs f) (ycn (ypr f 0 t (ykd f 0) (A : Int) (D : Int))) m ≤ 90 := by
        intro m _
        refine ycs_r (fun i hi => ?_) hcn
        have h2 : 0 ≤ f 4 0 i ∧ f 4 0 i ≤ 9 := (hv.1.2.2.2 i hi).2
        unfold ymcs
        omega
      have hfind := q_find (P := ypr f 0 t (ykd f 0) (A : Int) (D : Int)) (yct_f f4 (by decide) hs3.1) hP (ysc_f f4 (by decide) (by decide) hsc3) (yhc_f f4 (by decide) hhc3) (by rw [f4.2 0 9 (by decide)]; exact hb3) (yst_wy hs4) hcs b5 (s0 := ystd f 0 t) (g := (f 2 t 3).toNat) (ystd_c hlie (hv.1.2.2.1 t ht).2.2.2.2.1) (ygoal_c (hv.1.2.2.1 t ht) hv.1.1)
      have k4 : s4 0 0 1 = ((ykey 2 t A D : Nat) : Int) := by rw [f4.1 0 (by decide) (by decide)]; exact k3
      refine xW_bind (xPr_W (k_find k4) hfind) ?_
      rintro s ⟨⟨c1, c2, c3⟩, c4⟩
      rw [hg3] at c3
      have f34 : xfs [0, 1, 12, 13, 14, 15, 16, 21] [] s3 s := xfs_t (xfs_m f4 (by decide) (by decide)) (xfs_m c1 (by decide) (by decide))
      refine hend s _ _ f34 (by decide) (by decide) (by decide) c2 (yfl_f f34 (by decide) (by decide) hfl3) c4 ?_
      unfold ycx ytx
      rw [if_neg (by decide), if_neg (by decide)]
      rcases c3 with ⟨d1, d2, d3⟩ | d
      · refine Or.inl ⟨?_, d2, d3⟩
        rintro ⟨L, e, q1, q2⟩
        exact d1 L e q1 q2
      · exact Or.inr d
theorem K_row (hs : yc σ f) (hv : yv f) {a : Nat} (ha : a = 1 ∨ a = 2) (t A D i : Int) : xW (fm_S_rowAnswer (a : Int) t A D i σ) fun r => r.1 = arow f a t A D i ∧ yc r.2 f := by
  unfold fm_S_rowAnswer arow
  rw [q_isSetC, q_isSetC]
  by_cases h : 0 ≤ t ∧ t ≤ 3
  · rw [if_pos h]
    refine xW_f (by omega) (xW_f (by omega) (xW_t (by omega) (xW_be rfl (xW_j ?_))))
    by_cases hA : 0 ≤ A ∧ A ≤ 15
    · rw [if_pos hA]
      refine xW_f (by decide) (xW_be rfl ?_)
      by_cases hD : 0 ≤ D ∧ D ≤ 15
      · rw [if_pos hD, if_pos (show (0 ≤ A ∧ A ≤ 15) ∧ (0 ≤ D ∧ D ≤ 15) from ⟨hA, hD⟩)]
        refine xW_f (by decide) (xW_f (by decide) ?_)
        obtain ⟨u, hu⟩ : ∃ u : Nat, t = (u : Int) := ⟨t.toNat, by omega⟩
        obtain ⟨A', hA'⟩ : ∃ u : Nat, A = (u : Int) := ⟨A.toNat, by omega⟩
        obtain ⟨D', hD'⟩ : ∃ u : Nat, D = (u : Int) := ⟨D.toNat, by omega⟩
        subst hu hA' hD'
        have tn : ((u : Int)).toNat = u := rfl
        have e4 : 4 * 0 + u = u := by omega
        have h51 : σ 5 u 1 = f 2 u 1 := by
          have := (hs.1.2.1.2.2.1 u (by omega)).1.2.1
          rw [e4] at this
          exact this
        rw [tn, e4, h51]
        by_cases hl : f 2 u 1 < 0
        · rw [if_pos hl]
          exact xW_f (by omega) (xW_f (by decide) (xW_some ⟨rfl, hs⟩))
        · rw [if_neg hl]
          exact xW_t (by omega) (xW_t rfl (l_row hs hv ha (by omega) (by omega) (by omega) hl i))
      · rw [if_neg hD, if_neg (show ¬ ((0 ≤ A ∧ A ≤ 15) ∧ (0 ≤ D ∧ D ≤ 15)) from fun q => hD q.2)]
        exact xW_t rfl (xW_t rfl (xW_f (by decide) (xW_some ⟨rfl, hs⟩)))
    · rw [if_neg hA, if_neg (show ¬ ((0 ≤ A ∧ A ≤ 15) ∧ (0 ≤ D ∧ D ≤ 15)) from fun q => hA q.1)]
      exact xW_t rfl (xW_t rfl (xW_f (by decide) (xW_some ⟨rfl, hs⟩)))
  · rw [if_neg h]
    have hbad : ∀ g : xW (some ((-1 : Int), σ)) fun r => r.1 = -1 ∧ yc r.2 f, True := fun _ => trivial
    have hb : xW (some ((-1 : Int), σ)) fun r => r.1 = -1 ∧ yc r.2 f := xW_some ⟨rfl, hs⟩
    by_cases d : t < 0
    · refine xW_t d (xW_be rfl (xW_j (xW_if (fun _ => hb) (fun _ => xW_be rfl (xW_if (fun _ => hb) (fun _ => hb))))))
    · refine xW_f d (xW_t (by omega) (xW_be rfl (xW_j (xW_if (fun _ => hb) (fun _ => xW_be rfl (xW_if (fun _ => hb) (fun _ => hb)))))))
theorem K_goes (hs : yc σ f) (hv : yv f) (t A D i : Int) : xW (fm_S_goes t A D i σ) fun r => r.1 = arow f 1 t A D i ∧ yc r.2 f := by
  unfold fm_S_goes
  refine xW_b2 (K_row hs hv (a := 1) (Or.inl rfl) t A D i) (fun v s h => xW_some h)
theorem K_effort (hs : yc σ f) (hv : yv f) (t A D i : Int) : xW (fm_S_effort t A D i σ) fun r => r.1 = arow f 2 t A D i ∧ yc r.2 f := by
  unfold fm_S_effort
  refine xW_b2 (K_row hs hv (a := 2) (Or.inr rfl) t A D i) (fun v s h => xW_some h)
end KR
