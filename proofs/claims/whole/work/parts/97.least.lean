/-! least, in the class -/
section LT
variable {σ f : xa_H} {t : Nat}
def yl3 (f : xa_H) (t : Nat) (s : xa_H) : Prop := ∃ set, ylst f t set ∧ s 0 0 2 = 3 ∧ s 12 0 0 = (ycst f t set : Int) ∧ s 12 0 1 = ((set / 16 : Nat) : Int) ∧ s 12 0 2 = ((set % 16 : Nat) : Int)
/-- no set of those that goes stands before cost c and number x -/
def ynb (f : xa_H) (t : Nat) (Mp : Nat → Prop) (c x : Nat) : Prop := ∀ u, u < 256 → Mp u → ygs f t u → c < ycst f t u ∨ (ycst f t u = c ∧ x ≤ u)
theorem ynb_s {Mp : Nat → Prop} {c x : Nat} (h : ynb f t Mp c x) (hx : Mp x → ycst f t x = c → ¬ ygs f t x) : ynb f t Mp c (x + 1) := by
  intro u hu hm hg
  rcases h u hu hm hg with h1 | ⟨h1, h2⟩
  · exact Or.inl h1
  · by_cases e : u = x
    · subst e
      exact absurd hg (hx hm h1)
    · exact Or.inr ⟨h1, by omega⟩
theorem ynb_n {Mp : Nat → Prop} {c : Nat} (h : ynb f t Mp c 256) : ynb f t Mp (c + 1) 0 := by
  intro u hu hm hg
  rcases h u hu hm hg with h1 | ⟨h1, h2⟩
  · by_cases e : ycst f t u = c + 1
    · exact Or.inr ⟨e, Nat.zero_le _⟩
    · exact Or.inl (by omega)
  · omega
theorem ynb_0 {Mp : Nat → Prop} : ynb f t Mp 0 0 := by
  intro u hu hm hg
  by_cases e : ycst f t u = 0
  · exact Or.inr ⟨e, Nat.zero_le _⟩
  · exact Or.inl (by omega)
theorem l_l69 (hs : yst σ f) (hv : yv f) (ht : t < 4) {U N : Nat} (hU : yuf f t U) (hN : ynd f t U N) (hl : ¬ f 2 t 1 < 0) (hsc : ysc σ (yPl f t)) (h11 : ∀ u, u < 256 → σ 11 0 u = ((ycst f t u : Nat) : Int)) (h02 : σ 0 0 2 = 0)
    {c : Nat} {K : xa_H → Option xa_H} {Q : xa_H → Prop} (hend : ∀ g, ygk σ f t g → ynb f t (ymay U N) c 256 → xW (K g) Q)
    (hfound : ∀ s, xfs [0, 12, 21, 22, 23] [9, 10] σ s → yhc s (yPl f t) → yfl s → s 0 0 1 = σ 0 0 1 → yl3 f t s → Q s) :
    ∀ (d x fu : Nat) (g : xa_H), x + d = 256 → d < fu → ygk σ f t g → ynb f t (ymay U N) c x → xW (fm_S_findLeast_69 t (U : Int) (N : Int) (c : Int) K fu (x : Int) g) Q := by
  intro d
  induction d with
  | zero =>
    intro x fu g hx hd hg hb
    obtain ⟨m, rfl⟩ : ∃ m, fu = m + 1 := ⟨fu - 1, by omega⟩
    rw [fm_S_findLeast_69]
    have e : x = 256 := by omega
    rw [e] at hb
    exact xW_t (by omega) (hend g hg hb)
  | succ d ih =>
    intro x fu g hx hd hg hb
    obtain ⟨m, rfl⟩ : ∃ m, fu = m + 1 := ⟨fu - 1, by omega⟩
    have hx2 : x < 256 := by omega
    have tn : ((x : Int)).toNat = x := rfl
    have hg11 : g 11 0 x = ((ycst f t x : Nat) : Int) := by rw [hg.1.1 11 (by decide) (by decide)]; exact h11 x hx2
    have hUl := hU.1
    have hNl := hN.1
    have e1 : xand (x : Int) (xxor (U : Int) (-1)) = ((x ^^^ (x &&& U) : Nat) : Int) := xandn_n (by omega) (by omega)
    have e2 : xand (N : Int) (xxor (x : Int) (-1)) = ((N ^^^ (N &&& x) : Nat) : Int) := xandn_n (by omega) (by omega)
    have hgo : ynb f t (ymay U N) c (x + 1) → ∀ g', ygk σ f t g' → xW (xnm (w32 ((x : Int) + 1) : Int) fun v8 => fm_S_findLeast_69 t (U : Int) (N : Int) (c : Int) K m v8 g') Q := by
      intro hb' g' hg'
      refine xW_nm ?_
      rw [w32_s (by omega)]
      exact ih (x + 1) m g' (by omega) (by omega) hg' hb'
    rw [fm_S_findLeast_69]
    refine xW_f (by omega) (xW_t ⟨by omega, by omega⟩ ?_)
    rw [tn, hg11, e1, e2]
    by_cases hA : ycst f t x = c
    · by_cases hB : x ^^^ (x &&& U) = 0
      · by_cases hC : N ^^^ (N &&& x) = 0
        · rw [if_pos (show ((ycst f t x : Nat) : Int) = (c : Int) by omega), if_pos (show ((x ^^^ (x &&& U) : Nat) : Int) = 0 by omega), if_pos (show ((N ^^^ (N &&& x) : Nat) : Int) = 0 by omega)]
          refine xW_nm (xW_f (by decide) (xW_b2 (ygk_w hs hv ht hx2 hl hsc hg) ?_))
          rintro v s ⟨a1, a2⟩
          have a1 : ygk σ f t s := a1
          have hmay : ymay U N x := ⟨andn_0.mp hB, andn_0.mp hC⟩
          rcases a2 with ⟨a2, a3⟩ | ⟨a2, a3⟩
          · have a2 : v = 1 := a2
            have a3 : ygs f t x := a3
            have eD : xdiv (x : Int) 16 = ((x / 16 : Nat) : Int) := by rw [xdiv_p (by omega)]; omega
            have eR : xrem (x : Int) 16 = ((x % 16 : Nat) : Int) := by rw [xrem_p (by omega)]; omega
            have k0 : s 0 0 2 = ((0 : Nat) : Int) := by rw [a1.1.1 0 (by decide) (by decide)]; exact h02
            rw [eD, eR]
            refine xW_f (by omega) (xW_be (q_add k0 (by decide)) (xW_be (q_add xup_at (by decide)) (xW_be (q_add xup_at (by decide)) (xW_some ?_))))
            have hfr : xfs [0, 12] [] s (xup (xup (xup (xup (xup (xup s 12 0 0 (c : Int)) 0 0 2 ((0 + 1 : Nat) : Int)) 12 0 (0 + 1) ((x / 16 : Nat) : Int)) 0 0 2 ((0 + 1 + 1 : Nat) : Int)) 12 0 (0 + 1 + 1) ((x % 16 : Nat) : Int)) 0 0 2 ((0 + 1 + 1 + 1 : Nat) : Int)) :=
              xfs_t (xfs_up (by decide) (by decide)) (xfs_t (xfs_up (by decide) (by decide)) (xfs_t (xfs_up (by decide) (by decide)) (xfs_t (xfs_up (by decide) (by decide)) (xfs_t (xfs_up (by decide) (by decide)) (xfs_up (by decide) (by decide))))))
            refine hfound _ (xfs_t (xfs_m a1.1 (by decide) (by decide)) (xfs_m hfr (by decide) (by decide))) (yhc_f hfr (by decide) a1.2.1) (yfl_f hfr (by decide) (by decide) a1.2.2) ?_ ⟨x, ⟨hx2, a3, fun s' hs' hg' => ?_⟩, xup_at, ?_, ?_, ?_⟩
            · rw [xup_o (by omega), xup_o (by omega), xup_o (by omega), xup_o (by omega), xup_o (by omega), xup_o (by omega), a1.1.1 0 (by decide) (by decide)]
            · obtain ⟨u, u1, u2, u3, u4, u5⟩ := ymay_ex hv ht hU hN hs' hg'
              rcases hb u u1 u2 u3 with h | ⟨h, h'⟩
              · left; omega
              · by_cases e : ycst f t x < ycst f t s'
                · exact Or.inl e
                · right; omega
            · rw [xup_o (by omega), xup_o (by omega), xup_o (by omega), xup_o (by omega), xup_o (by omega), xup_at, hA]
            · rw [xup_o (by omega), xup_o (by omega), xup_o (by omega), xup_at]
            · rw [xup_o (by omega), xup_at]
          · have a2 : v = 0 := a2
            exact xW_t a2 (hgo (ynb_s hb (fun _ _ => a3)) s a1)
        · rw [if_pos (show ((ycst f t x : Nat) : Int) = (c : Int) by omega), if_pos (show ((x ^^^ (x &&& U) : Nat) : Int) = 0 by omega), if_neg (show ¬ ((N ^^^ (N &&& x) : Nat) : Int) = 0 by omega)]
          exact xW_nm (xW_t rfl (hgo (ynb_s hb (fun h _ => absurd (andn_0.mpr h.2) hC)) g hg))
      · rw [if_pos (show ((ycst f t x : Nat) : Int) = (c : Int) by omega), if_neg (show ¬ ((x ^^^ (x &&& U) : Nat) : Int) = 0 by omega)]
        exact xW_nm (xW_t rfl (hgo (ynb_s hb (fun h _ => absurd (andn_0.mpr h.1) hB)) g hg))
    · rw [if_neg (show ¬ ((ycst f t x : Nat) : Int) = (c : Int) by omega)]
      exact xW_nm (xW_t rfl (hgo (ynb_s hb (fun _ h => absurd h hA)) g hg))
theorem l_l59 (hs : yst σ f) (hv : yv f) (ht : t < 4) {U N : Nat} (hU : yuf f t U) (hN : ynd f t U N) (hl : ¬ f 2 t 1 < 0) (hsc : ysc σ (yPl f t)) (h11 : ∀ u, u < 256 → σ 11 0 u = ((ycst f t u : Nat) : Int)) (h02 : σ 0 0 2 = 0) (hgU : ygs f t U)
    {Q : xa_H → Prop} (hfound : ∀ s, xfs [0, 12, 21, 22, 23] [9, 10] σ s → yhc s (yPl f t) → yfl s → s 0 0 1 = σ 0 0 1 → yl3 f t s → Q s) :
    ∀ (d c fu : Nat) (g : xa_H), c + d = 73 → d < fu → ygk σ f t g → ynb f t (ymay U N) c 0 → xW (fm_S_findLeast_59 t (U : Int) (N : Int) (fun s => some s) fu (c : Int) g) Q := by
  intro d
  induction d with
  | zero =>
    intro c fu g hc hd hg hb
    exfalso
    have hm : ymay U N U := ⟨fun _ h => h, fun i h => (hN.2 i h).1⟩
    have h72 := ycst_b (u := U) hv ht
    rcases hb U hU.1 hm hgU with h | ⟨h, _⟩ <;> omega
  | succ d ih =>
    intro c fu g hc hd hg hb
    obtain ⟨m, rfl⟩ : ∃ m, fu = m + 1 := ⟨fu - 1, by omega⟩
    rw [fm_S_findLeast_59]
    refine xW_f (by omega) ?_
    refine l_l69 hs hv ht hU hN hl hsc h11 h02 (fun g' hg' hb' => ?_) hfound 256 0 xFU g (by omega) (xfu_b (by omega)) hg hb
    refine xW_nm ?_
    rw [w32_s (by omega)]
    exact ih (c + 1) m g' (by omega) (by omega) hg' (ynb_n hb')
/-- what an answer leaves -/
def ypo (f : xa_H) (a t A D : Nat) (s : xa_H) : Prop := yst s f ∧ yca s f ∧ yfl s ∧ s 0 0 1 = ((ykey a t A D : Nat) : Int) ∧ yspec a t A D f s
theorem ygs_255 (hv : yv f) (ht : t < 4) {U : Nat} (hU : yuf f t U) (h : ygw f t 15 15) : ygs f t U := by
  have h : ygs f t 255 := h
  exact ygs_mono hv ht (by decide) hU.1 (fun b hb hy _ => (hU.2 b hb).mpr hy) h
theorem q_findLeast (hs : yst σ f) (hv : yv f) (hc : yca σ f) (hf : yfl σ) (ht : t < 4) (hl : ¬ f 2 t 1 < 0) (hk : σ 0 0 1 = ((ykey 3 t 0 0 : Nat) : Int)) : xW (fm_S_findLeast t σ) (ypo f 3 t 0 0) := by
  obtain ⟨hq, hlie⟩ := ystd_q hv ht hl
  have hn1 : 1 ≤ f 2 t 0 := hlie.1
  have hn0 : fm_Answer_none σ = some (xup (xup σ 0 0 2 0) 0 0 3 (-6)) := rfl
  unfold fm_S_findLeast
  refine xW_be hn0 ?_
  have f1 : xfs [0] [] σ (xup (xup σ 0 0 2 0) 0 0 3 (-6)) := xfs_t (xfs_up (by decide) (by decide)) (xfs_up (by decide) (by decide))
  have c1 : xup (xup σ 0 0 2 0) 0 0 3 (-6) 0 0 2 = 0 := by rw [xup_o (by omega), xup_at]
  have k1 : xup (xup σ 0 0 2 0) 0 0 3 (-6) 0 0 1 = ((ykey 3 t 0 0 : Nat) : Int) := by rw [xup_o (by omega), xup_o (by omega)]; exact hk
  generalize xup (xup σ 0 0 2 0) 0 0 3 (-6) = s1 at f1 c1 k1 ⊢
  have hs1 := yst_f (xfc_s f1 (by decide)) hs
  refine xW_bind (q_about hs1 hv (yca_f f1 (by decide) (by decide) hc) ht hn1) ?_
  rintro s2 ⟨f2, b1, b2, b3, _⟩
  have hs2 := yst_f (xfc_s f2 (by decide)) hs1
  have c2 : s2 0 0 2 = 0 := by rw [f2.1 0 (by decide) (by decide)]; exact c1
  have k2 : s2 0 0 1 = ((ykey 3 t 0 0 : Nat) : Int) := by rw [f2.1 0 (by decide) (by decide)]; exact k1
  have hf2 : yfl s2 := yfl_f f2 (by decide) (by decide) (yfl_f f1 (by decide) (by decide) hf)
  obtain ⟨S1, p1, p2, p3⟩ := q_partsSet hs2 hv ht
  obtain ⟨S2, d1, d2, d3⟩ := q_doorsSet hs2 hv
  have hU : yuf f t (S1 * 16 + S2) := ysu_of p1 d1 p3 d3
  refine xW_be p2 (xW_be d2 (xW_nm ?_))
  have eU : w32 (w32 ((S1 : Int) * 16) + (S2 : Int)) = ((S1 * 16 + S2 : Nat) : Int) := w32_2 (by omega) (by omega) (by omega)
  rw [eU]
  generalize S1 * 16 + S2 = U at hU ⊢
  have hpost : ∀ s L M, xfs L M s2 s → (∀ K ∈ L, K ∈ [0, 11, 12, 21, 22, 23]) → 8 ∉ M → yhc s (yPl f t) → yfl s → s 0 0 1 = ((ykey 3 t 0 0 : Nat) : Int) → yspec 3 t 0 0 f s → ypo f 3 t 0 0 s := by
    intro s L M fs hL hM h1 h2 h3 h4
    have hL2 : ∀ K, K ∉ [0, 11, 12, 21, 22, 23] → K ∉ L := fun K h q => h (hL K q)
    refine ⟨yst_f (xfc_s fs (fun K hK => ?_)) hs2, Or.inr (Or.inr ⟨t, ht, by rw [fs.2 0 8 hM]; exact b3, hn1, ysc_f fs ⟨hL2 5 (by decide), hL2 28 (by decide), hL2 18 (by decide), hL2 20 (by decide)⟩ hM b1, h1⟩), h2, h3, h4⟩
    have h9 := hL K hK
    have : ∀ K ∈ [0, 11, 12, 21, 22, 23], K ∈ [0, 1, 3, 11, 12, 13, 14, 15, 16, 18, 20, 21, 22, 23] := by decide
    exact this K h9
  refine xW_b2 (ygk_w hs2 hv ht hU.1 hl b1 ⟨xfs_r _ _ _, b2, hf2⟩) ?_
  rintro v6 s7 ⟨a1, a2⟩
  have a1 : ygk s2 f t s7 := a1
  have c7 : s7 0 0 2 = 0 := by rw [a1.1.1 0 (by decide) (by decide)]; exact c2
  have k7 : s7 0 0 1 = ((ykey 3 t 0 0 : Nat) : Int) := by rw [a1.1.1 0 (by decide) (by decide)]; exact k2
  rcases a2 with ⟨a2, a3⟩ | ⟨a2, a3⟩
  · have a2 : v6 = 1 := a2
    have hs7 := yst_f (xfc_s a1.1 (by decide)) hs2
    have hsc7 := ysc_f a1.1 (by decide) (by decide) b1
    refine xW_f (by omega) (xW_b2 (q_needed hs7 hv ht hU.1 hl hsc7 ⟨xfs_r _ _ _, a1.2.1, a1.2.2⟩) ?_)
    rintro v9 s10 ⟨e1, N, e2, e3⟩
    have e1 : ygk s7 f t s10 := e1
    have e2 : v9 = (N : Int) := e2
    subst e2
    have hs10 := yst_f (xfc_s e1.1 (by decide)) hs7
    have hsc10 := ysc_f e1.1 (by decide) (by decide) hsc7
    refine xW_bind (q_sumSet hs10 hv ht) ?_
    rintro s11 ⟨g1, g2⟩
    have f10 : xfs [11, 21, 22, 23] [9, 10] s2 s11 := xfs_t (xfs_m a1.1 (by decide) (by decide)) (xfs_t (xfs_m e1.1 (by decide) (by decide)) (xfs_m g1 (by decide) (by decide)))
    have hs11 := yst_f (xfc_s g1 (by decide)) hs10
    have c11 : s11 0 0 2 = 0 := by rw [f10.1 0 (by decide) (by decide)]; exact c2
    have k11 : s11 0 0 1 = ((ykey 3 t 0 0 : Nat) : Int) := by rw [f10.1 0 (by decide) (by decide)]; exact k2
    refine l_l59 hs11 hv ht hU e3 hl (ysc_f g1 (by decide) (by decide) hsc10) g2 c11 a3 (fun s h1 h2 h3 h4 h5 => ?_) 73 0 xFU s11 (by omega) (xfu_b (by omega)) ⟨xfs_r _ _ _, yhc_f g1 (by decide) e1.2.1, yfl_f g1 (by decide) (by decide) e1.2.2⟩ ynb_0
    exact hpost s [0, 11, 12, 21, 22, 23] [9, 10] (xfs_t (xfs_m f10 (by decide) (by decide)) (xfs_m h1 (by decide) (by decide))) (by decide) (by decide) h2 h3 (by rw [h4]; exact k11) (Or.inr h5)
  · have a2 : v6 = 0 := a2
    refine xW_t a2 (xW_some (hpost s7 _ _ a1.1 (by decide) (by decide) a1.2.1 a1.2.2 k7 (Or.inl ⟨fun h => a3 (ygs_255 hv ht hU h), c7⟩)))
/-- an answer that is looked up, or looked for -/
theorem q_ansAt (i : Int) (s : xa_H) : fm_Answer_at i s = some (if 0 ≤ i ∧ i < s 0 0 2 then (if 0 ≤ i ∧ i < 3456 then s 12 0 i.toNat else 0) else -6) := by
  unfold fm_Answer_at
  by_cases h0 : i < 0
  · rw [if_pos h0, if_neg (by omega)]
  · rw [if_neg h0]
    by_cases h1 : s 0 0 2 ≤ i
    · rw [if_pos h1, if_neg (by omega)]
    · rw [if_neg h1, if_pos (by omega), q_read, Option.bind_some]
      rfl
theorem l_ans {a A D : Nat} (hs : yc σ f) (ha : 1 ≤ a) (ha6 : a ≤ 6) (ht : t < 4) (hA : A < 16) (hD : D < 16) {F : xa_H → Option xa_H} (hF : ∀ s, yst s f → yca s f → yfl s → s 0 0 1 = ((ykey a t A D : Nat) : Int) → xW (F s) (ypo f a t A D)) (i : Int) :
    xW (xb2 (fm_Answer_isNew (a : Int) (t : Int) (A : Int) (D : Int) σ) fun v14 s15 => xj (fun (s17 : xa_H) => (fm_Answer_at i s17).bind fun v21 => some (v21, s17)) fun K18 => if v14 = 0 then K18 s15 else (F s15).bind fun s20 => K18 s20)
      fun r => yspec a t A D f r.2 ∧ r.1 = (if 0 ≤ i ∧ i < r.2 0 0 2 then (if 0 ≤ i ∧ i < 3456 then r.2 12 0 i.toNat else 0) else -6) ∧ yc r.2 f := by
  refine xW_be2 (q_isNew ha6 ht hA hD) (xW_j ?_)
  by_cases hk : ((ykey a t A D : Nat) : Int) = σ 0 0 1
  · rw [if_pos hk]
    refine xW_t rfl ?_
    rw [xup_same hk]
    exact xW_be (q_ansAt i σ) (xW_some ⟨yan_at hs.2.2.2 ha ht hA hD hk, rfl, hs⟩)
  · rw [if_neg hk]
    refine xW_f (by decide) ?_
    have f1 : xfs [0] [] σ (xup σ 0 0 1 ((ykey a t A D : Nat) : Int)) := xfs_up (by decide) (by decide)
    refine xW_bind (hF _ (yst_f (xfc_s f1 (by decide)) hs.1) (yca_f f1 (by decide) (by decide) hs.2.1) (yfl_f f1 (by decide) (by decide) hs.2.2.1) xup_at) ?_
    rintro s ⟨h1, h2, h3, h4, h5⟩
    exact xW_be (q_ansAt i s) (xW_some ⟨h5, rfl, h1, h2, h3, Or.inr ⟨a, t, A, D, ha6, ht, hA, hD, h4, h5⟩⟩)
theorem ylst_1 {u v : Nat} (h1 : ylst f t u) (h2 : ylst f t v) : u = v := by
  rcases h1.2.2 v h2.1 h2.2.1 with h | ⟨h, h'⟩ <;> rcases h2.2.2 u h1.1 h1.2.1 with k | ⟨k, k'⟩ <;> omega
noncomputable def yls (f : xa_H) (t : Nat) (w : Int) : Int := @dite Int (∃ set, ylst f t set) (Classical.propDecidable _) (fun h => if w = 0 then ((ycst f t (Classical.choose h) : Nat) : Int) else if w = 1 then ((Classical.choose h / 16 : Nat) : Int) else ((Classical.choose h % 16 : Nat) : Int)) (fun _ => -6)
theorem yls_1 {u : Nat} (h : ylst f t u) (w : Int) : yls f t w = if w = 0 then ((ycst f t u : Nat) : Int) else if w = 1 then ((u / 16 : Nat) : Int) else ((u % 16 : Nat) : Int) := by
  have he : ∃ set, ylst f t set := ⟨u, h⟩
  have e : Classical.choose he = u := ylst_1 (Classical.choose_spec he) h
  unfold yls
  rw [dif_pos he, e]
theorem yls_0 (hv : yv f) (ht : t < 4) (h : ¬ ygw f t 15 15) (w : Int) : yls f t w = -6 := by
  unfold yls
  rw [dif_neg]
  rintro ⟨u, h1, h2, _⟩
  have h2 : ygs f t u := h2
  have h3 : ygs f t 255 := ygs_mono hv ht h1 (by decide) (fun b hb _ _ => (by decide : ∀ b, b < 8 → Nat.testBit 255 b = true) b hb) h2
  exact h h3
theorem yspec_3 (hv : yv f) (ht : t < 4) {s : xa_H} (h : yspec 3 t 0 0 f s) {w : Int} (hw : 0 ≤ w ∧ w ≤ 2) : (if 0 ≤ w ∧ w < s 0 0 2 then (if 0 ≤ w ∧ w < 3456 then s 12 0 w.toNat else 0) else -6) = yls f t w := by
  rcases h with ⟨h1, h2⟩ | ⟨u, h1, h2, h3, h4, h5⟩
  · rw [yls_0 hv ht h1, if_neg (by omega)]
  · rw [yls_1 h1, if_pos (by omega), if_pos (by omega)]
    have : w = 0 ∨ w = 1 ∨ w = 2 := by omega
    rcases this with e | e | e
    · subst e; exact h3
    · subst e; exact h4
    · subst e; exact h5
noncomputable def aleast (f : xa_H) (t w : Int) : Int := if 0 ≤ t ∧ t ≤ 3 then (if 0 ≤ w ∧ w ≤ 2 then (if f 2 t.toNat 1 < 0 then -3 else yls f t.toNat w) else -2) else -1
theorem K_least (hs : yc σ f) (hv : yv f) (t w : Int) : xW (fm_S_least t w σ) fun r => r.1 = aleast f t w ∧ yc r.2 f := by
  unfold fm_S_least aleast
  rw [q_upTo]
  by_cases h : 0 ≤ t ∧ t ≤ 3
  · rw [if_pos h]
    refine xW_f (by omega) (xW_f (by omega) (xW_t (by omega) (xW_be rfl ?_)))
    by_cases hw : 0 ≤ w ∧ w ≤ 2
    · rw [if_pos hw, if_pos hw]
      obtain ⟨u, hu⟩ : ∃ u : Nat, t = (u : Int) := ⟨t.toNat, by omega⟩
      subst hu
      have tn : ((u : Int)).toNat = u := rfl
      have e4 : 4 * 0 + u = u := by omega
      have h51 : σ 5 u 1 = f 2 u 1 := by
        have := (hs.1.2.1.2.2.1 u (by omega)).1.2.1
        rw [e4] at this
        exact this
      rw [tn, e4, h51]
      refine xW_f (by decide) ?_
      by_cases hl : f 2 u 1 < 0
      · rw [if_pos hl]
        exact xW_f (by omega) (xW_f (by decide) (xW_some ⟨rfl, hs⟩))
      · rw [if_neg hl]
        refine xW_t (by omega) (xW_t rfl (xW_mono (l_ans (a := 3) (A := 0) (D := 0) hs (by decide) (by decide) (t := u) (by omega) (by decide) (by decide) (F := fun s => fm_S_findLeast u s) (fun s h1 h2 h3 h4 => q_findLeast h1 hv h2 h3 (by omega) hl h4) w) ?_))
        rintro r ⟨r1, r2, r3⟩
        exact ⟨by rw [r2]; exact yspec_3 hv (by omega) r1 hw, r3⟩
    · rw [if_neg hw, if_neg hw]
      exact xW_t rfl (xW_f (by decide) (xW_some ⟨rfl, hs⟩))
  · rw [if_neg h]
    by_cases d : t < 0
    · exact xW_t d (xW_be rfl (xW_some ⟨rfl, hs⟩))
    · exact xW_f d (xW_t (by omega) (xW_be rfl (xW_some ⟨rfl, hs⟩)))
end LT
