/-! goes and effort of the reference -/
theorem xcmp_0 {a b : Int} : xcmp a b = 0 ↔ a = b := by
  have h1 := xcmp_lt (a := a) (b := b)
  have h2 := xcmp_gt (a := a) (b := b)
  constructor
  · intro h
    rw [h] at h1 h2
    have h3 : ¬ a < b := fun q => absurd (h1.mpr q) (by decide)
    have h4 : ¬ b < a := fun q => absurd (h2.mpr q) (by decide)
    omega
  · intro h
    have h3 : ¬ xcmp a b < 0 := fun q => by have := h1.mp q; omega
    have h4 : ¬ 0 < xcmp a b := fun q => by have := h2.mp q; omega
    omega
section MR
variable {σ f : xa_H}
theorem q_Mstand {s : xa_H} {t c : Nat} (ht : t < 5) (hc : c < 3456) (h62 : s 62 0 t = ((c / 24 : Nat) : Int)) (h63 : s 63 0 t = ((c % 24 : Nat) : Int)) : fm_M_standOf (t : Int) s = some ((ycr c : Nat) : Int) := by
  have tn : ∀ j : Nat, ((j : Int)).toNat = j := fun j => rfl
  unfold fm_M_standOf
  rw [if_pos ⟨by omega, by omega⟩, if_pos ⟨by omega, by omega⟩, tn, h62, h63]
  have e : w32 (w32 (144 * ((c % 24 : Nat) : Int)) + ((c / 24 : Nat) : Int)) = ((ycr c : Nat) : Int) := by
    unfold ycr
    exact w32_2 (by omega) (by omega) (by omega)
  rw [e]
/-- what the reference finds with parts and doors off -/
theorem q_offFind (hs : ym σ f) (hv : yv f) {t A D : Nat} (ht : t < 4) (hA : A < 16) (hD : D < 16) (hl : ¬ f 2 t 1 < 0) {j : Int} {w : Nat → Nat} (hk : ∀ s, ym s f → s 9 0 37 = j → ymk s (ycn (ypr f 0 t (ykd f 0) (A : Int) (D : Int))) w)
    {Q : Int × xa_H → Prop} {K : xa_H → Int → Option (Int × xa_H)}
    (hK : ∀ s, ym s f → ymo s (ypr f 0 t (ykd f 0) (A : Int) (D : Int)) (ygl (f 2 t 3)) w → xW (K s (s 71 0 (ycr (ystd f 0 t)))) Q) :
    xW ((fm_M_takeOff (A : Int) (D : Int) σ).bind fun s8 =>
            xnm (xup s8 9 0 37 j) fun s9 =>
            if 0 ≤ (t : Int) ∧ (t : Int) < 5 then
              (fm_M_findOff (t : Int) (s9 64 0 ((t : Int)).toNat) s9).bind fun s10 =>
              (fm_M_standOf (t : Int) s10).bind fun v11 =>
              if 0 ≤ v11 ∧ v11 < 3456 then K s10 (s10 71 0 v11.toNat) else none
            else none) Q := by
  obtain ⟨hq, hlie⟩ := ystd_q hv ht hl
  have hn1 : 1 ≤ f 2 t 0 := hlie.1
  have hP := ypr_v (b := 0) hv.1 ht hn1 (ykd_v hv.1) (A := (A : Int)) (D := (D : Int)) (by omega) (by omega)
  have tn : ∀ j : Nat, ((j : Int)).toNat = j := fun j => rfl
  refine xW_bind (q_take0 hs) ?_
  rintro s8 ⟨a1, a2, a3⟩
  refine xW_nm ?_
  have f9 : xfm [] [37] s8 (xup s8 9 0 37 j) := xfm_u9 (by decide)
  have h9 : ym (xup s8 9 0 37 j) f := ym_f f9 (by decide) (by decide) a1
  have k9 := hk _ h9 xup_at
  have w9 : ymw (xup s8 9 0 37 j) (ypr f 0 t (ykd f 0) (A : Int) (D : Int)) := ymw_f f9 (by decide) (by decide) (a3 t)
  generalize xup s8 9 0 37 j = s9 at f9 h9 k9 w9 ⊢
  have hth := hv.1.2.2.1 t ht
  have h64 : s9 64 0 t = (((f 2 t 3).toNat : Nat) : Int) := by
    have h1 := (h9.2.1.2.2.1 t ht).2.2.2
    have h2 : 0 ≤ f 2 t 3 := hth.2.2.2.2.2.1.1.1
    omega
  rw [tn, h64]
  refine xW_t ⟨by omega, by omega⟩ (xW_bind (q_findOff (gl := ygl (f 2 t 3)) (w := w) h9.1 hP (yrf_mc h9.2.1 hth ht) w9 k9 ?_) ?_)
  · intro c
    have h2 : 0 ≤ f 2 t 3 := hth.2.2.2.2.2.1.1.1
    unfold ygl
    omega
  · rintro s10 ⟨b1, b2, b3, b4⟩
    have h10 : ym s10 f := ym_f b1 (by decide) (by decide) h9
    have hmo : ymo s10 (ypr f 0 t (ykd f 0) (A : Int) (D : Int)) (ygl (f 2 t 3)) w := ⟨h10.1, h10.2.1.1, b2, ymk_f b1 (by decide) (by decide) k9, b4, b3⟩
    obtain ⟨r1, r2, r3, _⟩ := ystd_r hlie hth.2.2.2.2.1
    obtain ⟨c0, c1, c2, c3⟩ := h10.2.1.2.2.1 t ht
    have hst := q_Mstand (t := t) (by omega) r1 (by rw [r2]; exact c1) (by rw [r3]; exact c2)
    have hr := (ycr_r r1).1
    refine xW_be hst (xW_t ⟨by omega, by omega⟩ ?_)
    rw [tn]
    exact hK s10 h10 hmo
theorem l_Mrow (hs : ym σ f) (hv : yv f) {t A D : Nat} (ht : t < 4) (hA : A < 16) (hD : D < 16) (hl : ¬ f 2 t 1 < 0) {j : Int} {K : Nat} {c : Nat → Nat} (hKN : 3456 ≤ K) (hk : ∀ s, ym s f → s 9 0 37 = j → ymk s (ycn (ypr f 0 t (ykd f 0) (A : Int) (D : Int))) (ywt K c))
    {tot : Int → Int} {ytot : List Nat → Int} (htot : ∀ L : List Nat, L.length < 3456 → tot ((K * ysum c L + L.length : Nat) : Int) = ytot L) {i : Int} (hi : -2147483648 ≤ i ∧ i ≤ 2147483647) :
    xW ((fm_M_takeOff (A : Int) (D : Int) σ).bind fun s8 =>
            xnm (xup s8 9 0 37 j) fun s9 =>
            if 0 ≤ (t : Int) ∧ (t : Int) < 5 then
              (fm_M_findOff (t : Int) (s9 64 0 ((t : Int)).toNat) s9).bind fun s10 =>
              (fm_M_standOf (t : Int) s10).bind fun v11 =>
              if 0 ≤ v11 ∧ v11 < 3456 then
                xnm ((s10 71 0 v11.toNat) : Int) fun v12 =>
                if (xcmp v12 1000000000000000) = 0 then
                  some ((-6), s10)
                else
                  if i = (-1) then
                    some (tot v12, s10)
                  else
                    xb2 (fm_M_moveAt (t : Int) i s10) fun v15 s16 =>
                    some (v15, s16)
              else none
            else none) fun r => r.1 = yrans (ypr f 0 t (ykd f 0) (A : Int) (D : Int)) (ystd f 0 t) (f 2 t 3) c ytot i ∧ ym r.2 f := by
  obtain ⟨hq, hlie⟩ := ystd_q hv ht hl
  have hn1 : 1 ≤ f 2 t 0 := hlie.1
  have hP := ypr_v (b := 0) hv.1 ht hn1 (ykd_v hv.1) (A := (A : Int)) (D := (D : Int)) (by omega) (by omega)
  have hth := hv.1.2.2.1 t ht
  obtain ⟨r1, r2, r3, _⟩ := ystd_r hlie hth.2.2.2.2.1
  refine q_offFind hs hv ht hA hD hl hk (K := fun s10 v => xnm v fun v12 => if (xcmp v12 1000000000000000) = 0 then some ((-6), s10) else if i = (-1) then some (tot v12, s10) else xb2 (fm_M_moveAt (t : Int) i s10) fun v15 s16 => some (v15, s16)) ?_
  intro s h10 hmo
  show xW (if (xcmp (s 71 0 (ycr (ystd f 0 t))) 1000000000000000) = 0 then some ((-6), s) else if i = (-1) then some (tot (s 71 0 (ycr (ystd f 0 t))), s) else xb2 (fm_M_moveAt (t : Int) i s) fun v15 s16 => some (v15, s16)) _
  rcases hmo.2.2.2.2.2 (ystd f 0 t) r1 with ⟨d, k1, k2, k3⟩ | ⟨k1, k2⟩
  · rw [k2]
    refine xW_f (by rw [xcmp_0]; omega) ?_
    have hw1 : ∀ m, 1 ≤ ywt K c m := fun m => by unfold ywt; omega
    obtain ⟨L, hL⟩ := ygre_ex hw1 d k1
    have hopt := yopt_g (N := 3456) (fun u hu => yG_lt hu) hKN hL
    have hlen := yopt_len (N := 3456) (fun u hu => yG_lt hu) hopt
    obtain ⟨e, g1, g2, g3⟩ := ygre_go hw1 hL
    have hg : ygoes (ypr f 0 t (ykd f 0) (A : Int) (D : Int)) (ystd f 0 t) (f 2 t 3) := ⟨L, e, g1, g2⟩
    have eA : yrans (ypr f 0 t (ykd f 0) (A : Int) (D : Int)) (ystd f 0 t) (f 2 t 3) c ytot i = if i = -1 then ytot L else if 0 ≤ i ∧ i < (L.length : Int) then ysg (L.getD i.toNat 0) else -6 := by
      unfold yrans
      rw [if_pos hg, yopl_1 hopt]
    rw [eA]
    by_cases hi1 : i = -1
    · rw [if_pos hi1, if_pos hi1]
      refine xW_some ⟨?_, h10⟩
      show tot (d : Int) = ytot L
      rw [← htot L hlen, ← ysum_w, g3]
    · rw [if_neg hi1, if_neg hi1]
      obtain ⟨c0, c1, c2, c3⟩ := h10.2.1.2.2.1 t ht
      refine xW_b2 (q_moveAt hP hmo hL hlen hi (t := t) (by omega) (by rw [r2]; exact c1) (by rw [r3]; exact c2)) ?_
      rintro v s' ⟨m1, m2⟩
      refine xW_some ⟨m1, ym_f m2 (by decide) (by decide) h10⟩
  · rw [k1]
    have hng : ¬ ygoes (ypr f 0 t (ykd f 0) (A : Int) (D : Int)) (ystd f 0 t) (f 2 t 3) := by
      rintro ⟨L, e, q1, q2⟩
      exact k2 L e q1 q2
    have eA : yrans (ypr f 0 t (ykd f 0) (A : Int) (D : Int)) (ystd f 0 t) (f 2 t 3) c ytot i = -6 := if_neg hng
    rw [eA]
    exact xW_t (by rw [xcmp_0]) (xW_some ⟨rfl, h10⟩)
theorem M_goes (hs : ym σ f) (hv : yv f) (t A D : Int) {i : Int} (hi : -2147483648 ≤ i ∧ i ≤ 2147483647) : xW (fm_M_goes t A D i σ) fun r => r.1 = arow f 1 t A D i ∧ ym r.2 f := by
  unfold fm_M_goes arow
  refine xW_be (q_isThing t) ?_
  by_cases h : 0 ≤ t ∧ t ≤ 3
  · rw [if_pos h, if_pos h]
    refine xW_f (by decide) (xW_be (q_isSetM A) ?_)
    by_cases hA : 0 ≤ A ∧ A ≤ 15
    · rw [if_pos hA]
      refine xW_f (by decide) (xW_be (q_isSetM D) ?_)
      by_cases hD : 0 ≤ D ∧ D ≤ 15
      · rw [if_pos hD, if_pos (show (0 ≤ A ∧ A ≤ 15) ∧ (0 ≤ D ∧ D ≤ 15) from ⟨hA, hD⟩)]
        obtain ⟨u, hu⟩ : ∃ u : Nat, t = (u : Int) := ⟨t.toNat, by omega⟩
        obtain ⟨A', hA'⟩ : ∃ u : Nat, A = (u : Int) := ⟨A.toNat, by omega⟩
        obtain ⟨D', hD'⟩ : ∃ u : Nat, D = (u : Int) := ⟨D.toNat, by omega⟩
        subst hu hA' hD'
        have tn : ((u : Int)).toNat = u := rfl
        have h62 := (hs.2.1.2.2.1 u (by omega)).2.1
        refine xW_f (by decide) (xW_t ⟨by omega, by omega⟩ ?_)
        rw [tn, h62]
        by_cases hl : f 2 u 1 < 0
        · rw [if_pos hl]
          exact xW_f (by omega) (xW_some ⟨rfl, hs⟩)
        · rw [if_neg hl]
          refine xW_t (by omega) ?_
          refine l_Mrow hs hv (by omega) (by omega) (by omega) hl (K := 3456) (c := ycx 1 f (ypr f 0 u (ykd f 0) (A' : Int) (D' : Int))) (tot := w32) (ytot := ytx 1 f (ypr f 0 u (ykd f 0) (A' : Int) (D' : Int))) (Nat.le_refl _) (fun s _ h37 => Or.inl ⟨h37, fun m => ?_⟩) (fun L hL => ?_) hi
          · unfold ywt ycx
            rw [if_pos rfl]
          · unfold ycx ytx
            rw [if_pos rfl, if_pos rfl, ysum_0 (fun _ => rfl)]
            exact w32_k (by omega) (by omega)
      · rw [if_neg hD, if_neg (show ¬ ((0 ≤ A ∧ A ≤ 15) ∧ (0 ≤ D ∧ D ≤ 15)) from fun q => hD q.2)]
        exact xW_t rfl (xW_some ⟨rfl, hs⟩)
    · rw [if_neg hA, if_neg (show ¬ ((0 ≤ A ∧ A ≤ 15) ∧ (0 ≤ D ∧ D ≤ 15)) from fun q => hA q.1)]
      exact xW_t rfl (xW_some ⟨rfl, hs⟩)
  · rw [if_neg h, if_neg h]
    exact xW_t rfl (xW_some ⟨rfl, hs⟩)
theorem M_effort (hs : ym σ f) (hv : yv f) (t A D : Int) {i : Int} (hi : -2147483648 ≤ i ∧ i ≤ 2147483647) : xW (fm_M_effort t A D i σ) fun r => r.1 = arow f 2 t A D i ∧ ym r.2 f := by
  unfold fm_M_effort arow
  refine xW_be (q_isThing t) ?_
  by_cases h : 0 ≤ t ∧ t ≤ 3
  · rw [if_pos h, if_pos h]
    refine xW_f (by decide) (xW_be (q_isSetM A) ?_)
    by_cases hA : 0 ≤ A ∧ A ≤ 15
    · rw [if_pos hA]
      refine xW_f (by decide) (xW_be (q_isSetM D) ?_)
      by_cases hD : 0 ≤ D ∧ D ≤ 15
      · rw [if_pos hD, if_pos (show (0 ≤ A ∧ A ≤ 15) ∧ (0 ≤ D ∧ D ≤ 15) from ⟨hA, hD⟩)]
        obtain ⟨u, hu⟩ : ∃ u : Nat, t = (u : Int) := ⟨t.toNat, by omega⟩
        obtain ⟨A', hA'⟩ : ∃ u : Nat, A = (u : Int) := ⟨A.toNat, by omega⟩
        obtain ⟨D', hD'⟩ : ∃ u : Nat, D = (u : Int) := ⟨D.toNat, by omega⟩
        subst hu hA' hD'
        have tn : ((u : Int)).toNat = u := rfl
        have h62 := (hs.2.1.2.2.1 u (by omega)).2.1
        refine xW_f (by decide) (xW_t ⟨by omega, by omega⟩ ?_)
        rw [tn, h62]
        by_cases hl : f 2 u 1 < 0
        · rw [if_pos hl]
          exact xW_f (by omega) (xW_some ⟨rfl, hs⟩)
        · rw [if_neg hl]
          refine xW_t (by omega) ?_
          have hn1 : 1 ≤ f 2 u 0 := (ystd_q hv (t := u) (by omega) hl).2.1
          have h10 : f 2 u 0 ≤ 10 := (hv.1.2.2.1 u (by omega)).1.2
          have hcn : ycn (ypr f 0 u (ykd f 0) (A' : Int) (D' : Int)) ≤ 10 := by
            have h1 := yco_le (P := ypr f 0 u (ykd f 0) (A' : Int) (D' : Int)) (n := (f 2 u 0).toNat)
            have h3 : ycn (ypr f 0 u (ykd f 0) (A' : Int) (D' : Int)) = yco (ypr f 0 u (ykd f 0) (A' : Int) (D' : Int)) (f 2 u 0).toNat := rfl
            omega
          have hmr : ∀ i, i < 4 → 0 ≤ f 4 0 i ∧ f 4 0 i ≤ 9 := fun i hi => (hv.1.2.2.2 i hi).2
          have hmc : ∀ i, i < 4 → ymcs f i ≤ 9 := by
            intro i hi
            have h2 := hmr i hi
            unfold ymcs
            omega
          refine l_Mrow hs hv (by omega) (by omega) (by omega) hl (K := 10000) (c := ycx 2 f (ypr f 0 u (ykd f 0) (A' : Int) (D' : Int))) (tot := fun v => w32 (xdiv v 10000)) (ytot := ytx 2 f (ypr f 0 u (ykd f 0) (A' : Int) (D' : Int))) (by decide) (fun s h9 h37 => Or.inr ⟨by rw [h37]; decide, ymcs f, fun i hi => ⟨?_, hmc i hi⟩, hcn, fun m => ?_⟩) (fun L hL => ?_) hi
          · have h1 := (h9.2.1.2.2.2.1 i hi).2
            have h2 := hmr i hi
            unfold ymcs
            omega
          · unfold ycx
            rw [if_neg (by decide)]
          · unfold ycx ytx
            rw [if_neg (by decide), if_neg (by decide)]
            have hb := ysum_l (c := ycs (ymcs f) (ycn (ypr f 0 u (ykd f 0) (A' : Int) (D' : Int)))) (w := 90) (L := L) (fun m _ => ycs_r hmc hcn)
            show w32 (xdiv _ 10000) = _
            rw [xdiv_p (by omega)]
            exact w32_k (by omega) (by omega)
      · rw [if_neg hD, if_neg (show ¬ ((0 ≤ A ∧ A ≤ 15) ∧ (0 ≤ D ∧ D ≤ 15)) from fun q => hD q.2)]
        exact xW_t rfl (xW_some ⟨rfl, hs⟩)
    · rw [if_neg hA, if_neg (show ¬ ((0 ≤ A ∧ A ≤ 15) ∧ (0 ≤ D ∧ D ≤ 15)) from fun q => hA q.1)]
      exact xW_t rfl (xW_some ⟨rfl, hs⟩)
  · rw [if_neg h, if_neg h]
    exact xW_t rfl (xW_some ⟨rfl, hs⟩)
end MR
