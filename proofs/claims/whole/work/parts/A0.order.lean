/-! things among others, in the reference; in which order they come out -/
section OM
variable {σ f : xa_H} {t left : Nat}
def yfm (g : xa_H) (W : Nat → Prop) : Prop := ∀ q, q < 144 → (g 69 0 q = 0 ∧ ¬ W q) ∨ (g 69 0 q = 1 ∧ W q)
theorem yfm_c {g : xa_H} {W W' : Nat → Prop} (h : ∀ q, W q ↔ W' q) (hg : yfm g W) : yfm g W' := by
  intro q hq
  rcases hg q hq with ⟨h1, h2⟩ | ⟨h1, h2⟩
  · exact Or.inl ⟨h1, fun k => h2 ((h q).mpr k)⟩
  · exact Or.inr ⟨h1, (h q).mp h2⟩
theorem l_fil41 (hs : ym σ f) (hv : yv f) {o : Nat} (ho : o < 4) (hl : ¬ f 2 o 1 < 0) (h1 : ¬ o = t) (h2 : left.testBit o = true) (hlc : ylc σ (yPl f o) (f 2 o 2).toNat) {K : xa_H → Option (Int × xa_H)} {Q : Int × xa_H → Prop} (hend : ∀ g, xfm [69] [] σ g → yfm g (yfu f t left o (f 2 o 0).toNat) → xW (K g) Q) :
    ∀ (d k fu : Nat) (g : xa_H), k + d = (f 2 o 0).toNat → d < fu → xfm [69] [] σ g → yfm g (yfu f t left o k) → xW (fm_M_goesAmong_41 (t : Int) (left : Int) (o : Int) K fu (k : Int) g) Q := by
  have htv := hv.1.2.2.1 o ho
  have hlie := (ystd_q hv ho hl).2
  have hn1 : 1 ≤ f 2 o 0 := hlie.1
  have hpr : 0 ≤ f 2 o 1 ∧ f 2 o 1 < 144 := hlie.2.1
  have h10 : f 2 o 0 ≤ 10 := htv.1.2
  have hsz : qsz (f 0 0 0) (f 0 0 1) (f 0 0 2) := hv.1.1
  unfold qsz at hsz
  obtain ⟨c0, c1, c2, _⟩ := hs.2.1.2.2.1 o ho
  obtain ⟨p, hp⟩ : ∃ p : Nat, f 2 o 1 = (p : Int) := ⟨(f 2 o 1).toNat, by omega⟩
  have tn : ∀ j : Nat, ((j : Int)).toNat = j := fun j => rfl
  intro d
  induction d with
  | zero =>
    intro k fu g hk hd hf hg
    obtain ⟨m, rfl⟩ : ∃ m, fu = m + 1 := ⟨fu - 1, by omega⟩
    have e54 : g 54 = σ 54 := hf.1 54 (by decide) (by decide)
    rw [fm_M_goesAmong_41, e54, tn, c0]
    have e : k = (f 2 o 0).toNat := by omega
    rw [e] at hg
    exact xW_t ⟨by omega, by omega⟩ (xW_t (by omega) (hend g hf hg))
  | succ d ih =>
    intro k fu g hk hd hf hg
    obtain ⟨m, rfl⟩ : ∃ m, fu = m + 1 := ⟨fu - 1, by omega⟩
    have hkn : k < (f 2 o 0).toNat := by omega
    have e54 : g 54 = σ 54 := hf.1 54 (by decide) (by decide)
    have e62 : g 62 = σ 62 := hf.1 62 (by decide) (by decide)
    obtain ⟨l0, l1, l2⟩ := hlc k hkn
    have l0 : σ 66 0 k = yat (yC f 0 o) (f 2 o 0).toNat (f 2 o 2).toNat k 0 := l0
    have l1 : σ 67 0 k = yat (yC f 0 o) (f 2 o 0).toNat (f 2 o 2).toNat k 1 := l1
    have l2 : σ 68 0 k = yat (yC f 0 o) (f 2 o 0).toNat (f 2 o 2).toNat k 2 := l2
    have g0 : g 66 0 k = yat (yC f 0 o) (f 2 o 0).toNat (f 2 o 2).toNat k 0 := by rw [hf.1 66 (by decide) (by decide)]; exact l0
    have g1 : g 67 0 k = yat (yC f 0 o) (f 2 o 0).toNat (f 2 o 2).toNat k 1 := by rw [hf.1 67 (by decide) (by decide)]; exact l1
    have g2 : g 68 0 k = yat (yC f 0 o) (f 2 o 0).toNat (f 2 o 2).toNat k 2 := by rw [hf.1 68 (by decide) (by decide)]; exact l2
    have hin := ycu_r hv ho hl hkn
    have hcu : ycu f o k = ypl (f 2 o 1 / 24 + yat (yC f 0 o) (f 2 o 0).toNat (f 2 o 2).toNat k 0) (f 2 o 1 / 4 % 6 + yat (yC f 0 o) (f 2 o 0).toNat (f 2 o 2).toNat k 1) (f 2 o 1 % 4 + yat (yC f 0 o) (f 2 o 0).toNat (f 2 o 2).toNat k 2) := rfl
    rw [fm_M_goesAmong_41, e54, e62, tn, tn, c0, c1, g0, g1, g2, xdiv_p (by omega), xdiv_p (by omega), xrem_p (by omega), xrem_p (by omega)]
    generalize yat (yC f 0 o) (f 2 o 0).toNat (f 2 o 2).toNat k 0 = a at hin hcu ⊢
    generalize yat (yC f 0 o) (f 2 o 0).toNat (f 2 o 2).toNat k 1 = b at hin hcu ⊢
    generalize yat (yC f 0 o) (f 2 o 0).toNat (f 2 o 2).toNat k 2 = c at hin hcu ⊢
    unfold qin at hin
    rw [w32_n (x := f 2 o 1 / 24 + a) (by omega) (by omega), w32_n (x := f 2 o 1 / 4 % 6 + b) (by omega) (by omega), w32_n (x := f 2 o 1 % 4 + c) (by omega) (by omega)]
    have hat := q_at (x := f 2 o 1 / 24 + a) (y := f 2 o 1 / 4 % 6 + b) (z := f 2 o 1 % 4 + c) (by omega) (by omega) (by omega)
    obtain ⟨q, hq⟩ : ∃ q : Nat, 24 * (f 2 o 1 / 24 + a) + 4 * (f 2 o 1 / 4 % 6 + b) + (f 2 o 1 % 4 + c) = (q : Int) := ⟨(24 * (f 2 o 1 / 24 + a) + 4 * (f 2 o 1 / 4 % 6 + b) + (f 2 o 1 % 4 + c)).toNat, by omega⟩
    rw [hq] at hat
    have hcq : ycu f o k = (q : Int) := by rw [hcu]; exact hq
    have e12 : (1 : Int) % 2 = 1 := rfl
    refine xW_t ⟨by omega, by omega⟩ (xW_f (by omega) (xW_t ⟨by omega, by omega⟩ (xW_t ⟨by omega, by omega⟩ (xW_t ⟨by omega, by omega⟩ (xW_t ⟨by omega, by omega⟩ (xW_t ⟨by omega, by omega⟩ (xW_t ⟨by omega, by omega⟩ (xW_be hat (xW_t ⟨by omega, by omega⟩ (xW_nm (xW_nm ?_)))))))))))
    rw [w32_s (by omega), tn, e12]
    refine ih (k + 1) m _ (by omega) (by omega) (xfm_t hf (xfm_up (by decide) (by decide))) (fun r hr => ?_)
    by_cases e : r = q
    · right
      rw [e, xup_at]
      exact ⟨rfl, (yfu_k ho h1 h2 hkn).mpr (Or.inr hcq.symm)⟩
    · rw [xup_o (by omega)]
      rcases hg r hr with ⟨k1, k2⟩ | ⟨k1, k2⟩
      · refine Or.inl ⟨k1, fun h => ?_⟩
        rcases (yfu_k ho h1 h2 hkn).mp h with h | h
        · exact k2 h
        · rw [hcq] at h; exact e (by omega)
      · exact Or.inr ⟨k1, (yfu_k ho h1 h2 hkn).mpr (Or.inl k2)⟩
theorem q_goesAmongM (hs : ym σ f) (hv : yv f) (ht : t < 4) (hl : yalo f left) (htl : left.testBit t = true) :
    xW (fm_M_goesAmong (t : Int) (left : Int) σ) fun r => ((r.1 = 1 ∧ yga f t left) ∨ (r.1 = 0 ∧ ¬ yga f t left)) ∧ ym r.2 f ∧ r.2 74 = σ 74 := by
  have hlt := hl.2 t ht htl
  obtain ⟨hq, hlie⟩ := ystd_q hv ht hlt
  have hn1 : 1 ≤ f 2 t 0 := hlie.1
  have hthv := hv.1.2.2.1 t ht
  have tn : ∀ j : Nat, ((j : Int)).toNat = j := fun j => rfl
  unfold fm_M_goesAmong
  refine xW_bind (q_takeOff 0 0 σ) ?_
  rintro s1 ⟨f1, o1, o2, o3⟩
  have h1 := ym_f f1 (by decide) (by decide) hs
  have hend : ∀ g, xfm [66, 67, 68, 69] [] s1 g → yfm g (yfu f t left 4 0) → xW (xnm (xup g 9 0 37 0) fun s10 =>
      if 0 ≤ (t : Int) ∧ (t : Int) < 5 then
        (fm_M_findOff (t : Int) (s10 64 0 ((t : Int)).toNat) s10).bind fun s11 =>
        (fm_M_standOf (t : Int) s11).bind fun v12 =>
        if 0 ≤ v12 ∧ v12 < 3456 then
          if 0 ≤ (xcmp (s11 71 0 v12.toNat) 1000000000000000) then some ((0 : Int), s11) else some ((1 : Int), s11)
        else none
      else none) fun r => ((r.1 = 1 ∧ yga f t left) ∨ (r.1 = 0 ∧ ¬ yga f t left)) ∧ ym r.2 f ∧ r.2 74 = σ 74 := by
    intro g fg hg
    have hg4 : yfm g (yfil f t left) := yfm_c (fun q => yfu_4) hg
    have hP := ypr_v (b := 0) hv.1 ht hn1 (ywe_v hv (yfil f t left)) (A := 0) (D := 0) (by decide) (by decide)
    refine xW_nm ?_
    have f9 : xfm [66, 67, 68, 69] [37] s1 (xup g 9 0 37 0) := xfm_t (xfm_m fg (by decide) (by decide)) (xfm_u9 (by decide))
    have g69 : yfm (xup g 9 0 37 0) (yfil f t left) := fun q hq => by rw [xup_o (by omega)]; exact hg4 q hq
    have k37 : xup g 9 0 37 0 9 0 37 = 0 := xup_at
    generalize xup g 9 0 37 0 = s9 at f9 g69 k37 ⊢
    have h9 : ym s9 f := ym_f f9 (by decide) (by decide) h1
    have w9 : ymw s9 (ypr f 0 t (ywe f (yfil f t left)) 0 0) := by
      refine ⟨h9.2.1.1, ⟨?_, ?_⟩, fun q hq => ?_⟩
      · rw [f9.2 0 23 (by decide)]; exact o1
      · rw [f9.2 0 24 (by decide)]; exact o2
      · rcases g69 q hq with ⟨k1, k2⟩ | ⟨k1, k2⟩
        · exact Or.inl ⟨k1, (h9.2.1.2.1 q hq).trans (ywe_n k2).symm⟩
        · exact Or.inr ⟨k1, ywe_y k2⟩
    have k9 : ymk s9 (ycn (ypr f 0 t (ywe f (yfil f t left)) 0 0)) (fun _ => 1) := Or.inl ⟨k37, fun _ => rfl⟩
    have h64 : s9 64 0 t = (((f 2 t 3).toNat : Nat) : Int) := by
      have h1 := (h9.2.1.2.2.1 t ht).2.2.2
      have h2 : 0 ≤ f 2 t 3 := hthv.2.2.2.2.2.1.1.1
      omega
    rw [tn, h64]
    refine xW_t ⟨by omega, by omega⟩ (xW_bind (q_findOff (gl := ygl (f 2 t 3)) (w := fun _ => 1) h9.1 hP (yrf_mc h9.2.1 hthv ht) w9 k9 ?_) ?_)
    · intro c
      have h2 : 0 ≤ f 2 t 3 := hthv.2.2.2.2.2.1.1.1
      unfold ygl
      omega
    · rintro s10 ⟨b1, b2, b3, b4⟩
      have h10 : ym s10 f := ym_f b1 (by decide) (by decide) h9
      obtain ⟨r1, r2, r3, _⟩ := ystd_r hlie hthv.2.2.2.2.1
      obtain ⟨c0, c1, c2, c3⟩ := h10.2.1.2.2.1 t ht
      have hst := q_Mstand (t := t) (by omega) r1 (by rw [r2]; exact c1) (by rw [r3]; exact c2)
      have hr := (ycr_r r1).1
      have h74 : s10 74 = σ 74 := by rw [b1.1 74 (by decide) (by decide), f9.1 74 (by decide) (by decide), f1.1 74 (by decide) (by decide)]
      have hlt2 := xcmp_lt (a := s10 71 0 (ycr (ystd f 0 t))) (b := 1000000000000000)
      refine xW_be hst (xW_t ⟨by omega, by omega⟩ ?_)
      rw [tn]
      rcases b3 (ystd f 0 t) r1 with ⟨d, k1, k2, k3⟩ | ⟨k1, k2⟩
      · obtain ⟨L, e, g1, g2, g3⟩ := k1.1
        refine xW_f ?_ (xW_some ⟨Or.inl ⟨rfl, L, e, g1, g2⟩, h10, h74⟩)
        have := hlt2.mpr (by omega)
        omega
      · refine xW_t ?_ (xW_some ⟨Or.inr ⟨rfl, ?_⟩, h10, h74⟩)
        · have : ¬ xcmp (s10 71 0 (ycr (ystd f 0 t))) 1000000000000000 < 0 := fun q => by have := hlt2.mp q; omega
          omega
        · rintro ⟨L, e, q1, q2⟩
          exact k2 L e q1 q2
  have key : ∀ (d x fu : Nat) (g : xa_H), x + d = 4 → d < fu → xfm [66, 67, 68, 69] [] s1 g → yfm g (yfu f t left x 0) → xW (fm_M_goesAmong_8 (t : Int) (left : Int) (fun s9 => xnm (xup s9 9 0 37 0) fun s10 =>
      if 0 ≤ (t : Int) ∧ (t : Int) < 5 then
        (fm_M_findOff (t : Int) (s10 64 0 ((t : Int)).toNat) s10).bind fun s11 =>
        (fm_M_standOf (t : Int) s11).bind fun v12 =>
        if 0 ≤ v12 ∧ v12 < 3456 then
          if 0 ≤ (xcmp (s11 71 0 v12.toNat) 1000000000000000) then some ((0 : Int), s11) else some ((1 : Int), s11)
        else none
      else none) fu (x : Int) g) fun r => ((r.1 = 1 ∧ yga f t left) ∨ (r.1 = 0 ∧ ¬ yga f t left)) ∧ ym r.2 f ∧ r.2 74 = σ 74 := by
    intro d
    induction d with
    | zero =>
      intro x fu g hx hd fg hg
      obtain ⟨m, rfl⟩ : ∃ m, fu = m + 1 := ⟨fu - 1, by omega⟩
      rw [fm_M_goesAmong_8]
      have e : x = 4 := by omega
      rw [e] at hg
      exact xW_t (by omega) (hend g fg hg)
    | succ d ih =>
      intro x fu g hx hd fg hg
      obtain ⟨m, rfl⟩ : ∃ m, fu = m + 1 := ⟨fu - 1, by omega⟩
      have hx4 : x < 4 := by omega
      have hl16 := hl.1
      have hgy := ym_f fg (by decide) (by decide) h1
      rw [fm_M_goesAmong_8]
      refine xW_f (by omega) ?_
      by_cases hxt : x = t
      · refine xW_t (by omega) (xW_nm ?_)
        rw [w32_s (by omega)]
        exact ih (x + 1) m g (by omega) (by omega) fg (yfm_c (fun q => yfu_s (Or.inl hxt)) hg)
      · refine xW_f (by omega) ?_
        rw [xand_bit (by omega) (by omega)]
        by_cases hb : left.testBit x = true
        · rw [if_pos hb]
          have hlx := hl.2 x hx4 hb
          have hliex := (ystd_q hv hx4 hlx).2
          have hvx := hv.1.2.2.1 x hx4
          have hwr : 0 ≤ f 2 x 2 ∧ f 2 x 2 ≤ 23 := hvx.2.2.2.2.1
          have h63 : g 63 0 x = (((f 2 x 2).toNat : Nat) : Int) := by
            have := (hgy.2.1.2.2.1 x hx4).2.2.1
            omega
          rw [tn, h63]
          refine xW_t rfl (xW_t ⟨by omega, by omega⟩ (xW_bind (q_lay hgy.1 (yPl_v hv hx4 hliex.1) (yrf_mc hgy.2.1 hvx hx4) (w := (f 2 x 2).toNat) (by omega)) ?_))
          rintro s5 ⟨f5, hlc⟩
          have hy5 := ym_f f5 (by decide) (by decide) hgy
          have h10 : f 2 x 0 ≤ 10 := hvx.1.2
          refine l_fil41 hy5 hv hx4 hlx hxt hb hlc (fun g' fg' hg' => ?_) (f 2 x 0).toNat 0 xFU s5 (by omega) (xfu_b (by omega)) (xfm_r _ _ _) (fun q hq => ?_)
          · refine xW_nm ?_
            rw [w32_s (by omega)]
            exact ih (x + 1) m g' (by omega) (by omega) (xfm_t fg (xfm_t (xfm_m f5 (by decide) (by decide)) (xfm_m fg' (by decide) (by decide)))) (yfm_c (fun q => yfu_n) hg')
          · rw [f5.1 69 (by decide) (by decide)]
            exact hg q hq
        · rw [if_neg hb]
          refine xW_f (by decide) (xW_nm ?_)
          rw [w32_s (by omega)]
          exact ih (x + 1) m g (by omega) (by omega) fg (yfm_c (fun q => yfu_s (Or.inr hb)) hg)
  refine key 4 0 xFU s1 (by omega) (xfu_b (by omega)) (xfm_r _ _ _) (fun q hq => Or.inl ⟨o3 q hq, yfu_0⟩)
/-! orders -/
def ypk (l : Nat) : Nat := (if l.testBit 0 = true then 1 else 0) + (if l.testBit 1 = true then 1 else 0) + (if l.testBit 2 = true then 1 else 0) + (if l.testBit 3 = true then 1 else 0)
theorem ypk_d : ∀ l, l < 16 → ∀ t, t < 4 → l.testBit t = true → ypk (l ^^^ (l &&& 1 <<< t)) + 1 = ypk l ∧ l ^^^ (l &&& 1 <<< t) < 16 := by decide +kernel
theorem ypk_0 : ∀ l, l < 16 → ypk l = 0 → l = 0 := by decide +kernel
theorem ypk_4 : ∀ l, l < 16 → ypk l ≤ 4 := by decide +kernel
theorem yft_1 {a b : Nat} (h1 : yft f left a) (h2 : yft f left b) : a = b := by
  by_cases h : a < b
  · exact absurd ⟨h1.2.1, h1.2.2.1⟩ (h2.2.2.2 a h)
  · by_cases h' : b < a
    · exact absurd ⟨h2.2.1, h2.2.2.1⟩ (h1.2.2.2 b h')
    · omega
theorem yalo_d (hl : yalo f left) (ht : t < 4) (h : left.testBit t = true) : yalo f (left ^^^ (left &&& 1 <<< t)) := by
  refine ⟨(ypk_d left hl.1 t ht h).2, fun o ho hb => hl.2 o ho ?_⟩
  rw [set_del, Bool.and_eq_true] at hb
  exact hb.1
theorem yord_app : ∀ {L : List Nat} {set left : Nat}, yord f set L left → yft f left t → yord f set (L ++ [t]) (left ^^^ (left &&& 1 <<< t)) := by
  intro L
  induction L with
  | nil =>
    intro set left h1 h2
    have h1 : set = left := h1
    subst h1
    exact ⟨h2, rfl⟩
  | cons a r ih => intro set left h1 h2; exact ⟨h1.1, ih h1.2 h2⟩
theorem yord_no : ∀ {L : List Nat} {set left : Nat}, yord f set L left → ¬ left = 0 → (∀ t, ¬ yft f left t) → ¬ ∃ L', yord f set L' 0 := by
  intro L
  induction L with
  | nil =>
    intro set left h1 h2 h3
    have h1 : set = left := h1
    subst h1
    rintro ⟨L', h⟩
    cases L' with
    | nil => exact h2 h
    | cons a r => exact h3 a h.1
  | cons a r ih =>
    intro set left h1 h2 h3
    rintro ⟨L', h⟩
    cases L' with
    | nil =>
      have h : set = 0 := h
      have h4 := h1.1.2.1
      rw [h, Nat.zero_testBit] at h4
      cases h4
    | cons b r' =>
      have e := yft_1 h1.1 h.1
      subst e
      exact ih h1.2 h2 h3 ⟨r', h.2⟩
theorem yord_1 : ∀ {L L' : List Nat} {set : Nat}, yord f set L 0 → yord f set L' 0 → L = L' := by
  intro L
  induction L with
  | nil =>
    intro L' set h1 h2
    have h1 : set = 0 := h1
    cases L' with
    | nil => rfl
    | cons b r' =>
      have h4 := h2.1.2.1
      rw [h1, Nat.zero_testBit] at h4
      cases h4
  | cons a r ih =>
    intro L' set h1 h2
    cases L' with
    | nil =>
      have h2 : set = 0 := h2
      have h4 := h1.1.2.1
      rw [h2, Nat.zero_testBit] at h4
      cases h4
    | cons b r' =>
      have e := yft_1 h1.1 h2.1
      subst e
      rw [ih h1.2 h2.2]
theorem getD_app {L : List Nat} {t k : Nat} (h : k < L.length) : (L ++ [t]).getD k 0 = L.getD k 0 := by
  rw [List.getD_eq_getElem?_getD, List.getD_eq_getElem?_getD, List.getElem?_append_left h]
/-- the row of an order grows -/
def ylr (s : Nat → Int) (L : List Nat) : Prop := ∀ k, k < L.length → s k = ((L.getD k 0 : Nat) : Int)
theorem ylr_app {s s' : Nat → Int} {L : List Nat} {t : Nat} (h : ylr s L) (h1 : ∀ k, k < L.length → s' k = s k) (h2 : s' L.length = (t : Int)) : ylr s' (L ++ [t]) := by
  intro k hk
  rw [List.length_append, List.length_singleton] at hk
  by_cases e : k = L.length
  · subst e
    rw [h2, getD_mid]
  · rw [h1 k (by omega), getD_app (by omega)]
    exact h k (by omega)
theorem q_findOrderM (hs : ym σ f) (hv : yv f) {set : Nat} (hset : yalo f set) : xW (fm_M_findOrder (set : Int) σ) fun r => ym r.2 f ∧ ((∃ L, yordA f set L ∧ r.1 = (L.length : Int) ∧ L.length ≤ 4 ∧ ylr (r.2 74 0) L) ∨ ((¬ ∃ L, yordA f set L) ∧ r.1 = -6)) := by
  have tn : ∀ j : Nat, ((j : Int)).toNat = j := fun j => rfl
  have in22 : ∀ {left many : Nat} {K : Int → Int → Int → xa_H → Option (Int × xa_H)} {Q : Int × xa_H → Prop} {A : Nat → Nat → Int}, yalo f left → many < 4 →
      (∀ g, ym g f → g 74 = A → (∀ t, ¬ yft f left t) → xW (K (left : Int) (many : Int) 0 g) Q) →
      (∀ g x, ym g f → yft f left x → (∀ j, j < many → g 74 0 j = A 0 j) → g 74 0 many = (x : Int) → xW (K ((left ^^^ (left &&& 1 <<< x) : Nat) : Int) ((many + 1 : Nat) : Int) 1 g) Q) →
      ∀ (d x fu : Nat) (g : xa_H), x + d = 4 → d + 1 < fu → ym g f → g 74 = A → (∀ t', t' < x → ¬ (left.testBit t' = true ∧ yga f t' left)) → xW (fm_M_findOrder_22 K fu (left : Int) (many : Int) 0 (x : Int) g) Q := by
    intro left many K Q A hl hm hno hyes d
    have hl16 := hl.1
    induction d with
    | zero =>
      intro x fu g hx hd hg hA hn
      obtain ⟨m, rfl⟩ : ∃ m, fu = m + 1 := ⟨fu - 1, by omega⟩
      rw [fm_M_findOrder_22]
      refine xW_t (by omega) (hno g hg hA (fun t h => hn t (by have := h.1; omega) ⟨h.2.1, h.2.2.1⟩))
    | succ d ih =>
      intro x fu g hx hd hg hA hn
      obtain ⟨m, rfl⟩ : ∃ m, fu = m + 1 := ⟨fu - 1, by omega⟩
      have hx4 : x < 4 := by omega
      rw [fm_M_findOrder_22]
      refine xW_f (by omega) (xW_t rfl ?_)
      rw [xand_bit (by omega) (by omega)]
      by_cases hb : left.testBit x = true
      · rw [if_pos hb]
        refine xW_t rfl (xW_b2 (q_goesAmongM hg hv hx4 hl hb) ?_)
        rintro v s ⟨a1, a2, a3⟩
        have a2 : ym s f := a2
        have a3 : s 74 = g 74 := a3
        rcases a1 with ⟨a1, a4⟩ | ⟨a1, a4⟩
        · have a1 : v = 1 := a1
          have hsm : 1 <<< x < 16 := (by decide : ∀ d, d < 4 → 1 <<< d < 16) x hx4
          have e1 : xshl 1 (x : Int) = ((1 <<< x : Nat) : Int) := xshl_n (a := 1) (b := x) (by omega) (by omega) (by decide)
          have e2 : xand (left : Int) (xxor ((1 <<< x : Nat) : Int) (-1)) = ((left ^^^ (left &&& 1 <<< x) : Nat) : Int) := xandn_n (by omega) (by omega)
          rw [e1, e2]
          refine xW_f (by omega) (xW_t ⟨by omega, by omega⟩ (xW_nm (xW_nm (xW_nm (xW_nm ?_)))))
          rw [w32_s (by omega), w32_s (by omega), tn]
          have hk := hyes (xup s 74 0 many (x : Int)) x (ym_f (L := [74]) (M := []) (xfm_up (by decide) (by decide)) (by decide) (by intro s hs; exact absurd hs List.not_mem_nil) a2) ⟨hx4, hb, a4, hn⟩ (fun j hj => by rw [xup_o (by omega), a3, hA]) xup_at
          obtain ⟨m', rfl⟩ : ∃ m', m = m' + 1 := ⟨m - 1, by omega⟩
          rw [fm_M_findOrder_22]
          by_cases h4 : 4 ≤ ((x + 1 : Nat) : Int)
          · exact xW_t h4 hk
          · exact xW_f h4 (xW_f (by decide) hk)
        · have a1 : v = 0 := a1
          refine xW_t a1 (xW_nm ?_)
          rw [w32_s (by omega)]
          refine ih (x + 1) m s (by omega) (by omega) a2 (a3.trans hA) (fun t' h => ?_)
          by_cases e : t' = x
          · rw [e]; exact fun q => a4 q.2
          · exact hn t' (by omega)
      · rw [if_neg hb]
        refine xW_f (by decide) (xW_nm ?_)
        rw [w32_s (by omega)]
        refine ih (x + 1) m g (by omega) (by omega) hg hA (fun t' h => ?_)
        by_cases e : t' = x
        · rw [e]; exact fun q => hb q.1
        · exact hn t' (by omega)
  have key : ∀ (d left fu : Nat) (L : List Nat) (g : xa_H), ypk left ≤ d → d + 1 < fu → ym g f → yord f set L left → yalo f left → L.length + ypk left ≤ 4 → ylr (g 74 0) L →
      xW (fm_M_findOrder_7 (fun v17 v18 s19 => if v17 = 0 then some (v18, s19) else some ((-6), s19)) fu (left : Int) (L.length : Int) 1 g) fun r => ym r.2 f ∧ ((∃ L, yordA f set L ∧ r.1 = (L.length : Int) ∧ L.length ≤ 4 ∧ ylr (r.2 74 0) L) ∨ ((¬ ∃ L, yordA f set L) ∧ r.1 = -6)) := by
    intro d
    induction d with
    | zero =>
      intro left fu L g hd hfu hg hL hl h4 hr
      obtain ⟨m, rfl⟩ : ∃ m, fu = m + 1 := ⟨fu - 1, by omega⟩
      have h0 := ypk_0 left hl.1 (by omega)
      subst h0
      rw [fm_M_findOrder_7]
      exact xW_t rfl (xW_t rfl (xW_some ⟨hg, Or.inl ⟨L, hL, rfl, by omega, hr⟩⟩))
    | succ d ih =>
      intro left fu L g hd hfu hg hL hl h4 hr
      obtain ⟨m, rfl⟩ : ∃ m, fu = m + 1 := ⟨fu - 1, by omega⟩
      rw [fm_M_findOrder_7]
      by_cases h0 : left = 0
      · subst h0
        exact xW_t rfl (xW_t rfl (xW_some ⟨hg, Or.inl ⟨L, hL, rfl, by omega, hr⟩⟩))
      · have hpos : 1 ≤ ypk left := by
          by_cases e : ypk left = 0
          · exact absurd (ypk_0 left hl.1 e) h0
          · omega
        refine xW_f (by omega) (xW_f (by decide) ?_)
        refine in22 (A := g 74) hl (by omega) (fun g' hg' hA' hno => ?_) (fun g' x hg' hx hA' hx' => ?_) 4 0 xFU g (by omega) (xfu_b (by omega)) hg rfl (fun t' h => by omega)
        · obtain ⟨m', rfl⟩ : ∃ m', m = m' + 1 := ⟨m - 1, by omega⟩
          rw [fm_M_findOrder_7]
          exact xW_f (by omega) (xW_t rfl (xW_f (by omega) (xW_some ⟨hg', Or.inr ⟨yord_no hL h0 hno, rfl⟩⟩)))
        · obtain ⟨p1, p2⟩ := ypk_d left hl.1 x hx.1 hx.2.1
          have hI := ih (left ^^^ (left &&& 1 <<< x)) m (L ++ [x]) g' (by omega) (by omega) hg' (yord_app hL hx) (yalo_d hl hx.1 hx.2.1) (by rw [List.length_append, List.length_singleton]; omega) (ylr_app hr hA' hx')
          rw [List.length_append, List.length_singleton] at hI
          exact hI
  unfold fm_M_findOrder
  have h4 := ypk_4 set hset.1
  exact key 4 set xFU [] σ h4 (xfu_b (by omega)) hs rfl hset (by show 0 + ypk set ≤ 4; omega) (fun k hk => absurd hk (Nat.not_lt_zero _))
end OM
