/-! order on both sides -/
section OO
variable {σ f : xa_H} {left : Nat}
theorem q_firstToGo (hs : yst σ f) (hv : yv f) (hf : yfl σ) (hl : yalo f left) : xW (fm_S_firstToGo (left : Int) σ) fun r => yst r.2 f ∧ yfl r.2 ∧ xfs [18, 20, 21, 22, 23] [8, 9, 10] σ r.2 ∧ ((∃ t : Nat, r.1 = (t : Int) ∧ yft f left t) ∨ (r.1 = -6 ∧ ∀ t, ¬ yft f left t)) := by
  have hl16 := hl.1
  have key : ∀ (d x fu : Nat) (g : xa_H), x + d = 4 → d < fu → yst g f → yfl g → xfs [18, 20, 21, 22, 23] [8, 9, 10] σ g → (∀ t', t' < x → ¬ (left.testBit t' = true ∧ yga f t' left)) →
      xW (fm_S_firstToGo_2 (left : Int) (fun s9 => some ((-6), s9)) fu (x : Int) g) fun r => yst r.2 f ∧ yfl r.2 ∧ xfs [18, 20, 21, 22, 23] [8, 9, 10] σ r.2 ∧ ((∃ t : Nat, r.1 = (t : Int) ∧ yft f left t) ∨ (r.1 = -6 ∧ ∀ t, ¬ yft f left t)) := by
    intro d
    induction d with
    | zero =>
      intro x fu g hx hd h1 h2 h3 hn
      obtain ⟨m, rfl⟩ : ∃ m, fu = m + 1 := ⟨fu - 1, by omega⟩
      rw [fm_S_firstToGo_2]
      exact xW_t (by omega) (xW_some ⟨h1, h2, h3, Or.inr ⟨rfl, fun t h => hn t (by have := h.1; omega) ⟨h.2.1, h.2.2.1⟩⟩⟩)
    | succ d ih =>
      intro x fu g hx hd h1 h2 h3 hn
      obtain ⟨m, rfl⟩ : ∃ m, fu = m + 1 := ⟨fu - 1, by omega⟩
      have hx4 : x < 4 := by omega
      rw [fm_S_firstToGo_2]
      refine xW_f (by omega) (xW_be (q_has (by omega) (by omega)) ?_)
      by_cases hb : left.testBit x = true
      · rw [if_pos hb]
        refine xW_f (by decide) (xW_b2 (q_goesAmongC h1 hv h2 hx4 hl hb) ?_)
        rintro v s ⟨a1, a2, a3, a4⟩
        have a1 : yst s f := a1
        have a2 : yfl s := a2
        have a3 : xfs [18, 20, 21, 22, 23] [8, 9, 10] g s := a3
        rcases a4 with ⟨a4, a5⟩ | ⟨a4, a5⟩
        · have a4 : v = 1 := a4
          exact xW_f (by omega) (xW_some ⟨a1, a2, xfs_t h3 a3, Or.inl ⟨x, rfl, hx4, hb, a5, hn⟩⟩)
        · have a4 : v = 0 := a4
          refine xW_t a4 (xW_nm ?_)
          rw [w32_s (by omega)]
          refine ih (x + 1) m s (by omega) (by omega) a1 a2 (xfs_t h3 a3) (fun t' h => ?_)
          by_cases e : t' = x
          · rw [e]; exact fun q => a5 q.2
          · exact hn t' (by omega)
      · rw [if_neg hb]
        refine xW_t rfl (xW_nm ?_)
        rw [w32_s (by omega)]
        refine ih (x + 1) m g (by omega) (by omega) h1 h2 h3 (fun t' h => ?_)
        by_cases e : t' = x
        · rw [e]; exact fun q => hb q.1
        · exact hn t' (by omega)
  unfold fm_S_firstToGo
  exact key 4 0 xFU σ (by omega) (xfu_b (by omega)) hs hf (xfs_r _ _ _) (fun t' h => by omega)
theorem q_findOrderC (hs : yst σ f) (hv : yv f) (hf : yfl σ) {set : Nat} (hset : yalo f set) (hk : σ 0 0 1 = ((ykey 5 0 0 set : Nat) : Int)) : xW (fm_S_findOrder (set : Int) σ) (ypo f 5 0 0 set) := by
  have hend : ∀ g, yst g f → yfl g → g 0 0 1 = ((ykey 5 0 0 set : Nat) : Int) → yspec 5 0 0 set f g → xW ((fm_Search_forget g).bind fun s11 => some s11) (ypo f 5 0 0 set) := by
    intro g h1 h2 h3 h4
    have hfo : fm_Search_forget g = some (xup g 3 0 8 (-1)) := rfl
    have f1 : xfs [] [8] g (xup g 3 0 8 (-1)) := xfs_u3 (by decide)
    refine xW_be hfo (xW_some ⟨yst_f (xfc_s f1 (by intro K hK; exact absurd hK List.not_mem_nil)) h1, Or.inl ?_, yfl_f f1 (by decide) (by decide) h2, ?_, ?_⟩)
    · rw [xup_at]; decide
    · rw [xup_o (by omega)]; exact h3
    · exact yspec_f (fun s _ => by rw [xup_o (by omega)]) (f1.1 12 (by decide) (by decide)) h4
  have key : ∀ (d left fu : Nat) (L : List Nat) (g : xa_H), L.length + d = 4 → d < fu → yst g f → yfl g → g 0 0 1 = ((ykey 5 0 0 set : Nat) : Int) → g 0 0 2 = (L.length : Int) → ylr (g 12 0) L → yord f set L left → yalo f left → L.length + ypk left ≤ 4 →
      xW (fm_S_findOrder_11 (fun s10 => (fm_Search_forget s10).bind fun s11 => some s11) fu (left : Int) (L.length : Int) g) (ypo f 5 0 0 set) := by
    intro d
    induction d with
    | zero =>
      intro left fu L g hd hfu h1 h2 h3 h4 h5 hL hl hp
      obtain ⟨m, rfl⟩ : ∃ m, fu = m + 1 := ⟨fu - 1, by omega⟩
      have h0 := ypk_0 left hl.1 (by omega)
      subst h0
      rw [fm_S_findOrder_11]
      exact xW_t (by omega) (hend g h1 h2 h3 (Or.inl ⟨L, hL, h4, h5⟩))
    | succ d ih =>
      intro left fu L g hd hfu h1 h2 h3 h4 h5 hL hl hp
      obtain ⟨m, rfl⟩ : ∃ m, fu = m + 1 := ⟨fu - 1, by omega⟩
      have hl16 := hl.1
      rw [fm_S_findOrder_11]
      refine xW_f (by omega) ?_
      by_cases h0 : left = 0
      · subst h0
        exact xW_t rfl (hend g h1 h2 h3 (Or.inl ⟨L, hL, h4, h5⟩))
      · refine xW_f (by omega) (xW_b2 (q_firstToGo h1 hv h2 hl) ?_)
        rintro v s ⟨a1, a2, a3, a4⟩
        have a1 : yst s f := a1
        have a2 : yfl s := a2
        have a3 : xfs [18, 20, 21, 22, 23] [8, 9, 10] g s := a3
        have e12 : s 12 = g 12 := a3.1 12 (by decide) (by decide)
        have k3 : s 0 0 1 = ((ykey 5 0 0 set : Nat) : Int) := by rw [a3.1 0 (by decide) (by decide)]; exact h3
        have k4 : s 0 0 2 = (L.length : Int) := by rw [a3.1 0 (by decide) (by decide)]; exact h4
        rcases a4 with ⟨x, a4, hx⟩ | ⟨a4, hno⟩
        · have a4 : v = (x : Int) := a4
          have hx4 := hx.1
          subst a4
          have hsm : 1 <<< x < 16 := (by decide : ∀ d, d < 4 → 1 <<< d < 16) x hx4
          have e1 : xshl 1 (x : Int) = ((1 <<< x : Nat) : Int) := xshl_n (a := 1) (b := x) (by omega) (by omega) (by decide)
          have e2 : xand (left : Int) (xxor ((1 <<< x : Nat) : Int) (-1)) = ((left ^^^ (left &&& 1 <<< x) : Nat) : Int) := xandn_n (by omega) (by omega)
          rw [e1, e2]
          refine xW_t (by omega) (xW_be (q_add k4 (by omega)) (xW_nm (xW_nm ?_)))
          rw [w32_s (by omega)]
          have fr : xfs [0, 12] [] s (xup (xup s 12 0 L.length (x : Int)) 0 0 2 ((L.length + 1 : Nat) : Int)) := xfs_t (xfs_up (by decide) (by decide)) (xfs_up (by decide) (by decide))
          obtain ⟨p1, p2⟩ := ypk_d left hl.1 x hx.1 hx.2.1
          have hI := ih (left ^^^ (left &&& 1 <<< x)) m (L ++ [x]) (xup (xup s 12 0 L.length (x : Int)) 0 0 2 ((L.length + 1 : Nat) : Int)) (by rw [List.length_append, List.length_singleton]; omega) (by omega) (yst_f (xfc_s fr (by decide)) a1) (yfl_f fr (by decide) (by decide) a2)
            (by rw [xup_o (by omega), xup_o (by omega)]; exact k3) (by rw [xup_at, List.length_append, List.length_singleton])
            (ylr_app h5 (fun k hk => by rw [xup_o (by omega), xup_o (by omega), e12]) (by rw [xup_o (by omega), xup_at])) (yord_app hL hx) (yalo_d hl hx.1 hx.2.1) (by rw [List.length_append, List.length_singleton]; omega)
          rw [List.length_append, List.length_singleton] at hI
          exact hI
        · have a4 : v = -6 := a4
          have hn0 : fm_Answer_none s = some (xup (xup s 0 0 2 0) 0 0 3 (-6)) := rfl
          have fr : xfs [0] [] s (xup (xup s 0 0 2 0) 0 0 3 (-6)) := xfs_t (xfs_up (by decide) (by decide)) (xfs_up (by decide) (by decide))
          refine xW_f (by omega) (xW_be hn0 (hend _ (yst_f (xfc_s fr (by decide)) a1) (yfl_f fr (by decide) (by decide) a2) ?_ (Or.inr ⟨yord_no hL h0 hno, ?_⟩)))
          · rw [xup_o (by omega), xup_o (by omega)]; exact k3
          · rw [xup_o (by omega), xup_at]
  have hn0 : fm_Answer_none σ = some (xup (xup σ 0 0 2 0) 0 0 3 (-6)) := rfl
  have f1 : xfs [0] [] σ (xup (xup σ 0 0 2 0) 0 0 3 (-6)) := xfs_t (xfs_up (by decide) (by decide)) (xfs_up (by decide) (by decide))
  have h4 := ypk_4 set hset.1
  unfold fm_S_findOrder
  refine xW_be hn0 ?_
  refine key 4 set xFU [] _ rfl (xfu_b (by omega)) (yst_f (xfc_s f1 (by decide)) hs) (yfl_f f1 (by decide) (by decide) hf) ?_ ?_ (fun k hk => absurd hk (Nat.not_lt_zero _)) rfl hset (by show 0 + ypk set ≤ 4; omega)
  · rw [xup_o (by omega), xup_o (by omega)]; exact hk
  · rw [xup_o (by omega), xup_at]; rfl
noncomputable def yoa (f : xa_H) (set : Nat) (i : Int) : Int := @dite Int (∃ L, yordA f set L) (Classical.propDecidable _) (fun h => if 0 ≤ i ∧ i < ((Classical.choose h).length : Int) then (((Classical.choose h).getD i.toNat 0 : Nat) : Int) else -6) (fun _ => -6)
theorem yoa_1 {set : Nat} {L : List Nat} (h : yordA f set L) (i : Int) : yoa f set i = if 0 ≤ i ∧ i < (L.length : Int) then ((L.getD i.toNat 0 : Nat) : Int) else -6 := by
  have he : ∃ L, yordA f set L := ⟨L, h⟩
  have e : Classical.choose he = L := yord_1 (Classical.choose_spec he) h
  unfold yoa
  rw [dif_pos he, e]
theorem yoa_0 {set : Nat} (h : ¬ ∃ L, yordA f set L) (i : Int) : yoa f set i = -6 := by
  unfold yoa
  rw [dif_neg h]
theorem yord_len : ∀ {L : List Nat} {set : Nat}, set < 16 → yord f set L 0 → L.length ≤ ypk set := by
  intro L
  induction L with
  | nil => intro set _ _; exact Nat.zero_le _
  | cons a r ih =>
    intro set hs h
    obtain ⟨p1, p2⟩ := ypk_d set hs a h.1.1 h.1.2.1
    have := ih p2 h.2
    show r.length + 1 ≤ ypk set
    omega
theorem yspec_5 {set : Nat} (hset : set < 16) {s : xa_H} (h : yspec 5 0 0 set f s) (i : Int) : (if 0 ≤ i ∧ i < s 0 0 2 then (if 0 ≤ i ∧ i < 3456 then s 12 0 i.toNat else 0) else -6) = yoa f set i := by
  rcases h with ⟨L, h1, h2, h3⟩ | ⟨h1, h2⟩
  · rw [yoa_1 h1, h2]
    have h4 := ypk_4 set hset
    have h5 := yord_len hset h1
    by_cases hi : 0 ≤ i ∧ i < (L.length : Int)
    · rw [if_pos hi, if_pos hi, if_pos (by omega)]
      exact h3 i.toNat (by omega)
    · rw [if_neg hi, if_neg hi]
  · rw [yoa_0 h1, h2, if_neg (by omega)]
noncomputable def aord (f : xa_H) (set i : Int) : Int := if 1 ≤ set ∧ set ≤ 15 then (@ite Int (∃ t, t < 4 ∧ set.toNat.testBit t = true ∧ f 2 t 1 < 0) (Classical.propDecidable _) (-3) (yoa f set.toNat i)) else -2
theorem aord_b {set : Nat} (h : 1 ≤ set ∧ set ≤ 15) (hb : ∃ t, t < 4 ∧ set.testBit t = true ∧ f 2 t 1 < 0) (i : Int) : aord f (set : Int) i = -3 := by
  unfold aord
  rw [if_pos (by omega)]
  exact if_pos hb
theorem aord_g {set : Nat} (h : 1 ≤ set ∧ set ≤ 15) (hb : ∀ t, t < 4 → set.testBit t = true → ¬ f 2 t 1 < 0) (i : Int) : aord f (set : Int) i = yoa f set i := by
  unfold aord
  rw [if_pos (by omega)]
  exact if_neg (by rintro ⟨t, h1, h2, h3⟩; exact hb t h1 h2 h3)
theorem K_order (hs : yc σ f) (hv : yv f) (a i : Int) : xW (fm_S_order a i σ) fun r => r.1 = aord f a i ∧ yc r.2 f := by
  unfold fm_S_order
  by_cases h1 : a < 1
  · have eA : aord f a i = -2 := if_neg (by omega)
    rw [eA]
    exact xW_t h1 (xW_some ⟨rfl, hs⟩)
  · refine xW_f h1 (xW_be (q_isSetC a) ?_)
    by_cases h2 : 0 ≤ a ∧ a ≤ 15
    · rw [if_pos h2]
      obtain ⟨set, hu⟩ : ∃ u : Nat, a = (u : Int) := ⟨a.toNat, by omega⟩
      subst hu
      have tn : ∀ j : Nat, ((j : Int)).toNat = j := fun j => rfl
      refine xW_f (by decide) ?_
      have key : ∀ (d x fu : Nat), x + d = 4 → d < fu → (∀ t, t < x → set.testBit t = true → ¬ f 2 t 1 < 0) → ∀ {K : Option (Int × xa_H)}, ((∀ t, t < 4 → set.testBit t = true → ¬ f 2 t 1 < 0) → xW K fun r => r.1 = aord f (set : Int) i ∧ yc r.2 f) →
          xW (fm_S_order_17 (set : Int) i σ K fu (x : Int)) fun r => r.1 = aord f (set : Int) i ∧ yc r.2 f := by
        intro d
        induction d with
        | zero =>
          intro x fu hx hd hn K hK
          obtain ⟨m, rfl⟩ : ∃ m, fu = m + 1 := ⟨fu - 1, by omega⟩
          rw [fm_S_order_17]
          exact xW_t (by omega) (hK (fun t ht => hn t (by omega)))
        | succ d ih =>
          intro x fu hx hd hn K hK
          obtain ⟨m, rfl⟩ : ∃ m, fu = m + 1 := ⟨fu - 1, by omega⟩
          have hx4 : x < 4 := by omega
          have e4 : 4 * 0 + x = x := by omega
          have h51 : σ 5 x 1 = f 2 x 1 := by
            have := (hs.1.2.1.2.2.1 x hx4).1.2.1
            rw [e4] at this
            exact this
          rw [fm_S_order_17]
          refine xW_f (by omega) (xW_f (by omega) (xW_f (by omega) (xW_t ⟨by omega, by omega⟩ (xW_be (q_has (by omega) (by omega)) ?_))))
          by_cases hb : set.testBit x = true
          · rw [if_pos hb, tn, e4, h51]
            refine xW_f (by decide) ?_
            by_cases hl : f 2 x 1 < 0
            · exact xW_f (by omega) (xW_some ⟨(aord_b ⟨by omega, by omega⟩ ⟨x, hx4, hb, hl⟩ i).symm, hs⟩)
            · refine xW_t (by omega) (xW_nm ?_)
              rw [w32_s (by omega)]
              refine ih (x + 1) m (by omega) (by omega) (fun t ht hb' => ?_) hK
              by_cases e : t = x
              · rw [e]; exact hl
              · exact hn t (by omega) hb'
          · rw [if_neg hb]
            refine xW_t rfl (xW_nm ?_)
            rw [w32_s (by omega)]
            refine ih (x + 1) m (by omega) (by omega) (fun t ht hb' => ?_) hK
            by_cases e : t = x
            · rw [e] at hb'; exact absurd hb' hb
            · exact hn t (by omega) hb'
      refine key 4 0 xFU (by omega) (xfu_b (by omega)) (fun t ht => by omega) (fun hall => ?_)
      have hset : yalo f set := ⟨by omega, hall⟩
      refine xW_mono (l_ans (a := 5) (t := 0) (A := 0) (D := set) hs (by decide) (by decide) (by decide) (by decide) (by omega) (F := fun s => fm_S_findOrder (set : Int) s) (fun s k1 k2 k3 k4 => q_findOrderC k1 hv k3 hset k4) i) ?_
      rintro r ⟨r1, r2, r3⟩
      exact ⟨by rw [r2, aord_g ⟨by omega, by omega⟩ hall]; exact yspec_5 hset.1 r1 i, r3⟩
    · have eA : aord f a i = -2 := if_neg (by omega)
      rw [eA, if_neg h2]
      exact xW_t rfl (xW_some ⟨rfl, hs⟩)
theorem M_order (hs : ym σ f) (hv : yv f) (a : Int) {i : Int} (hi : -2147483648 ≤ i ∧ i ≤ 2147483647) : xW (fm_M_order a i σ) fun r => r.1 = aord f a i ∧ ym r.2 f := by
  unfold fm_M_order
  refine xW_be (q_in a 1 15) ?_
  by_cases h2 : 1 ≤ a ∧ a ≤ 15
  · rw [if_pos h2]
    obtain ⟨set, hu⟩ : ∃ u : Nat, a = (u : Int) := ⟨a.toNat, by omega⟩
    subst hu
    have tn : ∀ j : Nat, ((j : Int)).toNat = j := fun j => rfl
    refine xW_f (by decide) ?_
    have key : ∀ (d x fu : Nat), x + d = 4 → d < fu → (∀ t, t < x → set.testBit t = true → ¬ f 2 t 1 < 0) → ∀ {K : Option (Int × xa_H)}, ((∀ t, t < 4 → set.testBit t = true → ¬ f 2 t 1 < 0) → xW K fun r => r.1 = aord f (set : Int) i ∧ ym r.2 f) →
        xW (fm_M_order_17 (set : Int) i σ K fu (x : Int)) fun r => r.1 = aord f (set : Int) i ∧ ym r.2 f := by
      intro d
      induction d with
      | zero =>
        intro x fu hx hd hn K hK
        obtain ⟨m, rfl⟩ : ∃ m, fu = m + 1 := ⟨fu - 1, by omega⟩
        rw [fm_M_order_17]
        exact xW_t (by omega) (hK (fun t ht => hn t (by omega)))
      | succ d ih =>
        intro x fu hx hd hn K hK
        obtain ⟨m, rfl⟩ : ∃ m, fu = m + 1 := ⟨fu - 1, by omega⟩
        have hx4 : x < 4 := by omega
        have h62 := (hs.2.1.2.2.1 x hx4).2.1
        rw [fm_M_order_17, xand_bit (by omega) (by omega)]
        refine xW_f (by omega) ?_
        by_cases hb : set.testBit x = true
        · rw [if_pos hb, tn, h62]
          refine xW_t rfl (xW_t ⟨by omega, by omega⟩ ?_)
          by_cases hl : f 2 x 1 < 0
          · exact xW_f (by omega) (xW_some ⟨(aord_b ⟨by omega, by omega⟩ ⟨x, hx4, hb, hl⟩ i).symm, hs⟩)
          · refine xW_t (by omega) (xW_nm ?_)
            rw [w32_s (by omega)]
            refine ih (x + 1) m (by omega) (by omega) (fun t ht hb' => ?_) hK
            by_cases e : t = x
            · rw [e]; exact hl
            · exact hn t (by omega) hb'
        · rw [if_neg hb]
          refine xW_f (by decide) (xW_nm ?_)
          rw [w32_s (by omega)]
          refine ih (x + 1) m (by omega) (by omega) (fun t ht hb' => ?_) hK
          by_cases e : t = x
          · rw [e] at hb'; exact absurd hb' hb
          · exact hn t (by omega) hb'
    refine key 4 0 xFU (by omega) (xfu_b (by omega)) (fun t ht => by omega) (fun hall => ?_)
    have hset : yalo f set := ⟨by omega, hall⟩
    rw [aord_g ⟨by omega, by omega⟩ hall]
    refine xW_b2 (q_findOrderM hs hv hset) ?_
    rintro v s ⟨a1, a2⟩
    have a1 : ym s f := a1
    rcases a2 with ⟨L, b1, b2, b3, b4⟩ | ⟨b1, b2⟩
    · have b2 : v = (L.length : Int) := b2
      have b4 : ylr (s 74 0) L := b4
      rw [yoa_1 b1, b2, w32_n (by omega) (by omega)]
      refine xW_be (q_in i 0 _) ?_
      by_cases hc : 0 ≤ i ∧ i < (L.length : Int)
      · rw [if_pos (show 0 ≤ i ∧ i ≤ (L.length : Int) - 1 by omega), if_pos hc]
        refine xW_f (by decide) (xW_t ⟨by omega, by omega⟩ (xW_some ⟨b4 i.toNat (by omega), a1⟩))
      · rw [if_neg (show ¬ (0 ≤ i ∧ i ≤ (L.length : Int) - 1) by omega), if_neg hc]
        exact xW_t rfl (xW_some ⟨rfl, a1⟩)
    · have b2 : v = -6 := b2
      rw [yoa_0 b1, b2, w32_n (by decide) (by decide)]
      refine xW_be (q_in i 0 _) ?_
      rw [if_neg (show ¬ (0 ≤ i ∧ i ≤ -6 - 1) by omega)]
      exact xW_t rfl (xW_some ⟨rfl, a1⟩)
  · have eA : aord f a i = -2 := if_neg h2
    rw [eA, if_neg h2]
    exact xW_t rfl (xW_some ⟨rfl, hs⟩)
end OO
