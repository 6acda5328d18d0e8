/-! what the reference's constructor makes; the contracts of all constructors -/
theorem z_M269 {x1 : Nat} (hx : x1 < 4) (K : xa_H → Option xa_H) (Q : xa_H → Prop) (σ : xa_H) (hK : ∀ s, (∀ K i s', ¬ (K = 59 ∧ i = 0 ∧ 4 * x1 ≤ s' ∧ s' < 4 * x1 + 4) → s K i s' = σ K i s') → (∀ j, j < 4 → s 59 0 (4 * x1 + j) = 1) → xW (K s) Q) : xW (fm_M_init_269 (x1 : Int) K xFU 0 σ) Q := by
  refine xfor0 (fun n (j : Int) (g : xa_H) => fm_M_init_269 (x1 : Int) K n j g) 4 (fun j g => (∀ K i s', ¬ (K = 59 ∧ i = 0 ∧ 4 * x1 ≤ s' ∧ s' < 4 * x1 + 4) → g K i s' = σ K i s') ∧ ∀ j', j' < j → g 59 0 (4 * x1 + j') = 1) _ (xfu_b (by omega)) ?_ ?_ σ ⟨fun _ _ _ _ => rfl, fun j' h => by omega⟩
  · rintro n j g hj ⟨i1, i2⟩ ih
    show xW (fm_M_init_269 (x1 : Int) K (n + 1) (j : Int) g) _
    rw [fm_M_init_269]
    have e9 : w32 (w32 (4 * (x1 : Int)) + (j : Int)) = ((4 * x1 + j : Nat) : Int) := by
      rw [w32_n (x := 4 * (x1 : Int)) (by omega) (by omega), w32_n (by omega) (by omega)]
      omega
    rw [e9]
    refine xW_f (by omega) (xW_t (by omega) (xW_nm (xW_nm ?_)))
    rw [w32_s (by omega)]
    refine ih (xup g 59 0 (4 * x1 + j) 1) ⟨fun K i s' hne => ?_, fun j' hj' => ?_⟩
    · rw [xup_o (by omega)]
      exact i1 K i s' hne
    · by_cases e : j' = j
      · rw [e, xup_at]
      · rw [xup_o (by omega)]
        exact i2 j' (by omega)
  · rintro n g ⟨i1, i2⟩
    show xW (fm_M_init_269 (x1 : Int) K (n + 1) ((4 : Nat) : Int) g) _
    rw [fm_M_init_269]
    exact xW_t (by omega) (hK g i1 i2)
theorem z_M : xW (fm_M_init yi0) fun s => ∀ q ∈ idM, ∀ s', s' < xsz q.1 → ¬ xfty q.1 s' = 3 → zG q.1 q.2 s' = s q.1 q.2 s' := by
  unfold fm_M_init
  refine xW_nm (xW_nm (xW_nm ?_))
  obtain ⟨σ3, e3⟩ : ∃ σ3, σ3 = xup (xup (xup yi0 9 0 3 6) 9 0 4 6) 9 0 5 2 := ⟨_, rfl⟩
  rw [← e3]
  have z3 : ∀ K i s, ¬ K = 9 → ¬ K = 3 → ¬ K = 5 → σ3 K i s = 0 := fun K i s h9 h3 h5 => by
    rw [e3, xup_o (by omega), xup_o (by omega), xup_o (by omega)]
    exact yi0_0 ⟨h3, h5⟩
  refine xfor0 (fun n (j : Int) (g : xa_H) => fm_M_init_240 (fun (s7 : xa_H) => (fm_M_findTables s7).bind fun s8 => some s8) n j g) 4 (fun j g => (∀ K i s', ¬ ((K = 62 ∨ K = 60 ∨ K = 61) ∧ i = 0 ∧ s' < j) → ¬ (K = 59 ∧ i = 0 ∧ s' < 4 * j) → g K i s' = σ3 K i s') ∧ (∀ p, p < j → g 62 0 p = -6 ∧ g 60 0 p = 1 ∧ g 61 0 p = 1) ∧ ∀ p, p < 4 * j → g 59 0 p = 1) _ (xfu_b (by omega)) ?_ ?_ σ3 ⟨fun _ _ _ _ _ => rfl, fun p hp => by omega, fun p hp => by omega⟩
  · rintro n j g hj ⟨i1, i2, i3⟩ ih
    show xW (fm_M_init_240 (fun (s7 : xa_H) => (fm_M_findTables s7).bind fun s8 => some s8) (n + 1) (j : Int) g) _
    rw [fm_M_init_240]
    refine xW_f (by omega) (xW_t (by omega) (xW_nm (xW_t (by omega) (xW_nm (xW_t (by omega) (xW_nm ?_))))))
    refine z_M269 hj _ _ _ (fun s a1 a2 => xW_nm ?_)
    rw [w32_s (by omega)]
    have b1 : ∀ K i s', ¬ (K = 59 ∧ i = 0 ∧ 4 * j ≤ s' ∧ s' < 4 * j + 4) → s K i s' = xup (xup (xup g 62 0 j (-6)) 60 0 j 1) 61 0 j 1 K i s' := a1
    refine ih s ⟨fun K i s' hne hne2 => ?_, fun p hp => ?_, fun p hp => ?_⟩
    · rw [b1 K i s' (by omega), xup_o (by omega), xup_o (by omega), xup_o (by omega)]
      exact i1 K i s' (by omega) (by omega)
    · rw [b1 62 0 p (by omega), b1 60 0 p (by omega), b1 61 0 p (by omega)]
      by_cases e : p = j
      · rw [e, xup_o (by omega), xup_o (by omega), xup_at, xup_o (by omega), xup_at, xup_at]
        exact ⟨rfl, rfl, rfl⟩
      · rw [xup_o (by omega), xup_o (by omega), xup_o (by omega), xup_o (by omega), xup_o (by omega), xup_o (by omega), xup_o (by omega), xup_o (by omega), xup_o (by omega)]
        exact i2 p (by omega)
    · by_cases hlt : p < 4 * j
      · rw [b1 59 0 p (by omega), xup_o (by omega), xup_o (by omega), xup_o (by omega)]
        exact i3 p hlt
      · have := a2 (p - 4 * j) (by omega)
        rw [show 4 * j + (p - 4 * j) = p by omega] at this
        exact this
  · rintro n g ⟨i1, i2, i3⟩
    show xW (fm_M_init_240 (fun (s7 : xa_H) => (fm_M_findTables s7).bind fun s8 => some s8) (n + 1) ((4 : Nat) : Int) g) _
    rw [fm_M_init_240]
    refine xW_t (by omega) (xW_bind (z_tables g (fun j hj => ?_)) (fun s hs => xW_some ?_))
    · rw [i1 50 0 j (by omega) (by omega)]
      exact z3 50 0 j (by omega) (by omega) (by omega)
    · obtain ⟨h1, h2, h3, h4⟩ := hs
      intro q hq s' hs' hn3
      have hq2 := (by decide +kernel : ∀ q ∈ idM, q.2 = 0 ∧ (q.1 = 9 ∨ (50 ≤ q.1 ∧ q.1 < 77))) q hq
      obtain ⟨K, i⟩ := q
      have e0 : i = 0 := hq2.1
      subst e0
      have hK : K = 9 ∨ (50 ≤ K ∧ K < 77) := hq2.2
      have hs' : s' < xsz K := hs'
      show zG K 0 s' = s K 0 s'
      by_cases k50 : K = 50
      · subst k50
        have h8 : s' < 216 := by
          have : xsz 50 = 216 := by decide +kernel
          exact this ▸ hs'
        exact (h2 s' h8).symm
      by_cases k51 : K = 51
      · subst k51
        have h8 : s' < 144 := by
          have : xsz 51 = 144 := by decide +kernel
          exact this ▸ hs'
        exact (h3 s' h8).symm
      by_cases k52 : K = 52
      · subst k52
        have h8 : s' < 9 := by
          have : xsz 52 = 9 := by decide +kernel
          exact this ▸ hs'
        rw [h4 s' h8]
        show (if s' < 9 then zmd 23 5 s' else 0) = _
        rw [if_pos h8]
      rw [h1 K 0 s' (by omega)]
      by_cases k59 : K = 59
      · subst k59
        have h8 : s' < 16 := by
          have : xsz 59 = 16 := by decide +kernel
          exact this ▸ hs'
        rw [i3 s' (by omega)]
        show (if s' < 16 then (1 : Int) else 0) = 1
        rw [if_pos h8]
      by_cases k60 : K = 60
      · subst k60
        have h8 : s' < 4 := by
          have : xsz 60 = 4 := by decide +kernel
          exact this ▸ hs'
        rw [(i2 s' h8).2.1]
        show (if s' < 4 then (1 : Int) else 0) = 1
        rw [if_pos h8]
      by_cases k61 : K = 61
      · subst k61
        have h8 : s' < 4 := by
          have : xsz 61 = 4 := by decide +kernel
          exact this ▸ hs'
        rw [(i2 s' h8).2.2]
        show (if s' < 4 then (1 : Int) else 0) = 1
        rw [if_pos h8]
      by_cases k62 : K = 62
      · subst k62
        show (if s' < 4 then (-6 : Int) else 0) = _
        by_cases h8 : s' < 4
        · rw [if_pos h8, (i2 s' h8).1]
        · rw [if_neg h8, i1 62 0 s' (by omega) (by omega), z3 62 0 s' (by omega) (by omega) (by omega)]
      rw [i1 K 0 s' (by omega) (by omega)]
      by_cases k9 : K = 9
      · subst k9
        rw [e3]
        show (if s' = 3 ∨ s' = 4 then (6 : Int) else if s' = 5 then 2 else 0) = _
        by_cases c5 : s' = 5
        · rw [c5, xup_at]; rfl
        · rw [xup_o (by omega)]
          by_cases c4 : s' = 4
          · rw [c4, xup_at]; rfl
          · rw [xup_o (by omega)]
            by_cases c3 : s' = 3
            · rw [c3, xup_at]; rfl
            · rw [xup_o (by omega), if_neg (by omega), if_neg c5]
              exact (yi0_0 (by decide)).symm
      · rw [z3 K 0 s' k9 (by omega) (by omega)]
        have hn : K ∉ [7, 34, 25, 26, 30, 31, 32, 19, 23, 9, 50, 51, 52, 62, 59, 60, 61] := by
          simp only [List.mem_cons, List.not_mem_nil, or_false, not_or]
          omega
        rw [zG_o hn]
        exact yi0_0 (by omega)
theorem zG_r4 : ∀ K i s, xfty K s = 4 → zG K i s < 0 ∧ zG1 K i s < 0 := by
  intro K i s h
  obtain ⟨rfl, rfl⟩ := xfty_4 K s h
  have e : zG 3 i 8 = -1 := rfl
  rw [zG1_e (by decide), e]
  decide
theorem ybs_rg (p m : Nat) : -6 ≤ ybs zPz p m ∧ ybs zPz p m ≤ 200 := by
  unfold ybs
  split
  · rename_i h
    have h1 : ((p / 24 : Nat) : Int) + ydx m < 6 := h.1.2
    have h2 : ((p / 4 % 6 : Nat) : Int) + ydy m < 6 := h.2.1.2
    have h3 : ((p % 4 : Nat) : Int) + ydz m < 2 := h.2.2.2
    unfold ypl
    omega
  · omega
theorem znx_r : ∀ j, znx j < 24 := by
  intro j
  by_cases h : j < 144
  · exact (by decide +kernel : ∀ j, j < 144 → znx j < 24) j h
  · have : znx j = 0 := by
      unfold znx
      rw [List.getD_eq_getElem?_getD, List.getElem?_eq_none (by show 144 ≤ j; omega)]
      rfl
    omega
theorem zG_rg (K i s : Nat) : -2000 ≤ zG K i s ∧ zG K i s ≤ 2000 := by
  unfold zG
  by_cases h : K = 7
  · rw [if_pos h]; split
    · omega
    · split <;> omega
  rw [if_neg h]
  by_cases h : K = 34
  · rw [if_pos h]; split
    · have := ybs_rg (s / 6) (s % 6); omega
    · omega
  rw [if_neg h]
  by_cases h : K = 25 ∨ K = 26 ∨ K = 30
  · rw [if_pos h]; split <;> omega
  rw [if_neg h]
  by_cases h : K = 31
  · rw [if_pos h]; have := zax_r s; omega
  rw [if_neg h]
  by_cases h : K = 32
  · rw [if_pos h]; have := znx_r s; omega
  rw [if_neg h]
  by_cases h : K = 19
  · rw [if_pos h]; split
    · unfold ygi; omega
    · omega
  rw [if_neg h]
  by_cases h : K = 23
  · rw [if_pos h]; split <;> omega
  rw [if_neg h]
  by_cases h : K = 9
  · rw [if_pos h]; split
    · omega
    · split <;> omega
  rw [if_neg h]
  by_cases h : K = 50
  · rw [if_pos h]; have := ztb_r s; omega
  rw [if_neg h]
  by_cases h : K = 51
  · rw [if_pos h]; have := znx_r s; omega
  rw [if_neg h]
  by_cases h : K = 52
  · rw [if_pos h]; split
    · rename_i h9
      have := (by decide +kernel : ∀ j, j < 9 → -1 ≤ zmd 23 5 j ∧ zmd 23 5 j ≤ 1) s h9
      omega
    · omega
  rw [if_neg h]
  by_cases h : K = 62
  · rw [if_pos h]; split <;> omega
  rw [if_neg h]
  by_cases h : K = 59
  · rw [if_pos h]; split <;> omega
  rw [if_neg h]
  by_cases h : K = 60 ∨ K = 61
  · rw [if_pos h]; split <;> omega
  rw [if_neg h]
  have := yi0_r K i s
  omega
theorem zG_hok (ids : List (Nat × Nat)) : xhok ids zG := by
  intro q _ s
  have := zG_rg q.1 q.2 s
  exact ⟨fun _ => ⟨fun _ => ⟨by omega, by omega⟩, fun h => Or.inl (zG_r4 _ _ _ h).1⟩, fun _ => ⟨by omega, by omega⟩, fun _ => ⟨by omega, by omega⟩⟩
theorem zG1_hok (ids : List (Nat × Nat)) : xhok ids zG1 := by
  intro q _ s
  have h1 := zG_rg q.1 q.2 s
  have h2 : -2000 ≤ zG1 q.1 q.2 s ∧ zG1 q.1 q.2 s ≤ 2000 := by
    unfold zG1
    split <;> omega
  exact ⟨fun _ => ⟨fun _ => ⟨by omega, by omega⟩, fun h => Or.inl (zG_r4 _ _ _ h).2⟩, fun _ => ⟨by omega, by omega⟩, fun _ => ⟨by omega, by omega⟩⟩
theorem c_Way (l : Launch) (i : Nat) (hi : i < 3) (σF : xa_H) (h : ∀ K i s, ¬ (K = 19 ∨ K = 23 ∨ K = 25 ∨ K = 26) → σF K i s = zG K i s) : xkn l 69 7 i [] (idW i) (fun _ => []) 2 1008 yi0 σF := by
  obtain ⟨σT, e, he⟩ := z_Way i
  exact k_Way l i hi σT σF e (fun q hq s hs h3 => (h _ _ _ (by
    simp only [idW, List.mem_cons, List.not_mem_nil, or_false] at hq
    rcases hq with rfl | rfl | rfl <;> simp)).trans (he q hq s hs h3))
theorem c_Thing (l : Launch) (i : Nat) (hi : i < 13) (σF : xa_H) (h : ∀ K i s, ¬ (K = 19 ∨ K = 23 ∨ K = 25 ∨ K = 26) → σF K i s = zG K i s) : xkn l 54 5 i [] (idT i) (fun _ => []) 4 47 yi0 σF := by
  obtain ⟨σT, e, he⟩ := z_Thing i
  exact k_Thing l i hi σT σF e (fun q hq s hs h3 => (h _ _ _ (by
    simp only [idT, List.mem_cons, List.not_mem_nil, or_false] at hq
    rcases hq with rfl | rfl | rfl | rfl | rfl <;> simp)).trans (he q hq s hs h3))
theorem c_Stair (l : Launch) (i : Nat) (hi : i < 3) : xkn l 50 4 i [] (idS i) (fun _ => []) 26 1245 zG1 zG := by
  obtain ⟨σT, e, he⟩ := z_Stair i
  refine k_Stair l i hi zG1 σT zG (fun K i s hK => ?_) (c_Way l i hi zG1 (fun K i s h => zG1_e h)) (fun j hj => c_Thing l j hj zG1 (fun K i s h => zG1_e h)) e he (zG1_hok _)
  by_cases h : K = 25 ∨ K = 26
  · exact if_pos (by omega)
  · rw [zG1_e (by omega)]
    have hn : K ∉ [7, 34, 25, 26, 30, 31, 32, 19, 23, 9, 50, 51, 52, 62, 59, 60, 61] := by
      simp only [List.mem_cons, List.not_mem_nil, or_false, not_or]
      omega
    rw [zG_o hn]
    exact yi0_0 (by omega)
theorem c_SofaStair (l : Launch) : xkn l 81 8 0 [] idX (fun _ => []) 107 30041 zG zG := by
  obtain ⟨σN, eN, hN⟩ := z_TurnsG
  obtain ⟨σS, eS, hS⟩ := z_Search
  refine k_SofaStair l zG1 zG (fun K i s hK => ?_) zG_r4 (fun q hq => ?_) (k_Pad l zG (fun q hq => ?_)) (c_Stair l) (k_Turns l σN zG eN hN) (k_Search l zG1 σS zG (fun K i s hK => ?_) eS hS (zG1_hok _) (fun q _ s' h => (zG_r4 _ _ _ h).1)) (k_Cheapest l zG zG (fun K i s hK => ?_) (fun _ _ => rfl)) (k_Answer l zG (fun q hq => ?_)) (c_Thing l 12 (by decide) zG (fun _ _ _ _ => rfl))
  · have hn : K ∉ [7, 34, 25, 26, 30, 31, 32, 19, 23, 9, 50, 51, 52, 62, 59, 60, 61] := by
      simp only [List.mem_cons, List.not_mem_nil, or_false, not_or]
      omega
    rw [zG_o hn]
    exact yi0_0 (by omega)
  · by_cases h : q.1 = 19 ∨ q.1 = 23
    · exact Or.inr (Or.inr (by omega))
    · have h25 := (by decide +kernel : ∀ q ∈ idSk, ¬ (q.1 = 25 ∨ q.1 = 26)) q hq
      exact Or.inl (funext fun s => zG1_e (by omega))
  · funext s
    simp only [idP, List.mem_cons, List.not_mem_nil, or_false] at hq
    rcases hq with rfl | rfl
    · exact zG_o (by show 17 ∉ _; decide)
    · exact zG_o (by show 2 ∉ _; decide)
  · by_cases h : K = 19 ∨ K = 23
    · rw [show zG1 K i s = 0 from if_pos (by omega), yi0_0 (by omega)]
    · have hn : K ∉ [7, 34, 25, 26, 30, 31, 32, 19, 23, 9, 50, 51, 52, 62, 59, 60, 61] := by
        simp only [List.mem_cons, List.not_mem_nil, or_false, not_or]
        omega
      rw [zG1_e (by omega), zG_o hn]
  · have hn : K ∉ [7, 34, 25, 26, 30, 31, 32, 19, 23, 9, 50, 51, 52, 62, 59, 60, 61] := by
      simp only [List.mem_cons, List.not_mem_nil, or_false, not_or]
      omega
    exact zG_o hn
  · funext s
    simp only [idB, List.mem_cons, List.not_mem_nil, or_false] at hq
    rcases hq with rfl | rfl
    · exact zG_o (by show 12 ∉ _; decide)
    · exact zG_o (by show 0 ∉ _; decide)
theorem c_Model (l : Launch) : xkn l 200 9 0 [] idM (fun _ => []) 27 15661 yi0 zG := by
  obtain ⟨σT, e, he⟩ := z_M
  exact k_Model l σT zG e he
