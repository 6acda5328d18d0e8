/-! faults of what is on the pad, on both sides -/
noncomputable def ymv (c : Int) : Int := xixo xmoves c 0
theorem ymv_r {c : Int} : ymv c = -1 ∨ (0 ≤ ymv c ∧ ymv c < 12) := by
  unfold ymv xmoves
  simp only [xixo]
  by_cases h0 : c = 110
  · subst h0; right; decide
  by_cases h1 : c = 115
  · subst h1; right; decide
  by_cases h2 : c = 119
  · subst h2; right; decide
  by_cases h3 : c = 101
  · subst h3; right; decide
  by_cases h4 : c = 117
  · subst h4; right; decide
  by_cases h5 : c = 118
  · subst h5; right; decide
  by_cases h6 : c = 120
  · subst h6; right; decide
  by_cases h7 : c = 121
  · subst h7; right; decide
  by_cases h8 : c = 122
  · subst h8; right; decide
  by_cases h9 : c = 88
  · subst h9; right; decide
  by_cases h10 : c = 89
  · subst h10; right; decide
  by_cases h11 : c = 90
  · subst h11; right; decide
  left
  simp only [if_neg h0, if_neg h1, if_neg h2, if_neg h3, if_neg h4, if_neg h5, if_neg h6, if_neg h7, if_neg h8, if_neg h9, if_neg h10, if_neg h11]
theorem q_moveOf (c : Int) : fm_M_moveOf c = some (if ymv c < 0 then -6 else ymv c) := by
  unfold fm_M_moveOf ymv xmoves
  simp only [xixo]
  by_cases h1 : c = 88
  · subst h1; rfl
  rw [if_neg h1]
  by_cases h2 : c = 89
  · subst h2; rfl
  rw [if_neg h2]
  by_cases h3 : c = 90
  · subst h3; rfl
  rw [if_neg h3]
  by_cases h4 : c = 101
  · subst h4; rfl
  rw [if_neg h4]
  by_cases h5 : c = 110
  · subst h5; rfl
  rw [if_neg h5]
  by_cases h6 : c = 115
  · subst h6; rfl
  rw [if_neg h6]
  by_cases h7 : c = 117
  · subst h7; rfl
  rw [if_neg h7]
  by_cases h8 : c = 118
  · subst h8; rfl
  rw [if_neg h8]
  by_cases h9 : c = 119
  · subst h9; rfl
  rw [if_neg h9]
  by_cases h10 : c = 120
  · subst h10; rfl
  rw [if_neg h10]
  by_cases h11 : c = 121
  · subst h11; rfl
  rw [if_neg h11]
  by_cases h12 : c = 122
  · subst h12; rfl
  rw [if_neg h12]
  simp only [if_neg h1, if_neg h2, if_neg h3, if_neg h4, if_neg h5, if_neg h6, if_neg h7, if_neg h8, if_neg h9, if_neg h10, if_neg h11, if_neg h12]
  rfl
/-- the pad -/
def ypg (s : Nat → Int) (n : Nat) : Prop := n ≤ 60 ∧ ∀ i, i < n → 33 ≤ s i ∧ s i ≤ 126
def ypc (σ : xa_H) (s : Nat → Int) (n : Nat) : Prop := σ 2 0 1 = (n : Int) ∧ ∀ i, i < n → σ 17 0 i = s i
def ypm (σ : xa_H) (s : Nat → Int) (n : Nat) : Prop := σ 9 0 19 = (n : Int) ∧ ∀ i, i < n → σ 65 0 i = s i
noncomputable def yrwf (s : Nat → Int) (n : Nat) : Nat → Nat → Int
  | 0, _ => -6
  | d + 1, j => if 40 ≤ j ∨ ymv (s j) < 0 then (j : Int) else yrwf s n d (j + 1)
theorem q_moveAtC {σ : xa_H} {s : Nat → Int} {n : Nat} (hg : ypg s n) (hp : ypc σ s n) {i : Nat} (hi : i < n) : fm_Pad_moveAt (i : Int) σ = some (ymv (s i)) := by
  have := hg.1
  have hr := hg.2 i hi
  unfold fm_Pad_moveAt
  rw [rd17 (by omega), Option.bind_some, hp.2 i hi]
  have e : s i % 65536 = s i := by omega
  rw [e]
  rfl
theorem q_rowFaultC {σ : xa_H} {s : Nat → Int} {n : Nat} (hg : ypg s n) (hp : ypc σ s n) : fm_Pad_rowFault σ = some (yrwf s n n 0) := by
  have hn := hg.1
  have key : ∀ d j fu, j + d = n → d < fu → fm_Pad_rowFault_2 σ (some (-6)) fu (j : Int) = some (yrwf s n d j) := by
    intro d
    induction d with
    | zero =>
      intro j fu hj hd
      obtain ⟨m, rfl⟩ : ∃ m, fu = m + 1 := ⟨fu - 1, by omega⟩
      rw [fm_Pad_rowFault_2, hp.1, if_pos (by omega)]
      rfl
    | succ d ih =>
      intro j fu hj hd
      obtain ⟨m, rfl⟩ : ∃ m, fu = m + 1 := ⟨fu - 1, by omega⟩
      rw [fm_Pad_rowFault_2, hp.1, if_neg (by omega)]
      unfold yrwf
      by_cases h40 : 40 ≤ j
      · rw [if_pos (by omega), if_pos (Or.inl h40)]
      · rw [if_neg (by omega), q_moveAtC hg hp (by omega), Option.bind_some]
        by_cases hm : ymv (s j) < 0
        · rw [if_neg (by omega), if_pos (Or.inr hm)]
        · rw [if_pos (by omega), if_neg (by omega), xnm_e, w32_s (by omega)]
          exact ih (j + 1) m (by omega) (by omega)
  unfold fm_Pad_rowFault
  exact key n 0 xFU (by omega) (xfu_b (by omega))
theorem q_rowFaultM {σ : xa_H} {s : Nat → Int} {n : Nat} (hg : ypg s n) (hp : ypm σ s n) : fm_M_faultOfRow σ = some (yrwf s n n 0) := by
  have hn := hg.1
  have tn : ∀ j : Nat, ((j : Int)).toNat = j := fun j => rfl
  have key : ∀ d j fu, j + d = n → d < fu → j ≤ 40 → fm_M_faultOfRow_2 σ (some (-6)) fu (j : Int) = some (yrwf s n d j) := by
    intro d
    induction d with
    | zero =>
      intro j fu hj hd _
      obtain ⟨m, rfl⟩ : ∃ m, fu = m + 1 := ⟨fu - 1, by omega⟩
      rw [fm_M_faultOfRow_2, hp.1, if_pos (by omega)]
      rfl
    | succ d ih =>
      intro j fu hj hd h40
      obtain ⟨m, rfl⟩ : ∃ m, fu = m + 1 := ⟨fu - 1, by omega⟩
      rw [fm_M_faultOfRow_2, hp.1, if_neg (by omega), tn, hp.2 j (by omega)]
      unfold yrwf
      by_cases h41 : j = 40
      · rw [if_pos (by omega), if_pos (Or.inl (by omega))]
      · rw [if_neg (by omega), if_pos ⟨by omega, by omega⟩, q_moveOf, Option.bind_some]
        by_cases hm : ymv (s j) < 0
        · rw [if_pos hm, if_neg (by decide), if_pos (Or.inr hm)]
        · rw [if_neg hm, if_pos (by omega), if_neg (by omega), xnm_e, w32_s (by omega)]
          exact ih (j + 1) m (by omega) (by omega) (by omega)
  unfold fm_M_faultOfRow
  exact key n 0 xFU (by omega) (xfu_b (by omega)) (by omega)
theorem yrwf_n {s : Nat → Int} {n : Nat} : ∀ {d j : Nat}, j + d = n → yrwf s n d j < 0 → n ≤ 40 ∧ (∀ i, j ≤ i → i < n → 0 ≤ ymv (s i)) ∨ d = 0 := by
  intro d
  induction d with
  | zero => intro j _ _; exact Or.inr rfl
  | succ d ih =>
    intro j hj h
    unfold yrwf at h
    by_cases hc : 40 ≤ j ∨ ymv (s j) < 0
    · rw [if_pos hc] at h; omega
    · rw [if_neg hc] at h
      left
      rcases ih (by omega) h with ⟨h1, h2⟩ | h1
      · refine ⟨h1, fun i hi hin => ?_⟩
        by_cases hij : i = j
        · rw [hij]; omega
        · exact h2 i (by omega) hin
      · refine ⟨by omega, fun i hi hin => ?_⟩
        have : i = j := by omega
        rw [this]; omega
theorem yrwf_r {s : Nat → Int} {n : Nat} : ∀ {d j : Nat}, yrwf s n d j = -6 ∨ 0 ≤ yrwf s n d j := by
  intro d
  induction d with
  | zero => intro j; exact Or.inl rfl
  | succ d ih =>
    intro j
    unfold yrwf
    by_cases hc : 40 ≤ j ∨ ymv (s j) < 0
    · rw [if_pos hc]; right; omega
    · rw [if_neg hc]; exact ih
/-- a sign that can stand in the text of a thing -/
def ytwice (s : Nat → Int) (i : Nat) : Prop := ∃ k, 4 * k + 2 < i ∧ s (4 * k) = s (i - 2) ∧ s (4 * k + 1) = s (i - 1) ∧ s (4 * k + 2) = s i
def ystn (s : Nat → Int) (i : Nat) : Prop := i < 40 ∧ (i % 4 = 3 → s i = 45 ∨ (3 < i ∧ 97 ≤ s i ∧ s i ≤ 100)) ∧ (¬ i % 4 = 3 → (48 ≤ s i ∧ s i ≤ 51) ∧ (i % 4 = 2 → ¬ ytwice s i))
noncomputable def ytf0 (s : Nat → Int) (E : Int) : Nat → Nat → Int
  | 0, _ => E
  | d + 1, j => @ite Int (ystn s j) (Classical.propDecidable _) (ytf0 s E d (j + 1)) (j : Int)
def yzero (s : Nat → Int) (n : Nat) : Prop := 0 < n ∧ n % 4 = 0 ∧ ∀ a, a < 3 → ∃ k, 4 * k + a < n ∧ s (4 * k + a) = 48
noncomputable def ythf (s : Nat → Int) (n : Nat) : Int := ytf0 s (@ite Int (yzero s n) (Classical.propDecidable _) (-6) (n : Int)) n 0
section PC
variable {σ : xa_H} {s : Nat → Int} {n : Nat}
theorem q_digit (hg : ypg s n) (hp : ypc σ s n) {i : Nat} (hi : i < n) : fm_Pad_digitAt (i : Int) σ = some (s i - 48) := by
  have := hg.1
  have hr := hg.2 i hi
  unfold fm_Pad_digitAt
  rw [rd17 (by omega), Option.bind_some, hp.2 i hi, w32_n (by omega) (by omega)]
theorem q_group (hg : ypg s n) (hp : ypc σ s n) {i : Nat} (hi : i < n) : fm_Pad_groupAt (i : Int) σ = some (if s i = 45 then 0 else if s i < 97 then -6 else if 101 ≤ s i then -6 else s i - 96) := by
  have := hg.1
  have hr := hg.2 i hi
  unfold fm_Pad_groupAt
  rw [rd17 (by omega), Option.bind_some, hp.2 i hi]
  by_cases h1 : s i = 45
  · rw [if_pos h1, if_pos h1]
  · rw [if_neg h1, if_neg h1]
    by_cases h2 : s i < 97
    · rw [if_pos h2, if_pos h2]
    · rw [if_neg h2, if_neg h2]
      by_cases h3 : 101 ≤ s i
      · rw [if_pos h3, if_pos h3]
      · rw [if_neg h3, if_neg h3, w32_n (x := s i - 97) (by omega) (by omega), w32_n (by omega) (by omega)]
        congr 1
        omega
theorem q_isThere (hg : ypg s n) (hp : ypc σ s n) {i : Nat} (hi : i < n) (h2 : i % 4 = 2) : (ytwice s i → fm_Pad_isThere ((i - 2 : Nat) : Int) σ = some 1) ∧ (¬ ytwice s i → fm_Pad_isThere ((i - 2 : Nat) : Int) σ = some 0) := by
  have hn := hg.1
  have key : ∀ (d k fu : Nat), 4 * (k + d) = i - 2 → d < fu → (∀ k', k' < k → ¬ (s (4 * k') = s (i - 2) ∧ s (4 * k' + 1) = s (i - 1) ∧ s (4 * k' + 2) = s i)) →
      (ytwice s i → fm_Pad_isThere_2 ((i - 2 : Nat) : Int) σ (some 0) fu ((4 * k : Nat) : Int) = some 1) ∧ (¬ ytwice s i → fm_Pad_isThere_2 ((i - 2 : Nat) : Int) σ (some 0) fu ((4 * k : Nat) : Int) = some 0) := by
    intro d
    induction d with
    | zero =>
      intro k fu hk hd hno
      obtain ⟨m, rfl⟩ : ∃ m, fu = m + 1 := ⟨fu - 1, by omega⟩
      rw [fm_Pad_isThere_2, if_pos (by omega)]
      refine ⟨?_, fun _ => rfl⟩
      rintro ⟨k', h3, h4⟩
      exact absurd h4 (hno k' (by omega))
    | succ d ih =>
      intro k fu hk hd hno
      obtain ⟨m, rfl⟩ : ∃ m, fu = m + 1 := ⟨fu - 1, by omega⟩
      have e1 : w32 (((4 * k : Nat) : Int) + 1) = ((4 * k + 1 : Nat) : Int) := w32_s (by omega)
      have e2 : w32 (((4 * k : Nat) : Int) + 2) = ((4 * k + 2 : Nat) : Int) := w32_k (by omega) (by omega)
      have e4 : w32 (((4 * k : Nat) : Int) + 4) = ((4 * (k + 1) : Nat) : Int) := w32_k (by omega) (by omega)
      have e5 : w32 (((i - 2 : Nat) : Int) + 1) = ((i - 1 : Nat) : Int) := w32_k (by omega) (by omega)
      have e6 : w32 (((i - 2 : Nat) : Int) + 2) = ((i : Nat) : Int) := w32_k (by omega) (by omega)
      have hgo : ¬ (s (4 * k) = s (i - 2) ∧ s (4 * k + 1) = s (i - 1) ∧ s (4 * k + 2) = s i) → (ytwice s i → fm_Pad_isThere_2 ((i - 2 : Nat) : Int) σ (some 0) m ((4 * (k + 1) : Nat) : Int) = some 1) ∧ (¬ ytwice s i → fm_Pad_isThere_2 ((i - 2 : Nat) : Int) σ (some 0) m ((4 * (k + 1) : Nat) : Int) = some 0) := by
        intro hn'
        refine ih (k + 1) m (by omega) (by omega) (fun k' hk' => ?_)
        by_cases hkk : k' = k
        · rw [hkk]; exact hn'
        · exact hno k' (by omega)
      rw [fm_Pad_isThere_2, if_neg (by omega), q_digit hg hp (show 4 * k < n by omega), Option.bind_some, q_digit hg hp (show i - 2 < n by omega), Option.bind_some, e1, e2, e4, e5, e6,
        q_digit hg hp (show 4 * k + 1 < n by omega), q_digit hg hp (show i - 1 < n by omega), q_digit hg hp (show 4 * k + 2 < n by omega), q_digit hg hp hi]
      by_cases a : s (4 * k) = s (i - 2)
      · rw [if_pos (by omega), Option.bind_some, Option.bind_some]
        by_cases b : s (4 * k + 1) = s (i - 1)
        · rw [if_pos (by omega), Option.bind_some, Option.bind_some]
          by_cases c : s (4 * k + 2) = s i
          · rw [if_pos (by omega)]
            exact ⟨fun _ => rfl, fun h => absurd ⟨k, by omega, a, b, c⟩ h⟩
          · rw [if_neg (by omega), xnm_e]
            exact hgo (fun h => c h.2.2)
        · rw [if_neg (by omega), xnm_e]
          exact hgo (fun h => b h.2.1)
      · rw [if_neg (by omega), xnm_e]
        exact hgo (fun h => a h.1)
  unfold fm_Pad_isThere
  exact key ((i - 2) / 4) 0 xFU (by omega) (xfu_b (by omega)) (fun k' hk' => by omega)
theorem q_stands (hg : ypg s n) (hp : ypc σ s n) {i : Nat} (hi : i < n) : (ystn s i → fm_Pad_standsInThing (i : Int) σ = some 1) ∧ (¬ ystn s i → fm_Pad_standsInThing (i : Int) σ = some 0) := by
  have hn := hg.1
  have hr := hg.2 i hi
  have er : xrem (i : Int) 4 = ((i % 4 : Nat) : Int) := by rw [xrem_p (by omega)]; omega
  unfold fm_Pad_standsInThing
  by_cases h40 : i < 40
  · rw [if_pos (by omega), er, xnm_e]
    by_cases h3 : i % 4 = 3
    · rw [if_pos (by omega), q_group hg hp hi, Option.bind_some]
      have hst : ystn s i ↔ (s i = 45 ∨ (3 < i ∧ 97 ≤ s i ∧ s i ≤ 100)) := ⟨fun h => h.2.1 h3, fun h => ⟨h40, fun _ => h, fun h4 => absurd h3 h4⟩⟩
      by_cases h45 : s i = 45
      · rw [if_pos h45, if_pos rfl]
        exact ⟨fun _ => rfl, fun h => absurd (hst.mpr (Or.inl h45)) h⟩
      · rw [if_neg h45]
        by_cases hin : 3 < i ∧ 97 ≤ s i ∧ s i ≤ 100
        · rw [if_neg (show ¬ s i < 97 by omega), if_neg (show ¬ 101 ≤ s i by omega), if_neg (by omega), if_neg (by omega), if_neg (by omega)]
          exact ⟨fun _ => rfl, fun h => absurd (hst.mpr (Or.inr hin)) h⟩
        · refine ⟨fun h => ?_, fun _ => ?_⟩
          · rcases hst.mp h with h5 | h5
            · exact absurd h5 h45
            · exact absurd h5 hin
          · by_cases h6 : s i < 97
            · rw [if_pos h6, if_neg (by decide)]
              by_cases h7 : (i : Int) ≤ 3
              · rw [if_pos h7]
              · rw [if_neg h7, if_pos (by decide)]
            · rw [if_neg h6]
              by_cases h8 : 101 ≤ s i
              · rw [if_pos h8, if_neg (by decide)]
                by_cases h7 : (i : Int) ≤ 3
                · rw [if_pos h7]
                · rw [if_neg h7, if_pos (by decide)]
              · rw [if_neg h8, if_neg (by omega), if_pos (by omega)]
    · rw [if_neg (by omega), q_digit hg hp hi, Option.bind_some, xj_e]
      by_cases hd : 48 ≤ s i ∧ s i ≤ 51
      · rw [if_neg (by omega), Option.bind_some, if_neg (by omega)]
        dsimp only
        rw [if_neg (show ¬ (1 : Int) = 0 by decide)]
        by_cases h2 : i % 4 < 2
        · rw [if_pos (by omega)]
          have hst : ystn s i := ⟨h40, fun h => absurd h h3, fun _ => ⟨hd, fun h => by omega⟩⟩
          exact ⟨fun _ => rfl, fun h => absurd hst h⟩
        · have h22 : i % 4 = 2 := by omega
          have e : w32 ((i : Int) - 2) = ((i - 2 : Nat) : Int) := w32_k (by omega) (by omega)
          rw [if_neg (by omega), e]
          obtain ⟨t1, t2⟩ := q_isThere hg hp hi h22
          by_cases ht : ytwice s i
          · rw [t1 ht, Option.bind_some, if_neg (by decide)]
            exact ⟨fun h => absurd ht ((h.2.2 h3).2 h22), fun _ => rfl⟩
          · rw [t2 ht, Option.bind_some, if_pos rfl]
            exact ⟨fun _ => rfl, fun h => absurd ⟨h40, fun h => absurd h h3, fun _ => ⟨hd, fun _ => ht⟩⟩ h⟩
      · refine ⟨fun h => absurd (h.2.2 h3).1 hd, fun _ => ?_⟩
        by_cases hlt : s i - 48 < 0
        · rw [if_pos hlt]
          dsimp only
          rw [if_pos rfl]
        · rw [if_neg hlt, Option.bind_some, if_pos (by omega)]
          dsimp only
          rw [if_pos rfl]
  · rw [if_neg (by omega)]
    exact ⟨fun h => absurd h.1 h40, fun _ => rfl⟩
theorem q_least (hg : ypg s n) (hp : ypc σ s n) (h4 : n % 4 = 0) (hst : ∀ i, i < n → ystn s i) : ((∀ a, a < 3 → ∃ k, 4 * k + a < n ∧ s (4 * k + a) = 48) → fm_Pad_leastIsZero σ = some 1) ∧ (¬ (∀ a, a < 3 → ∃ k, 4 * k + a < n ∧ s (4 * k + a) = 48) → fm_Pad_leastIsZero σ = some 0) := by
  have hn := hg.1
  have inner : ∀ (K : Int → Option Int) (a : Nat), a < 3 → ∀ (d k fu : Nat) (x : Int), 4 * (k + d) = n → d < fu → 0 ≤ x → x ≤ 3 → (x = 0 ↔ ∃ k', k' < k ∧ s (4 * k' + a) = 48) →
      ∃ x', fm_Pad_leastIsZero_11 (a : Int) σ K fu x ((4 * k + a : Nat) : Int) = K x' ∧ 0 ≤ x' ∧ (x' = 0 ↔ ∃ k', 4 * k' + a < n ∧ s (4 * k' + a) = 48) := by
    intro K a ha d
    induction d with
    | zero =>
      intro k fu x hk hd h0 h3 hx
      obtain ⟨m, rfl⟩ : ∃ m, fu = m + 1 := ⟨fu - 1, by omega⟩
      rw [fm_Pad_leastIsZero_11, hp.1, if_pos (by omega)]
      refine ⟨x, rfl, h0, hx.trans ?_⟩
      constructor
      · rintro ⟨k', h5, h6⟩; exact ⟨k', by omega, h6⟩
      · rintro ⟨k', h5, h6⟩; exact ⟨k', by omega, h6⟩
    | succ d ih =>
      intro k fu x hk hd h0 h3 hx
      obtain ⟨m, rfl⟩ : ∃ m, fu = m + 1 := ⟨fu - 1, by omega⟩
      have hi : 4 * k + a < n := by omega
      have hds := ((hst _ hi).2.2 (by omega)).1
      have e4 : w32 (((4 * k + a : Nat) : Int) + 4) = ((4 * (k + 1) + a : Nat) : Int) := w32_k (by omega) (by omega)
      rw [fm_Pad_leastIsZero_11, hp.1, if_neg (by omega), q_digit hg hp hi, Option.bind_some, xnm_e, xnm_e, e4]
      have hcase : ∀ y : Int, 0 ≤ y → y ≤ 3 → (y = 0 ↔ x = 0 ∨ s (4 * k + a) = 48) → ∃ x', fm_Pad_leastIsZero_11 (a : Int) σ K m y ((4 * (k + 1) + a : Nat) : Int) = K x' ∧ 0 ≤ x' ∧ (x' = 0 ↔ ∃ k', 4 * k' + a < n ∧ s (4 * k' + a) = 48) := by
        intro y hy0 hy3 hy
        refine ih (k + 1) m y (by omega) (by omega) hy0 hy3 (hy.trans ?_)
        rw [hx]
        constructor
        · rintro (⟨k', h5, h6⟩ | h5)
          · exact ⟨k', by omega, h6⟩
          · exact ⟨k, by omega, h5⟩
        · rintro ⟨k', h5, h6⟩
          by_cases hkk : k' = k
          · rw [hkk] at h6; exact Or.inr h6
          · exact Or.inl ⟨k', by omega, h6⟩
      by_cases hlt : s (4 * k + a) - 48 < x
      · rw [if_pos hlt]
        exact hcase _ (by omega) (by omega) ⟨fun h => by omega, fun h => by omega⟩
      · rw [if_neg hlt]
        exact hcase _ h0 h3 ⟨fun h => Or.inl h, fun h => by omega⟩
  have outer : ∀ (d a fu : Nat), a + d = 3 → d < fu → (∀ a', a' < a → ∃ k, 4 * k + a' < n ∧ s (4 * k + a') = 48) →
      ((∀ a, a < 3 → ∃ k, 4 * k + a < n ∧ s (4 * k + a) = 48) → fm_Pad_leastIsZero_2 σ (some 1) fu (a : Int) = some 1) ∧ (¬ (∀ a, a < 3 → ∃ k, 4 * k + a < n ∧ s (4 * k + a) = 48) → fm_Pad_leastIsZero_2 σ (some 1) fu (a : Int) = some 0) := by
    intro d
    induction d with
    | zero =>
      intro a fu ha hd hall
      obtain ⟨m, rfl⟩ : ∃ m, fu = m + 1 := ⟨fu - 1, by omega⟩
      rw [fm_Pad_leastIsZero_2, if_pos (by omega)]
      exact ⟨fun _ => rfl, fun h => absurd (fun a' ha' => hall a' (by omega)) h⟩
    | succ d ih =>
      intro a fu ha hd hall
      obtain ⟨m, rfl⟩ : ∃ m, fu = m + 1 := ⟨fu - 1, by omega⟩
      rw [fm_Pad_leastIsZero_2, if_neg (by omega)]
      obtain ⟨x', e1, e2, e3⟩ := inner (fun (v5 : Int) => if v5 ≤ 0 then xnm (w32 ((a : Int) + 1) : Int) fun v7 => fm_Pad_leastIsZero_2 σ (some 1) m v7 else some 0) a (by omega) (n / 4) 0 xFU 3 (by omega) (xfu_b (by omega)) (by decide) (by decide) ⟨fun h => by omega, fun ⟨k', h, _⟩ => by omega⟩
      have e0 : ((4 * 0 + a : Nat) : Int) = (a : Int) := by omega
      rw [e0] at e1
      rw [e1]
      by_cases hx : x' ≤ 0
      · rw [if_pos hx, xnm_e, w32_s (by omega)]
        have hex := e3.mp (by omega)
        refine ih (a + 1) m (by omega) (by omega) (fun a' ha' => ?_)
        by_cases haa : a' = a
        · rw [haa]; exact hex
        · exact hall a' (by omega)
      · rw [if_neg hx]
        refine ⟨fun h => ?_, fun _ => rfl⟩
        have := e3.mpr (h a (by omega))
        omega
  unfold fm_Pad_leastIsZero
  exact outer 3 0 xFU (by omega) (xfu_b (by omega)) (fun a' ha' => by omega)
theorem q_thingFaultC (hg : ypg s n) (hp : ypc σ s n) : fm_Pad_thingFault σ = some (ythf s n) := by
  have hn := hg.1
  have key : ∀ (E : Int) (K : Option Int), ((∀ i, i < n → ystn s i) → K = some E) → ∀ d j fu, j + d = n → d < fu → (∀ i, i < j → ystn s i) → fm_Pad_thingFault_2 σ K fu (j : Int) = some (ytf0 s E d j) := by
    intro E K hK d
    induction d with
    | zero =>
      intro j fu hj hd hall
      obtain ⟨m, rfl⟩ : ∃ m, fu = m + 1 := ⟨fu - 1, by omega⟩
      rw [fm_Pad_thingFault_2, hp.1, if_pos (by omega)]
      exact hK (fun i hi => hall i (by omega))
    | succ d ih =>
      intro j fu hj hd hall
      obtain ⟨m, rfl⟩ : ∃ m, fu = m + 1 := ⟨fu - 1, by omega⟩
      rw [fm_Pad_thingFault_2, hp.1, if_neg (by omega)]
      obtain ⟨t1, t2⟩ := q_stands hg hp (show j < n by omega)
      unfold ytf0
      by_cases hst : ystn s j
      · rw [t1 hst, Option.bind_some, if_neg (by decide), if_pos hst, xnm_e, w32_s (by omega)]
        refine ih (j + 1) m (by omega) (by omega) (fun i hi => ?_)
        by_cases hij : i = j
        · rw [hij]; exact hst
        · exact hall i (by omega)
      · rw [t2 hst, Option.bind_some, if_pos rfl, if_neg hst]
  unfold fm_Pad_thingFault ythf
  refine key _ _ ?_ n 0 xFU (by omega) (xfu_b (by omega)) (fun i hi => by omega)
  intro hall
  rw [hp.1, xnm_e]
  have er : xrem (n : Int) 4 = ((n % 4 : Nat) : Int) := by rw [xrem_p (by omega)]; omega
  rw [er]
  by_cases h0 : n = 0
  · rw [if_pos (show (n : Int) ≤ 0 by omega), if_pos rfl, if_neg (fun h => by have := h.1; omega)]
  · rw [if_neg (show ¬ (n : Int) ≤ 0 by omega)]
    by_cases h4 : n % 4 = 0
    · rw [if_pos (show ((n % 4 : Nat) : Int) = 0 by omega), if_neg (by decide)]
      obtain ⟨t1, t2⟩ := q_least hg hp h4 hall
      by_cases hz : ∀ a, a < 3 → ∃ k, 4 * k + a < n ∧ s (4 * k + a) = 48
      · rw [t1 hz, Option.bind_some, if_neg (by decide), if_pos ⟨by omega, h4, hz⟩]
      · rw [t2 hz, Option.bind_some, if_pos rfl, if_neg (fun h => hz h.2.2)]
    · rw [if_neg (show ¬ ((n % 4 : Nat) : Int) = 0 by omega), if_pos rfl, if_neg (fun h => h4 h.2.1)]
end PC
