/-! the small functions, in plain words -/
theorem q_read (K i : Nat) (a : Int) (σ : xa_H) : fm_S_read K i a σ = some (if 0 ≤ a ∧ a < (xalen K : Int) then σ K i a.toNat else 0) := by
  unfold fm_S_read
  by_cases h : 0 ≤ a ∧ a < (xalen K : Int)
  · simp only [if_pos h, if_neg (show ¬ a < 0 by omega), if_neg (show ¬ (xalen K : Int) ≤ a by omega)]
  · by_cases h1 : a < 0
    · simp only [if_pos h1, if_neg h]
    · simp only [if_neg h1, if_neg h, if_pos (show (xalen K : Int) ≤ a by omega)]
theorem q_write (K i : Nat) (a v : Int) (σ : xa_H) : fm_S_write K i a v σ = some (if 0 ≤ a ∧ a < (xalen K : Int) then xup σ K i a.toNat v else σ) := by
  unfold fm_S_write xnm
  by_cases h : 0 ≤ a ∧ a < (xalen K : Int)
  · simp only [if_pos h, if_neg (show ¬ a < 0 by omega), if_neg (show ¬ (xalen K : Int) ≤ a by omega)]
  · by_cases h1 : a < 0
    · simp only [if_pos h1, if_neg h]
    · simp only [if_neg h1, if_neg h, if_pos (show (xalen K : Int) ≤ a by omega)]
theorem xdiv_p {a b : Int} (h : 0 ≤ a) : xdiv a b = a / b := if_pos h
theorem xrem_p {a b : Int} (h : 0 ≤ a) : xrem a b = a % b := if_pos h
theorem xcmp_lt {a b : Int} : xcmp a b < 0 ↔ a < b := by
  unfold xcmp
  split
  · omega
  · split <;> omega
theorem xcmp_gt {a b : Int} : 0 < xcmp a b ↔ b < a := by
  unfold xcmp
  split
  · omega
  · split <;> omega
theorem q_in (v lo hi : Int) : fm_M_in v lo hi = some (if lo ≤ v ∧ v ≤ hi then 1 else 0) := by
  unfold fm_M_in
  by_cases h1 : v < lo
  · rw [if_pos (xcmp_lt.mpr h1), if_neg (by omega)]
  · rw [if_neg (fun q => h1 (xcmp_lt.mp q))]
    by_cases h2 : hi < v
    · rw [if_pos (xcmp_gt.mpr h2), if_neg (by omega)]
    · rw [if_neg (fun q => h2 (xcmp_gt.mp q)), if_pos (by omega)]
/-- the size of a way, as both sides keep it -/
def qsz (X Y Z : Int) : Prop := 1 ≤ X ∧ X ≤ 6 ∧ 1 ≤ Y ∧ Y ≤ 6 ∧ 1 ≤ Z ∧ Z ≤ 4
def qin (X Y Z x y z : Int) : Prop := (0 ≤ x ∧ x < X) ∧ (0 ≤ y ∧ y < Y) ∧ (0 ≤ z ∧ z < Z)
theorem q_placeAt {i : Nat} {σ : xa_H} (hs : qsz (σ 7 i 0) (σ 7 i 1) (σ 7 i 2)) (x y z : Int) :
    (qin (σ 7 i 0) (σ 7 i 1) (σ 7 i 2) x y z → fm_Way_placeAt i x y z σ = some (24 * x + 4 * y + z)) ∧ (¬ qin (σ 7 i 0) (σ 7 i 1) (σ 7 i 2) x y z → fm_Way_placeAt i x y z σ = some (-6)) := by
  unfold fm_Way_placeAt xnm qin
  unfold qsz at hs
  refine ⟨fun h => ?_, fun h => ?_⟩
  · have e : (if x < 0 then (0 : Int) else (if (σ 7 i 0) ≤ x then 0 else (if y < 0 then 0 else (if (σ 7 i 1) ≤ y then 0 else (if z < 0 then 0 else (if (σ 7 i 2) ≤ z then 0 else 1)))))) = 1 := by
      rw [if_neg (by omega), if_neg (by omega), if_neg (by omega), if_neg (by omega), if_neg (by omega), if_neg (by omega)]
    rw [e]
    dsimp only
    rw [if_neg (by decide)]
    simp only [w32_d]
    congr 1
    omega
  · have e : (if x < 0 then (0 : Int) else (if (σ 7 i 0) ≤ x then 0 else (if y < 0 then 0 else (if (σ 7 i 1) ≤ y then 0 else (if z < 0 then 0 else (if (σ 7 i 2) ≤ z then 0 else 1)))))) = 0 := by
      split
      · rfl
      split
      · rfl
      split
      · rfl
      split
      · rfl
      split
      · rfl
      split
      · rfl
      · exact absurd ⟨⟨by omega, by omega⟩, ⟨by omega, by omega⟩, ⟨by omega, by omega⟩⟩ h
    rw [e]
    dsimp only
    rw [if_pos rfl]
theorem q_xOf {p : Int} (h : 0 ≤ p) : fm_S_xOf p = some (p / 24) := by unfold fm_S_xOf; rw [xdiv_p h]
theorem q_yOf {p : Int} (h : 0 ≤ p) : fm_S_yOf p = some (p / 4 % 6) := by unfold fm_S_yOf; rw [xdiv_p h, xrem_p (by omega)]
theorem q_zOf {p : Int} (h : 0 ≤ p) : fm_S_zOf p = some (p % 4) := by unfold fm_S_zOf; rw [xrem_p h]
theorem q_cellOf {p : Int} (h : 0 ≤ p) (h2 : p < 144) : fm_S_cellOf p = some (100 * (p / 24) + 10 * (p / 4 % 6) + p % 4) := by
  unfold fm_S_cellOf
  rw [q_xOf h, Option.bind_some, q_yOf h, Option.bind_some, q_zOf h, Option.bind_some]
  simp only [w32_d]
  congr 1
  omega
theorem q_numberOf {p : Int} (h : 0 ≤ p) (h2 : p < 144) : fm_M_numberOf p = some (100 * (p / 24) + 10 * (p / 4 % 6) + p % 4) := by
  unfold fm_M_numberOf
  rw [xdiv_p h, xdiv_p h, xrem_p (by omega), xrem_p h]
  simp only [w32_d]
  congr 1
  omega
theorem q_at {x y z : Int} (hx : 0 ≤ x ∧ x < 100) (hy : 0 ≤ y ∧ y < 100) (hz : 0 ≤ z ∧ z < 100) : fm_M_at x y z = some (24 * x + 4 * y + z) := by
  unfold fm_M_at
  simp only [w32_d]
  congr 1
  omega
theorem q_MisCell {σ : xa_H} (hs : qsz (σ 9 0 3) (σ 9 0 4) (σ 9 0 5)) (x y z : Int) :
    (qin (σ 9 0 3) (σ 9 0 4) (σ 9 0 5) x y z → fm_M_isCell x y z σ = some 1) ∧ (¬ qin (σ 9 0 3) (σ 9 0 4) (σ 9 0 5) x y z → fm_M_isCell x y z σ = some 0) := by
  unfold qsz at hs
  have e3 : w32 (σ 9 0 3 - 1) = σ 9 0 3 - 1 := w32_id ⟨by omega, by omega⟩
  have e4 : w32 (σ 9 0 4 - 1) = σ 9 0 4 - 1 := w32_id ⟨by omega, by omega⟩
  have e5 : w32 (σ 9 0 5 - 1) = σ 9 0 5 - 1 := w32_id ⟨by omega, by omega⟩
  unfold fm_M_isCell qin
  rw [e3, e4, e5, q_in, q_in, q_in, Option.bind_some, Option.bind_some, Option.bind_some]
  refine ⟨fun h => ?_, fun h => ?_⟩
  · rw [if_pos (show 0 ≤ x ∧ x ≤ σ 9 0 3 - 1 by omega), if_neg (by decide), if_pos (show 0 ≤ y ∧ y ≤ σ 9 0 4 - 1 by omega), if_neg (by decide), if_pos (show 0 ≤ z ∧ z ≤ σ 9 0 5 - 1 by omega), if_neg (by decide)]
  · by_cases h1 : 0 ≤ x ∧ x ≤ σ 9 0 3 - 1
    · rw [if_pos h1, if_neg (by decide)]
      by_cases h2 : 0 ≤ y ∧ y ≤ σ 9 0 4 - 1
      · rw [if_pos h2, if_neg (by decide), if_neg (show ¬ (0 ≤ z ∧ z ≤ σ 9 0 5 - 1) by omega), if_pos rfl]
      · rw [if_neg h2, if_pos rfl]
    · rw [if_neg h1, if_pos rfl]
/-- what a method of one side leaves of the other -/
theorem jside_W {k : Nat} {L : xa_L} {σ σ' : xa_H} {t : Option (Int × xa_H)} {r : Int} (h : J k 0 L [] σ jqW t) (hx : t = some (r, σ')) : ∀ K : Nat, ¬ xkg K = xmg k → σ' K = σ K := by
  obtain ⟨n, r', s', e1, e2, e3⟩ := h _ hx
  have e3 : s' = σ' := e3
  subst e3
  exact xrun_side _ _ _ _ _ _ _ _ e1
theorem jside_V {k : Nat} {L : xa_L} {σ σ' : xa_H} {t : Option xa_H} (h : J k 0 L [] σ jqV t) (hx : t = some σ') : ∀ K : Nat, ¬ xkg K = xmg k → σ' K = σ K := by
  obtain ⟨n, r', s', e1, e2, e3⟩ := h _ hx
  have e3 : s' = σ' := e3
  subst e3
  exact xrun_side _ _ _ _ _ _ _ _ e1
