/-! what the constructors make -/
def zfz : xa_H := fun K _ s => match K with
  | 0 => if s = 2 then 2 else 6
  | 2 => if s = 1 then -6 else 0
  | 3 => 1
  | 4 => 1
  | 5 => 1
  | _ => 0
def zPz : xa_H := ypr zfz 0 0 (ykd zfz 0) 0 0
noncomputable def zG : xa_H := fun K i s =>
  if K = 7 then (if s = 2 then 2 else if s < 2 then 6 else 0)
  else if K = 34 then (if s < 864 then ybs zPz (s / 6) (s % 6) else 0)
  else if K = 25 ∨ K = 26 ∨ K = 30 then (if s < 4 then 1 else 0)
  else if K = 31 then zax s
  else if K = 32 then (znx s : Int)
  else if K = 19 then (if s < 144 then ygi ((s / 24 : Nat) : Int) ((s / 4 % 6 : Nat) : Int) ((s % 4 : Nat) : Int) else 0)
  else if K = 23 then (if s < 3456 then -1 else 0)
  else if K = 9 then (if s = 3 ∨ s = 4 then 6 else if s = 5 then 2 else 0)
  else if K = 50 then ztb s
  else if K = 51 then (znx s : Int)
  else if K = 52 then (if s < 9 then zmd 23 5 s else 0)
  else if K = 62 then (if s < 4 then -6 else 0)
  else if K = 59 then (if s < 16 then 1 else 0)
  else if K = 60 ∨ K = 61 then (if s < 4 then 1 else 0)
  else yi0 K i s
noncomputable def zG1 : xa_H := fun K i s => if K = 19 ∨ K = 23 ∨ K = 25 ∨ K = 26 then 0 else zG K i s
theorem zG1_e {K i s : Nat} (h : ¬ (K = 19 ∨ K = 23 ∨ K = 25 ∨ K = 26)) : zG1 K i s = zG K i s := if_neg h
theorem zG_o {K i s : Nat} (h : K ∉ [7, 34, 25, 26, 30, 31, 32, 19, 23, 9, 50, 51, 52, 62, 59, 60, 61]) : zG K i s = yi0 K i s := by
  simp only [List.mem_cons, List.not_mem_nil, or_false, not_or] at h
  unfold zG
  rw [if_neg (by omega), if_neg (by omega), if_neg (by omega), if_neg (by omega), if_neg (by omega), if_neg (by omega), if_neg (by omega), if_neg (by omega), if_neg (by omega), if_neg (by omega), if_neg (by omega), if_neg (by omega), if_neg (by omega), if_neg (by omega)]
theorem z_Way (i : Nat) : xW (fm_Way_init i yi0) fun s => ∀ q ∈ idW i, ∀ s', s' < xsz q.1 → ¬ xfty q.1 s' = 3 → zG q.1 q.2 s' = s q.1 q.2 s' := by
  unfold fm_Way_init
  have h := q_measure (i := i) (σ := yi0) (P := zPz) (show qsz 6 6 2 from ⟨by decide, by decide, by decide, by decide, by decide, by decide⟩)
  refine xW_bind h (fun s hs => xW_some ?_)
  obtain ⟨h1, ⟨h2, h3, h4⟩, h5⟩ := hs
  intro q hq s' hs' hn3
  simp only [idW, List.mem_cons, List.not_mem_nil, or_false] at hq
  rcases hq with rfl | rfl | rfl
  · show zG 33 i s' = s 33 i s'
    rw [h1 33 i s' (by omega)]
    exact zG_o (by decide)
  · show zG 34 i s' = s 34 i s'
    have h8 : s' < 864 := by
      have : xsz 34 = 864 := by decide +kernel
      exact this ▸ hs'
    have e : s' = 6 * (s' / 6) + s' % 6 := by omega
    have := h5 (s' / 6) (s' % 6) (by omega) (by omega)
    rw [← e] at this
    rw [this]
    show (if s' < 864 then ybs zPz (s' / 6) (s' % 6) else 0) = _
    rw [if_pos h8]
  · show zG 7 i s' = s 7 i s'
    have h8 : s' < 3 := by
      have h9 : xsz 7 = 5 := by decide +kernel
      have h8 : s' < 5 := h9 ▸ hs'
      have := (by decide +kernel : ∀ s, s < 5 → ¬ xfty 7 s = 3 → s < 3) s' h8 hn3
      exact this
    have hc : s' = 0 ∨ s' = 1 ∨ s' = 2 := by omega
    rcases hc with rfl | rfl | rfl
    · rw [h2]; rfl
    · rw [h3]; rfl
    · rw [h4]; rfl
theorem z_Thing (i : Nat) : xW (fm_Thing_init i yi0) fun s => ∀ q ∈ idT i, ∀ s', s' < xsz q.1 → ¬ xfty q.1 s' = 3 → zG q.1 q.2 s' = s q.1 q.2 s' := by
  unfold fm_Thing_init
  refine xW_bind (q_fill (K := 30) (i := i) (n := 4) (by decide +kernel) (by decide) 1 yi0) (fun s hs => xW_some ?_)
  obtain ⟨h1, h2⟩ := hs
  intro q hq s' hs' hn3
  simp only [idT, List.mem_cons, List.not_mem_nil, or_false] at hq
  rcases hq with rfl | rfl | rfl | rfl | rfl
  · exact (zG_o (by show 27 ∉ _; decide)).trans (h1 27 i s' (by omega)).symm
  · exact (zG_o (by show 28 ∉ _; decide)).trans (h1 28 i s' (by omega)).symm
  · exact (zG_o (by show 29 ∉ _; decide)).trans (h1 29 i s' (by omega)).symm
  · show zG 30 i s' = s 30 i s'
    have h8 : s' < 4 := by
      have : xsz 30 = 4 := by decide +kernel
      exact this ▸ hs'
    rw [h2 s' h8]
    show (if s' < 4 then (1 : Int) else 0) = 1
    rw [if_pos h8]
  · exact (zG_o (by show 5 ∉ _; decide)).trans (h1 5 i s' (by omega)).symm
theorem z_Stair (i : Nat) : xW (fm_Stair_init i zG1) fun s => ∀ q ∈ idS i, ∀ s', s' < xsz q.1 → ¬ xfty q.1 s' = 3 → zG q.1 q.2 s' = s q.1 q.2 s' := by
  unfold fm_Stair_init
  refine xW_bind (q_fill (K := 25) (i := i) (n := 4) (by decide +kernel) (by decide) 1 zG1) (fun s1 hs1 => ?_)
  obtain ⟨a1, a2⟩ := hs1
  refine xW_bind (q_fill (K := 26) (i := i) (n := 4) (by decide +kernel) (by decide) 1 s1) (fun s hs => xW_some ?_)
  obtain ⟨h1, h2⟩ := hs
  intro q hq s' hs' hn3
  by_cases h25 : q.1 = 25 ∨ q.1 = 26
  · have hq2 : q = (25, i) ∨ q = (26, i) := by
      simp only [idS, idW, idT, List.mem_append, List.mem_cons, List.not_mem_nil, or_false] at hq
      rcases hq with ((((((hq | hq) | hq) | hq) | hq) | hq) | hq) | hq
      · rcases hq with rfl | rfl | rfl <;> simp at h25
      · exact hq
      · rcases hq with rfl | rfl | rfl | rfl | rfl <;> simp at h25
      · rcases hq with rfl | rfl | rfl | rfl | rfl <;> simp at h25
      · rcases hq with rfl | rfl | rfl | rfl | rfl <;> simp at h25
      · rcases hq with rfl | rfl | rfl | rfl | rfl <;> simp at h25
      · rw [hq] at h25; simp at h25
      · rw [hq] at h25; simp at h25
    rcases hq2 with rfl | rfl
    · show zG 25 i s' = s 25 i s'
      have h8 : s' < 4 := by
        have : xsz 25 = 4 := by decide +kernel
        exact this ▸ hs'
      rw [h1 25 i s' (by omega), a2 s' h8]
      show (if s' < 4 then (1 : Int) else 0) = 1
      rw [if_pos h8]
    · show zG 26 i s' = s 26 i s'
      have h8 : s' < 4 := by
        have : xsz 26 = 4 := by decide +kernel
        exact this ▸ hs'
      rw [h2 s' h8]
      show (if s' < 4 then (1 : Int) else 0) = 1
      rw [if_pos h8]
  · have h19 : ¬ (q.1 = 19 ∨ q.1 = 23) := by
      simp only [idS, idW, idT, List.mem_append, List.mem_cons, List.not_mem_nil, or_false] at hq
      rcases hq with ((((((hq | hq) | hq) | hq) | hq) | hq) | hq) | hq
      · rcases hq with rfl | rfl | rfl <;> simp
      · rcases hq with rfl | rfl <;> simp
      · rcases hq with rfl | rfl | rfl | rfl | rfl <;> simp
      · rcases hq with rfl | rfl | rfl | rfl | rfl <;> simp
      · rcases hq with rfl | rfl | rfl | rfl | rfl <;> simp
      · rcases hq with rfl | rfl | rfl | rfl | rfl <;> simp
      · rw [hq]; simp
      · rw [hq]; simp
    rw [h1 q.1 q.2 s' (by omega), a1 q.1 q.2 s' (by omega), zG1_e (by omega)]
theorem z_Search : xW (fm_Search_init zG1) fun s => ∀ q ∈ idSk, ∀ s', s' < xsz q.1 → ¬ xfty q.1 s' = 3 → zG q.1 q.2 s' = s q.1 q.2 s' := by
  unfold fm_Search_init
  refine xW_bind (q_fill (K := 23) (i := 0) (n := 3456) (by decide +kernel) (by decide) (-1) zG1) (fun s1 hs1 => ?_)
  obtain ⟨a1, a2⟩ := hs1
  have hlen : xalen 19 = 144 := by decide +kernel
  refine xfor0 (fun n (j : Int) (g : xa_H) => fm_Search_init_78 (fun s => some s) n j g) 144 (fun j g => (∀ K i s', ¬ (K = 19 ∧ i = 0) → g K i s' = s1 K i s') ∧ ∀ p, p < j → g 19 0 p = ygi ((p / 24 : Nat) : Int) ((p / 4 % 6 : Nat) : Int) ((p % 4 : Nat) : Int)) _ (xfu_b (by omega)) ?_ ?_ s1 ⟨fun _ _ _ _ => rfl, fun p hp => by omega⟩
  · rintro n j g hj ⟨i1, i2⟩ ih
    show xW (fm_Search_init_78 (fun s => some s) (n + 1) (j : Int) g) _
    rw [fm_Search_init_78]
    have eX : ((j : Int)) / 24 = ((j / 24 : Nat) : Int) := by omega
    have eY : ((j : Int)) / 4 % 6 = ((j / 4 % 6 : Nat) : Int) := by omega
    have eZ : ((j : Int)) % 4 = ((j % 4 : Nat) : Int) := by omega
    have rX : fm_S_xOf (j : Int) = some ((j / 24 : Nat) : Int) := by rw [q_xOf (by omega), eX]
    have rY : fm_S_yOf (j : Int) = some ((j / 4 % 6 : Nat) : Int) := by rw [q_yOf (by omega), eY]
    have rZ : fm_S_zOf (j : Int) = some ((j % 4 : Nat) : Int) := by rw [q_zOf (by omega), eZ]
    refine xW_f (by omega) (xW_be rX (xW_be rY (xW_be rZ (xW_be (q_gridAt (by omega) (by omega) (by omega)) (xW_be (q_wr (by omega) (by rw [hlen]; omega)) (xW_nm ?_))))))
    rw [w32_s (by omega)]
    refine ih (xup g 19 0 j (ygi ((j / 24 : Nat) : Int) ((j / 4 % 6 : Nat) : Int) ((j % 4 : Nat) : Int))) ⟨fun K i s' hne => ?_, fun p hp => ?_⟩
    · rw [xup_o (by omega)]
      exact i1 K i s' hne
    · by_cases hpj : p = j
      · rw [hpj, xup_at]
      · rw [xup_o (by omega)]
        exact i2 p (by omega)
  · rintro n g ⟨i1, i2⟩
    show xW (fm_Search_init_78 (fun s => some s) (n + 1) ((144 : Nat) : Int) g) _
    rw [fm_Search_init_78]
    refine xW_t (by omega) (xW_some ?_)
    intro q hq s' hs' hn3
    by_cases h19 : q.1 = 19
    · have hq2 : q = (19, 0) := (by decide +kernel : ∀ q ∈ idSk, q.1 = 19 → q = (19, 0)) q hq h19
      subst hq2
      show zG 19 0 s' = g 19 0 s'
      have h8 : s' < 144 := by
        have : xsz 19 = 144 := by decide +kernel
        exact this ▸ hs'
      rw [i2 s' h8]
      show (if s' < 144 then ygi ((s' / 24 : Nat) : Int) ((s' / 4 % 6 : Nat) : Int) ((s' % 4 : Nat) : Int) else 0) = _
      rw [if_pos h8]
    · rw [i1 q.1 q.2 s' (by omega)]
      by_cases h23 : q.1 = 23
      · have hq2 : q = (23, 0) := (by decide +kernel : ∀ q ∈ idSk, q.1 = 23 → q = (23, 0)) q hq h23
        subst hq2
        show zG 23 0 s' = s1 23 0 s'
        have h8 : s' < 3456 := by
          have : xsz 23 = 3456 := by decide +kernel
          exact this ▸ hs'
        rw [a2 s' h8]
        show (if s' < 3456 then (-1 : Int) else 0) = -1
        rw [if_pos h8]
      · have h25 := (by decide +kernel : ∀ q ∈ idSk, ¬ (q.1 = 25 ∨ q.1 = 26)) q hq
        rw [a1 q.1 q.2 s' (by omega), zG1_e (by omega)]
theorem z_TurnsG : xW (fm_Turns_init yi0) fun s => ∀ q ∈ idN, ∀ s', s' < xsz q.1 → ¬ xfty q.1 s' = 3 → zG q.1 q.2 s' = s q.1 q.2 s' := by
  refine xW_mono (z_Turns yi0) ?_
  rintro s ⟨h1, h2, h3⟩ q hq s' hs' hn3
  simp only [idN, List.mem_cons, List.not_mem_nil, or_false] at hq
  rcases hq with rfl | rfl | rfl
  · have h8 : s' < 72 := by
      have : xsz 31 = 72 := by decide +kernel
      exact this ▸ hs'
    exact (h2 s' h8).symm
  · have h8 : s' < 144 := by
      have : xsz 32 = 144 := by decide +kernel
      exact this ▸ hs'
    exact (h3 s' h8).symm
  · exact (zG_o (by show 6 ∉ _; decide)).trans (h1 6 0 s' (by omega)).symm
