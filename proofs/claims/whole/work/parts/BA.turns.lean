/-! the class's table of turns -/
def zax (j : Nat) : Int := yaxl.getD j 0
def znx (j : Nat) : Nat := ynxl.getD j 0
/-- how many ways are found before a step -/
def zmk (k : Nat) : Nat := (ynxl.take k).foldl max 0 + 1
def ztA (w t a : Nat) : Int := if a = t % 3 then zax (3 * w + a) else if (if a = (t % 3 + 1) % 3 then 1 else 0) = (if t < 3 then 0 else 1) then zax (3 * w + (3 - t % 3 - a)) else - zax (3 * w + (3 - t % 3 - a))
abbrev zm3 (i : Nat) (v0 v1 v2 : Int) : Prop := zax (3 * i) = v0 ∧ zax (3 * i + 1) = v1 ∧ zax (3 * i + 2) = v2
theorem zch : ∀ k, k < 144 → k / 6 < zmk k ∧ zmk k ≤ 24 ∧ znx k ≤ zmk k ∧ znx k < 24 ∧ zmk (k + 1) = (if znx k = zmk k then zmk k + 1 else zmk k) ∧ zm3 (znx k) (ztA (k / 6) (k % 6) 0) (ztA (k / 6) (k % 6) 1) (ztA (k / 6) (k % 6) 2) ∧ ∀ i, i < znx k → ¬ zm3 i (ztA (k / 6) (k % 6) 0) (ztA (k / 6) (k % 6) 1) (ztA (k / 6) (k % 6) 2) := by decide +kernel
theorem zmk_e : zmk 144 = 24 ∧ zmk 0 = 1 := by decide +kernel
theorem zax_r : ∀ j, -3 ≤ zax j ∧ zax j ≤ 3 := by
  intro j
  by_cases h : j < 72
  · exact (by decide +kernel : ∀ j, j < 72 → -3 ≤ zax j ∧ zax j ≤ 3) j h
  · have : zax j = 0 := by
      unfold zax
      rw [List.getD_eq_getElem?_getD, List.getElem?_eq_none (by show 72 ≤ j; omega)]
      rfl
    omega
section TT
variable {σ : xa_H} {N : Nat}
theorem z_axis (h : ∀ j, j < 3 * N → σ 31 0 j = zax j) (hN : N ≤ 24) {w a : Nat} (hw : w < N) (ha : a < 3) : fm_Turns_axisAt (w : Int) (a : Int) σ = some (zax (3 * w + a)) := by
  unfold fm_Turns_axisAt
  have e : w32 (w32 ((w : Int) * 3) + (a : Int)) = ((3 * w + a : Nat) : Int) := by
    rw [w32_n (x := (w : Int) * 3) (by omega) (by omega), w32_n (by omega) (by omega)]
    omega
  have hl : ((3 * w + a : Nat) : Int) < (xalen 31 : Int) := by
    have : xalen 31 = 72 := by decide +kernel
    rw [this]; omega
  rw [e, q_rd (by omega) hl]
  show some (σ 31 0 (3 * w + a)) = _
  rw [h _ (by omega)]
theorem z_tA (h : ∀ j, j < 3 * N → σ 31 0 j = zax j) (hN : N ≤ 24) {w t a : Nat} (hw : w < N) (ht : t < 6) (ha : a < 3) : fm_Turns_turnedAxis (w : Int) (t : Int) (a : Int) σ = some (ztA w t a) := by
  unfold fm_Turns_turnedAxis xnm ztA
  have e1 : xrem (t : Int) 3 = ((t % 3 : Nat) : Int) := by rw [xrem_p (by omega)]; omega
  have e3 : xrem (w32 (((t % 3 : Nat) : Int) + 1)) 3 = (((t % 3 + 1) % 3 : Nat) : Int) := by rw [w32_n (by omega) (by omega), xrem_p (by omega)]; omega
  dsimp only
  rw [e1, e3]
  by_cases h1 : a = t % 3
  · rw [if_pos h1, if_pos (by omega), z_axis h hN hw ha]
    rfl
  · have e2 : w32 (w32 (3 - ((t % 3 : Nat) : Int)) - (a : Int)) = ((3 - t % 3 - a : Nat) : Int) := by
      rw [w32_n (x := 3 - ((t % 3 : Nat) : Int)) (by omega) (by omega), w32_n (by omega) (by omega)]
      omega
    have hb : 3 - t % 3 - a < 3 := by omega
    rw [if_neg h1, if_neg (by omega), e2, z_axis h hN hw hb]
    have c1 : (if (a : Int) = (((t % 3 + 1) % 3 : Nat) : Int) then (1 : Int) else 0) = (((if a = (t % 3 + 1) % 3 then 1 else 0) : Nat) : Int) := by
      by_cases h2 : a = (t % 3 + 1) % 3
      · rw [if_pos h2, if_pos (by omega)]; rfl
      · rw [if_neg h2, if_neg (by omega)]; rfl
    have c2 : (if (t : Int) < 3 then (0 : Int) else 1) = (((if t < 3 then 0 else 1) : Nat) : Int) := by
      by_cases h2 : t < 3
      · rw [if_pos h2, if_pos (by omega)]; rfl
      · rw [if_neg h2, if_neg (by omega)]; rfl
    rw [c1, c2]
    by_cases h3 : (if a = (t % 3 + 1) % 3 then 1 else 0) = (if t < 3 then 0 else 1)
    · rw [if_pos h3, if_pos (by rw [h3])]
      rfl
    · rw [if_neg h3, if_neg (fun e => h3 (by exact_mod_cast e))]
      show some (w32 (-zax _)) = _
      have := zax_r (3 * w + (3 - t % 3 - a))
      rw [w32_n (by omega) (by omega)]
theorem z_find (h : ∀ j, j < 3 * N → σ 31 0 j = zax j) (hN : N ≤ 24) (v0 v1 v2 : Int) {nx : Nat} (hx : nx ≤ N) (hm : nx < N → zm3 nx v0 v1 v2) (hl : ∀ i, i < nx → ¬ zm3 i v0 v1 v2) : xW (fm_Turns_find (N : Int) v0 v1 v2 σ) fun r => r = (nx : Int) := by
  unfold fm_Turns_find
  refine xfor0 (fun n (j : Int) (_ : Unit) => fm_Turns_find_3 (N : Int) v0 v1 v2 σ (some (N : Int)) n j) N (fun j _ => j ≤ nx) _ (xfu_b (by omega)) ?_ ?_ () (Nat.zero_le _)
  · intro n j g hj hI ih
    show xW (fm_Turns_find_3 (N : Int) v0 v1 v2 σ (some (N : Int)) (n + 1) (j : Int)) _
    rw [fm_Turns_find_3]
    have a0 : fm_Turns_axisAt (j : Int) 0 σ = some (zax (3 * j)) := z_axis (a := 0) h hN hj (by decide)
    have a1 : fm_Turns_axisAt (j : Int) 1 σ = some (zax (3 * j + 1)) := z_axis (a := 1) h hN hj (by decide)
    have a2 : fm_Turns_axisAt (j : Int) 2 σ = some (zax (3 * j + 2)) := z_axis (a := 2) h hN hj (by decide)
    have nxt : ¬ zm3 j v0 v1 v2 → xW (fm_Turns_find_3 (N : Int) v0 v1 v2 σ (some (N : Int)) n (w32 ((j : Int) + 1))) fun r => r = (nx : Int) := by
      intro hne
      rw [w32_s (by omega)]
      refine ih () ?_
      have : j ≠ nx := fun e => hne (e ▸ hm (e ▸ hj))
      have hI : j ≤ nx := hI
      show j + 1 ≤ nx
      omega
    refine xW_f (by omega) (xW_be a0 (xW_if (fun h0 => xW_be a1 (xW_if (fun h1 => xW_be a2 (xW_if (fun h2 => xW_some ?_) (fun h2 => xW_nm (nxt (fun e => h2 e.2.2))))) (fun h1 => xW_nm (nxt (fun e => h1 e.2.1))))) (fun h0 => xW_nm (nxt (fun e => h0 e.1)))))
    have : ¬ j < nx := fun hlt => hl j hlt ⟨h0, h1, h2⟩
    have hI : j ≤ nx := hI
    omega
  · intro n g hI
    show xW (fm_Turns_find_3 (N : Int) v0 v1 v2 σ (some (N : Int)) (n + 1) (N : Int)) _
    rw [fm_Turns_find_3]
    have hI : N ≤ nx := hI
    exact xW_t (by omega) (xW_some (by omega))
end TT
def zTI (σ0 : xa_H) (k : Nat) (g : Int × xa_H) : Prop := g.1 = (zmk k : Int) ∧ (∀ K i s, ¬ ((K = 31 ∨ K = 32) ∧ i = 0) → g.2 K i s = σ0 K i s) ∧ (∀ j, j < 3 * zmk k → g.2 31 0 j = zax j) ∧ ∀ j, j < k → g.2 32 0 j = (znx j : Int)
theorem z_step {σ0 : xa_H} {w : Nat} (hw : w < 24) (K : Int → xa_H → Option xa_H) (Q : xa_H → Prop) (hK : ∀ g, zTI σ0 (6 * w + 6) g → xW (K g.1 g.2) Q) (g : Int × xa_H) (hg : zTI σ0 (6 * w) g) : xW (fm_Turns_init_59 (w : Int) K xFU g.1 0 g.2) Q := by
  refine xfor0 (fun n (j : Int) (g : Int × xa_H) => fm_Turns_init_59 (w : Int) K n g.1 j g.2) 6 (fun j g => zTI σ0 (6 * w + j) g) _ (xfu_b (by omega)) ?_ ?_ g hg
  · rintro n j ⟨x1, sh⟩ hj ⟨i0, i1, i2, i3⟩ ih
    dsimp only at i0 i1 i2 i3
    subst i0
    show xW (fm_Turns_init_59 (w : Int) K (n + 1) _ (j : Int) sh) _
    rw [fm_Turns_init_59]
    have hk : 6 * w + j < 144 := by omega
    obtain ⟨c1, c2, c3, c4, c5, c6, c7⟩ := zch (6 * w + j) hk
    have ew : (6 * w + j) / 6 = w := by omega
    have et : (6 * w + j) % 6 = j := by omega
    rw [ew, et] at c6 c7
    rw [ew] at c1
    have hlen : xalen 31 = 72 ∧ xalen 32 = 144 := by decide +kernel
    refine xW_f (by omega) (xW_be (z_tA (a := 0) i2 c2 c1 hj (by decide)) (xW_be (z_tA (a := 1) i2 c2 c1 hj (by decide)) (xW_be (z_tA (a := 2) i2 c2 c1 hj (by decide)) (xW_bind (z_find i2 c2 _ _ _ c3 (fun _ => c6) c7) (fun v5 hv5 => ?_)))))
    subst hv5
    refine xW_j ?_
    have fin : ∀ (v7 : Int) (s8 : xa_H), v7 = (zmk (6 * w + j + 1) : Int) → (∀ K i s, ¬ ((K = 31 ∨ K = 32) ∧ i = 0) → s8 K i s = σ0 K i s) → (∀ j', j' < 3 * zmk (6 * w + j + 1) → s8 31 0 j' = zax j') → (∀ j', j' < 6 * w + j → s8 32 0 j' = (znx j' : Int)) →
        xW ((fm_S_write 32 0 (w32 ((w32 ((w : Int) * 6)) + (j : Int))) (znx (6 * w + j) : Int) s8).bind fun s15 => xnm (w32 ((j : Int) + 1) : Int) fun v16 => fm_Turns_init_59 (w : Int) K n v7 v16 s15) Q := by
      intro v7 s8 h1 h2 h3 h4
      subst h1
      have e : w32 (w32 ((w : Int) * 6) + (j : Int)) = ((6 * w + j : Nat) : Int) := by
        rw [w32_n (x := (w : Int) * 6) (by omega) (by omega), w32_n (by omega) (by omega)]
        omega
      rw [e]
      refine xW_be (q_wr (by omega) (by rw [hlen.2]; omega)) (xW_nm ?_)
      rw [w32_s (by omega)]
      refine ih (((zmk (6 * w + j + 1) : Nat) : Int), xup s8 32 0 (6 * w + j) ((znx (6 * w + j) : Nat) : Int)) ⟨rfl, fun K i s hne => ?_, fun j' hj' => ?_, fun j' hj' => ?_⟩
      · exact (xup_o (by omega)).trans (h2 K i s hne)
      · show xup s8 32 0 (6 * w + j) ((znx (6 * w + j) : Nat) : Int) 31 0 j' = _
        rw [xup_o (by omega)]
        exact h3 j' hj'
      · by_cases hjj : j' = 6 * w + j
        · rw [hjj]
          exact xup_at
        · exact (xup_o (by show ¬ (_ ∧ _ ∧ j' = 6 * w + j); omega)).trans (h4 j' (by omega))
    refine xW_if (fun he => ?_) (fun hne => ?_)
    · have he : ((znx (6 * w + j) : Nat) : Int) = ((zmk (6 * w + j) : Nat) : Int) := he
      have he : znx (6 * w + j) = zmk (6 * w + j) := by omega
      rw [if_pos he] at c5
      have f0 : w32 (3 * (znx (6 * w + j) : Int)) = ((3 * znx (6 * w + j) : Nat) : Int) := by rw [w32_n (by omega) (by omega)]; omega
      have f1 : w32 (((3 * znx (6 * w + j) : Nat) : Int) + 1) = ((3 * znx (6 * w + j) + 1 : Nat) : Int) := w32_s (by omega)
      have f2 : w32 (((3 * znx (6 * w + j) : Nat) : Int) + 2) = ((3 * znx (6 * w + j) + 2 : Nat) : Int) := w32_k (by omega) (by omega)
      rw [f0, f1, f2]
      refine xW_be (q_wr (by omega) (by rw [hlen.1]; omega)) (xW_be (q_wr (by omega) (by rw [hlen.1]; omega)) (xW_be (q_wr (by omega) (by rw [hlen.1]; omega)) (xW_nm ?_)))
      have f3 : w32 ((zmk (6 * w + j) : Int) + 1) = ((zmk (6 * w + j) + 1 : Nat) : Int) := w32_s (by omega)
      rw [f3]
      refine fin _ _ (by rw [c5]) (fun K i s hne => ?_) (fun j' hj' => ?_) (fun j' hj' => ?_)
      · rw [xup_o (by omega), xup_o (by omega), xup_o (by omega)]
        exact i1 K i s hne
      · rw [c5] at hj'
        by_cases h2 : j' = 3 * znx (6 * w + j) + 2
        · rw [h2]; exact xup_at.trans c6.2.2.symm
        · refine (xup_o (by show ¬ (_ ∧ _ ∧ j' = 3 * znx (6 * w + j) + 2); omega)).trans ?_
          by_cases h1 : j' = 3 * znx (6 * w + j) + 1
          · rw [h1]; exact xup_at.trans c6.2.1.symm
          · refine (xup_o (by show ¬ (_ ∧ _ ∧ j' = 3 * znx (6 * w + j) + 1); omega)).trans ?_
            by_cases h0 : j' = 3 * znx (6 * w + j)
            · rw [h0]; exact xup_at.trans c6.1.symm
            · exact (xup_o (by show ¬ (_ ∧ _ ∧ j' = 3 * znx (6 * w + j)); omega)).trans (i2 j' (by omega))
      · rw [xup_o (by omega), xup_o (by omega), xup_o (by omega)]
        exact i3 j' hj'
    · have hne : ¬ znx (6 * w + j) = zmk (6 * w + j) := fun e => hne (by show ((znx (6 * w + j) : Nat) : Int) = ((zmk (6 * w + j) : Nat) : Int); rw [e])
      rw [if_neg hne] at c5
      exact fin _ _ (by rw [c5]) i1 (by rw [c5]; exact i2) i3
  · rintro n ⟨x1, sh⟩ hI
    show xW (fm_Turns_init_59 (w : Int) K (n + 1) x1 ((6 : Nat) : Int) sh) _
    rw [fm_Turns_init_59]
    exact xW_t (by omega) (hK (x1, sh) hI)
theorem z_Turns (σ0 : xa_H) : xW (fm_Turns_init σ0) fun s => (∀ K i s', ¬ ((K = 31 ∨ K = 32) ∧ i = 0) → s K i s' = σ0 K i s') ∧ (∀ j, j < 72 → s 31 0 j = zax j) ∧ ∀ j, j < 144 → s 32 0 j = (znx j : Int) := by
  unfold fm_Turns_init
  refine xW_nm (xW_nm (xW_nm ?_))
  refine xfor0 (fun n (j : Int) (g : Int × xa_H) => fm_Turns_init_46 (fun s => some s) n g.1 j g.2) 24 (fun j g => zTI σ0 (6 * j) g) _ (xfu_b (by omega)) ?_ ?_ (1, xup (xup (xup σ0 31 0 0 1) 31 0 1 2) 31 0 2 3) ⟨by rw [zmk_e.2]; rfl, fun K i s hne => ?_, fun j hj => ?_, fun j hj => by omega⟩
  · rintro n j ⟨x1, sh⟩ hj hI ih
    have hI0 := hI.1
    show xW (fm_Turns_init_46 (fun s => some s) (n + 1) x1 (j : Int) sh) _
    rw [fm_Turns_init_46]
    have hc := (zch (6 * j) (by omega)).1
    have e : 6 * j / 6 = j := by omega
    rw [e] at hc
    dsimp only at hI0
    refine xW_f (by omega) (xW_f (by omega) ?_)
    refine z_step (σ0 := σ0) hj _ _ (fun g hg => ?_) (x1, sh) hI
    refine xW_nm ?_
    rw [w32_s (by omega)]
    exact ih g hg
  · rintro n ⟨x1, sh⟩ ⟨i0, i1, i2, i3⟩
    dsimp only at i0 i1 i2 i3
    show xW (fm_Turns_init_46 (fun s => some s) (n + 1) x1 ((24 : Nat) : Int) sh) _
    rw [fm_Turns_init_46]
    rw [show 6 * 24 = 144 from rfl, zmk_e.1] at i0 i2
    exact xW_t (by omega) (xW_some ⟨i1, fun j hj => i2 j (by omega), fun j hj => i3 j (by omega)⟩)
  · show xup (xup (xup σ0 31 0 0 1) 31 0 1 2) 31 0 2 3 K i s = _
    rw [xup_o (by omega), xup_o (by omega), xup_o (by omega)]
  · rw [show 6 * 0 = 0 from rfl, zmk_e.2] at hj
    have h3 : j = 0 ∨ j = 1 ∨ j = 2 := by omega
    rcases h3 with rfl | rfl | rfl
    · show xup (xup (xup σ0 31 0 0 1) 31 0 1 2) 31 0 2 3 31 0 0 = zax 0
      rw [xup_o (by omega), xup_o (by omega), xup_at]; rfl
    · show xup (xup (xup σ0 31 0 0 1) 31 0 1 2) 31 0 2 3 31 0 1 = zax 1
      rw [xup_o (by omega), xup_at]; rfl
    · show xup (xup (xup σ0 31 0 0 1) 31 0 1 2) 31 0 2 3 31 0 2 = zax 2
      rw [xup_at]; rfl
