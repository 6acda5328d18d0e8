/-! faults of a thing's text, the reference -/
section PM
variable {σ : xa_H} {s : Nat → Int} {n : Nat}
theorem q_wasTold (hg : ypg s n) (hp : ypm σ s n) {i : Nat} (hi : i < n) (h2 : i % 4 = 2) : (ytwice s i → fm_M_wasTold (i : Int) σ = some 1) ∧ (¬ ytwice s i → fm_M_wasTold (i : Int) σ = some 0) := by
  have hn := hg.1
  have tn : ∀ j : Nat, ((j : Int)).toNat = j := fun j => rfl
  have ei2 : w32 ((i : Int) - 2) = ((i - 2 : Nat) : Int) := w32_k (by omega) (by omega)
  have ei1 : w32 ((i : Int) - 1) = ((i - 1 : Nat) : Int) := w32_k (by omega) (by omega)
  have key : ∀ (d k fu : Nat) (x : Int), 4 * (k + d) = i - 2 → d < fu → ((x = 1 ∧ ∃ k', k' < k ∧ s (4 * k') = s (i - 2) ∧ s (4 * k' + 1) = s (i - 1) ∧ s (4 * k' + 2) = s i) ∨ (x = 0 ∧ ∀ k', k' < k → ¬ (s (4 * k') = s (i - 2) ∧ s (4 * k' + 1) = s (i - 1) ∧ s (4 * k' + 2) = s i))) →
      (ytwice s i → fm_M_wasTold_4 (i : Int) σ (fun v => some (v % 2)) fu x ((4 * k : Nat) : Int) = some 1) ∧ (¬ ytwice s i → fm_M_wasTold_4 (i : Int) σ (fun v => some (v % 2)) fu x ((4 * k : Nat) : Int) = some 0) := by
    intro d
    induction d with
    | zero =>
      intro k fu x hk hd hx
      obtain ⟨m, rfl⟩ : ∃ m, fu = m + 1 := ⟨fu - 1, by omega⟩
      rw [fm_M_wasTold_4, ei2, if_pos (by omega)]
      rcases hx with ⟨h1, k', h3, h4⟩ | ⟨h1, h3⟩
      · rw [h1]
        exact ⟨fun _ => rfl, fun h => absurd ⟨k', by omega, h4⟩ h⟩
      · rw [h1]
        refine ⟨?_, fun _ => rfl⟩
        rintro ⟨k', h5, h6⟩
        exact absurd h6 (h3 k' (by omega))
    | succ d ih =>
      intro k fu x hk hd hx
      obtain ⟨m, rfl⟩ : ∃ m, fu = m + 1 := ⟨fu - 1, by omega⟩
      have e1 : w32 (((4 * k : Nat) : Int) + 1) = ((4 * k + 1 : Nat) : Int) := w32_s (by omega)
      have e2 : w32 (((4 * k : Nat) : Int) + 2) = ((4 * k + 2 : Nat) : Int) := w32_k (by omega) (by omega)
      have e4 : w32 (((4 * k : Nat) : Int) + 4) = ((4 * (k + 1) : Nat) : Int) := w32_k (by omega) (by omega)
      rw [fm_M_wasTold_4, ei2, ei1, e1, e2, e4, if_neg (by omega)]
      simp only [tn]
      rw [hp.2 (4 * k) (by omega), hp.2 (i - 2) (by omega), hp.2 (4 * k + 1) (by omega), hp.2 (i - 1) (by omega), hp.2 (4 * k + 2) (by omega), hp.2 i hi]
      rcases hx with ⟨h1, k', h3, h4⟩ | ⟨h1, h3⟩
      · rw [if_neg (by omega), xnm_e]
        exact ih (k + 1) m 1 (by omega) (by omega) (Or.inl ⟨rfl, k', by omega, h4⟩)
      · have hno : ¬ (s (4 * k) = s (i - 2) ∧ s (4 * k + 1) = s (i - 1) ∧ s (4 * k + 2) = s i) → ∀ k', k' < k + 1 → ¬ (s (4 * k') = s (i - 2) ∧ s (4 * k' + 1) = s (i - 1) ∧ s (4 * k' + 2) = s i) := by
          intro hn' k' hk'
          by_cases hkk : k' = k
          · rw [hkk]; exact hn'
          · exact h3 k' (by omega)
        rw [if_pos h1, if_pos ⟨by omega, by omega⟩, if_pos ⟨by omega, by omega⟩]
        by_cases a : s (4 * k) = s (i - 2)
        · rw [if_pos a, if_pos ⟨by omega, by omega⟩, if_pos ⟨by omega, by omega⟩]
          by_cases b : s (4 * k + 1) = s (i - 1)
          · rw [if_pos b, if_pos ⟨by omega, by omega⟩, if_pos ⟨by omega, by omega⟩]
            by_cases c : s (4 * k + 2) = s i
            · rw [if_pos c, xnm_e]
              exact ih (k + 1) m 1 (by omega) (by omega) (Or.inl ⟨rfl, k, by omega, a, b, c⟩)
            · rw [if_neg c, xnm_e]
              exact ih (k + 1) m 0 (by omega) (by omega) (Or.inr ⟨rfl, hno (fun h => c h.2.2)⟩)
          · rw [if_neg b, xnm_e]
            exact ih (k + 1) m 0 (by omega) (by omega) (Or.inr ⟨rfl, hno (fun h => b h.2.1)⟩)
        · rw [if_neg a, xnm_e]
          exact ih (k + 1) m 0 (by omega) (by omega) (Or.inr ⟨rfl, hno (fun h => a h.1)⟩)
  unfold fm_M_wasTold
  exact key ((i - 2) / 4) 0 xFU 0 (by omega) (xfu_b (by omega)) (Or.inr ⟨rfl, fun k' hk' => by omega⟩)
theorem q_thingFaultM (hg : ypg s n) (hp : ypm σ s n) : fm_M_faultOfThing σ = some (ythf s n) := by
  have hn := hg.1
  have tn : ∀ j : Nat, ((j : Int)).toNat = j := fun j => rfl
  have key : ∀ (E : Int) (K : Int → Int → Int → Option Int), ((∀ i, i < n → ystn s i) → ∀ x y z : Int, (0 ≤ x ∧ x ≤ 9) → (0 ≤ y ∧ y ≤ 9) → (0 ≤ z ∧ z ≤ 9) → (x = 0 ↔ ∃ k, 4 * k + 0 < n ∧ s (4 * k + 0) = 48) → (y = 0 ↔ ∃ k, 4 * k + 1 < n ∧ s (4 * k + 1) = 48) → (z = 0 ↔ ∃ k, 4 * k + 2 < n ∧ s (4 * k + 2) = 48) → K x y z = some E) →
      ∀ d j fu (x y z : Int), j + d = n → d < fu → (∀ i, i < j → ystn s i) → (0 ≤ x ∧ x ≤ 9) → (0 ≤ y ∧ y ≤ 9) → (0 ≤ z ∧ z ≤ 9) → (x = 0 ↔ ∃ k, 4 * k + 0 < j ∧ s (4 * k + 0) = 48) → (y = 0 ↔ ∃ k, 4 * k + 1 < j ∧ s (4 * k + 1) = 48) → (z = 0 ↔ ∃ k, 4 * k + 2 < j ∧ s (4 * k + 2) = 48) →
      fm_M_faultOfThing_12 σ K fu x y z (j : Int) = some (ytf0 s E d j) := by
    intro E K hK d
    induction d with
    | zero =>
      intro j fu x y z hj hd hall hx hy hz ex ey ez
      obtain ⟨m, rfl⟩ : ∃ m, fu = m + 1 := ⟨fu - 1, by omega⟩
      have : j = n := by omega
      subst this
      rw [fm_M_faultOfThing_12, hp.1, if_pos (by omega)]
      exact hK hall x y z hx hy hz ex ey ez
    | succ d ih =>
      intro j fu x y z hj hd hall hx hy hz ex ey ez
      obtain ⟨m, rfl⟩ : ∃ m, fu = m + 1 := ⟨fu - 1, by omega⟩
      have hjn : j < n := by omega
      have hr := hg.2 j hjn
      have er : xrem (j : Int) 4 = ((j % 4 : Nat) : Int) := by rw [xrem_p (by omega)]; omega
      have h40 : j ≤ 40 := by
        cases Nat.lt_or_ge 40 j with
        | inr h => exact h
        | inl h =>
          have := (hall 40 h).1
          omega
      unfold ytf0
      rw [fm_M_faultOfThing_12, hp.1, if_neg (by omega), if_pos ⟨by omega, by omega⟩, tn, hp.2 j hjn, er, xnm_e, xnm_e, xj_e]
      -- what goes on once it is known whether the sign can stand
      have hyes : ystn s j → ∀ x' y' z' : Int, (0 ≤ x' ∧ x' ≤ 9) → (0 ≤ y' ∧ y' ≤ 9) → (0 ≤ z' ∧ z' ≤ 9) →
          (x' = 0 ↔ (x = 0 ∨ (j % 4 = 0 ∧ s j = 48))) → (y' = 0 ↔ (y = 0 ∨ (j % 4 = 1 ∧ s j = 48))) → (z' = 0 ↔ (z = 0 ∨ (j % 4 = 2 ∧ s j = 48))) → fm_M_faultOfThing_12 σ K m x' y' z' ((j + 1 : Nat) : Int) = some (ytf0 s E d (j + 1)) := by
        intro hst x' y' z' hx' hy' hz' ex' ey' ez'
        have hall' : ∀ i, i < j + 1 → ystn s i := by
          intro i hi
          by_cases hij : i = j
          · rw [hij]; exact hst
          · exact hall i (by omega)
        have hext : ∀ (v v' : Int) (a : Nat), a < 3 → (v = 0 ↔ ∃ k, 4 * k + a < j ∧ s (4 * k + a) = 48) → (v' = 0 ↔ (v = 0 ∨ (j % 4 = a ∧ s j = 48))) → (v' = 0 ↔ ∃ k, 4 * k + a < j + 1 ∧ s (4 * k + a) = 48) := by
          intro v v' a ha e1 e2
          rw [e2, e1]
          constructor
          · rintro (⟨k, h1, h2⟩ | ⟨h1, h2⟩)
            · exact ⟨k, by omega, h2⟩
            · refine ⟨j / 4, by omega, ?_⟩
              rw [show 4 * (j / 4) + a = j by omega]; exact h2
          · rintro ⟨k, h1, h2⟩
            by_cases hkj : 4 * k + a = j
            · rw [hkj] at h2; exact Or.inr ⟨by omega, h2⟩
            · exact Or.inl ⟨k, by omega, h2⟩
        exact ih (j + 1) m x' y' z' (by omega) (by omega) hall' hx' hy' hz' (hext x x' 0 (by decide) ex ex') (hext y y' 1 (by decide) ey ey') (hext z z' 2 (by decide) ez ez')
      have e48 : w32 (s j - 48) = s j - 48 := w32_n (by omega) (by omega)
      have hfin1 : ystn s j → (if (1 : Int) = 0 then some (j : Int) else xnm ((w32 (s j - 48)) : Int) fun v26 => xnm ((if ((j % 4 : Nat) : Int) = 0 then (if x ≤ v26 then x else v26) else x) : Int) fun v28 => xnm ((if ((j % 4 : Nat) : Int) = 1 then (if y ≤ v26 then y else v26) else y) : Int) fun v32 =>
          if ((j % 4 : Nat) : Int) = 2 then (if z ≤ v26 then xnm (w32 ((j : Int) + 1) : Int) fun v37 => fm_M_faultOfThing_12 σ K m v28 v32 z v37 else xnm (w32 ((j : Int) + 1) : Int) fun v38 => fm_M_faultOfThing_12 σ K m v28 v32 v26 v38)
          else xnm (w32 ((j : Int) + 1) : Int) fun v39 => fm_M_faultOfThing_12 σ K m v28 v32 z v39) = some (ytf0 s E d (j + 1)) := by
        intro hst
        have hds : ¬ j % 4 = 3 → 48 ≤ s j ∧ s j ≤ 51 := fun h => (hst.2.2 h).1
        have g := hyes hst
        rw [if_neg (by decide), xnm_e, e48, xnm_e, xnm_e, w32_s (by omega)]
        have hm : j % 4 = 0 ∨ j % 4 = 1 ∨ j % 4 = 2 ∨ j % 4 = 3 := by omega
        rcases hm with h | h | h | h
        · have hd := hds (by omega)
          rw [if_neg (show ¬ ((j % 4 : Nat) : Int) = 2 by omega), if_pos (show ((j % 4 : Nat) : Int) = 0 by omega), if_neg (show ¬ ((j % 4 : Nat) : Int) = 1 by omega), xnm_e]
          by_cases hc : x ≤ s j - 48
          · rw [if_pos hc]
            exact g x y z hx hy hz ⟨fun h => Or.inl h, fun h => by omega⟩ ⟨fun h => Or.inl h, fun h => by omega⟩ ⟨fun h => Or.inl h, fun h => by omega⟩
          · rw [if_neg hc]
            exact g (s j - 48) y z (by omega) hy hz ⟨fun h => by omega, fun h => by omega⟩ ⟨fun h => Or.inl h, fun h => by omega⟩ ⟨fun h => Or.inl h, fun h => by omega⟩
        · have hd := hds (by omega)
          rw [if_neg (show ¬ ((j % 4 : Nat) : Int) = 2 by omega), if_neg (show ¬ ((j % 4 : Nat) : Int) = 0 by omega), if_pos (show ((j % 4 : Nat) : Int) = 1 by omega), xnm_e]
          by_cases hc : y ≤ s j - 48
          · rw [if_pos hc]
            exact g x y z hx hy hz ⟨fun h => Or.inl h, fun h => by omega⟩ ⟨fun h => Or.inl h, fun h => by omega⟩ ⟨fun h => Or.inl h, fun h => by omega⟩
          · rw [if_neg hc]
            exact g x (s j - 48) z hx (by omega) hz ⟨fun h => Or.inl h, fun h => by omega⟩ ⟨fun h => by omega, fun h => by omega⟩ ⟨fun h => Or.inl h, fun h => by omega⟩
        · have hd := hds (by omega)
          rw [if_pos (show ((j % 4 : Nat) : Int) = 2 by omega), if_neg (show ¬ ((j % 4 : Nat) : Int) = 0 by omega), if_neg (show ¬ ((j % 4 : Nat) : Int) = 1 by omega)]
          by_cases hc : z ≤ s j - 48
          · rw [if_pos hc, xnm_e]
            exact g x y z hx hy hz ⟨fun h => Or.inl h, fun h => by omega⟩ ⟨fun h => Or.inl h, fun h => by omega⟩ ⟨fun h => Or.inl h, fun h => by omega⟩
          · rw [if_neg hc, xnm_e]
            exact g x y (s j - 48) hx hy (by omega) ⟨fun h => Or.inl h, fun h => by omega⟩ ⟨fun h => Or.inl h, fun h => by omega⟩ ⟨fun h => by omega, fun h => by omega⟩
        · rw [if_neg (show ¬ ((j % 4 : Nat) : Int) = 2 by omega), if_neg (show ¬ ((j % 4 : Nat) : Int) = 0 by omega), if_neg (show ¬ ((j % 4 : Nat) : Int) = 1 by omega), xnm_e]
          exact g x y z hx hy hz ⟨fun h => Or.inl h, fun h => by omega⟩ ⟨fun h => Or.inl h, fun h => by omega⟩ ⟨fun h => Or.inl h, fun h => by omega⟩
      by_cases h3 : j % 4 = 3
      · have hst : ystn s j ↔ (s j = 45 ∨ (3 < j ∧ 97 ≤ s j ∧ s j ≤ 100)) := ⟨fun h => h.2.1 h3, fun h => ⟨by omega, fun _ => h, fun h4 => absurd h3 h4⟩⟩
        have hj40 : ¬ (40 : Int) ≤ (j : Int) := by omega
        have hany : ∀ v5 : Int, (xj (fun (v11 : Int) => xj (fun (v18 : Int) => if v18 = 0 then some (j : Int) else xnm ((w32 (s j - 48)) : Int) fun v26 => xnm ((if ((j % 4 : Nat) : Int) = 0 then (if x ≤ v26 then x else v26) else x) : Int) fun v28 => xnm ((if ((j % 4 : Nat) : Int) = 1 then (if y ≤ v26 then y else v26) else y) : Int) fun v32 =>
              if ((j % 4 : Nat) : Int) = 2 then (if z ≤ v26 then xnm (w32 ((j : Int) + 1) : Int) fun v37 => fm_M_faultOfThing_12 σ K m v28 v32 z v37 else xnm (w32 ((j : Int) + 1) : Int) fun v38 => fm_M_faultOfThing_12 σ K m v28 v32 v26 v38)
              else xnm (w32 ((j : Int) + 1) : Int) fun v39 => fm_M_faultOfThing_12 σ K m v28 v32 z v39) fun K19 =>
                if ((j % 4 : Nat) : Int) = 3 then (if s j = 45 then K19 1 else if (j : Int) ≤ 3 then K19 0 else (fm_M_in (s j) 97 100).bind fun v23 => if v23 = 0 then K19 0 else K19 1) else K19 v11) fun K12 =>
              if ((j % 4 : Nat) : Int) = 2 then (if v5 = 0 then K12 0 else (fm_M_wasTold (j : Int) σ).bind fun v15 => if v15 = 0 then K12 1 else K12 0) else K12 v5) = some (@ite Int (ystn s j) (Classical.propDecidable _) (ytf0 s E d (j + 1)) (j : Int)) := by
          intro v5
          rw [xj_e, if_neg (show ¬ ((j % 4 : Nat) : Int) = 2 by omega)]
          dsimp only
          rw [xj_e, if_pos (show ((j % 4 : Nat) : Int) = 3 by omega)]
          by_cases h45 : s j = 45
          · have hs : ystn s j := hst.mpr (Or.inl h45)
            rw [if_pos h45, if_pos hs]
            exact hfin1 hs
          · rw [if_neg h45]
            by_cases hin : 3 < j ∧ 97 ≤ s j ∧ s j ≤ 100
            · have hs : ystn s j := hst.mpr (Or.inr hin)
              rw [if_neg (by omega), q_in, if_pos ⟨hin.2.1, hin.2.2⟩, Option.bind_some, if_neg (by decide), if_pos hs]
              exact hfin1 hs
            · have hs : ¬ ystn s j := by
                intro h
                rcases hst.mp h with h5 | h5
                · exact h45 h5
                · exact hin h5
              rw [if_neg hs]
              by_cases h7 : (j : Int) ≤ 3
              · rw [if_pos h7]
                dsimp only
                rw [if_pos rfl]
              · rw [if_neg h7, q_in, if_neg (by omega), Option.bind_some, if_pos rfl]
                dsimp only
                rw [if_pos rfl]
        rw [if_neg hj40, q_in]
        by_cases hd : 48 ≤ s j ∧ s j ≤ 51
        · rw [if_pos hd, Option.bind_some, if_neg (by decide)]
          exact hany 1
        · rw [if_neg hd, Option.bind_some, if_pos rfl]
          exact hany 0
      · have hbad : ∀ (K12 : Int → Option Int), K12 0 = some (j : Int) → ¬ (j < 40 ∧ (48 ≤ s j ∧ s j ≤ 51)) → (if ((j % 4 : Nat) : Int) = 2 then (if (0 : Int) = 0 then K12 0 else (fm_M_wasTold (j : Int) σ).bind fun v15 => if v15 = 0 then K12 1 else K12 0) else K12 0) = some (@ite Int (ystn s j) (Classical.propDecidable _) (ytf0 s E d (j + 1)) (j : Int)) := by
          intro K12 h0 hnd
          have hs : ¬ ystn s j := fun h => hnd ⟨h.1, (h.2.2 h3).1⟩
          rw [if_neg hs]
          by_cases h2 : ((j % 4 : Nat) : Int) = 2
          · rw [if_pos h2, if_pos rfl]; exact h0
          · rw [if_neg h2]; exact h0
        have hK19 : ∀ v : Int, (xj (fun (v18 : Int) => if v18 = 0 then some (j : Int) else xnm ((w32 (s j - 48)) : Int) fun v26 => xnm ((if ((j % 4 : Nat) : Int) = 0 then (if x ≤ v26 then x else v26) else x) : Int) fun v28 => xnm ((if ((j % 4 : Nat) : Int) = 1 then (if y ≤ v26 then y else v26) else y) : Int) fun v32 =>
              if ((j % 4 : Nat) : Int) = 2 then (if z ≤ v26 then xnm (w32 ((j : Int) + 1) : Int) fun v37 => fm_M_faultOfThing_12 σ K m v28 v32 z v37 else xnm (w32 ((j : Int) + 1) : Int) fun v38 => fm_M_faultOfThing_12 σ K m v28 v32 v26 v38)
              else xnm (w32 ((j : Int) + 1) : Int) fun v39 => fm_M_faultOfThing_12 σ K m v28 v32 z v39) fun K19 =>
                if ((j % 4 : Nat) : Int) = 3 then (if s j = 45 then K19 1 else if (j : Int) ≤ 3 then K19 0 else (fm_M_in (s j) 97 100).bind fun v23 => if v23 = 0 then K19 0 else K19 1) else K19 v) =
              (if v = 0 then some (j : Int) else xnm ((w32 (s j - 48)) : Int) fun v26 => xnm ((if ((j % 4 : Nat) : Int) = 0 then (if x ≤ v26 then x else v26) else x) : Int) fun v28 => xnm ((if ((j % 4 : Nat) : Int) = 1 then (if y ≤ v26 then y else v26) else y) : Int) fun v32 =>
              if ((j % 4 : Nat) : Int) = 2 then (if z ≤ v26 then xnm (w32 ((j : Int) + 1) : Int) fun v37 => fm_M_faultOfThing_12 σ K m v28 v32 z v37 else xnm (w32 ((j : Int) + 1) : Int) fun v38 => fm_M_faultOfThing_12 σ K m v28 v32 v26 v38)
              else xnm (w32 ((j : Int) + 1) : Int) fun v39 => fm_M_faultOfThing_12 σ K m v28 v32 z v39) := by
          intro v
          rw [xj_e, if_neg (show ¬ ((j % 4 : Nat) : Int) = 3 by omega)]
        by_cases h4 : (40 : Int) ≤ (j : Int)
        · rw [if_pos h4]
          dsimp only
          rw [xj_e]
          have hs : ¬ ystn s j := fun h => (fun h => by omega : ¬ (j < 40 ∧ (48 ≤ s j ∧ s j ≤ 51))) ⟨h.1, (h.2.2 h3).1⟩
          rw [if_neg hs]
          by_cases h2 : ((j % 4 : Nat) : Int) = 2
          · rw [if_pos h2, if_pos rfl]
            exact (hK19 0).trans (if_pos rfl)
          · rw [if_neg h2]
            exact (hK19 0).trans (if_pos rfl)
        · rw [if_neg h4, q_in]
          by_cases hd : 48 ≤ s j ∧ s j ≤ 51
          · rw [if_pos hd, Option.bind_some, if_neg (by decide)]
            dsimp only
            rw [xj_e]
            by_cases h2 : j % 4 = 2
            · rw [if_pos (show ((j % 4 : Nat) : Int) = 2 by omega), if_neg (by decide)]
              obtain ⟨t1, t2⟩ := q_wasTold hg hp hjn h2
              by_cases ht : ytwice s j
              · have hs : ¬ ystn s j := fun h => (h.2.2 h3).2 h2 ht
                rw [t1 ht, Option.bind_some, if_neg (by decide), if_neg hs]
                exact (hK19 0).trans (if_pos rfl)
              · have hs : ystn s j := ⟨by omega, fun h => absurd h h3, fun _ => ⟨hd, fun _ => ht⟩⟩
                rw [t2 ht, Option.bind_some, if_pos rfl, if_pos hs]
                exact (hK19 1).trans (hfin1 hs)
            · have hs : ystn s j := ⟨by omega, fun h => absurd h h3, fun _ => ⟨hd, fun h => absurd h h2⟩⟩
              rw [if_neg (show ¬ ((j % 4 : Nat) : Int) = 2 by omega), if_pos hs]
              exact (hK19 1).trans (hfin1 hs)
          · rw [if_neg hd, Option.bind_some, if_pos rfl]
            dsimp only
            rw [xj_e]
            have hs : ¬ ystn s j := fun h => (fun h => hd h.2 : ¬ (j < 40 ∧ (48 ≤ s j ∧ s j ≤ 51))) ⟨h.1, (h.2.2 h3).1⟩
            rw [if_neg hs]
            by_cases h2 : ((j % 4 : Nat) : Int) = 2
            · rw [if_pos h2, if_pos rfl]
              exact (hK19 0).trans (if_pos rfl)
            · rw [if_neg h2]
              exact (hK19 0).trans (if_pos rfl)
  unfold fm_M_faultOfThing ythf
  refine key _ _ ?_ n 0 xFU 9 9 9 (by omega) (xfu_b (by omega)) (fun i hi => by omega) (by decide) (by decide) (by decide) ⟨fun h => by omega, fun ⟨k, h, _⟩ => by omega⟩ ⟨fun h => by omega, fun ⟨k, h, _⟩ => by omega⟩ ⟨fun h => by omega, fun ⟨k, h, _⟩ => by omega⟩
  intro hall x y z hx hy hz ex ey ez
  have er : xrem (n : Int) 4 = ((n % 4 : Nat) : Int) := by rw [xrem_p (by omega)]; omega
  have es : w32 (w32 (x + y) + z) = x + y + z := by rw [w32_n (x := x + y) (by omega) (by omega), w32_n (by omega) (by omega)]
  rw [hp.1, er, es]
  by_cases h0 : n = 0
  · rw [if_pos (show (n : Int) ≤ 0 by omega), if_neg (fun h => by have := h.1; omega)]
  · rw [if_neg (show ¬ (n : Int) ≤ 0 by omega)]
    by_cases h4 : n % 4 = 0
    · rw [if_pos (show ((n % 4 : Nat) : Int) = 0 by omega)]
      by_cases hz0 : x + y + z = 0
      · rw [if_pos hz0, if_pos]
        refine ⟨by omega, h4, fun a ha => ?_⟩
        have : a = 0 ∨ a = 1 ∨ a = 2 := by omega
        rcases this with h | h | h <;> subst h
        · exact ex.mp (by omega)
        · exact ey.mp (by omega)
        · exact ez.mp (by omega)
      · rw [if_neg hz0, if_neg]
        rintro ⟨_, _, h⟩
        have a0 := ex.mpr (h 0 (by decide))
        have a1 := ey.mpr (h 1 (by decide))
        have a2 := ez.mpr (h 2 (by decide))
        omega
    · rw [if_neg (show ¬ ((n % 4 : Nat) : Int) = 0 by omega), if_neg (fun h => h4 h.2.1)]
end PM
