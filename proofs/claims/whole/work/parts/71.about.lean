/-! the class: the search looks at a thing; walls -/
theorem q_isCell {σ : xa_H} {X Y Z : Int} (h0 : σ 7 0 0 = X) (h1 : σ 7 0 1 = Y) (h2 : σ 7 0 2 = Z) {p : Nat} (hp : p < 144) :
    (qin X Y Z ((p / 24 : Nat) : Int) ((p / 4 % 6 : Nat) : Int) ((p % 4 : Nat) : Int) → fm_Way_isCell 0 (p : Int) σ = some 1) ∧ (¬ qin X Y Z ((p / 24 : Nat) : Int) ((p / 4 % 6 : Nat) : Int) ((p % 4 : Nat) : Int) → fm_Way_isCell 0 (p : Int) σ = some 0) := by
  have e1 : ((p : Int)) / 24 = ((p / 24 : Nat) : Int) := by omega
  have e2 : ((p : Int)) / 4 % 6 = ((p / 4 % 6 : Nat) : Int) := by omega
  have e3 : ((p : Int)) % 4 = ((p % 4 : Nat) : Int) := by omega
  unfold fm_Way_isCell qin
  rw [q_xOf (by omega), Option.bind_some, q_yOf (by omega), q_zOf (by omega), Option.bind_some, Option.bind_some, h0, h1, h2, e1, e2, e3]
  refine ⟨fun h => ?_, fun h => ?_⟩
  · rw [if_neg (by omega), if_neg (by omega), if_neg (by omega)]
  · by_cases a : X ≤ ((p / 24 : Nat) : Int)
    · rw [if_pos a]
    · rw [if_neg a]
      by_cases b : Y ≤ ((p / 4 % 6 : Nat) : Int)
      · rw [if_pos b]
      · rw [if_neg b, if_pos (by omega)]
theorem q_hind {e : Int} (h : 0 ≤ e ∧ e ≤ 5) : fm_Search_hindranceOf e = some ((yh e : Nat) : Int) := by
  unfold fm_Search_hindranceOf yh
  by_cases h0 : e = 0
  · rw [if_pos h0, if_pos h0]; rfl
  · rw [if_neg h0, if_neg h0]
    by_cases h1 : e = 1
    · rw [if_pos h1, if_pos h1]; rfl
    · rw [if_neg h1, if_neg h1]
      have e2 : w32 (e - 2) = ((e.toNat - 2 : Nat) : Int) := w32_k (by omega) (by omega)
      have hs : 1 <<< (e.toNat - 2) < 16 := by
        have : e.toNat - 2 = 0 ∨ e.toNat - 2 = 1 ∨ e.toNat - 2 = 2 ∨ e.toNat - 2 = 3 := by omega
        rcases this with h | h | h | h <;> rw [h] <;> decide
      have := xshl_n (a := 1) (b := e.toNat - 2) (by omega) (by omega) (by decide)
      rw [e2]
      exact congrArg some this
theorem ygi_inj {x y z x' y' z' : Nat} (hy : y < 11) (hz : z < 9) (hy' : y' < 11) (hz' : z' < 9) (h : (x * 11 + y) * 9 + z = (x' * 11 + y') * 9 + z') : x = x' ∧ y = y' ∧ z = z' := by omega
section AB
variable {σ P : xa_H}
theorem q_draw (ht : yct σ) (hv : yPv P) (hw : σ 7 0 0 = P 0 0 0 ∧ σ 7 0 1 = P 0 0 1 ∧ σ 7 0 2 = P 0 0 2) (hk : ∀ q, q < 144 → σ 33 0 q = P 1 0 q) :
    xW (fm_Search_drawGrid σ) fun s => xfs [18] [] σ s ∧ ∀ x y z : Nat, x < 11 → y < 11 → z < 9 → s 18 0 ((x * 11 + y) * 9 + z) = ((ygc P (x : Int) (y : Int) (z : Int) : Nat) : Int) := by
  have hz := hv.1
  unfold qsz at hz
  unfold fm_Search_drawGrid
  refine xW_bind (q_fill (K := 18) (i := 0) (n := 1089) rfl (by decide) 32 σ) ?_
  rintro s1 ⟨r1, r2⟩
  have f1 : xfs [18] [] σ s1 := ⟨fun K hK _ => by
    funext i' s'
    exact r1 K i' s' (fun e => hK (by rw [e.1]; decide)), fun i s _ => r1 3 i s (fun e => by omega)⟩
  refine xfor0 (fun n (j : Int) (g : xa_H) => fm_Search_drawGrid_11 (fun s => some s) n j g) 144
    (fun j g => xfs [18] [] σ g ∧ ∀ x y z : Nat, x < 11 → y < 11 → z < 9 → g 18 0 ((x * 11 + y) * 9 + z) = ((if 24 * x + 4 * y + z < j then ygc P (x : Int) (y : Int) (z : Int) else 32 : Nat) : Int) ∨ (g 18 0 ((x * 11 + y) * 9 + z) = 32 ∧ ¬ ((x : Int) < P 0 0 0 ∧ (y : Int) < P 0 0 1 ∧ (z : Int) < P 0 0 2)))
    _ (xfu_b (by omega)) ?_ ?_ s1 ⟨f1, fun x y z hx hy hz => Or.inl (by rw [if_neg (by omega)]; exact r2 _ (by omega))⟩
  · rintro fu j g hj ⟨i1, i2⟩ ih
    show xW (fm_Search_drawGrid_11 (fun s => some s) (fu + 1) (j : Int) g) _
    rw [fm_Search_drawGrid_11]
    refine xW_f (by omega) ?_
    have e7 : g 7 = σ 7 := i1.1 7 (by decide) (by decide)
    have e33 : g 33 = σ 33 := i1.1 33 (by decide) (by decide)
    have htg := yct_f i1 (by decide) ht
    obtain ⟨c1, c2⟩ := q_isCell (σ := g) (X := P 0 0 0) (Y := P 0 0 1) (Z := P 0 0 2) (by rw [e7]; exact hw.1) (by rw [e7]; exact hw.2.1) (by rw [e7]; exact hw.2.2) hj
    have hjd : j = 24 * (j / 24) + 4 * (j / 4 % 6) + j % 4 := by omega
    have hnx : ∀ (g' : xa_H), xfs [18] [] σ g' → (∀ x y z : Nat, x < 11 → y < 11 → z < 9 → g' 18 0 ((x * 11 + y) * 9 + z) = ((if 24 * x + 4 * y + z < j + 1 then ygc P (x : Int) (y : Int) (z : Int) else 32 : Nat) : Int) ∨ (g' 18 0 ((x * 11 + y) * 9 + z) = 32 ∧ ¬ ((x : Int) < P 0 0 0 ∧ (y : Int) < P 0 0 1 ∧ (z : Int) < P 0 0 2))) →
        xW (xnm (w32 ((j : Int) + 1) : Int) fun v => fm_Search_drawGrid_11 (fun s => some s) fu v g') fun s => xfs [18] [] σ s ∧ ∀ x y z : Nat, x < 11 → y < 11 → z < 9 → s 18 0 ((x * 11 + y) * 9 + z) = ((ygc P (x : Int) (y : Int) (z : Int) : Nat) : Int) := by
      intro g' h1 h2
      refine xW_nm ?_
      rw [w32_s (by omega)]
      exact ih g' ⟨h1, h2⟩
    by_cases hin : qin (P 0 0 0) (P 0 0 1) (P 0 0 2) ((j / 24 : Nat) : Int) ((j / 4 % 6 : Nat) : Int) ((j % 4 : Nat) : Int)
    · refine xW_be (c1 hin) (xW_f (by decide) ?_)
      have hin' := hin
      unfold qin at hin'
      refine xW_be (rd19 hj) ?_
      unfold fm_Way_kindAt
      have hkj := hv.2.1 j hj
      have er : (fm_S_read 33 0 (j : Int) g).bind (fun v1 => some v1) = some (P 1 0 j) := by
        rw [rd33 hj, Option.bind_some, e33, hk j hj]
      refine xW_be er (xW_be (q_hind hkj) ?_)
      rw [htg.2.2.1 j hj]
      have eg : ygi ((j / 24 : Nat) : Int) ((j / 4 % 6 : Nat) : Int) ((j % 4 : Nat) : Int) = ((((j / 24) * 11 + j / 4 % 6) * 9 + j % 4 : Nat) : Int) := by unfold ygi; omega
      rw [eg]
      refine xW_be (wr18 (by omega)) ?_
      refine hnx _ (xfs_t i1 (xfs_up (by decide) (by decide))) ?_
      intro x y z hx hy hz'
      by_cases hxyz : x = j / 24 ∧ y = j / 4 % 6 ∧ z = j % 4
      · obtain ⟨a1, a2, a3⟩ := hxyz
        left
        rw [a1, a2, a3, xup_at, if_pos (by omega)]
        unfold ygc
        rw [if_pos hin']
        have : (ypl ((j / 24 : Nat) : Int) ((j / 4 % 6 : Nat) : Int) ((j % 4 : Nat) : Int)).toNat = j := by unfold ypl; omega
        rw [this]
      · have hne : ¬ ((x * 11 + y) * 9 + z = ((j / 24) * 11 + j / 4 % 6) * 9 + j % 4) := fun e => hxyz (ygi_inj hy hz' (by omega) (by omega) e)
        rw [xup_o (by omega)]
        rcases i2 x y z hx hy hz' with h | h
        · by_cases hc : 24 * x + 4 * y + z < j + 1
          · by_cases hc2 : 24 * x + 4 * y + z < j
            · left
              rw [if_pos hc, h, if_pos hc2]
            · by_cases hb : y < 6 ∧ z < 4
              · exfalso
                apply hxyz
                omega
              · right
                rw [if_neg hc2] at h
                exact ⟨h, by omega⟩
          · left
            rw [if_neg hc, h, if_neg (by omega)]
        · exact Or.inr h
    · refine xW_be (c2 hin) (xW_t rfl ?_)
      refine hnx g i1 ?_
      intro x y z hx hy hz'
      unfold qin at hin
      rcases i2 x y z hx hy hz' with h | h
      · by_cases hc : 24 * x + 4 * y + z < j + 1
        · by_cases hc2 : 24 * x + 4 * y + z < j
          · left
            rw [if_pos hc, h, if_pos hc2]
          · right
            rw [if_neg hc2] at h
            refine ⟨h, ?_⟩
            intro hb
            apply hin
            have : x = j / 24 ∧ y = j / 4 % 6 ∧ z = j % 4 := by omega
            omega
        · left
          rw [if_neg hc, h, if_neg (by omega)]
      · exact Or.inr h
  · rintro fu g ⟨i1, i2⟩
    show xW (fm_Search_drawGrid_11 (fun s => some s) (fu + 1) ((144 : Nat) : Int) g) _
    rw [fm_Search_drawGrid_11]
    refine xW_t (by omega) (xW_some ⟨i1, ?_⟩)
    intro x y z hx hy hz'
    have h32 : ¬ ((x : Int) < P 0 0 0 ∧ (y : Int) < P 0 0 1 ∧ (z : Int) < P 0 0 2) → ygc P (x : Int) (y : Int) (z : Int) = 32 := by
      intro hn
      unfold ygc
      rw [if_neg]
      intro hc
      apply hn
      omega
    rcases i2 x y z hx hy hz' with h | ⟨h1, h2⟩
    · by_cases hc : 24 * x + 4 * y + z < 144
      · rw [if_pos hc] at h; exact h
      · rw [if_neg hc] at h
        rw [h, h32 (by omega)]
    · rw [h1, h32 h2]; rfl
/-- the offsets of the cubes -/
theorem q_offs (ht : yct σ) (hv : yPv P) {i : Nat} (hth : yth σ i (P 2 0 0).toNat (P 3)) (h5 : σ 5 i 0 = P 2 0 0) :
    xW (fm_Search_about_28 i (fun s => some s) xFU 0 σ) fun s => xfs [20] [] σ s ∧ ∀ w k, w < 24 → k < (P 2 0 0).toNat → s 20 0 (10 * w + k) = ygi (yp P w k 0) (yp P w k 1) (yp P w k 2) := by
  have hn := hv.2.2.1
  refine xfor0 (fun n (j : Int) (g : xa_H) => fm_Search_about_28 i (fun s => some s) n j g) 24
    (fun j g => xfs [20] [] σ g ∧ ∀ w k, w < j → k < (P 2 0 0).toNat → g 20 0 (10 * w + k) = ygi (yp P w k 0) (yp P w k 1) (yp P w k 2))
    _ (xfu_b (by omega)) ?_ ?_ σ ⟨xfs_r _ _ _, fun w k hw => by omega⟩
  · rintro fu j g hj ⟨i1, i2⟩ ih
    show xW (fm_Search_about_28 i (fun s => some s) (fu + 1) (j : Int) g) _
    rw [fm_Search_about_28]
    refine xW_f (by omega) ?_
    refine xfor0 (fun n (q : Int) (h : xa_H) => fm_Search_about_36 i (j : Int) (fun s8 => xnm (w32 ((j : Int) + 1) : Int) fun v9 => fm_Search_about_28 i (fun s => some s) fu v9 s8) n q h) (P 2 0 0).toNat
      (fun q h => xfs [20] [] σ h ∧ (∀ w k, w < j → k < (P 2 0 0).toNat → h 20 0 (10 * w + k) = ygi (yp P w k 0) (yp P w k 1) (yp P w k 2)) ∧ ∀ k, k < q → h 20 0 (10 * j + k) = ygi (yp P j k 0) (yp P j k 1) (yp P j k 2))
      _ (xfu_b (by omega)) ?_ ?_ g ⟨i1, i2, fun k hk => by omega⟩
    · rintro fu2 q h hq ⟨k1, k2, k3⟩ ih2
      show xW (fm_Search_about_36 i (j : Int) _ (fu2 + 1) (q : Int) h) _
      rw [fm_Search_about_36]
      have e5 : h 5 i 0 = P 2 0 0 := by rw [k1.1 5 (by decide) (by decide)]; exact h5
      have hth' : yth h i (P 2 0 0).toNat (P 3) := by
        obtain ⟨a1, a2, a3, a4⟩ := hth
        refine ⟨a1, a2, ?_, ?_⟩
        · rw [k1.1 27 (by decide) (by decide)]; exact a3
        · rw [k1.1 29 (by decide) (by decide)]; exact a4
      have hth2 := yct_f k1 (by decide) ht
      refine xW_f (by omega) ?_
      refine xW_be (q_along hth2 hth' hj hq (a := 0) (by decide)) (xW_be (q_along hth2 hth' hj hq (a := 1) (by decide)) (xW_be (q_along hth2 hth' hj hq (a := 2) (by decide)) ?_))
      have p0 := yp_r hv hj hq (a := 0) (by decide)
      have p1 := yp_r hv hj hq (a := 1) (by decide)
      have p2 := yp_r hv hj hq (a := 2) (by decide)
      have p0' : 0 ≤ yat (P 3) (P 2 0 0).toNat j q 0 ∧ yat (P 3) (P 2 0 0).toNat j q 0 ≤ 5 := p0
      have p1' : 0 ≤ yat (P 3) (P 2 0 0).toNat j q 1 ∧ yat (P 3) (P 2 0 0).toNat j q 1 ≤ 5 := p1
      have p2' : 0 ≤ yat (P 3) (P 2 0 0).toNat j q 2 ∧ yat (P 3) (P 2 0 0).toNat j q 2 ≤ 5 := p2
      refine xW_be (q_gridAt (by omega) (by omega) (by omega)) ?_
      have e1 : w32 (w32 ((j : Int) * 10) + (q : Int)) = ((10 * j + q : Nat) : Int) := w32_2 (by omega) (by omega) (by omega)
      rw [e1]
      refine xW_be (wr20 (by omega)) (xW_nm ?_)
      rw [w32_s (j := q) (by omega)]
      refine ih2 _ ⟨xfs_t k1 (xfs_up (by decide) (by decide)), fun w k hw hk => ?_, fun k hk => ?_⟩
      · rw [xup_o (by omega)]; exact k2 w k hw hk
      · by_cases hkq : k = q
        · rw [hkq, xup_at]; rfl
        · rw [xup_o (by omega)]; exact k3 k (by omega)
    · rintro fu2 h ⟨k1, k2, k3⟩
      show xW (fm_Search_about_36 i (j : Int) _ (fu2 + 1) (((P 2 0 0).toNat : Nat) : Int) h) _
      rw [fm_Search_about_36]
      have e5 : h 5 i 0 = P 2 0 0 := by rw [k1.1 5 (by decide) (by decide)]; exact h5
      refine xW_t (by omega) (xW_nm ?_)
      rw [w32_s (by omega)]
      refine ih h ⟨k1, fun w k hw hk => ?_⟩
      by_cases hwj : w = j
      · rw [hwj]; exact k3 k hk
      · exact k2 w k (by omega) hk
  · rintro fu g h
    show xW (fm_Search_about_28 i (fun s => some s) (fu + 1) ((24 : Nat) : Int) g) _
    rw [fm_Search_about_28]
    exact xW_t (by omega) (xW_some h)
/-- all is looked at anew -/
theorem q_look (ht : yct σ) (hv : yPv P) (hw : σ 7 0 0 = P 0 0 0 ∧ σ 7 0 1 = P 0 0 1 ∧ σ 7 0 2 = P 0 0 2) (hk : ∀ q, q < 144 → σ 33 0 q = P 1 0 q) {i : Nat} (hth : yth σ i (P 2 0 0).toNat (P 3)) (h5 : σ 5 i 0 = P 2 0 0) (h28 : ∀ k, k < (P 2 0 0).toNat → σ 28 i k = P 4 k 0) :
    xW (xnm (xup σ 3 0 8 (i : Int)) fun s12 => (fm_Arrays_fill 21 0 (-1) s12).bind fun s13 => (fm_Search_drawGrid s13).bind fun s14 => fm_Search_about_28 i (fun s15 => some s15) xFU 0 s14)
      fun s => xfs [18, 20, 21] [8] σ s ∧ ysc s P ∧ (∀ c, c < 3456 → s 21 0 c = -1) ∧ s 3 0 8 = (i : Int) := by
  refine xW_nm ?_
  have f0 : xfs [18, 20, 21] [8] σ (xup σ 3 0 8 (i : Int)) := xfs_u3 (by decide)
  have h8 : xup σ 3 0 8 (i : Int) 3 0 8 = (i : Int) := xup_at
  generalize xup σ 3 0 8 (i : Int) = s0 at f0 h8 ⊢
  refine xW_bind (q_fill (K := 21) (i := 0) (n := 3456) rfl (by decide) (-1) s0) ?_
  rintro s1 ⟨r1, r2⟩
  have f1' : xfs [21] [] s0 s1 := ⟨fun K hK _ => by
    funext i' s'
    exact r1 K i' s' (fun e => hK (by rw [e.1]; decide)), fun i s _ => r1 3 i s (fun e => by omega)⟩
  have f1 : xfs [18, 20, 21] [8] σ s1 := xfs_t f0 (xfs_m f1' (by decide) (by decide))
  refine xW_bind (q_draw (yct_f f1 (by decide) ht) hv (by rw [f1.1 7 (by decide) (by decide)]; exact hw) (by rw [f1.1 33 (by decide) (by decide)]; exact hk)) ?_
  rintro s2 ⟨g1, g2⟩
  have f2 : xfs [18, 20, 21] [8] σ s2 := xfs_t f1 (xfs_m g1 (by decide) (by decide))
  have hth2 : yth s2 i (P 2 0 0).toNat (P 3) := by
    obtain ⟨a1, a2, a3, a4⟩ := hth
    refine ⟨a1, a2, ?_, ?_⟩
    · rw [f2.1 27 (by decide) (by decide)]; exact a3
    · rw [f2.1 29 (by decide) (by decide)]; exact a4
  refine xW_mono (q_offs (yct_f f2 (by decide) ht) hv hth2 (by rw [f2.1 5 (by decide) (by decide)]; exact h5)) ?_
  rintro s3 ⟨k1, k2⟩
  have f3 : xfs [18, 20, 21] [8] σ s3 := xfs_t f2 (xfs_m k1 (by decide) (by decide))
  have h83 : s3 3 0 8 = (i : Int) := by rw [k1.2 0 8 (by decide), g1.2 0 8 (by decide), f1'.2 0 8 (by decide)]; exact h8
  refine ⟨f3, ⟨⟨i, h83, ?_, ?_⟩, ?_, k2⟩, ?_, h83⟩
  · rw [f3.1 5 (by decide) (by decide)]; exact h5
  · rw [f3.1 28 (by decide) (by decide)]; exact h28
  · rw [k1.1 18 (by decide) (by decide)]; exact g2
  · rw [k1.1 21 (by decide) (by decide), g1.1 21 (by decide) (by decide)]; exact r2
theorem yhc_1 (h : ∀ c, c < 3456 → σ 21 0 c = -1) : yhc σ P := fun c hc => Or.inl (h c hc.1)
/-- problems that look alike to the search -/
def yPs (P P' : xa_H) : Prop := ∀ K, K < 5 → P K = P' K
theorem ysc_p {P' : xa_H} (h : yPs P P') (hs : ysc σ P) : ysc σ P' := by
  have h2 := h 2 (by decide)
  have h4 := h 4 (by decide)
  have hg : ∀ x y z, ygc P x y z = ygc P' x y z := fun x y z => by unfold ygc; rw [h 0 (by decide), h 1 (by decide)]
  have hp : ∀ w k a, yp P w k a = yp P' w k a := fun w k a => by unfold yp; rw [h 3 (by decide), h2]
  obtain ⟨⟨i, a1, a2, a3⟩, b, c⟩ := hs
  rw [h2] at a2 a3 c
  rw [h4] at a3
  refine ⟨⟨i, a1, a2, a3⟩, fun x y z hx hy hz => ?_, fun w k hw hk => ?_⟩
  · rw [b x y z hx hy hz, hg]
  · rw [c w k hw hk, hp, hp, hp]
theorem yhc_p {P' : xa_H} (h : yPs P P') (hs : yhc σ P) : yhc σ P' := by
  have hg : ∀ x y z, ygc P x y z = ygc P' x y z := fun x y z => by unfold ygc; rw [h 0 (by decide), h 1 (by decide)]
  have hp : ∀ w k a, yp P w k a = yp P' w k a := fun w k a => by unfold yp; rw [h 3 (by decide), h 2 (by decide)]
  have hH : ∀ c, yH P c = yH P' c := by
    intro c
    funext k
    unfold yH
    rw [hp, hp, hp, hg]
  intro c hc
  have hc' : ycell P c := ⟨hc.1, by
    have := hc.2
    unfold yqin at this ⊢
    rw [h 0 (by decide)]; exact this⟩
  rcases hs c hc' with h1 | h1
  · exact Or.inl h1
  · right
    rw [h1]
    unfold yV
    rw [hH, h 4 (by decide), h 2 (by decide)]
theorem ypr_s {f : xa_H} {b t : Nat} {e : Nat → Int} {A D A' D' : Int} : yPs (ypr f b t e A D) (ypr f b t e A' D') := by
  intro K hK
  have : K = 0 ∨ K = 1 ∨ K = 2 ∨ K = 3 ∨ K = 4 := by omega
  rcases this with h | h | h | h | h <;> subst h <;> rfl
end AB
/-- the search is about a thing from now on -/
theorem q_about {σ f : xa_H} (hs : yst σ f) (hv : yv f) (hc : yca σ f) {t : Nat} (ht : t < 4) (hn : 1 ≤ f 2 t 0) :
    xW (fm_Search_about t σ) fun s => xfs [18, 20, 21] [8] σ s ∧ ysc s (ypr f 0 t (ykd f 0) 0 0) ∧ yhc s (ypr f 0 t (ykd f 0) 0 0) ∧ s 3 0 8 = (t : Int) ∧ (σ 3 0 8 < 0 → ∀ c, c < 3456 → s 21 0 c = -1) := by
  have hP : yPv (ypr f 0 t (ykd f 0) 0 0) := ypr_v (b := 0) hv.1 ht hn (ykd_v hv.1) (by decide) (by decide)
  have hyt := hs.2.1.2.2.1 t ht
  have e4 : 4 * 0 + t = t := by omega
  rw [e4] at hyt
  have hth := yclt_th hyt (hv.1.2.2.1 t ht) hn
  have hlook := q_look (P := ypr f 0 t (ykd f 0) 0 0) hs.1 hP hs.2.1.1 (fun q hq => hs.2.1.2.1 q hq) (i := t) hth hyt.1.1 (fun k hk => (hyt.2.2.1 k hk).2)
  unfold fm_Search_about
  refine xW_if (fun h0 => ?_) (fun h0 => xW_if (fun he => ?_) (fun hne => ?_))
  · refine xW_mono hlook ?_
    rintro s ⟨a1, a2, a3, a4⟩
    exact ⟨a1, a2, yhc_1 a3, a4, fun _ => a3⟩
  · refine xW_some ⟨xfs_r _ _ _, ?_⟩
    rcases hc with h | h | ⟨t', h1, h2, h3, h4, h5⟩
    · exact absurd h h0
    · omega
    · have : t' = t := by omega
      subst this
      exact ⟨h4, h5, h2, fun h => absurd h h0⟩
  · refine xW_mono hlook ?_
    rintro s ⟨a1, a2, a3, a4⟩
    exact ⟨a1, a2, yhc_1 a3, a4, fun _ => a3⟩
