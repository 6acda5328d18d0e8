/-! cells are filled, on both sides -/
def ybox (a1 a2 b1 b2 c1 c2 q : Nat) : Prop := (a1 ≤ q / 24 ∧ q / 24 ≤ a2) ∧ (b1 ≤ q / 4 % 6 ∧ q / 4 % 6 ≤ b2) ∧ (c1 ≤ q % 4 ∧ q % 4 ≤ c2)
def ylex (x y z q : Nat) : Prop := q / 24 < x ∨ (q / 24 = x ∧ (q / 4 % 6 < y ∨ (q / 4 % 6 = y ∧ q % 4 < z)))
noncomputable def afl1 (f : xa_H) (a1 a2 b1 b2 c1 c2 : Nat) (k : Int) : xa_H := fun K i s => if K = 1 then @ite Int (ybox a1 a2 b1 b2 c1 c2 s) (Classical.propDecidable _) k (f 1 i s) else f K i s
theorem afl1_k {f : xa_H} {a1 a2 b1 b2 c1 c2 : Nat} {k : Int} {K : Nat} (h : ¬ K = 1) : afl1 f a1 a2 b1 b2 c1 c2 k K = f K := by
  funext i s
  unfold afl1
  rw [if_neg h]
noncomputable def afill (f : xa_H) (a b k : Int) : Int × xa_H :=
  @ite (Int × xa_H) (ycel f a ∧ ycel f b) (Classical.propDecidable _) (if (0 ≤ k ∧ k ≤ 5) ∧ a / 100 ≤ b / 100 ∧ a / 10 % 10 ≤ b / 10 % 10 ∧ a % 10 ≤ b % 10 then
    ((((b / 100 - a / 100 + 1).toNat * ((b / 10 % 10 - a / 10 % 10 + 1).toNat * (b % 10 - a % 10 + 1).toNat) : Nat) : Int), afl1 f (a / 100).toNat (b / 100).toNat (a / 10 % 10).toNat (b / 10 % 10).toNat (a % 10).toNat (b % 10).toNat k) else (-2, f)) (-1, f)
theorem V_fill1 {f : xa_H} (hv : yv f) {a1 a2 b1 b2 c1 c2 : Nat} {k : Int} (hk : 0 ≤ k ∧ k ≤ 5) : yv (afl1 f a1 a2 b1 b2 c1 c2 k) := by
  obtain ⟨k1, k2, k3, k4⟩ := hv.1
  have hC : ∀ t, yC (afl1 f a1 a2 b1 b2 c1 c2 k) 0 t = yC f 0 t := by
    intro t
    unfold yC
    rw [afl1_k (by decide)]
  refine yv_up hv ⟨?_, fun q hq => ?_, fun t ht => ?_, ?_⟩ ?_ (fun K hK => afl1_k (by omega))
  · rw [afl1_k (by decide)]; exact k1
  · show 0 ≤ @ite Int (ybox a1 a2 b1 b2 c1 c2 q) (Classical.propDecidable _) k (f 1 0 q) ∧ @ite Int (ybox a1 a2 b1 b2 c1 c2 q) (Classical.propDecidable _) k (f 1 0 q) ≤ 5
    by_cases h : ybox a1 a2 b1 b2 c1 c2 q
    · rw [if_pos h]; exact hk
    · rw [if_neg h]; exact k2 q hq
  · obtain ⟨d1, d2, d3, d4, d5, d6, d7⟩ := k3 t ht
    have e2 : afl1 f a1 a2 b1 b2 c1 c2 k (0 + 2) = f (0 + 2) := afl1_k (by decide)
    have e0 : afl1 f a1 a2 b1 b2 c1 c2 k 0 = f 0 := afl1_k (by decide)
    refine ⟨by rw [e2]; exact d1, by rw [e2, hC]; exact d2, by rw [e2, afl1_k (show ¬ 0 + 6 = 1 by decide)]; exact d3, ?_, by rw [e2]; exact d5, by rw [e2, e0]; exact d6, by rw [afl1_k (show ¬ 0 + 5 = 1 by decide)]; exact d7⟩
    rw [e2]
    rcases d4 with h | h
    · exact Or.inl h
    · right
      unfold ylie
      rw [e2, e0, hC]
      exact h
  · rw [afl1_k (show ¬ 0 + 3 = 1 by decide), afl1_k (show ¬ 0 + 4 = 1 by decide)]; exact k4
  · rw [afl1_k (show ¬ 7 = 1 by decide), afl1_k (show ¬ 8 = 1 by decide)]; exact hv.2.1
theorem V_fill {f : xa_H} (hv : yv f) (a b k : Int) : yv (afill f a b k).2 := by
  unfold afill
  by_cases h : ycel f a ∧ ycel f b
  · rw [if_pos h]
    split
    · rename_i h2
      exact V_fill1 hv h2.1
    · exact hv
  · rw [if_neg h]; exact hv
/-- what a part of the box that is done looks like -/
def ypt (σ g : xa_H) (K : Nat) (a1 a2 b1 b2 c1 c2 : Nat) (k : Int) (x y z : Nat) : Prop := (∀ K', ¬ K' = K → g K' = σ K') ∧ (∀ i, ¬ i = 0 → g K i = σ K i) ∧
  ∀ q, q < 144 → (ybox a1 a2 b1 b2 c1 c2 q ∧ ylex x y z q → g K 0 q = k) ∧ (¬ (ybox a1 a2 b1 b2 c1 c2 q ∧ ylex x y z q) → g K 0 q = σ K 0 q)
theorem ypt_s {σ g : xa_H} {K a1 a2 b1 b2 c1 c2 : Nat} {k : Int} {x y z : Nat} (hx : a1 ≤ x ∧ x ≤ a2 ∧ a2 ≤ 5) (hy : b1 ≤ y ∧ y ≤ b2 ∧ b2 ≤ 5) (hz : c1 ≤ z ∧ z ≤ c2 ∧ c2 ≤ 3) (h : ypt σ g K a1 a2 b1 b2 c1 c2 k x y z) :
    ypt σ (xup g K 0 (24 * x + 4 * y + z) k) K a1 a2 b1 b2 c1 c2 k x y (z + 1) := by
  obtain ⟨h1, h2, h3⟩ := h
  refine ⟨fun K' hK => by rw [xup_k hK]; exact h1 K' hK, fun i hi => by rw [xup_i (by omega)]; exact h2 i hi, fun q hq => ?_⟩
  obtain ⟨a, b⟩ := h3 q hq
  by_cases hqe : q = 24 * x + 4 * y + z
  · rw [hqe, xup_at]
    have e1 : (24 * x + 4 * y + z) / 24 = x := by omega
    have e2 : (24 * x + 4 * y + z) / 4 % 6 = y := by omega
    have e3 : (24 * x + 4 * y + z) % 4 = z := by omega
    refine ⟨fun _ => rfl, fun hn => absurd ?_ hn⟩
    unfold ybox ylex
    rw [e1, e2, e3]
    omega
  · rw [xup_o (by omega)]
    refine ⟨fun hc => a ⟨hc.1, ?_⟩, fun hn => b (fun hc => hn ⟨hc.1, ?_⟩)⟩
    · have := hc.2
      unfold ylex at this ⊢
      omega
    · have := hc.2
      unfold ylex at this ⊢
      omega
theorem ypt_y {σ g : xa_H} {K a1 a2 b1 b2 c1 c2 : Nat} {k : Int} {x y : Nat} (h : ypt σ g K a1 a2 b1 b2 c1 c2 k x y (c2 + 1)) : ypt σ g K a1 a2 b1 b2 c1 c2 k x (y + 1) c1 := by
  obtain ⟨h1, h2, h3⟩ := h
  refine ⟨h1, h2, fun q hq => ?_⟩
  obtain ⟨a, b⟩ := h3 q hq
  refine ⟨fun hc => a ⟨hc.1, ?_⟩, fun hn => b (fun hc => hn ⟨hc.1, ?_⟩)⟩
  · obtain ⟨u, v⟩ := hc
    unfold ybox at u
    unfold ylex at v ⊢
    omega
  · obtain ⟨u, v⟩ := hc
    unfold ybox at u
    unfold ylex at v ⊢
    omega
theorem ypt_x {σ g : xa_H} {K a1 a2 b1 b2 c1 c2 : Nat} {k : Int} {x : Nat} (h : ypt σ g K a1 a2 b1 b2 c1 c2 k x (b2 + 1) c1) : ypt σ g K a1 a2 b1 b2 c1 c2 k (x + 1) b1 c1 := by
  obtain ⟨h1, h2, h3⟩ := h
  refine ⟨h1, h2, fun q hq => ?_⟩
  obtain ⟨a, b⟩ := h3 q hq
  refine ⟨fun hc => a ⟨hc.1, ?_⟩, fun hn => b (fun hc => hn ⟨hc.1, ?_⟩)⟩
  · obtain ⟨u, v⟩ := hc
    unfold ybox at u
    unfold ylex at v ⊢
    omega
  · obtain ⟨u, v⟩ := hc
    unfold ybox at u
    unfold ylex at v ⊢
    omega
section PA
variable {σ : xa_H} {X Y Z k : Int} {a1 a2 b1 b2 c1 c2 : Nat}
/-- the class paints -/
theorem q_paint (hz : qsz X Y Z) (h7 : σ 7 0 0 = X ∧ σ 7 0 1 = Y ∧ σ 7 0 2 = Z) (ha : a1 ≤ a2 ∧ (a2 : Int) < X) (hb : b1 ≤ b2 ∧ (b2 : Int) < Y) (hc : c1 ≤ c2 ∧ (c2 : Int) < Z) :
    xW (fm_Way_paint 0 ((24 * a1 + 4 * b1 + c1 : Nat) : Int) ((24 * a2 + 4 * b2 + c2 : Nat) : Int) k σ) fun r => r.1 = (((a2 + 1 - a1) * ((b2 + 1 - b1) * (c2 + 1 - c1)) : Nat) : Int) ∧ ypt σ r.2 33 a1 a2 b1 b2 c1 c2 k (a2 + 1) b1 c1 := by
  have hz0 := hz
  unfold qsz at hz
  have rx1 : fm_S_xOf ((24 * a1 + 4 * b1 + c1 : Nat) : Int) = some (a1 : Int) := by rw [q_xOf (by omega)]; congr 1; omega
  have ry1 : fm_S_yOf ((24 * a1 + 4 * b1 + c1 : Nat) : Int) = some (b1 : Int) := by rw [q_yOf (by omega)]; congr 1; omega
  have rz1 : fm_S_zOf ((24 * a1 + 4 * b1 + c1 : Nat) : Int) = some (c1 : Int) := by rw [q_zOf (by omega)]; congr 1; omega
  have rx2 : fm_S_xOf ((24 * a2 + 4 * b2 + c2 : Nat) : Int) = some (a2 : Int) := by rw [q_xOf (by omega)]; congr 1; omega
  have ry2 : fm_S_yOf ((24 * a2 + 4 * b2 + c2 : Nat) : Int) = some (b2 : Int) := by rw [q_yOf (by omega)]; congr 1; omega
  have rz2 : fm_S_zOf ((24 * a2 + 4 * b2 + c2 : Nat) : Int) = some (c2 : Int) := by rw [q_zOf (by omega)]; congr 1; omega
  have hbd : (b2 + 1 - b1) * (c2 + 1 - c1) ≤ 6 * 4 := Nat.mul_le_mul (by omega) (by omega)
  generalize hM : (b2 + 1 - b1) * (c2 + 1 - c1) = M at hbd ⊢
  have hN : c2 + 1 - c1 ≤ 4 := by omega
  generalize hNe : c2 + 1 - c1 = N at hM hN
  generalize hp1 : ((24 * a1 + 4 * b1 + c1 : Nat) : Int) = p1 at rx1 ry1 rz1 ⊢
  generalize hp2 : ((24 * a2 + 4 * b2 + c2 : Nat) : Int) = p2 at rx2 ry2 rz2 ⊢
  unfold fm_Way_paint
  refine xW_be rx1 ?_
  refine xfor (fun n (x : Int) (g : Int × xa_H) => fm_Way_paint_9 0 p1 p2 k (fun v13 s14 => some (v13, s14)) n g.1 x g.2) (a2 + 1)
    (fun x g => a1 ≤ x ∧ g.1 = (((x - a1) * M : Nat) : Int) ∧ ypt σ g.2 33 a1 a2 b1 b2 c1 c2 k x b1 c1) _ ?_ ?_ (a2 + 1 - a1) a1 xFU (0, σ) (by omega) (xfu_b (by omega)) ⟨Nat.le_refl _, ?_, fun _ _ => rfl, fun _ _ => rfl, fun q hq => ⟨fun hh => ?_, fun _ => rfl⟩⟩
  · rintro fu x ⟨cnt, g⟩ hx ⟨i0, i1, i2⟩ ih
    show xW (fm_Way_paint_9 0 p1 p2 k (fun v13 s14 => some (v13, s14)) (fu + 1) cnt (x : Int) g) _
    have i1 : cnt = (((x - a1) * M : Nat) : Int) := i1
    have i2 : ypt σ g 33 a1 a2 b1 b2 c1 c2 k x b1 c1 := i2
    rw [fm_Way_paint_9]
    refine xW_be rx2 (xW_f (by omega) (xW_be ry1 ?_))
    refine xfor (fun n (y : Int) (h : Int × xa_H) => fm_Way_paint_24 0 p1 p2 k (x : Int) (fun v10 s11 => xnm (w32 ((x : Int) + 1) : Int) fun v12 => fm_Way_paint_9 0 p1 p2 k (fun v13 s14 => some (v13, s14)) fu v10 v12 s11) n h.1 y h.2) (b2 + 1)
      (fun y h => b1 ≤ y ∧ h.1 = (((x - a1) * M + (y - b1) * N : Nat) : Int) ∧ ypt σ h.2 33 a1 a2 b1 b2 c1 c2 k x y c1) _ ?_ ?_ (b2 + 1 - b1) b1 xFU (cnt, g) (by omega) (xfu_b (by omega)) ⟨Nat.le_refl _, ?_, i2⟩
    · rintro fu2 y ⟨cnt2, h⟩ hy ⟨j0, j1, j2⟩ ih2
      show xW (fm_Way_paint_24 0 p1 p2 k (x : Int) _ (fu2 + 1) cnt2 (y : Int) h) _
      have j1 : cnt2 = (((x - a1) * M + (y - b1) * N : Nat) : Int) := j1
      have j2 : ypt σ h 33 a1 a2 b1 b2 c1 c2 k x y c1 := j2
      rw [fm_Way_paint_24]
      refine xW_be ry2 (xW_f (by omega) (xW_be rz1 ?_))
      have hxm : (x - a1) * M ≤ 6 * (6 * 4) := Nat.mul_le_mul (by omega) hbd
      have hym : (y - b1) * N ≤ 6 * 4 := Nat.mul_le_mul (by omega) hN
      refine xfor (fun n (z : Int) (e : Int × xa_H) => fm_Way_paint_39 0 p1 p2 k (x : Int) (y : Int) (fun v7 s8 => xnm (w32 ((y : Int) + 1) : Int) fun v9 => fm_Way_paint_24 0 p1 p2 k (x : Int) (fun v10 s11 => xnm (w32 ((x : Int) + 1) : Int) fun v12 => fm_Way_paint_9 0 p1 p2 k (fun v13 s14 => some (v13, s14)) fu v10 v12 s11) fu2 v7 v9 s8) n e.1 z e.2) (c2 + 1)
        (fun z e => c1 ≤ z ∧ e.1 = (((x - a1) * M + (y - b1) * N + (z - c1) : Nat) : Int) ∧ ypt σ e.2 33 a1 a2 b1 b2 c1 c2 k x y z) _ ?_ ?_ (c2 + 1 - c1) c1 xFU (cnt2, h) (by omega) (xfu_b (by omega)) ⟨Nat.le_refl _, ?_, j2⟩
      · rintro fu3 z ⟨cnt3, e⟩ hz3 ⟨l0, l1, l2⟩ ih3
        show xW (fm_Way_paint_39 0 p1 p2 k (x : Int) (y : Int) _ (fu3 + 1) cnt3 (z : Int) e) _
        have l1 : cnt3 = (((x - a1) * M + (y - b1) * N + (z - c1) : Nat) : Int) := l1
        have l2 : ypt σ e 33 a1 a2 b1 b2 c1 c2 k x y z := l2
        rw [fm_Way_paint_39]
        have h7e : e 7 0 0 = X ∧ e 7 0 1 = Y ∧ e 7 0 2 = Z := by rw [l2.1 7 (by decide)]; exact h7
        refine xW_be rz2 (xW_f (by omega) (xW_be (q_plAt hz0 h7e _ _ _) ?_))
        rw [if_pos (by omega)]
        have epl : ypl (x : Int) (y : Int) (z : Int) = ((24 * x + 4 * y + z : Nat) : Int) := by unfold ypl; omega
        rw [epl]
        refine xW_be (wr33 (by omega)) (xW_nm (xW_nm ?_))
        rw [l1, w32_s (j := z) (by omega), w32_s (j := (x - a1) * M + (y - b1) * N + (z - c1)) (by omega)]
        refine ih3 (_, _) ⟨by omega, ?_, ypt_s (by omega) (by omega) (by omega) l2⟩
        show (((x - a1) * M + (y - b1) * N + (z - c1) + 1 : Nat) : Int) = _
        omega
      · rintro fu3 ⟨cnt3, e⟩ ⟨l0, l1, l2⟩
        show xW (fm_Way_paint_39 0 p1 p2 k (x : Int) (y : Int) _ (fu3 + 1) cnt3 ((c2 + 1 : Nat) : Int) e) _
        have l1 : cnt3 = (((x - a1) * M + (y - b1) * N + (c2 + 1 - c1) : Nat) : Int) := l1
        rw [fm_Way_paint_39]
        refine xW_be rz2 (xW_t (by omega) (xW_nm ?_))
        rw [w32_s (j := y) (by omega)]
        refine ih2 (cnt3, e) ⟨by omega, ?_, ypt_y l2⟩
        show cnt3 = _
        rw [l1, hNe]
        have : (y + 1 - b1) * N = (y - b1) * N + N := by
          rw [show y + 1 - b1 = (y - b1) + 1 by omega, Nat.succ_mul]
        omega
      · show cnt2 = _
        rw [j1]
        omega
    · rintro fu2 ⟨cnt2, h⟩ ⟨j0, j1, j2⟩
      show xW (fm_Way_paint_24 0 p1 p2 k (x : Int) _ (fu2 + 1) cnt2 ((b2 + 1 : Nat) : Int) h) _
      have j1 : cnt2 = (((x - a1) * M + (b2 + 1 - b1) * N : Nat) : Int) := j1
      rw [fm_Way_paint_24]
      refine xW_be ry2 (xW_t (by omega) (xW_nm ?_))
      rw [w32_s (j := x) (by omega)]
      refine ih (cnt2, h) ⟨by omega, ?_, ypt_x j2⟩
      show cnt2 = _
      rw [j1, hM]
      have : (x + 1 - a1) * M = (x - a1) * M + M := by
        rw [show x + 1 - a1 = (x - a1) + 1 by omega, Nat.succ_mul]
      omega
    · show cnt = _
      rw [i1]
      have : (b1 - b1) * N = 0 := by rw [Nat.sub_self, Nat.zero_mul]
      omega
  · rintro fu ⟨cnt, g⟩ ⟨i0, i1, i2⟩
    show xW (fm_Way_paint_9 0 p1 p2 k (fun v13 s14 => some (v13, s14)) (fu + 1) cnt ((a2 + 1 : Nat) : Int) g) _
    rw [fm_Way_paint_9]
    exact xW_be rx2 (xW_t (by omega) (xW_some ⟨i1, i2⟩))
  · show (0 : Int) = _
    have : (a1 - a1) * M = 0 := by rw [Nat.sub_self, Nat.zero_mul]
    omega
  · obtain ⟨u, v⟩ := hh
    unfold ybox at u
    unfold ylex at v
    omega
/-- the reference fills -/
theorem q_Mfill {n1 n2 : Int} (hn1 : 0 ≤ n1) (hn2 : 0 ≤ n2) (e1 : n1 / 100 = (a1 : Int) ∧ n1 / 10 % 10 = (b1 : Int) ∧ n1 % 10 = (c1 : Int)) (e2 : n2 / 100 = (a2 : Int) ∧ n2 / 10 % 10 = (b2 : Int) ∧ n2 % 10 = (c2 : Int))
    (ha : a1 ≤ a2 ∧ a2 ≤ 5) (hb : b1 ≤ b2 ∧ b2 ≤ 5) (hc : c1 ≤ c2 ∧ c2 ≤ 3) :
    xW (fm_M_fill_81 n1 n2 k (fun v12 s13 => some (v12, s13)) xFU 0 (a1 : Int) σ) fun r => r.1 = (((a2 + 1 - a1) * ((b2 + 1 - b1) * (c2 + 1 - c1)) : Nat) : Int) ∧ ypt σ r.2 53 a1 a2 b1 b2 c1 c2 k (a2 + 1) b1 c1 := by
  have tn : ∀ j : Nat, ((j : Int)).toNat = j := fun j => rfl
  have rx2 : xdiv n2 100 = (a2 : Int) := by rw [xdiv_p hn2]; exact e2.1
  have ry2 : xrem (xdiv n2 10) 10 = (b2 : Int) := by rw [xdiv_p hn2, xrem_p (by omega)]; exact e2.2.1
  have rz2 : xrem n2 10 = (c2 : Int) := by rw [xrem_p hn2]; exact e2.2.2
  have ry1 : xrem (xdiv n1 10) 10 = (b1 : Int) := by rw [xdiv_p hn1, xrem_p (by omega)]; exact e1.2.1
  have rz1 : xrem n1 10 = (c1 : Int) := by rw [xrem_p hn1]; exact e1.2.2
  have hbd : (b2 + 1 - b1) * (c2 + 1 - c1) ≤ 6 * 4 := Nat.mul_le_mul (by omega) (by omega)
  generalize hM : (b2 + 1 - b1) * (c2 + 1 - c1) = M at hbd ⊢
  have hN : c2 + 1 - c1 ≤ 4 := by omega
  generalize hNe : c2 + 1 - c1 = N at hM hN
  refine xfor (fun n (x : Int) (g : Int × xa_H) => fm_M_fill_81 n1 n2 k (fun v12 s13 => some (v12, s13)) n g.1 x g.2) (a2 + 1)
    (fun x g => a1 ≤ x ∧ g.1 = (((x - a1) * M : Nat) : Int) ∧ ypt σ g.2 53 a1 a2 b1 b2 c1 c2 k x b1 c1) _ ?_ ?_ (a2 + 1 - a1) a1 xFU (0, σ) (by omega) (xfu_b (by omega)) ⟨Nat.le_refl _, ?_, fun _ _ => rfl, fun _ _ => rfl, fun q hq => ⟨fun hh => ?_, fun _ => rfl⟩⟩
  · rintro fu x ⟨cnt, g⟩ hx ⟨i0, i1, i2⟩ ih
    show xW (fm_M_fill_81 n1 n2 k (fun v12 s13 => some (v12, s13)) (fu + 1) cnt (x : Int) g) _
    have i1 : cnt = (((x - a1) * M : Nat) : Int) := i1
    have i2 : ypt σ g 53 a1 a2 b1 b2 c1 c2 k x b1 c1 := i2
    rw [fm_M_fill_81, rx2, ry1]
    refine xW_f (by omega) (xW_nm ?_)
    refine xfor (fun n (y : Int) (h : Int × xa_H) => fm_M_fill_99 n1 n2 k (x : Int) (fun v9 s10 => xnm (w32 ((x : Int) + 1) : Int) fun v11 => fm_M_fill_81 n1 n2 k (fun v12 s13 => some (v12, s13)) fu v9 v11 s10) n h.1 y h.2) (b2 + 1)
      (fun y h => b1 ≤ y ∧ h.1 = (((x - a1) * M + (y - b1) * N : Nat) : Int) ∧ ypt σ h.2 53 a1 a2 b1 b2 c1 c2 k x y c1) _ ?_ ?_ (b2 + 1 - b1) b1 xFU (cnt, g) (by omega) (xfu_b (by omega)) ⟨Nat.le_refl _, ?_, i2⟩
    · rintro fu2 y ⟨cnt2, h⟩ hy ⟨j0, j1, j2⟩ ih2
      show xW (fm_M_fill_99 n1 n2 k (x : Int) _ (fu2 + 1) cnt2 (y : Int) h) _
      have j1 : cnt2 = (((x - a1) * M + (y - b1) * N : Nat) : Int) := j1
      have j2 : ypt σ h 53 a1 a2 b1 b2 c1 c2 k x y c1 := j2
      rw [fm_M_fill_99, ry2, rz1]
      refine xW_f (by omega) (xW_nm ?_)
      have hxm : (x - a1) * M ≤ 6 * (6 * 4) := Nat.mul_le_mul (by omega) hbd
      have hym : (y - b1) * N ≤ 6 * 4 := Nat.mul_le_mul (by omega) hN
      refine xfor (fun n (z : Int) (e : Int × xa_H) => fm_M_fill_117 n1 n2 k (x : Int) (y : Int) (fun v6 s7 => xnm (w32 ((y : Int) + 1) : Int) fun v8 => fm_M_fill_99 n1 n2 k (x : Int) (fun v9 s10 => xnm (w32 ((x : Int) + 1) : Int) fun v11 => fm_M_fill_81 n1 n2 k (fun v12 s13 => some (v12, s13)) fu v9 v11 s10) fu2 v6 v8 s7) n e.1 z e.2) (c2 + 1)
        (fun z e => c1 ≤ z ∧ e.1 = (((x - a1) * M + (y - b1) * N + (z - c1) : Nat) : Int) ∧ ypt σ e.2 53 a1 a2 b1 b2 c1 c2 k x y z) _ ?_ ?_ (c2 + 1 - c1) c1 xFU (cnt2, h) (by omega) (xfu_b (by omega)) ⟨Nat.le_refl _, ?_, j2⟩
      · rintro fu3 z ⟨cnt3, e⟩ hz3 ⟨l0, l1, l2⟩ ih3
        show xW (fm_M_fill_117 n1 n2 k (x : Int) (y : Int) _ (fu3 + 1) cnt3 (z : Int) e) _
        have l1 : cnt3 = (((x - a1) * M + (y - b1) * N + (z - c1) : Nat) : Int) := l1
        have l2 : ypt σ e 53 a1 a2 b1 b2 c1 c2 k x y z := l2
        rw [fm_M_fill_117, rz2]
        refine xW_f (by omega) (xW_be (q_at (by omega) (by omega) (by omega)) ?_)
        have epl : 24 * (x : Int) + 4 * (y : Int) + (z : Int) = ((24 * x + 4 * y + z : Nat) : Int) := by omega
        rw [epl, tn]
        refine xW_t ⟨by omega, by omega⟩ (xW_nm (xW_nm (xW_nm ?_)))
        rw [l1, w32_s (j := z) (by omega), w32_s (j := (x - a1) * M + (y - b1) * N + (z - c1)) (by omega)]
        refine ih3 (_, _) ⟨by omega, ?_, ypt_s (by omega) (by omega) (by omega) l2⟩
        show (((x - a1) * M + (y - b1) * N + (z - c1) + 1 : Nat) : Int) = _
        omega
      · rintro fu3 ⟨cnt3, e⟩ ⟨l0, l1, l2⟩
        show xW (fm_M_fill_117 n1 n2 k (x : Int) (y : Int) _ (fu3 + 1) cnt3 ((c2 + 1 : Nat) : Int) e) _
        have l1 : cnt3 = (((x - a1) * M + (y - b1) * N + (c2 + 1 - c1) : Nat) : Int) := l1
        rw [fm_M_fill_117, rz2]
        refine xW_t (by omega) (xW_nm ?_)
        rw [w32_s (j := y) (by omega)]
        refine ih2 (cnt3, e) ⟨by omega, ?_, ypt_y l2⟩
        show cnt3 = _
        rw [l1, hNe]
        have : (y + 1 - b1) * N = (y - b1) * N + N := by
          rw [show y + 1 - b1 = (y - b1) + 1 by omega, Nat.succ_mul]
        omega
      · show cnt2 = _
        rw [j1]
        omega
    · rintro fu2 ⟨cnt2, h⟩ ⟨j0, j1, j2⟩
      show xW (fm_M_fill_99 n1 n2 k (x : Int) _ (fu2 + 1) cnt2 ((b2 + 1 : Nat) : Int) h) _
      have j1 : cnt2 = (((x - a1) * M + (b2 + 1 - b1) * N : Nat) : Int) := j1
      rw [fm_M_fill_99, ry2]
      refine xW_t (by omega) (xW_nm ?_)
      rw [w32_s (j := x) (by omega)]
      refine ih (cnt2, h) ⟨by omega, ?_, ypt_x j2⟩
      show cnt2 = _
      rw [j1, hM]
      have : (x + 1 - a1) * M = (x - a1) * M + M := by
        rw [show x + 1 - a1 = (x - a1) + 1 by omega, Nat.succ_mul]
      omega
    · show cnt = _
      rw [i1]
      have : (b1 - b1) * N = 0 := by rw [Nat.sub_self, Nat.zero_mul]
      omega
  · rintro fu ⟨cnt, g⟩ ⟨i0, i1, i2⟩
    show xW (fm_M_fill_81 n1 n2 k (fun v12 s13 => some (v12, s13)) (fu + 1) cnt ((a2 + 1 : Nat) : Int) g) _
    rw [fm_M_fill_81, rx2]
    exact xW_t (by omega) (xW_some ⟨i1, i2⟩)
  · show (0 : Int) = _
    have : (a1 - a1) * M = 0 := by rw [Nat.sub_self, Nat.zero_mul]
    omega
  · obtain ⟨u, v⟩ := hh
    unfold ybox at u
    unfold ylex at v
    omega
end PA
/-- all of the box is done -/
theorem ypt_e {σ g f : xa_H} {K a1 a2 b1 b2 c1 c2 : Nat} {k : Int} (h : ypt σ g K a1 a2 b1 b2 c1 c2 k (a2 + 1) b1 c1) (hf : ∀ q, q < 144 → σ K 0 q = f 1 0 q) : ∀ q, q < 144 → g K 0 q = afl1 f a1 a2 b1 b2 c1 c2 k 1 0 q := by
  intro q hq
  obtain ⟨a, b⟩ := h.2.2 q hq
  show g K 0 q = @ite Int (ybox a1 a2 b1 b2 c1 c2 q) (Classical.propDecidable _) k (f 1 0 q)
  by_cases hb : ybox a1 a2 b1 b2 c1 c2 q
  · rw [if_pos hb]
    refine a ⟨hb, ?_⟩
    unfold ybox at hb
    unfold ylex
    omega
  · rw [if_neg hb, b (fun hc => hb hc.1)]
    exact hf q hq
theorem tn_s {u v : Int} (hu : 0 ≤ u) (huv : u ≤ v) : (v - u + 1).toNat = v.toNat + 1 - u.toNat := by omega
theorem K_fill {σ f : xa_H} (hs : yc σ f) (hv : yv f) (a b k : Int) : xW (fm_S_fill a b k σ) fun r => r.1 = (afill f a b k).1 ∧ yc r.2 (afill f a b k).2 := by
  obtain ⟨p1, p2⟩ := q_placeOf hs.1 hv a
  obtain ⟨q1, q2⟩ := q_placeOf hs.1 hv b
  have hz := hv.1.1
  unfold fm_S_fill
  by_cases hA : ycel f a
  · have hrA := ypn_r hv hA
    refine xW_be (p1 hA) ?_
    by_cases hB : ycel f b
    · have hrB := ypn_r hv hB
      refine xW_be (q1 hB) (xW_f (by omega) (xW_t hrB.1 ?_))
      rw [q_xOf hrA.1, q_xOf hrB.1, q_yOf hrA.1, q_yOf hrB.1, q_zOf hrA.1, q_zOf hrB.1, hrA.2.2.1, hrA.2.2.2.1, hrA.2.2.2.2, hrB.2.2.1, hrB.2.2.2.1, hrB.2.2.2.2]
      refine xW_be rfl (xW_be rfl (xW_j ?_))
      have hbad : ∀ v8 : Int, ¬ ((0 ≤ k ∧ k ≤ 5) ∧ a / 100 ≤ b / 100 ∧ a / 10 % 10 ≤ b / 10 % 10 ∧ a % 10 ≤ b % 10) → (v8 = 0 ∨ ¬ (0 ≤ k ∧ k ≤ 5)) → xW (if k < 0 then some ((-2), σ) else if 6 ≤ k then some ((-2), σ) else if v8 = 0 then some ((-2), σ) else (fm_S_forgetWay σ).bind fun s20 => xb2 (fm_Way_paint 0 (ypn a) (ypn b) k s20) fun v21 s22 => some (v21, s22)) fun r => r.1 = (afill f a b k).1 ∧ yc r.2 (afill f a b k).2 := by
        intro v8 hn hv8
        have eA : afill f a b k = (-2, f) := by
          unfold afill
          rw [if_pos ⟨hA, hB⟩, if_neg hn]
        rw [eA]
        by_cases d1 : k < 0
        · exact xW_t d1 (xW_some ⟨rfl, hs⟩)
        · by_cases d2 : 6 ≤ k
          · exact xW_f d1 (xW_t d2 (xW_some ⟨rfl, hs⟩))
          · exact xW_f d1 (xW_f d2 (xW_t (by omega) (xW_some ⟨rfl, hs⟩)))
      refine xW_if (fun d => hbad 0 (by omega) (Or.inl rfl)) (fun d => ?_)
      refine xW_be rfl (xW_be rfl (xW_if (fun d => hbad 0 (by omega) (Or.inl rfl)) (fun d => ?_)))
      refine xW_be rfl (xW_be rfl (xW_if (fun d => hbad 0 (by omega) (Or.inl rfl)) (fun d => ?_)))
      by_cases hk : 0 ≤ k ∧ k ≤ 5
      · have eA : afill f a b k = ((((b / 100 - a / 100 + 1).toNat * ((b / 10 % 10 - a / 10 % 10 + 1).toNat * (b % 10 - a % 10 + 1).toNat) : Nat) : Int), afl1 f (a / 100).toNat (b / 100).toNat (a / 10 % 10).toNat (b / 10 % 10).toNat (a % 10).toNat (b % 10).toNat k) := by
          unfold afill
          rw [if_pos ⟨hA, hB⟩, if_pos ⟨hk, by omega, by omega, by omega⟩]
        rw [eA]
        have hfw : fm_S_forgetWay σ = some (xup (xup σ 3 0 8 (-1)) 0 0 1 0) := rfl
        refine xW_f (by omega) (xW_f (by omega) (xW_f (by decide) (xW_be hfw ?_)))
        have hab : a / 100 ≤ b / 100 ∧ a / 10 % 10 ≤ b / 10 % 10 ∧ a % 10 ≤ b % 10 := ⟨by omega, by omega, by omega⟩
        obtain ⟨hA0, hA1⟩ := hA
        obtain ⟨hB0, hB1⟩ := hB
        unfold qin at hA1 hB1
        have x1 : (b / 100 - a / 100 + 1).toNat = (b / 100).toNat + 1 - (a / 100).toNat := tn_s hA1.1.1 hab.1
        have x2 : (b / 10 % 10 - a / 10 % 10 + 1).toNat = (b / 10 % 10).toNat + 1 - (a / 10 % 10).toNat := tn_s hA1.2.1.1 hab.2.1
        have x3 : (b % 10 - a % 10 + 1).toNat = (b % 10).toNat + 1 - (a % 10).toNat := tn_s hA1.2.2.1 hab.2.2
        unfold qsz at hz
        have eP1 : ypn a = ((24 * (a / 100).toNat + 4 * (a / 10 % 10).toNat + (a % 10).toNat : Nat) : Int) := by unfold ypn; omega
        have eP2 : ypn b = ((24 * (b / 100).toNat + 4 * (b / 10 % 10).toNat + (b % 10).toNat : Nat) : Int) := by unfold ypn; omega
        rw [eP1, eP2]
        have h7 : xup (xup σ 3 0 8 (-1)) 0 0 1 0 7 = σ 7 := by rw [xup_k (by decide), xup_k (by decide)]
        have hpt := q_paint (σ := xup (xup σ 3 0 8 (-1)) 0 0 1 0) (k := k) (a1 := (a / 100).toNat) (a2 := (b / 100).toNat) (b1 := (a / 10 % 10).toNat) (b2 := (b / 10 % 10).toNat) (c1 := (a % 10).toNat) (c2 := (b % 10).toNat) hv.1.1 (by rw [h7]; exact hs.1.2.1.1) (by omega) (by omega) (by omega)
        refine xW_b2 hpt ?_
        rintro v s ⟨c1, c2⟩
        have c1 : v = _ := c1
        have c2 : ypt (xup (xup σ 3 0 8 (-1)) 0 0 1 0) s 33 (a / 100).toNat (b / 100).toNat (a / 10 % 10).toNat (b / 10 % 10).toNat (a % 10).toNat (b % 10).toNat k ((b / 100).toNat + 1) (a / 10 % 10).toNat (a % 10).toNat := c2
        refine xW_some ⟨?_, ?_⟩
        · show v = _
          rw [c1]
          rw [x1, x2, x3]
        · show yc s (afl1 f (a / 100).toNat (b / 100).toNat (a / 10 % 10).toNat (b / 10 % 10).toNat (a % 10).toNat (b % 10).toNat k)
          have hke := ypt_e (f := f) c2 (fun q hq => by rw [xup_k (by decide), xup_k (by decide)]; exact hs.1.2.1.2.1 q hq)
          generalize (a / 100).toNat = a1 at c2 hke ⊢
          generalize (b / 100).toNat = a2 at c2 hke ⊢
          generalize (a / 10 % 10).toNat = b1 at c2 hke ⊢
          generalize (b / 10 % 10).toNat = b2 at c2 hke ⊢
          generalize (a % 10).toNat = cc1 at c2 hke ⊢
          generalize (b % 10).toNat = cc2 at c2 hke ⊢
          have hk' : ∀ K, ¬ K = 33 → ¬ K = 3 → ¬ K = 0 → s K = σ K := by
            intro K d1 d2 d3
            rw [c2.1 K d1, xup_k d3, xup_k d2]
          have hC : ∀ t, yC (afl1 f a1 a2 b1 b2 cc1 cc2 k) 0 t = yC f 0 t := by
            intro t
            unfold yC
            rw [afl1_k (by decide)]
          have h38 : s 3 0 8 = -1 := by rw [c2.1 3 (by decide), xup_o (by omega), xup_at]
          have h01 : s 0 0 1 = 0 := by rw [c2.1 0 (by decide), xup_at]
          refine ⟨?_, Or.inl (by rw [h38]; decide), ?_, Or.inl h01⟩
          · refine yst_up hs.1 ⟨hk' 31 (by decide) (by decide) (by decide), hk' 32 (by decide) (by decide) (by decide), hk' 19 (by decide) (by decide) (by decide)⟩ ?_ ?_ ?_ ?_ ?_ (fun K hK => afl1_k (by omega))
            · obtain ⟨e1, e2, e3, e4⟩ := hs.1.2.1
              refine ⟨?_, hke, fun t ht => ?_, ?_⟩
              · rw [hk' 7 (by decide) (by decide) (by decide), afl1_k (by decide)]; exact e1
              · have := e3 t ht
                unfold yclt at this ⊢
                rw [hk' 5 (by decide) (by decide) (by decide), hk' 30 (by decide) (by decide) (by decide), hk' 27 (by decide) (by decide) (by decide), hk' 28 (by decide) (by decide) (by decide), hk' 29 (by decide) (by decide) (by decide), hC, afl1_k (show ¬ 0 + 2 = 1 by decide), afl1_k (show ¬ 0 + 5 = 1 by decide), afl1_k (show ¬ 0 + 6 = 1 by decide)]
                exact this
              · rw [hk' 25 (by decide) (by decide) (by decide), hk' 26 (by decide) (by decide) (by decide), afl1_k (show ¬ 0 + 3 = 1 by decide), afl1_k (show ¬ 0 + 4 = 1 by decide)]; exact e4
            · intro p m hp hm
              rw [hk' 34 (by decide) (by decide) (by decide), hs.1.2.2.1 p m hp hm]
              exact (ybs_e (afl1_k (by decide))).symm
            · unfold ypd
              rw [hk' 2 (by decide) (by decide) (by decide), hk' 17 (by decide) (by decide) (by decide), afl1_k (by decide), afl1_k (by decide)]
              exact hs.1.2.2.2.1
            · intro K hK i hi1 _
              by_cases h33 : K = 33
              · rw [h33, c2.2.1 i (by omega), xup_k (by decide), xup_k (by decide)]
              · rw [hk' K h33 (by omega) (by omega)]
            · intro K hK i hi1 _
              rw [hk' K (by omega) (by omega) (by omega)]
          · unfold yfl
            rw [hk' 22 (by decide) (by decide) (by decide), hk' 23 (by decide) (by decide) (by decide), c2.1 3 (by decide), xup_k (show ¬ 3 = 0 by decide), xup_o (by omega)]
            exact hs.2.2.1
      · exact hbad 1 (fun h => hk h.1) (Or.inr hk)
    · have eA : afill f a b k = (-1, f) := if_neg (fun h => hB h.2)
      rw [eA]
      exact xW_be (q2 hB) (xW_f (by omega) (xW_f (by decide) (xW_some ⟨rfl, hs⟩)))
  · have eA : afill f a b k = (-1, f) := if_neg (fun h => hA h.1)
    rw [eA]
    have hpl : ∃ x, fm_Way_placeOf 0 b σ = some x := by
      cases Classical.em (ycel f b) with
      | inl h => exact ⟨_, q1 h⟩
      | inr h => exact ⟨_, q2 h⟩
    obtain ⟨x, hx⟩ := hpl
    exact xW_be (p2 hA) (xW_be hx (xW_t (by decide) (xW_some ⟨rfl, hs⟩)))
theorem M_fill {σ f : xa_H} (hs : ym σ f) (hv : yv f) (a b k : Int) : xW (fm_M_fill a b k σ) fun r => r.1 = (afill f a b k).1 ∧ ym r.2 (afill f a b k).2 := by
  obtain ⟨p1, p2⟩ := q_cellNo hs hv a
  obtain ⟨q1, q2⟩ := q_cellNo hs hv b
  have hz := hv.1.1
  unfold fm_M_fill
  by_cases hA : ycel f a
  · refine xW_be (p1 hA).1 (xW_f (by decide) ?_)
    by_cases hB : ycel f b
    · refine xW_be (q1 hB).1 (xW_f (by decide) (xW_be (q_in k 0 5) ?_))
      have hA0 := hA.1
      have hB0 := hB.1
      have eb1 : xdiv b 100 = b / 100 := xdiv_p hB0
      have eb2 : xrem (xdiv b 10) 10 = b / 10 % 10 := by rw [xdiv_p hB0, xrem_p (by omega)]
      have eb3 : xrem b 10 = b % 10 := xrem_p hB0
      have ea1 : xdiv a 100 = a / 100 := xdiv_p hA0
      have ea2 : xrem (xdiv a 10) 10 = a / 10 % 10 := by rw [xdiv_p hA0, xrem_p (by omega)]
      have ea3 : xrem a 10 = a % 10 := xrem_p hA0
      have hbad : ¬ ((0 ≤ k ∧ k ≤ 5) ∧ a / 100 ≤ b / 100 ∧ a / 10 % 10 ≤ b / 10 % 10 ∧ a % 10 ≤ b % 10) → xW (some ((-2 : Int), σ)) fun r => r.1 = (afill f a b k).1 ∧ ym r.2 (afill f a b k).2 := by
        intro hn
        have eA : afill f a b k = (-2, f) := by
          unfold afill
          rw [if_pos ⟨hA, hB⟩, if_neg hn]
        rw [eA]
        exact xW_some ⟨rfl, hs⟩
      rw [eb1, eb2, eb3, ea1, ea2, ea3]
      by_cases hk : 0 ≤ k ∧ k ≤ 5
      · rw [if_pos hk]
        refine xW_f (by decide) (xW_if (fun d => hbad (by omega)) (fun d1 => xW_if (fun d => hbad (by omega)) (fun d2 => xW_if (fun d3 => ?_) (fun d => hbad (by omega)))))
        have eA : afill f a b k = ((((b / 100 - a / 100 + 1).toNat * ((b / 10 % 10 - a / 10 % 10 + 1).toNat * (b % 10 - a % 10 + 1).toNat) : Nat) : Int), afl1 f (a / 100).toNat (b / 100).toNat (a / 10 % 10).toNat (b / 10 % 10).toNat (a % 10).toNat (b % 10).toNat k) := by
          unfold afill
          rw [if_pos ⟨hA, hB⟩, if_pos ⟨hk, by omega, by omega, by omega⟩]
        rw [eA]
        have hab : a / 100 ≤ b / 100 ∧ a / 10 % 10 ≤ b / 10 % 10 ∧ a % 10 ≤ b % 10 := ⟨by omega, by omega, by omega⟩
        obtain ⟨_, hA1⟩ := hA
        obtain ⟨_, hB1⟩ := hB
        unfold qin at hA1 hB1
        have x1 : (b / 100 - a / 100 + 1).toNat = (b / 100).toNat + 1 - (a / 100).toNat := tn_s hA1.1.1 hab.1
        have x2 : (b / 10 % 10 - a / 10 % 10 + 1).toNat = (b / 10 % 10).toNat + 1 - (a / 10 % 10).toNat := tn_s hA1.2.1.1 hab.2.1
        have x3 : (b % 10 - a % 10 + 1).toNat = (b % 10).toNat + 1 - (a % 10).toNat := tn_s hA1.2.2.1 hab.2.2
        unfold qsz at hz
        have hpt := q_Mfill (σ := σ) (k := k) (n1 := a) (n2 := b) (a1 := (a / 100).toNat) (a2 := (b / 100).toNat) (b1 := (a / 10 % 10).toNat) (b2 := (b / 10 % 10).toNat) (c1 := (a % 10).toNat) (c2 := (b % 10).toNat) hA0 hB0 (by omega) (by omega) (by omega) (by omega) (by omega)
        have ec : (((a / 100).toNat : Nat) : Int) = a / 100 := by omega
        rw [ec] at hpt
        refine xW_nm (xW_mono hpt ?_)
        rintro ⟨v, s⟩ ⟨c1, c2⟩
        have c1 : v = _ := c1
        have c2 : ypt σ s 53 (a / 100).toNat (b / 100).toNat (a / 10 % 10).toNat (b / 10 % 10).toNat (a % 10).toNat (b % 10).toNat k ((b / 100).toNat + 1) (a / 10 % 10).toNat (a % 10).toNat := c2
        refine ⟨?_, ?_⟩
        · show v = _
          rw [c1]
          rw [x1, x2, x3]
        · show ym s (afl1 f (a / 100).toNat (b / 100).toNat (a / 10 % 10).toNat (b / 10 % 10).toNat (a % 10).toNat (b % 10).toNat k)
          have hke := ypt_e (f := f) c2 hs.2.1.2.1
          generalize (a / 100).toNat = a1 at c2 hke ⊢
          generalize (b / 100).toNat = a2 at c2 hke ⊢
          generalize (a / 10 % 10).toNat = b1 at c2 hke ⊢
          generalize (b / 10 % 10).toNat = b2 at c2 hke ⊢
          generalize (a % 10).toNat = cc1 at c2 hke ⊢
          generalize (b % 10).toNat = cc2 at c2 hke ⊢
          have hk' := c2.1
          refine ym_up hs ⟨hk' 50 (by decide), hk' 51 (by decide), hk' 75 (by decide), hk' 76 (by decide)⟩ ?_ ?_ (fun K hK => afl1_k (by omega))
          · obtain ⟨e1, e2, e3, e4, e5, e6⟩ := hs.2.1
            refine ⟨?_, hke, ?_, ?_, ?_, ?_⟩
            · rw [hk' 9 (by decide), afl1_k (by decide)]; exact e1
            · rw [hk' 54 (by decide), hk' 62 (by decide), hk' 63 (by decide), hk' 64 (by decide), afl1_k (by decide)]; exact e3
            · rw [hk' 60 (by decide), hk' 61 (by decide), afl1_k (by decide), afl1_k (by decide)]; exact e4
            · rw [hk' 59 (by decide), afl1_k (by decide)]; exact e5
            · rw [hk' 55 (by decide), hk' 56 (by decide), hk' 57 (by decide), hk' 58 (by decide), afl1_k (by decide)]; exact e6
          · unfold ypd
            rw [hk' 9 (by decide), hk' 65 (by decide), afl1_k (by decide), afl1_k (by decide)]
            exact hs.2.2.1
      · rw [if_neg hk]
        exact xW_t rfl (hbad (fun h => hk h.1))
    · have eA : afill f a b k = (-1, f) := if_neg (fun h => hB h.2)
      rw [eA]
      exact xW_be (q2 hB) (xW_t rfl (xW_some ⟨rfl, hs⟩))
  · have eA : afill f a b k = (-1, f) := if_neg (fun h => hA h.1)
    rw [eA]
    exact xW_be (p2 hA) (xW_t rfl (xW_some ⟨rfl, hs⟩))
