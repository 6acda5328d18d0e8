/-! how a thing scrapes, on both sides -/
def yown (P : xa_H) (w : Nat) (x y z a b c : Int) (n : Nat) : Prop := ∃ k, k < n ∧ a = x + yp P w k 0 ∧ b = y + yp P w k 1 ∧ c = z + yp P w k 2
noncomputable def ysp (P : xa_H) (w : Nat) (x y z a b c : Int) : Nat := @ite Nat (yown P w x y z a b c (P 2 0 0).toNat) (Classical.propDecidable _) 0 (@ite Nat (yqin P a b c ∧ P 1 0 (ypl a b c).toNat = 0) (Classical.propDecidable _) 0 1)
def ydd (j : Nat) : Int × Int × Int := if j = 0 then (-1, 0, 0) else if j = 1 then (1, 0, 0) else if j = 2 then (0, -1, 0) else if j = 3 then (0, 1, 0) else (0, 0, 1)
noncomputable def yscd (P : xa_H) (w : Nat) (x y z : Int) (k : Nat) : Nat → Nat
  | 0 => 0
  | j + 1 => yscd P w x y z k j + ysp P w x y z (x + yp P w k 0 + (ydd j).1) (y + yp P w k 1 + (ydd j).2.1) (z + yp P w k 2 + (ydd j).2.2)
noncomputable def yscr (P : xa_H) (w : Nat) (x y z : Int) : Nat → Nat
  | 0 => 0
  | k + 1 => yscr P w x y z k + yscd P w x y z k 5
theorem ysp_r {P : xa_H} {w : Nat} {x y z a b c : Int} : ysp P w x y z a b c ≤ 1 := by
  unfold ysp
  by_cases h : yown P w x y z a b c (P 2 0 0).toNat
  · rw [if_pos h]; omega
  · rw [if_neg h]
    by_cases h2 : yqin P a b c ∧ P 1 0 (ypl a b c).toNat = 0
    · rw [if_pos h2]; omega
    · rw [if_neg h2]; omega
theorem yscd_r {P : xa_H} {w : Nat} {x y z : Int} {k : Nat} : ∀ {j : Nat}, yscd P w x y z k j ≤ j := by
  intro j
  induction j with
  | zero => exact Nat.le_refl _
  | succ j ih =>
    have := ysp_r (P := P) (w := w) (x := x) (y := y) (z := z) (a := x + yp P w k 0 + (ydd j).1) (b := y + yp P w k 1 + (ydd j).2.1) (c := z + yp P w k 2 + (ydd j).2.2)
    unfold yscd
    omega
theorem yscr_r {P : xa_H} {w : Nat} {x y z : Int} : ∀ {n : Nat}, yscr P w x y z n ≤ 5 * n := by
  intro n
  induction n with
  | zero => exact Nat.le_refl _
  | succ n ih =>
    have := yscd_r (P := P) (w := w) (x := x) (y := y) (z := z) (k := n) (j := 5)
    unfold yscr
    omega
theorem ysp_o {P : xa_H} {w : Nat} {x y z a b c : Int} (h : yown P w x y z a b c (P 2 0 0).toNat) : ysp P w x y z a b c = 0 := if_pos h
theorem ysp_f {P : xa_H} {w : Nat} {x y z a b c : Int} (h : ¬ yown P w x y z a b c (P 2 0 0).toNat) (h2 : yqin P a b c ∧ P 1 0 (ypl a b c).toNat = 0) : ysp P w x y z a b c = 0 := by
  unfold ysp
  rw [if_neg h, if_pos h2]
theorem ysp_w {P : xa_H} {w : Nat} {x y z a b c : Int} (h : ¬ yown P w x y z a b c (P 2 0 0).toNat) (h2 : ¬ (yqin P a b c ∧ P 1 0 (ypl a b c).toNat = 0)) : ysp P w x y z a b c = 1 := by
  unfold ysp
  rw [if_neg h, if_neg h2]
section SC
variable {P : xa_H} {w : Nat} {x y z : Int}
/-- the class looks at one face -/
theorem q_scrapesAt {σ : xa_H} {i p : Nat} (ht : yct σ) (hv : yPv P) (hw : w < 24) (hth : yth σ i (P 2 0 0).toNat (P 3)) (h5 : σ 5 i 0 = P 2 0 0 ∧ σ 5 i 1 = (p : Int) ∧ σ 5 i 2 = (w : Int)) (hp : p < 144) (hx : x = ((p / 24 : Nat) : Int) ∧ y = ((p / 4 % 6 : Nat) : Int) ∧ z = ((p % 4 : Nat) : Int))
    (h7 : σ 7 0 0 = P 0 0 0 ∧ σ 7 0 1 = P 0 0 1 ∧ σ 7 0 2 = P 0 0 2) (h33 : ∀ q, q < 144 → σ 33 0 q = P 1 0 q) (a b c : Int) : fm_S_scrapesAt i a b c σ = some ((ysp P w x y z a b c : Nat) : Int) := by
  have hn := hv.2.2.1
  have hz := hv.1
  obtain ⟨h50, h51, h52⟩ := h5
  have hend : ¬ yown P w x y z a b c (P 2 0 0).toNat → ((fm_Way_placeAt 0 a b c σ).bind fun v14 => if v14 < 0 then some 1 else (fm_Way_kindAt 0 v14 σ).bind fun v16 => if v16 = 0 then some 0 else some (1 : Int)) = some ((ysp P w x y z a b c : Nat) : Int) := by
    intro hno
    rw [q_plAt hz h7, Option.bind_some]
    by_cases hin : (0 ≤ a ∧ a < P 0 0 0) ∧ (0 ≤ b ∧ b < P 0 0 1) ∧ (0 ≤ c ∧ c < P 0 0 2)
    · rw [if_pos hin]
      have hz' := hz
      unfold qsz at hz'
      obtain ⟨q, hq⟩ : ∃ q : Nat, ypl a b c = (q : Int) := ⟨(ypl a b c).toNat, by unfold ypl; omega⟩
      have hq144 : q < 144 := by unfold ypl at hq; omega
      have hk : fm_Way_kindAt 0 (q : Int) σ = some (σ 33 0 q) := by
        unfold fm_Way_kindAt
        rw [rd33 hq144]; rfl
      have tn : ((q : Int)).toNat = q := rfl
      rw [hq, if_neg (by omega), hk, Option.bind_some, h33 q hq144]
      by_cases hf : P 1 0 q = 0
      · rw [if_pos hf, ysp_f hno ⟨hin, by rw [hq, tn]; exact hf⟩]; rfl
      · rw [if_neg hf, ysp_w hno (fun h => hf (by have := h.2; rw [hq, tn] at this; exact this))]; rfl
    · rw [if_neg hin, if_pos (by decide), ysp_w hno (fun h => hin h.1)]; rfl
  have hxo : fm_S_xOf (p : Int) = some x := by rw [q_xOf (by omega), hx.1]; congr 1
  have hyo : fm_S_yOf (p : Int) = some y := by rw [q_yOf (by omega), hx.2.1]; congr 1
  have hzo : fm_S_zOf (p : Int) = some z := by rw [q_zOf (by omega), hx.2.2]; congr 1
  have key : ∀ (d k fu : Nat), k + d = (P 2 0 0).toNat → d < fu → ¬ yown P w x y z a b c k → fm_S_scrapesAt_3 i a b c σ ((fm_Way_placeAt 0 a b c σ).bind fun v14 => if v14 < 0 then some 1 else (fm_Way_kindAt 0 v14 σ).bind fun v16 => if v16 = 0 then some 0 else some 1) fu (k : Int) = some ((ysp P w x y z a b c : Nat) : Int) := by
    intro d
    induction d with
    | zero =>
      intro k fu hk hd hno
      obtain ⟨m, rfl⟩ : ∃ m, fu = m + 1 := ⟨fu - 1, by omega⟩
      have : k = (P 2 0 0).toNat := by omega
      subst this
      rw [fm_S_scrapesAt_3, h50, if_pos (by omega)]
      exact hend hno
    | succ d ih =>
      intro k fu hk hd hno
      obtain ⟨m, rfl⟩ : ∃ m, fu = m + 1 := ⟨fu - 1, by omega⟩
      have hkn : k < (P 2 0 0).toNat := by omega
      have r0 := yp_r hv hw hkn (a := 0) (by decide)
      have r1 := yp_r hv hw hkn (a := 1) (by decide)
      have r2 := yp_r hv hw hkn (a := 2) (by decide)
      have l0 : fm_Thing_along i (w : Int) (k : Int) 0 σ = some (yp P w k 0) := q_along ht hth hw hkn (a := 0) (by decide)
      have l1 : fm_Thing_along i (w : Int) (k : Int) 1 σ = some (yp P w k 1) := q_along ht hth hw hkn (a := 1) (by decide)
      have l2 : fm_Thing_along i (w : Int) (k : Int) 2 σ = some (yp P w k 2) := q_along ht hth hw hkn (a := 2) (by decide)
      have hnext : ¬ (a = x + yp P w k 0 ∧ b = y + yp P w k 1 ∧ c = z + yp P w k 2) → fm_S_scrapesAt_3 i a b c σ ((fm_Way_placeAt 0 a b c σ).bind fun v14 => if v14 < 0 then some 1 else (fm_Way_kindAt 0 v14 σ).bind fun v16 => if v16 = 0 then some 0 else some 1) m ((k + 1 : Nat) : Int) = some ((ysp P w x y z a b c : Nat) : Int) := by
        intro hne
        refine ih (k + 1) m (by omega) (by omega) ?_
        rintro ⟨k', h1, h2⟩
        by_cases hkk : k' = k
        · rw [hkk] at h2; exact hne h2
        · exact hno ⟨k', by omega, h2⟩
      rw [fm_S_scrapesAt_3, h50, h51, h52, if_neg (by omega), hxo, Option.bind_some, l0, Option.bind_some, w32_n (x := x + yp P w k 0) (by omega) (by omega), hyo, Option.bind_some, l1, Option.bind_some, w32_n (x := y + yp P w k 1) (by omega) (by omega), hzo, Option.bind_some, l2, Option.bind_some, w32_n (x := z + yp P w k 2) (by omega) (by omega)]
      repeat rw [xnm_e]
      rw [w32_s (by omega)]
      by_cases c0 : a = x + yp P w k 0
      · rw [if_pos c0]
        by_cases c1 : b = y + yp P w k 1
        · rw [if_pos c1]
          by_cases c2 : c = z + yp P w k 2
          · rw [if_pos c2, ysp_o ⟨k, hkn, c0, c1, c2⟩]; rfl
          · rw [if_neg c2]; exact hnext (fun h => c2 h.2.2)
        · rw [if_neg c1]; exact hnext (fun h => c1 h.2.1)
      · rw [if_neg c0]; exact hnext (fun h => c0 h.1)
  unfold fm_S_scrapesAt
  exact key (P 2 0 0).toNat 0 xFU (by omega) (xfu_b (by omega)) (by rintro ⟨k, h, _⟩; omega)
theorem yscd_5 (k : Nat) : yscd P w x y z k 5 = ysp P w x y z (x + yp P w k 0 - 1) (y + yp P w k 1) (z + yp P w k 2) + ysp P w x y z (x + yp P w k 0 + 1) (y + yp P w k 1) (z + yp P w k 2) + ysp P w x y z (x + yp P w k 0) (y + yp P w k 1 - 1) (z + yp P w k 2) + ysp P w x y z (x + yp P w k 0) (y + yp P w k 1 + 1) (z + yp P w k 2) + ysp P w x y z (x + yp P w k 0) (y + yp P w k 1) (z + yp P w k 2 + 1) := by
  have e0 : ydd 0 = (-1, 0, 0) := rfl
  have e1 : ydd 1 = (1, 0, 0) := rfl
  have e2 : ydd 2 = (0, -1, 0) := rfl
  have e3 : ydd 3 = (0, 1, 0) := rfl
  have e4 : ydd 4 = (0, 0, 1) := rfl
  unfold yscd yscd yscd yscd yscd yscd
  rw [e0, e1, e2, e3, e4]
  simp only [Int.add_zero, Nat.zero_add]
  rfl
theorem q_scrapesC {σ : xa_H} {i p : Nat} (ht : yct σ) (hv : yPv P) (hw : w < 24) (hth : yth σ i (P 2 0 0).toNat (P 3)) (h5 : σ 5 i 0 = P 2 0 0 ∧ σ 5 i 1 = (p : Int) ∧ σ 5 i 2 = (w : Int)) (hp : p < 144) (hx : x = ((p / 24 : Nat) : Int) ∧ y = ((p / 4 % 6 : Nat) : Int) ∧ z = ((p % 4 : Nat) : Int))
    (h7 : σ 7 0 0 = P 0 0 0 ∧ σ 7 0 1 = P 0 0 1 ∧ σ 7 0 2 = P 0 0 2) (h33 : ∀ q, q < 144 → σ 33 0 q = P 1 0 q) : fm_S_scrapes i σ = some ((yscr P w x y z (P 2 0 0).toNat : Nat) : Int) := by
  have hn := hv.2.2.1
  have hat := q_scrapesAt ht hv hw hth h5 hp hx h7 h33
  obtain ⟨h50, h51, h52⟩ := h5
  have hxo : fm_S_xOf (p : Int) = some x := by rw [q_xOf (by omega), hx.1]; congr 1
  have hyo : fm_S_yOf (p : Int) = some y := by rw [q_yOf (by omega), hx.2.1]; congr 1
  have hzo : fm_S_zOf (p : Int) = some z := by rw [q_zOf (by omega), hx.2.2]; congr 1
  have key : ∀ (d k fu : Nat), k + d = (P 2 0 0).toNat → d < fu → fm_S_scrapes_4 i σ (fun v => some v) fu ((yscr P w x y z k : Nat) : Int) (k : Int) = some ((yscr P w x y z (P 2 0 0).toNat : Nat) : Int) := by
    intro d
    induction d with
    | zero =>
      intro k fu hk hd
      obtain ⟨m, rfl⟩ : ∃ m, fu = m + 1 := ⟨fu - 1, by omega⟩
      have : k = (P 2 0 0).toNat := by omega
      subst this
      rw [fm_S_scrapes_4, h50, if_pos (by omega)]
    | succ d ih =>
      intro k fu hk hd
      obtain ⟨m, rfl⟩ : ∃ m, fu = m + 1 := ⟨fu - 1, by omega⟩
      have hkn : k < (P 2 0 0).toNat := by omega
      have r0 := yp_r hv hw hkn (a := 0) (by decide)
      have r1 := yp_r hv hw hkn (a := 1) (by decide)
      have r2 := yp_r hv hw hkn (a := 2) (by decide)
      have l0 : fm_Thing_along i (w : Int) (k : Int) 0 σ = some (yp P w k 0) := q_along ht hth hw hkn (a := 0) (by decide)
      have l1 : fm_Thing_along i (w : Int) (k : Int) 1 σ = some (yp P w k 1) := q_along ht hth hw hkn (a := 1) (by decide)
      have l2 : fm_Thing_along i (w : Int) (k : Int) 2 σ = some (yp P w k 2) := q_along ht hth hw hkn (a := 2) (by decide)
      have hle := yscr_r (P := P) (w := w) (x := x) (y := y) (z := z) (n := k)
      rw [fm_S_scrapes_4, h50, h51, h52, if_neg (by omega), hxo, Option.bind_some, l0, Option.bind_some, xnm_e, w32_n (x := x + yp P w k 0) (by omega) (by omega), hyo, Option.bind_some, l1, Option.bind_some, xnm_e, w32_n (x := y + yp P w k 1) (by omega) (by omega), hzo, Option.bind_some, l2, Option.bind_some, xnm_e, w32_n (x := z + yp P w k 2) (by omega) (by omega),
        w32_n (x := x + yp P w k 0 - 1) (by omega) (by omega), w32_n (x := x + yp P w k 0 + 1) (by omega) (by omega), w32_n (x := y + yp P w k 1 - 1) (by omega) (by omega), w32_n (x := y + yp P w k 1 + 1) (by omega) (by omega), w32_n (x := z + yp P w k 2 + 1) (by omega) (by omega)]
      rw [hat, Option.bind_some, hat, Option.bind_some, xnm_e, hat, Option.bind_some, hat, Option.bind_some, xnm_e, hat, Option.bind_some, xnm_e, xnm_e, w32_s (j := k) (by omega)]
      have s0 := ysp_r (P := P) (w := w) (x := x) (y := y) (z := z) (a := x + yp P w k 0 - 1) (b := y + yp P w k 1) (c := z + yp P w k 2)
      have s1 := ysp_r (P := P) (w := w) (x := x) (y := y) (z := z) (a := x + yp P w k 0 + 1) (b := y + yp P w k 1) (c := z + yp P w k 2)
      have s2 := ysp_r (P := P) (w := w) (x := x) (y := y) (z := z) (a := x + yp P w k 0) (b := y + yp P w k 1 - 1) (c := z + yp P w k 2)
      have s3 := ysp_r (P := P) (w := w) (x := x) (y := y) (z := z) (a := x + yp P w k 0) (b := y + yp P w k 1 + 1) (c := z + yp P w k 2)
      have s4 := ysp_r (P := P) (w := w) (x := x) (y := y) (z := z) (a := x + yp P w k 0) (b := y + yp P w k 1) (c := z + yp P w k 2 + 1)
      have e : yscr P w x y z (k + 1) = yscr P w x y z k + yscd P w x y z k 5 := rfl
      rw [yscd_5] at e
      have hres := ih (k + 1) m (by omega) (by omega)
      rw [e] at hres
      generalize ysp P w x y z (x + yp P w k 0 - 1) (y + yp P w k 1) (z + yp P w k 2) = u0 at s0 hres ⊢
      generalize ysp P w x y z (x + yp P w k 0 + 1) (y + yp P w k 1) (z + yp P w k 2) = u1 at s1 hres ⊢
      generalize ysp P w x y z (x + yp P w k 0) (y + yp P w k 1 - 1) (z + yp P w k 2) = u2 at s2 hres ⊢
      generalize ysp P w x y z (x + yp P w k 0) (y + yp P w k 1 + 1) (z + yp P w k 2) = u3 at s3 hres ⊢
      generalize ysp P w x y z (x + yp P w k 0) (y + yp P w k 1) (z + yp P w k 2 + 1) = u4 at s4 hres ⊢
      generalize yscr P w x y z k = S at hle hres ⊢
      have ef : w32 (w32 (w32 ((S : Int) + w32 ((u0 : Int) + (u1 : Int))) + w32 ((u2 : Int) + (u3 : Int))) + (u4 : Int)) = ((S + (u0 + u1 + u2 + u3 + u4) : Nat) : Int) := by
        rw [w32_n (x := (u0 : Int) + (u1 : Int)) (by omega) (by omega), w32_n (x := (u2 : Int) + (u3 : Int)) (by omega) (by omega), w32_n (x := (S : Int) + ((u0 : Int) + (u1 : Int))) (by omega) (by omega), w32_n (x := (S : Int) + ((u0 : Int) + (u1 : Int)) + ((u2 : Int) + (u3 : Int))) (by omega) (by omega)]
        exact w32_k (by omega) (by omega)
      rw [ef]
      exact hres
  unfold fm_S_scrapes
  exact key (P 2 0 0).toNat 0 xFU (by omega) (xfu_b (by omega))
/-- the reference looks at one face -/
theorem q_isOwn {σ : xa_H} {t : Nat} (hv : yPv P) (hc : ymc σ P t) (hl : ylc σ P w) {a b c : Int} : (yown P w x y z (x + a) (y + b) (z + c) (P 2 0 0).toNat → fm_M_isOwn (t : Int) a b c σ = some 1) ∧ (¬ yown P w x y z (x + a) (y + b) (z + c) (P 2 0 0).toNat → fm_M_isOwn (t : Int) a b c σ = some 0) := by
  have hn := hv.2.2.1
  have ht5 := hc.1
  have tn : ∀ j : Nat, ((j : Int)).toNat = j := fun j => rfl
  have key : ∀ (d k fu : Nat) (v : Int), k + d = (P 2 0 0).toNat → d < fu → (v = 1 ∧ yown P w x y z (x + a) (y + b) (z + c) k) ∨ (v = 0 ∧ ¬ yown P w x y z (x + a) (y + b) (z + c) k) →
      (yown P w x y z (x + a) (y + b) (z + c) (P 2 0 0).toNat → fm_M_isOwn_6 (t : Int) a b c σ (fun v => some (v % 2)) fu v (k : Int) = some 1) ∧ (¬ yown P w x y z (x + a) (y + b) (z + c) (P 2 0 0).toNat → fm_M_isOwn_6 (t : Int) a b c σ (fun v => some (v % 2)) fu v (k : Int) = some 0) := by
    intro d
    induction d with
    | zero =>
      intro k fu v hk hd hv
      obtain ⟨m, rfl⟩ : ∃ m, fu = m + 1 := ⟨fu - 1, by omega⟩
      have : k = (P 2 0 0).toNat := by omega
      subst this
      rw [fm_M_isOwn_6, tn, if_pos ⟨by omega, by omega⟩, hc.2.1, if_pos (by omega)]
      rcases hv with ⟨h1, h2⟩ | ⟨h1, h2⟩
      · rw [h1]; exact ⟨fun _ => rfl, fun h => absurd h2 h⟩
      · rw [h1]; exact ⟨fun h => absurd h h2, fun _ => rfl⟩
    | succ d ih =>
      intro k fu v hk hd hv
      obtain ⟨m, rfl⟩ : ∃ m, fu = m + 1 := ⟨fu - 1, by omega⟩
      have hkn : k < (P 2 0 0).toNat := by omega
      obtain ⟨l0, l1, l2⟩ := hl k hkn
      have hk10 : 0 ≤ (k : Int) ∧ (k : Int) < 10 := by omega
      rw [fm_M_isOwn_6, tn, tn, if_pos ⟨by omega, by omega⟩, hc.2.1, if_neg (by omega), l0, l1, l2, if_pos hk10, if_pos hk10, if_pos hk10]
      repeat rw [xnm_e]
      rw [w32_s (by omega)]
      rcases hv with ⟨h1, h2⟩ | ⟨h1, h2⟩
      · rw [h1, if_neg (by decide)]
        obtain ⟨k', e1, e2⟩ := h2
        exact ih (k + 1) m 1 (by omega) (by omega) (Or.inl ⟨rfl, k', by omega, e2⟩)
      · rw [h1, if_pos rfl]
        have hno : ¬ (yp P w k 0 = a ∧ yp P w k 1 = b ∧ yp P w k 2 = c) → ¬ yown P w x y z (x + a) (y + b) (z + c) (k + 1) := by
          intro hne
          rintro ⟨k', e1, e2, e3, e4⟩
          by_cases hkk : k' = k
          · subst hkk
            exact hne ⟨by omega, by omega, by omega⟩
          · exact h2 ⟨k', by omega, e2, e3, e4⟩
        by_cases c0 : yp P w k 0 = a
        · rw [if_pos c0]
          by_cases c1 : yp P w k 1 = b
          · rw [if_pos c1]
            by_cases c2 : yp P w k 2 = c
            · rw [if_pos c2]
              exact ih (k + 1) m 1 (by omega) (by omega) (Or.inl ⟨rfl, k, by omega, by rw [c0], by rw [c1], by rw [c2]⟩)
            · rw [if_neg c2]
              exact ih (k + 1) m 0 (by omega) (by omega) (Or.inr ⟨rfl, hno (fun h => c2 h.2.2)⟩)
          · rw [if_neg c1]
            exact ih (k + 1) m 0 (by omega) (by omega) (Or.inr ⟨rfl, hno (fun h => c1 h.2.1)⟩)
        · rw [if_neg c0]
          exact ih (k + 1) m 0 (by omega) (by omega) (Or.inr ⟨rfl, hno (fun h => c0 h.1)⟩)
  unfold fm_M_isOwn
  exact key (P 2 0 0).toNat 0 xFU 0 (by omega) (xfu_b (by omega)) (Or.inr ⟨rfl, by rintro ⟨k, h, _⟩; omega⟩)
theorem q_against {σ : xa_H} (hv : yPv P) (hw : σ 9 0 3 = P 0 0 0 ∧ σ 9 0 4 = P 0 0 1 ∧ σ 9 0 5 = P 0 0 2) (h53 : ∀ q, q < 144 → σ 53 0 q = P 1 0 q) {a b c : Int} (h : ¬ yown P w x y z a b c (P 2 0 0).toNat) : fm_M_against a b c σ = some ((ysp P w x y z a b c : Nat) : Int) := by
  obtain ⟨e0, e1, e2⟩ := hw
  have hz := hv.1
  obtain ⟨t1, t2⟩ := q_MisCell (σ := σ) (by rw [e0, e1, e2]; exact hz) a b c
  rw [e0, e1, e2] at t1 t2
  unfold fm_M_against
  by_cases hin : yqin P a b c
  · rw [t1 hin, Option.bind_some, if_neg (by decide)]
    have hin' := hin
    unfold yqin qin at hin'
    unfold qsz at hz
    have ha : fm_M_at a b c = some (24 * a + 4 * b + c) := q_at (by omega) (by omega) (by omega)
    obtain ⟨q, hq⟩ : ∃ q : Nat, ypl a b c = (q : Int) := ⟨(ypl a b c).toNat, by unfold ypl; omega⟩
    have hq2 : 24 * a + 4 * b + c = (q : Int) := hq
    have hq144 : q < 144 := by omega
    have tn : ((q : Int)).toNat = q := rfl
    rw [ha, Option.bind_some, hq2, if_pos ⟨by omega, by omega⟩, tn, h53 q hq144]
    by_cases hf : P 1 0 q = 0
    · rw [if_pos hf, ysp_f h ⟨hin, by rw [hq, tn]; exact hf⟩]; rfl
    · rw [if_neg hf, ysp_w h (fun hh => hf (by have := hh.2; rw [hq, tn] at this; exact this))]; rfl
  · rw [t2 hin, Option.bind_some, if_pos rfl, ysp_w h (fun hh => hin hh.1)]; rfl
theorem l_scrape28 {σ : xa_H} {t k p : Nat} (hv : yPv P) (hc : ymc σ P t) (hw : w < 24) (hl : ylc σ P w) (hsz : σ 9 0 3 = P 0 0 0 ∧ σ 9 0 4 = P 0 0 1 ∧ σ 9 0 5 = P 0 0 2) (h53 : ∀ q, q < 144 → σ 53 0 q = P 1 0 q) (hk : k < (P 2 0 0).toNat) (h62 : σ 62 0 t = (p : Int)) (hp : p < 144)
    (hx : x = ((p / 24 : Nat) : Int) ∧ y = ((p / 4 % 6 : Nat) : Int) ∧ z = ((p % 4 : Nat) : Int)) {K : Int → Option (Int × xa_H)} {S : Nat} (hS : S ≤ 1000) {Q : Int × xa_H → Prop} (hK : xW (K ((S + yscd P w x y z k 5 : Nat) : Int)) Q) :
    xW (fm_M_scrapes_28 (t : Int) (k : Int) σ K xFU (S : Int) 0) Q := by
  have hn := hv.2.2.1
  have ht5 := hc.1
  have tn : ∀ j : Nat, ((j : Int)).toNat = j := fun j => rfl
  obtain ⟨l0, l1, l2⟩ := hl k hk
  have r0 := yp_r hv hw hk (a := 0) (by decide)
  have r1 := yp_r hv hw hk (a := 1) (by decide)
  have r2 := yp_r hv hw hk (a := 2) (by decide)
  have key : ∀ (d j fu : Nat), j + d = 5 → d < fu → xW (fm_M_scrapes_28 (t : Int) (k : Int) σ K fu ((S + yscd P w x y z k j : Nat) : Int) (j : Int)) Q := by
    intro d
    induction d with
    | zero =>
      intro j fu hj hd
      obtain ⟨m, rfl⟩ : ∃ m, fu = m + 1 := ⟨fu - 1, by omega⟩
      have : j = 5 := by omega
      subst this
      rw [fm_M_scrapes_28]
      exact xW_t (by omega) hK
    | succ d ih =>
      intro j fu hj hd
      obtain ⟨m, rfl⟩ : ∃ m, fu = m + 1 := ⟨fu - 1, by omega⟩
      have hle := yscd_r (P := P) (w := w) (x := x) (y := y) (z := z) (k := k) (j := j)
      have d0 : (if (j : Int) = 0 then (-1 : Int) else (if (j : Int) = 1 then 1 else 0)) = (ydd j).1 := by
        have : j = 0 ∨ j = 1 ∨ j = 2 ∨ j = 3 ∨ j = 4 := by omega
        rcases this with h | h | h | h | h <;> subst h <;> rfl
      have d1 : (if (j : Int) = 2 then (-1 : Int) else (if (j : Int) = 3 then 1 else 0)) = (ydd j).2.1 := by
        have : j = 0 ∨ j = 1 ∨ j = 2 ∨ j = 3 ∨ j = 4 := by omega
        rcases this with h | h | h | h | h <;> subst h <;> rfl
      have d2 : (if (j : Int) = 4 then (1 : Int) else 0) = (ydd j).2.2 := by
        have : j = 0 ∨ j = 1 ∨ j = 2 ∨ j = 3 ∨ j = 4 := by omega
        rcases this with h | h | h | h | h <;> subst h <;> rfl
      have dr : (-1 ≤ (ydd j).1 ∧ (ydd j).1 ≤ 1) ∧ (-1 ≤ (ydd j).2.1 ∧ (ydd j).2.1 ≤ 1) ∧ (0 ≤ (ydd j).2.2 ∧ (ydd j).2.2 ≤ 1) := by
        have : j = 0 ∨ j = 1 ∨ j = 2 ∨ j = 3 ∨ j = 4 := by omega
        rcases this with h | h | h | h | h <;> subst h <;> decide
      have hnx := ih (j + 1) m (by omega) (by omega)
      have es : yscd P w x y z k (j + 1) = yscd P w x y z k j + ysp P w x y z (x + yp P w k 0 + (ydd j).1) (y + yp P w k 1 + (ydd j).2.1) (z + yp P w k 2 + (ydd j).2.2) := rfl
      have hs1 := ysp_r (P := P) (w := w) (x := x) (y := y) (z := z) (a := x + yp P w k 0 + (ydd j).1) (b := y + yp P w k 1 + (ydd j).2.1) (c := z + yp P w k 2 + (ydd j).2.2)
      rw [es] at hnx
      have hk10 : 0 ≤ (k : Int) ∧ (k : Int) < 10 := by omega
      rw [fm_M_scrapes_28, d0, d1, d2, tn, tn, l0, l1, l2]
      generalize (ydd j).1 = u at dr hnx hs1 ⊢
      generalize (ydd j).2.1 = v at dr hnx hs1 ⊢
      generalize (ydd j).2.2 = e at dr hnx hs1 ⊢
      refine xW_f (by omega) (xW_t hk10 (xW_nm (xW_nm (xW_t hk10 (xW_nm (xW_nm (xW_t hk10 (xW_nm (xW_nm ?_)))))))))
      rw [w32_n (x := yp P w k 0 + u) (by omega) (by omega), w32_n (x := yp P w k 1 + v) (by omega) (by omega), w32_n (x := yp P w k 2 + e) (by omega) (by omega), h62]
      obtain ⟨o1, o2⟩ := q_isOwn (x := x) (y := y) (z := z) hv hc hl (a := yp P w k 0 + u) (b := yp P w k 1 + v) (c := yp P w k 2 + e)
      have ea : x + (yp P w k 0 + u) = x + yp P w k 0 + u := by omega
      have eb : y + (yp P w k 1 + v) = y + yp P w k 1 + v := by omega
      have ec : z + (yp P w k 2 + e) = z + yp P w k 2 + e := by omega
      rw [ea, eb, ec] at o1 o2
      by_cases how : yown P w x y z (x + yp P w k 0 + u) (y + yp P w k 1 + v) (z + yp P w k 2 + e) (P 2 0 0).toNat
      · rw [ysp_o how] at hnx
        refine xW_be (o1 how) (xW_f (by decide) (xW_nm (xW_nm ?_)))
        rw [w32_k (x := ((S + yscd P w x y z k j : Nat) : Int) + 0) (k := S + (yscd P w x y z k j + 0)) (by omega) (by omega), w32_s (j := j) (by omega)]
        exact hnx
      · have t5 : 0 ≤ (t : Int) ∧ (t : Int) < 5 := ⟨by omega, by omega⟩
        have ex : xdiv (p : Int) 24 = x := by rw [xdiv_p (by omega), hx.1]; omega
        have ey : xrem (xdiv (p : Int) 4) 6 = y := by rw [xdiv_p (by omega), xrem_p (by omega), hx.2.1]; omega
        have ez : xrem (p : Int) 4 = z := by rw [xrem_p (by omega), hx.2.2]; omega
        refine xW_be (o2 how) (xW_t rfl (xW_t t5 (xW_t t5 (xW_t t5 ?_))))
        rw [ex, ey, ez, w32_n (x := x + (yp P w k 0 + u)) (by omega) (by omega), w32_n (x := y + (yp P w k 1 + v)) (by omega) (by omega), w32_n (x := z + (yp P w k 2 + e)) (by omega) (by omega), ea, eb, ec]
        refine xW_be (q_against hv hsz h53 how) (xW_nm (xW_nm ?_))
        generalize ysp P w x y z (x + yp P w k 0 + u) (y + yp P w k 1 + v) (z + yp P w k 2 + e) = s1 at hs1 hnx ⊢
        rw [w32_k (x := ((S + yscd P w x y z k j : Nat) : Int) + (s1 : Int)) (k := S + (yscd P w x y z k j + s1)) (by omega) (by omega), w32_s (j := j) (by omega)]
        exact hnx
  exact key 5 0 xFU (by omega) (xfu_b (by omega))
end SC
theorem q_scrapesM {σ f : xa_H} {t : Nat} (hs : ym σ f) (hv : yv f) (ht : t < 4) (hl : ¬ f 2 t 1 < 0) : xW (fm_M_scrapes (t : Int) σ) fun r => r.1 = ((yscr (yPl f t) (f 2 t 2).toNat (f 2 t 1 / 24) (f 2 t 1 / 4 % 6) (f 2 t 1 % 4) (f 2 t 0).toNat : Nat) : Int) ∧ ym r.2 f := by
  obtain ⟨hq, hlie⟩ := ystd_q hv ht hl
  have hn1 : 1 ≤ f 2 t 0 := hlie.1
  have hP := yPl_v hv ht hn1
  have tn : ∀ j : Nat, ((j : Int)).toNat = j := fun j => rfl
  have hth := hv.1.2.2.1 t ht
  have h10 : f 2 t 0 ≤ 10 := hth.1.2
  obtain ⟨c0, c1, c2, c3⟩ := hs.2.1.2.2.1 t ht
  have h63 : σ 63 0 t = (((f 2 t 2).toNat : Nat) : Int) := by
    have h3 : 0 ≤ f 2 t 2 := hth.2.2.2.2.1.1
    omega
  have hw : (f 2 t 2).toNat < 24 := by
    have h3 : f 2 t 2 ≤ 23 := hth.2.2.2.2.1.2
    omega
  have hpl : 0 ≤ f 2 t 1 ∧ f 2 t 1 < 144 := hlie.2.1
  obtain ⟨p, hp⟩ : ∃ p : Nat, f 2 t 1 = (p : Int) := ⟨(f 2 t 1).toNat, by omega⟩
  unfold fm_M_scrapes
  rw [tn, h63]
  refine xW_t ⟨by omega, by omega⟩ (xW_bind (q_lay hs.1 hP (yrf_mc hs.2.1 hth ht) hw) ?_)
  rintro s1 ⟨a1, a2⟩
  have h1 : ym s1 f := ym_f a1 (by decide) (fun s h => absurd h List.not_mem_nil) hs
  have hmc : ymc s1 (yPl f t) t := yrf_mc h1.2.1 hth ht
  have hx : f 2 t 1 / 24 = ((p / 24 : Nat) : Int) ∧ f 2 t 1 / 4 % 6 = ((p / 4 % 6 : Nat) : Int) ∧ f 2 t 1 % 4 = ((p % 4 : Nat) : Int) := by rw [hp]; omega
  have key : ∀ (d k fu : Nat), k + d = (f 2 t 0).toNat → d < fu → xW (fm_M_scrapes_15 (t : Int) s1 (fun v => some (v, s1)) fu ((yscr (yPl f t) (f 2 t 2).toNat (f 2 t 1 / 24) (f 2 t 1 / 4 % 6) (f 2 t 1 % 4) k : Nat) : Int) (k : Int)) fun r => r.1 = ((yscr (yPl f t) (f 2 t 2).toNat (f 2 t 1 / 24) (f 2 t 1 / 4 % 6) (f 2 t 1 % 4) (f 2 t 0).toNat : Nat) : Int) ∧ ym r.2 f := by
    intro d
    induction d with
    | zero =>
      intro k fu hk hd
      obtain ⟨m, rfl⟩ : ∃ m, fu = m + 1 := ⟨fu - 1, by omega⟩
      have e54 : s1 54 0 t = f 2 t 0 := (h1.2.1.2.2.1 t ht).1
      rw [fm_M_scrapes_15, tn, e54]
      refine xW_t ⟨by omega, by omega⟩ (xW_t (by omega) (xW_some ⟨?_, h1⟩))
      have : k = (f 2 t 0).toNat := by omega
      rw [this]
    | succ d ih =>
      intro k fu hk hd
      obtain ⟨m, rfl⟩ : ∃ m, fu = m + 1 := ⟨fu - 1, by omega⟩
      have e54 : s1 54 0 t = f 2 t 0 := (h1.2.1.2.2.1 t ht).1
      have hle := yscr_r (P := yPl f t) (w := (f 2 t 2).toNat) (x := f 2 t 1 / 24) (y := f 2 t 1 / 4 % 6) (z := f 2 t 1 % 4) (n := k)
      rw [fm_M_scrapes_15, tn, e54]
      refine xW_t ⟨by omega, by omega⟩ (xW_f (by omega) (l_scrape28 (P := yPl f t) (p := p) hP hmc hw a2 h1.2.1.1 (fun q hq => h1.2.1.2.1 q hq) (by show k < (f 2 t 0).toNat; omega) (by rw [(h1.2.1.2.2.1 t ht).2.1]; exact hp) (by omega) hx (S := yscr (yPl f t) (f 2 t 2).toNat (f 2 t 1 / 24) (f 2 t 1 / 4 % 6) (f 2 t 1 % 4) k) (by omega) (xW_nm ?_)))
      rw [w32_s (by omega)]
      exact ih (k + 1) m (by omega) (by omega)
  exact key (f 2 t 0).toNat 0 xFU (by omega) (xfu_b (by omega))
