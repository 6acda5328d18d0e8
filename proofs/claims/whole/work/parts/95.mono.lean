/-! whether it goes: on both sides, and what is off more -/
def yprt (f : xa_H) (t b : Nat) : Prop := ∃ k, k < (f 2 t 0).toNat ∧ f 6 (10 * t + k) 3 = (b : Int)
def ydrs (f : xa_H) (b : Nat) : Prop := ∃ q, q < 144 ∧ f 1 0 q = (b : Int) + 2
section MN
variable {σ f : xa_H} {t : Nat}
theorem ygw_mono (hv : yv f) (ht : t < 4) {A A' D D' : Nat} (hA : ∀ b, b < 4 → yprt f t b → A.testBit b = true → A'.testBit b = true) (hD : ∀ b, b < 4 → ydrs f b → D.testBit b = true → D'.testBit b = true) (h : ygw f t A D) : ygw f t A' D' := by
  have hz := hv.1.1
  have htv := hv.1.2.2.1 t ht
  have tn : ∀ j : Nat, ((j : Int)).toNat = j := fun j => rfl
  obtain ⟨L, e, h1, h2⟩ := h
  have hnx : ynx (ypr f 0 t (ykd f 0) (A : Int) (D : Int)) = ynx (ypr f 0 t (ykd f 0) (A' : Int) (D' : Int)) := rfl
  rw [hnx] at h1
  refine ⟨L, e, ygo_mono (fun u hu => ?_) h1, h2⟩
  obtain ⟨u1, u2, u3⟩ := hu
  refine ⟨u1, u2, fun k hk hon => ?_⟩
  have hk' : k < (f 2 t 0).toNat := hk
  have hon' : yon (ypr f 0 t (ykd f 0) (A : Int) (D : Int)) k := by
    have hon : (if f 6 (10 * t + k) 3 < 0 then 0 else f 6 (10 * t + k) 3 + 1) = 0 ∨ A'.testBit ((if f 6 (10 * t + k) 3 < 0 then 0 else f 6 (10 * t + k) 3 + 1).toNat - 1) = false := hon
    show (if f 6 (10 * t + k) 3 < 0 then 0 else f 6 (10 * t + k) 3 + 1) = 0 ∨ A.testBit ((if f 6 (10 * t + k) 3 < 0 then 0 else f 6 (10 * t + k) 3 + 1).toNat - 1) = false
    have hr : f 6 (10 * t + k) 3 = -6 ∨ (0 ≤ f 6 (10 * t + k) 3 ∧ f 6 (10 * t + k) 3 ≤ 3) := htv.2.2.1 k hk'
    by_cases hn : f 6 (10 * t + k) 3 < 0
    · rw [if_pos hn]; exact Or.inl rfl
    · rw [if_neg hn] at hon ⊢
      right
      have eb : (f 6 (10 * t + k) 3 + 1).toNat - 1 = (f 6 (10 * t + k) 3).toNat := by omega
      rw [eb] at hon ⊢
      rcases hon with h | h
      · omega
      · cases hx : A.testBit (f 6 (10 * t + k) 3).toNat with
        | false => rfl
        | true =>
          have := hA (f 6 (10 * t + k) 3).toNat (by omega) ⟨k, hk', by omega⟩ hx
          rw [h] at this
          exact absurd this (by decide)
  obtain ⟨w1, w2⟩ := u3 k hk hon'
  refine ⟨w1, ?_⟩
  have w1' : qin (f 0 0 0) (f 0 0 1) (f 0 0 2) (yX u + yp (ypr f 0 t (ykd f 0) (A : Int) (D : Int)) (u % 24) k 0) (yY u + yp (ypr f 0 t (ykd f 0) (A : Int) (D : Int)) (u % 24) k 1) (yZ u + yp (ypr f 0 t (ykd f 0) (A : Int) (D : Int)) (u % 24) k 2) := w1
  show yopn (ypr f 0 t (ykd f 0) (A' : Int) (D' : Int)) (ypl (yX u + yp (ypr f 0 t (ykd f 0) (A : Int) (D : Int)) (u % 24) k 0) (yY u + yp (ypr f 0 t (ykd f 0) (A : Int) (D : Int)) (u % 24) k 1) (yZ u + yp (ypr f 0 t (ykd f 0) (A : Int) (D : Int)) (u % 24) k 2))
  generalize yX u + yp (ypr f 0 t (ykd f 0) (A : Int) (D : Int)) (u % 24) k 0 = a at w1' w2 ⊢
  generalize yY u + yp (ypr f 0 t (ykd f 0) (A : Int) (D : Int)) (u % 24) k 1 = b at w1' w2 ⊢
  generalize yZ u + yp (ypr f 0 t (ykd f 0) (A : Int) (D : Int)) (u % 24) k 2 = c at w1' w2 ⊢
  unfold qin at w1'
  unfold qsz at hz
  have hq : (ypl a b c).toNat < 144 := by unfold ypl; omega
  have w2 : f 1 0 (ypl a b c).toNat = 0 ∨ (2 ≤ f 1 0 (ypl a b c).toNat ∧ D.testBit ((f 1 0 (ypl a b c).toNat).toNat - 2) = true) := w2
  show f 1 0 (ypl a b c).toNat = 0 ∨ (2 ≤ f 1 0 (ypl a b c).toNat ∧ D'.testBit ((f 1 0 (ypl a b c).toNat).toNat - 2) = true)
  have hk5 : 0 ≤ f 1 0 (ypl a b c).toNat ∧ f 1 0 (ypl a b c).toNat ≤ 5 := hv.1.2.1 _ hq
  rcases w2 with h | ⟨h3, h4⟩
  · exact Or.inl h
  · exact Or.inr ⟨h3, hD _ (by omega) ⟨(ypl a b c).toNat, hq, by omega⟩ h4⟩
/-- the reference -/
theorem q_doesGo (hs : ym σ f) (hv : yv f) (ht : t < 4) {A D : Nat} (hA : A < 16) (hD : D < 16) (hl : ¬ f 2 t 1 < 0) : xW (fm_M_doesGo (t : Int) (A : Int) (D : Int) σ) fun r => ((r.1 = 1 ∧ ygw f t A D) ∨ (r.1 = 0 ∧ ¬ ygw f t A D)) ∧ ym r.2 f := by
  obtain ⟨hq, hlie⟩ := ystd_q hv ht hl
  have hth := hv.1.2.2.1 t ht
  obtain ⟨r1, r2, r3, _⟩ := ystd_r hlie hth.2.2.2.2.1
  unfold fm_M_doesGo
  refine q_offFind hs hv ht hA hD hl (w := fun _ => 1) (fun s _ h37 => Or.inl ⟨h37, fun m => rfl⟩) (K := fun s10 v => if 0 ≤ (xcmp v 1000000000000000) then some (0, s10) else some (1, s10)) ?_
  intro s h10 hmo
  show xW (if 0 ≤ (xcmp (s 71 0 (ycr (ystd f 0 t))) 1000000000000000) then some (0, s) else some (1, s)) _
  have hlt := xcmp_lt (a := s 71 0 (ycr (ystd f 0 t))) (b := 1000000000000000)
  rcases hmo.2.2.2.2.2 (ystd f 0 t) r1 with ⟨d, k1, k2, k3⟩ | ⟨k1, k2⟩
  · obtain ⟨L, e, g1, g2, g3⟩ := k1.1
    refine xW_f ?_ (xW_some ⟨Or.inl ⟨rfl, L, e, g1, g2⟩, h10⟩)
    have := hlt.mpr (by omega)
    omega
  · refine xW_t ?_ (xW_some ⟨Or.inr ⟨rfl, ?_⟩, h10⟩)
    · have : ¬ xcmp (s 71 0 (ycr (ystd f 0 t))) 1000000000000000 < 0 := fun q => by have := hlt.mp q; omega
      omega
    · rintro ⟨L, e, q1, q2⟩
      exact k2 L e q1 q2
/-- the class -/
theorem q_goesWith (hs : yst σ f) (hv : yv f) (ht : t < 4) {set : Nat} (hset : set < 256) (hl : ¬ f 2 t 1 < 0) (hsc : ysc σ (yPl f t)) (hh : yhc σ (yPl f t)) (hfl : yfl σ) :
    xW (fm_S_goesWith t (set : Int) σ) fun r => xfs [21, 22, 23] [9, 10] σ r.2 ∧ yhc r.2 (yPl f t) ∧ yfl r.2 ∧ ((r.1 = 1 ∧ ygw f t (set / 16) (set % 16)) ∨ (r.1 = 0 ∧ ¬ ygw f t (set / 16) (set % 16))) := by
  obtain ⟨hq, hlie⟩ := ystd_q hv ht hl
  have hn1 : 1 ≤ f 2 t 0 := hlie.1
  have hth := hv.1.2.2.1 t ht
  have eA : xdiv (set : Int) 16 = ((set / 16 : Nat) : Int) := by rw [xdiv_p (by omega)]; omega
  have eD : xrem (set : Int) 16 = ((set % 16 : Nat) : Int) := by rw [xrem_p (by omega)]; omega
  unfold fm_S_goesWith ygw
  rw [eA, eD]
  have hA : set / 16 < 16 := by omega
  have hD : set % 16 < 16 := by omega
  generalize set / 16 = A at hA ⊢
  generalize set % 16 = D at hD ⊢
  have hP := ypr_v (b := 0) hv.1 ht hn1 (ykd_v hv.1) (A := (A : Int)) (D := (D : Int)) (by omega) (by omega)
  refine xW_bind (q_off hA hD σ) ?_
  rintro s1 ⟨f1, b1⟩
  have hs1 := yst_f (xfc_s f1 (by intro K hK; exact absurd hK List.not_mem_nil)) hs
  have hsc1 : ysc s1 (ypr f 0 t (ykd f 0) (A : Int) (D : Int)) := ysc_p ypr_s (ysc_f f1 (by decide) (by decide) hsc)
  have hh1 : yhc s1 (ypr f 0 t (ykd f 0) (A : Int) (D : Int)) := yhc_p ypr_s (yhc_f f1 (by decide) hh)
  have hb1 : s1 3 0 9 = ((yhd (ypr f 0 t (ykd f 0) (A : Int) (D : Int)) : Nat) : Int) := b1
  have hyt := hs1.2.1.2.2.1 t ht
  have e4 : 4 * 0 + t = t := by omega
  rw [e4] at hyt
  have h53 : s1 5 t 3 = f 2 t 3 := hyt.1.2.2.2
  refine xW_be (q_stand hs1 hv ht hl) ?_
  rw [h53]
  have hcell : ycell (ypr f 0 t (ykd f 0) (A : Int) (D : Int)) (ystd f 0 t) := ystd_c hlie hth.2.2.2.2.1
  refine xW_b2 (q_flood hs1.1 hP hsc1 hh1 hb1 (yst_wy hs1) (yfl_f f1 (by decide) (by decide) hfl) hcell (f 2 t 3)) ?_
  rintro v s4 ⟨c1, c2, c3, c4⟩
  have c1 : xfs [21, 22, 23] [10] s1 s4 := c1
  have c2 : yhc s4 (ypr f 0 t (ykd f 0) (A : Int) (D : Int)) := c2
  have c3 : yfl s4 := c3
  have f14 : xfs [21, 22, 23] [9, 10] σ s4 := xfs_t (xfs_m f1 (by decide) (by decide)) (xfs_m c1 (by decide) (by decide))
  have c2' : yhc s4 (yPl f t) := yhc_p ypr_s c2
  rcases c4 with ⟨d1, d2, _⟩ | ⟨n, q, row, h, d1, d2, d3, d4, d5, _⟩
  · have d1 : v = -6 := d1
    refine xW_t (by omega) (xW_some ⟨f14, c2', c3, Or.inr ⟨rfl, ?_⟩⟩)
    rintro ⟨L, e, q1, q2⟩
    exact d2 L e q1 q2
  · have d3 : v = (q h : Int) := d3
    exact xW_f (by omega) (xW_some ⟨f14, c2', c3, Or.inl ⟨rfl, row h, q h, d5, d4⟩⟩)
/-- parts and doors that are there -/
theorem or_bit {a b i : Nat} : (a ||| b).testBit i = (a.testBit i || b.testBit i) := Nat.testBit_or a b i
theorem one_bit {g i : Nat} : (1 <<< g).testBit i = decide (g = i) := by
  rw [Nat.one_shiftLeft, Nat.testBit_two_pow]
theorem q_partsSet (hs : yst σ f) (hv : yv f) (ht : t < 4) : ∃ S : Nat, S < 16 ∧ fm_Thing_partsSet t σ = some (S : Int) ∧ ∀ b, S.testBit b = true ↔ yprt f t b := by
  have hyt := hs.2.1.2.2.1 t ht
  have e4 : 4 * 0 + t = t := by omega
  rw [e4] at hyt
  have htv := hv.1.2.2.1 t ht
  have h50 : σ 5 t 0 = f 2 t 0 := hyt.1.1
  have h10 : 0 ≤ f 2 t 0 ∧ f 2 t 0 ≤ 10 := htv.1
  have key : ∀ (d k fu S : Nat), k + d = (f 2 t 0).toNat → d < fu → S < 16 → (∀ b, S.testBit b = true ↔ ∃ k', k' < k ∧ f 6 (10 * t + k') 3 = (b : Int)) →
      ∃ S' : Nat, S' < 16 ∧ fm_Thing_partsSet_4 t σ (fun v => some v) fu (S : Int) (k : Int) = some (S' : Int) ∧ ∀ b, S'.testBit b = true ↔ yprt f t b := by
    intro d
    induction d with
    | zero =>
      intro k fu S hk hd hS hb
      obtain ⟨m, rfl⟩ : ∃ m, fu = m + 1 := ⟨fu - 1, by omega⟩
      rw [fm_Thing_partsSet_4, h50, if_pos (by omega)]
      refine ⟨S, hS, rfl, fun b => ?_⟩
      rw [hb b]
      unfold yprt
      rw [show k = (f 2 t 0).toNat by omega]
    | succ d ih =>
      intro k fu S hk hd hS hb
      obtain ⟨m, rfl⟩ : ∃ m, fu = m + 1 := ⟨fu - 1, by omega⟩
      have hkn : k < (f 2 t 0).toNat := by omega
      have hgo : fm_Thing_groupOf t (k : Int) σ = some (σ 28 t k) := by
        unfold fm_Thing_groupOf
        rw [rd28 (by omega)]; rfl
      have h28 : σ 28 t k = if f 6 (10 * t + k) 3 < 0 then 0 else f 6 (10 * t + k) 3 + 1 := (hyt.2.2.1 k hkn).2
      have hr : f 6 (10 * t + k) 3 = -6 ∨ (0 ≤ f 6 (10 * t + k) 3 ∧ f 6 (10 * t + k) 3 ≤ 3) := htv.2.2.1 k hkn
      rw [fm_Thing_partsSet_4, h50, if_neg (by omega), hgo, Option.bind_some, h28, xnm_e, xnm_e, w32_s (by omega)]
      by_cases hn : f 6 (10 * t + k) 3 < 0
      · rw [if_pos hn]
        have e : xor2 (S : Int) (xshr (xshl 1 0) 1) = (S : Int) := by
          have e1 : xshl 1 0 = ((1 : Nat) : Int) := xshl_n (a := 1) (b := 0) (by decide) (by decide) (by decide)
          have e2 : xshr ((1 : Nat) : Int) 1 = ((0 : Nat) : Int) := xshr_n (a := 1) (b := 1) (by decide) (by decide)
          rw [e1, e2, xor2_n (by omega) (by decide), Nat.or_zero]
        rw [e]
        refine ih (k + 1) m S (by omega) (by omega) hS (fun b => ?_)
        rw [hb b]
        constructor
        · rintro ⟨k', h1, h2⟩; exact ⟨k', by omega, h2⟩
        · rintro ⟨k', h1, h2⟩
          by_cases hkk : k' = k
          · rw [hkk] at h2; omega
          · exact ⟨k', by omega, h2⟩
      · rw [if_neg hn]
        obtain ⟨g, hg⟩ : ∃ g : Nat, f 6 (10 * t + k) 3 = (g : Int) := ⟨(f 6 (10 * t + k) 3).toNat, by omega⟩
        have hg3 : g ≤ 3 := by omega
        have e : xor2 (S : Int) (xshr (xshl 1 (f 6 (10 * t + k) 3 + 1)) 1) = ((S ||| 1 <<< g : Nat) : Int) := by
          have hsm : 1 <<< (g + 1) < 2147483648 ∧ 1 <<< (g + 1) >>> 1 = 1 <<< g ∧ 1 <<< g < 2147483648 := (by decide : ∀ g, g ≤ 3 → 1 <<< (g + 1) < 2147483648 ∧ 1 <<< (g + 1) >>> 1 = 1 <<< g ∧ 1 <<< g < 2147483648) g hg3
          have e0 : f 6 (10 * t + k) 3 + 1 = ((g + 1 : Nat) : Int) := by rw [hg]; rfl
          have e1 : xshl 1 ((g + 1 : Nat) : Int) = ((1 <<< (g + 1) : Nat) : Int) := xshl_n (a := 1) (b := g + 1) (by omega) hsm.1 (by decide)
          have e2 : xshr ((1 <<< (g + 1) : Nat) : Int) 1 = ((1 <<< (g + 1) >>> 1 : Nat) : Int) := xshr_n (a := 1 <<< (g + 1)) (b := 1) (by decide) hsm.1
          rw [e0, e1, e2, hsm.2.1, xor2_n (by omega) hsm.2.2]
        rw [e]
        have hlt : S ||| 1 <<< g < 16 := Nat.or_lt_two_pow (n := 4) hS ((by decide : ∀ g, g ≤ 3 → 1 <<< g < 2 ^ 4) g hg3)
        refine ih (k + 1) m (S ||| 1 <<< g) (by omega) (by omega) hlt (fun b => ?_)
        rw [or_bit, one_bit, Bool.or_eq_true, hb b, decide_eq_true_iff]
        constructor
        · rintro (⟨k', h1, h2⟩ | h1)
          · exact ⟨k', by omega, h2⟩
          · exact ⟨k, by omega, by rw [hg, h1]⟩
        · rintro ⟨k', h1, h2⟩
          by_cases hkk : k' = k
          · rw [hkk, hg] at h2; exact Or.inr (by omega)
          · exact Or.inl ⟨k', by omega, h2⟩
  unfold fm_Thing_partsSet
  exact key (f 2 t 0).toNat 0 xFU 0 (by omega) (xfu_b (by omega)) (by decide) (fun b => ⟨fun h => by rw [Nat.zero_testBit] at h; exact absurd h (by decide), by rintro ⟨k, h, _⟩; omega⟩)
theorem q_doorsSet (hs : yst σ f) (hv : yv f) : ∃ S : Nat, S < 16 ∧ fm_Way_doorsSet 0 σ = some (S : Int) ∧ ∀ b, S.testBit b = true ↔ ydrs f b := by
  have h33 : ∀ q, q < 144 → σ 33 0 q = f 1 0 q := fun q hq => hs.2.1.2.1 q hq
  have tn : ∀ j : Nat, ((j : Int)).toNat = j := fun j => rfl
  have key : ∀ (d k fu S : Nat), k + d = 144 → d < fu → S < 16 → (∀ b, S.testBit b = true ↔ ∃ q, q < k ∧ f 1 0 q = (b : Int) + 2) →
      ∃ S' : Nat, S' < 16 ∧ fm_Way_doorsSet_4 0 σ (fun v => some v) fu (S : Int) (k : Int) = some (S' : Int) ∧ ∀ b, S'.testBit b = true ↔ ydrs f b := by
    intro d
    induction d with
    | zero =>
      intro k fu S hk hd hS hb
      obtain ⟨m, rfl⟩ : ∃ m, fu = m + 1 := ⟨fu - 1, by omega⟩
      rw [fm_Way_doorsSet_4, if_pos (by omega)]
      refine ⟨S, hS, rfl, fun b => ?_⟩
      rw [hb b]
      unfold ydrs
      rw [show k = 144 by omega]
    | succ d ih =>
      intro k fu S hk hd hS hb
      obtain ⟨m, rfl⟩ : ∃ m, fu = m + 1 := ⟨fu - 1, by omega⟩
      have hr : 0 ≤ f 1 0 k ∧ f 1 0 k ≤ 5 := hv.1.2.1 k (by omega)
      rw [fm_Way_doorsSet_4, if_neg (by omega), if_pos ⟨by omega, by omega⟩, tn, h33 k (by omega)]
      by_cases hn : f 1 0 k < 2
      · have e : xor2 (S : Int) 0 = (S : Int) := by
          have : xor2 (S : Int) ((0 : Nat) : Int) = ((S ||| 0 : Nat) : Int) := xor2_n (by omega) (by decide)
          rw [Nat.or_zero] at this
          exact this
        rw [if_pos hn, e, xnm_e, xnm_e, w32_s (by omega)]
        refine ih (k + 1) m S (by omega) (by omega) hS (fun b => ?_)
        rw [hb b]
        constructor
        · rintro ⟨k', h1, h2⟩; exact ⟨k', by omega, h2⟩
        · rintro ⟨k', h1, h2⟩
          by_cases hkk : k' = k
          · rw [hkk] at h2; omega
          · exact ⟨k', by omega, h2⟩
      · obtain ⟨g, hg⟩ : ∃ g : Nat, f 1 0 k = (g : Int) + 2 := ⟨(f 1 0 k).toNat - 2, by omega⟩
        have hg3 : g ≤ 3 := by omega
        have e : xor2 (S : Int) (xshl 1 (w32 (f 1 0 k - 2))) = ((S ||| 1 <<< g : Nat) : Int) := by
          have hsm : 1 <<< g < 2147483648 := (by decide : ∀ g, g ≤ 3 → 1 <<< g < 2147483648) g hg3
          have e0 : w32 (f 1 0 k - 2) = (g : Int) := w32_k (by omega) (by omega)
          have e1 : xshl 1 (g : Int) = ((1 <<< g : Nat) : Int) := xshl_n (a := 1) (b := g) (by omega) hsm (by decide)
          rw [e0, e1, xor2_n (by omega) hsm]
        rw [if_neg hn, if_pos ⟨by omega, by omega⟩, e, xnm_e, xnm_e, w32_s (by omega)]
        have hlt : S ||| 1 <<< g < 16 := Nat.or_lt_two_pow (n := 4) hS ((by decide : ∀ g, g ≤ 3 → 1 <<< g < 2 ^ 4) g hg3)
        refine ih (k + 1) m (S ||| 1 <<< g) (by omega) (by omega) hlt (fun b => ?_)
        rw [or_bit, one_bit, Bool.or_eq_true, hb b, decide_eq_true_iff]
        constructor
        · rintro (⟨k', h1, h2⟩ | h1)
          · exact ⟨k', by omega, h2⟩
          · exact ⟨k, by omega, by rw [hg, h1]⟩
        · rintro ⟨k', h1, h2⟩
          by_cases hkk : k' = k
          · rw [hkk, hg] at h2; exact Or.inr (by omega)
          · exact Or.inl ⟨k', by omega, h2⟩
  unfold fm_Way_doorsSet
  exact key 144 0 xFU 0 (by omega) (xfu_b (by omega)) (by decide) (fun b => ⟨fun h => by rw [Nat.zero_testBit] at h; exact absurd h (by decide), by rintro ⟨k, h, _⟩; omega⟩)
end MN
