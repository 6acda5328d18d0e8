/-! things among others, in the class -/
section OC
variable {σ f : xa_H} {t left : Nat}
/-- where a cube of a thing that lies is -/
noncomputable def ycu (f : xa_H) (o k : Nat) : Int := ypl (f 2 o 1 / 24 + yat (yC f 0 o) (f 2 o 0).toNat (f 2 o 2).toNat k 0) (f 2 o 1 / 4 % 6 + yat (yC f 0 o) (f 2 o 0).toNat (f 2 o 2).toNat k 1) (f 2 o 1 % 4 + yat (yC f 0 o) (f 2 o 0).toNat (f 2 o 2).toNat k 2)
/-- the places that are filled up to thing o and its cube k -/
def yfu (f : xa_H) (t left o k q : Nat) : Prop := ∃ o', o' < 4 ∧ ¬ o' = t ∧ left.testBit o' = true ∧ ∃ k', k' < (f 2 o' 0).toNat ∧ (o' < o ∨ (o' = o ∧ k' < k)) ∧ (q : Int) = ycu f o' k'
theorem yfu_0 {q : Nat} : ¬ yfu f t left 0 0 q := by
  rintro ⟨o', _, _, _, k', _, h, _⟩
  omega
theorem yfu_4 {q : Nat} : yfu f t left 4 0 q ↔ yfil f t left q := by
  constructor
  · rintro ⟨o', h1, h2, h3, k', h4, _, h5⟩
    exact ⟨o', h1, h2, h3, k', h4, h5⟩
  · rintro ⟨o', h1, h2, h3, k', h4, h5⟩
    exact ⟨o', h1, h2, h3, k', h4, Or.inl h1, h5⟩
theorem yfu_k {o k q : Nat} (ho : o < 4) (h1 : ¬ o = t) (h2 : left.testBit o = true) (hk : k < (f 2 o 0).toNat) : yfu f t left o (k + 1) q ↔ yfu f t left o k q ∨ (q : Int) = ycu f o k := by
  constructor
  · rintro ⟨o', a1, a2, a3, k', a4, a5, a6⟩
    by_cases e : o' = o ∧ k' = k
    · right
      rw [e.1, e.2] at a6
      exact a6
    · left
      exact ⟨o', a1, a2, a3, k', a4, by omega, a6⟩
  · rintro (⟨o', a1, a2, a3, k', a4, a5, a6⟩ | h)
    · exact ⟨o', a1, a2, a3, k', a4, by omega, a6⟩
    · exact ⟨o, ho, h1, h2, k, hk, by omega, h⟩
theorem yfu_n {o q : Nat} : yfu f t left o (f 2 o 0).toNat q ↔ yfu f t left (o + 1) 0 q := by
  constructor
  · rintro ⟨o', a1, a2, a3, k', a4, a5, a6⟩
    exact ⟨o', a1, a2, a3, k', a4, by omega, a6⟩
  · rintro ⟨o', a1, a2, a3, k', a4, a5, a6⟩
    refine ⟨o', a1, a2, a3, k', a4, ?_, a6⟩
    by_cases e : o' = o
    · right
      refine ⟨e, ?_⟩
      rw [← e]
      exact a4
    · left; omega
theorem yfu_s {o q : Nat} (h : o = t ∨ ¬ left.testBit o = true) : yfu f t left o 0 q ↔ yfu f t left (o + 1) 0 q := by
  constructor
  · rintro ⟨o', a1, a2, a3, k', a4, a5, a6⟩
    exact ⟨o', a1, a2, a3, k', a4, by omega, a6⟩
  · rintro ⟨o', a1, a2, a3, k', a4, a5, a6⟩
    refine ⟨o', a1, a2, a3, k', a4, ?_, a6⟩
    by_cases e : o' = o
    · rcases h with h | h
      · exact absurd (e.trans h) a2
      · rw [e] at a3; exact absurd a3 h
    · left; omega
theorem ywe_y {W : Nat → Prop} {q : Nat} (h : W q) : ywe f W q = 1 := if_pos h
theorem ywe_n {W : Nat → Prop} {q : Nat} (h : ¬ W q) : ywe f W q = f 1 0 q := if_neg h
theorem ywe_c {W W' : Nat → Prop} (h : ∀ q, W q ↔ W' q) : ywe f W = ywe f W' := by
  have : W = W' := funext (fun q => propext (h q))
  rw [this]
theorem ywe_0 {W : Nat → Prop} (h : ∀ q, ¬ W q) : ywe f W = ykd f 0 := by
  funext q
  rw [ywe_n (h q)]
  rfl
theorem ywe_v (hv : yv f) (W : Nat → Prop) : ∀ q, q < 144 → 0 ≤ ywe f W q ∧ ywe f W q ≤ 5 := by
  intro q hq
  by_cases h : W q
  · rw [ywe_y h]; omega
  · rw [ywe_n h]; exact hv.1.2.1 q hq
/-- the grid shows the way with places filled -/
def ygd (s f : xa_H) (t : Nat) (W : Nat → Prop) : Prop := ∀ x y z : Nat, x < 11 → y < 11 → z < 9 → s 18 0 ((x * 11 + y) * 9 + z) = ((ygc (ypr f 0 t (ywe f W) 0 0) (x : Int) (y : Int) (z : Int) : Nat) : Int)
theorem ygd_c {s : xa_H} {W W' : Nat → Prop} (h : ∀ q, W q ↔ W' q) (hg : ygd s f t W) : ygd s f t W' := by
  unfold ygd
  rw [← ywe_c h]
  exact hg
/-- where cubes of a thing that lies are -/
theorem ycu_r (hv : yv f) {o : Nat} (ho : o < 4) (hl : ¬ f 2 o 1 < 0) {k : Nat} (hk : k < (f 2 o 0).toNat) :
    qin (f 0 0 0) (f 0 0 1) (f 0 0 2) (f 2 o 1 / 24 + yat (yC f 0 o) (f 2 o 0).toNat (f 2 o 2).toNat k 0) (f 2 o 1 / 4 % 6 + yat (yC f 0 o) (f 2 o 0).toNat (f 2 o 2).toNat k 1) (f 2 o 1 % 4 + yat (yC f 0 o) (f 2 o 0).toNat (f 2 o 2).toNat k 2) :=
  (ystd_q hv ho hl).2.2.2.2 k hk
theorem l_wall (hs : yst σ f) (hv : yv f) {o : Nat} (ho : o < 4) (hl : ¬ f 2 o 1 < 0) (h1 : ¬ o = t) (h2 : left.testBit o = true) {K : xa_H → Option xa_H} {Q : xa_H → Prop} (hend : ∀ g, xfs [18] [] σ g → ygd g f t (yfu f t left o (f 2 o 0).toNat) → xW (K g) Q) :
    ∀ (d k fu : Nat) (g : xa_H), k + d = (f 2 o 0).toNat → d < fu → xfs [18] [] σ g → ygd g f t (yfu f t left o k) → xW (fm_Search_wall_2 o K fu (k : Int) g) Q := by
  have hyt := hs.2.1.2.2.1 o ho
  have e4 : 4 * 0 + o = o := by omega
  rw [e4] at hyt
  have htv := hv.1.2.2.1 o ho
  have hlie := (ystd_q hv ho hl).2
  have hn1 : 1 ≤ f 2 o 0 := hlie.1
  have hpr : 0 ≤ f 2 o 1 ∧ f 2 o 1 < 144 := hlie.2.1
  have hwr : 0 ≤ f 2 o 2 ∧ f 2 o 2 ≤ 23 := htv.2.2.2.2.1
  have hth := yclt_th hyt htv hn1
  obtain ⟨⟨c0, c1, c2, _⟩, _⟩ := hyt
  have c0 : σ 5 o 0 = f 2 o 0 := c0
  have c1 : σ 5 o 1 = f 2 o 1 := c1
  have c2 : σ 5 o 2 = f 2 o 2 := c2
  obtain ⟨p, hp⟩ : ∃ p : Nat, f 2 o 1 = (p : Int) := ⟨(f 2 o 1).toNat, by omega⟩
  obtain ⟨w, hw⟩ : ∃ w : Nat, f 2 o 2 = (w : Int) := ⟨(f 2 o 2).toNat, by omega⟩
  have h10 : f 2 o 0 ≤ 10 := htv.1.2
  have hsz := hv.1.1
  have hsz : qsz (f 0 0 0) (f 0 0 1) (f 0 0 2) := hsz
  unfold qsz at hsz
  intro d
  induction d with
  | zero =>
    intro k fu g hk hd hf hg
    obtain ⟨m, rfl⟩ : ∃ m, fu = m + 1 := ⟨fu - 1, by omega⟩
    have e5 : g 5 = σ 5 := hf.1 5 (by decide) (by decide)
    rw [fm_Search_wall_2, e5, c0]
    have e : k = (f 2 o 0).toNat := by omega
    rw [e] at hg
    exact xW_t (by omega) (hend g hf hg)
  | succ d ih =>
    intro k fu g hk hd hf hg
    obtain ⟨m, rfl⟩ : ∃ m, fu = m + 1 := ⟨fu - 1, by omega⟩
    have hkn : k < (f 2 o 0).toNat := by omega
    have e5 : g 5 = σ 5 := hf.1 5 (by decide) (by decide)
    have hct := yct_f hf (by decide) hs.1
    have hthg : yth g o (f 2 o 0).toNat (yC f 0 o) := by
      obtain ⟨a1, a2, a3, a4⟩ := hth
      refine ⟨a1, a2, ?_, ?_⟩
      · rw [hf.1 27 (by decide) (by decide)]; exact a3
      · rw [hf.1 29 (by decide) (by decide)]; exact a4
    have tn : ∀ j : Nat, ((j : Int)).toNat = j := fun j => rfl
    have q0 := q_along hct hthg (w := w) (by omega) hkn (a := 0) (by decide)
    have q1 := q_along hct hthg (w := w) (by omega) hkn (a := 1) (by decide)
    have q2 := q_along hct hthg (w := w) (by omega) hkn (a := 2) (by decide)
    have r0 := yat_r hth.2.1 (w := w) (by omega) hkn (a := 0) (by decide)
    have r1 := yat_r hth.2.1 (w := w) (by omega) hkn (a := 1) (by decide)
    have r2 := yat_r hth.2.1 (w := w) (by omega) hkn (a := 2) (by decide)
    have hin := ycu_r hv ho hl hkn
    have hcu : ycu f o k = ypl (f 2 o 1 / 24 + yat (yC f 0 o) (f 2 o 0).toNat (f 2 o 2).toNat k 0) (f 2 o 1 / 4 % 6 + yat (yC f 0 o) (f 2 o 0).toNat (f 2 o 2).toNat k 1) (f 2 o 1 % 4 + yat (yC f 0 o) (f 2 o 0).toNat (f 2 o 2).toNat k 2) := rfl
    have hnext : ∀ g', xfs [18] [] σ g' → ygd g' f t (yfu f t left o (k + 1)) → xW (xnm (w32 ((k : Int) + 1) : Int) fun v8 => fm_Search_wall_2 o K m v8 g') Q := by
      intro g' hf' hg'
      refine xW_nm ?_
      rw [w32_s (by omega)]
      exact ih (k + 1) m g' (by omega) (by omega) hf' hg'
    rw [hw, tn, hp] at hin hcu
    rw [fm_Search_wall_2, e5, c0, c1, c2, hw, hp]
    generalize yat (yC f 0 o) (f 2 o 0).toNat w k 0 = a at q0 r0 hin hcu ⊢
    generalize yat (yC f 0 o) (f 2 o 0).toNat w k 1 = b at q1 r1 hin hcu ⊢
    generalize yat (yC f 0 o) (f 2 o 0).toNat w k 2 = c at q2 r2 hin hcu ⊢
    have hp144 : p < 144 := by omega
    have ex : (p : Int) / 24 = ((p / 24 : Nat) : Int) := by omega
    have ey : (p : Int) / 4 % 6 = ((p / 4 % 6 : Nat) : Int) := by omega
    have ez : (p : Int) % 4 = ((p % 4 : Nat) : Int) := by omega
    rw [ex, ey, ez] at hin hcu
    have hs19 := hct.2.2.1 p hp144
    have hidx := ygi_s (x := ((p / 24 : Nat) : Int)) (y := ((p / 4 % 6 : Nat) : Int)) (z := ((p % 4 : Nat) : Int)) (a := a) (b := b) (c := c) (by omega) (by omega) (by omega) (by omega) (by omega) (by omega)
    obtain ⟨X, hX⟩ : ∃ X : Nat, ((p / 24 : Nat) : Int) + a = (X : Int) := ⟨(((p / 24 : Nat) : Int) + a).toNat, by omega⟩
    obtain ⟨Y, hY⟩ : ∃ Y : Nat, ((p / 4 % 6 : Nat) : Int) + b = (Y : Int) := ⟨(((p / 4 % 6 : Nat) : Int) + b).toNat, by omega⟩
    obtain ⟨Z, hZ⟩ : ∃ Z : Nat, ((p % 4 : Nat) : Int) + c = (Z : Int) := ⟨(((p % 4 : Nat) : Int) + c).toNat, by omega⟩
    rw [hX, hY, hZ] at hin hcu hidx
    rw [tn, tn, tn] at hidx
    unfold qin at hin
    have hi : (X * 11 + Y) * 9 + Z < 1089 := by omega
    refine xW_f (by omega) (xW_be q0 (xW_be q1 (xW_be q2 (xW_be (q_gridAt (by omega) (by omega) (by omega)) (xW_be (rd19 hp144) ?_)))))
    rw [hs19, hidx]
    refine xW_be (wr18 hi) ?_
    refine hnext _ (xfs_t hf (xfs_up (by decide) (by decide))) (fun x y z hx hy hz => ?_)
    have hgo := hg x y z hx hy hz
    by_cases hxyz : x = X ∧ y = Y ∧ z = Z
    · obtain ⟨rfl, rfl, rfl⟩ := hxyz
      rw [xup_at]
      unfold ygc
      rw [if_pos (show (0 ≤ (x : Int) ∧ (x : Int) < ypr f 0 t (ywe f (yfu f t left o (k + 1))) 0 0 0 0 0) ∧ (0 ≤ (y : Int) ∧ (y : Int) < ypr f 0 t (ywe f (yfu f t left o (k + 1))) 0 0 0 0 1) ∧ (0 ≤ (z : Int) ∧ (z : Int) < ypr f 0 t (ywe f (yfu f t left o (k + 1))) 0 0 0 0 2) from hin)]
      have h1q : ypr f 0 t (ywe f (yfu f t left o (k + 1))) 0 0 1 0 (ypl (x : Int) (y : Int) (z : Int)).toNat = 1 := by
        refine ywe_y ((yfu_k ho h1 h2 hkn).mpr (Or.inr ?_))
        rw [hcu]
        have : 0 ≤ ypl (x : Int) (y : Int) (z : Int) := by unfold ypl; omega
        omega
      rw [h1q]
      rfl
    · rw [xup_o (fun q => hxyz (ygi_inj hy hz (by omega) (by omega) q.2.2)), hgo]
      unfold ygc
      by_cases hc : (0 ≤ (x : Int) ∧ (x : Int) < f 0 0 0) ∧ (0 ≤ (y : Int) ∧ (y : Int) < f 0 0 1) ∧ (0 ≤ (z : Int) ∧ (z : Int) < f 0 0 2)
      · rw [if_pos (show (0 ≤ (x : Int) ∧ (x : Int) < ypr f 0 t (ywe f (yfu f t left o (k + 1))) 0 0 0 0 0) ∧ (0 ≤ (y : Int) ∧ (y : Int) < ypr f 0 t (ywe f (yfu f t left o (k + 1))) 0 0 0 0 1) ∧ (0 ≤ (z : Int) ∧ (z : Int) < ypr f 0 t (ywe f (yfu f t left o (k + 1))) 0 0 0 0 2) from hc),
          if_pos (show (0 ≤ (x : Int) ∧ (x : Int) < ypr f 0 t (ywe f (yfu f t left o k)) 0 0 0 0 0) ∧ (0 ≤ (y : Int) ∧ (y : Int) < ypr f 0 t (ywe f (yfu f t left o k)) 0 0 0 0 1) ∧ (0 ≤ (z : Int) ∧ (z : Int) < ypr f 0 t (ywe f (yfu f t left o k)) 0 0 0 0 2) from hc)]
        have hwe : ywe f (yfu f t left o (k + 1)) (ypl (x : Int) (y : Int) (z : Int)).toNat = ywe f (yfu f t left o k) (ypl (x : Int) (y : Int) (z : Int)).toNat := by
          by_cases hW : yfu f t left o k (ypl (x : Int) (y : Int) (z : Int)).toNat
          · rw [ywe_y hW, ywe_y ((yfu_k ho h1 h2 hkn).mpr (Or.inl hW))]
          · rw [ywe_n hW, ywe_n]
            intro hW'
            rcases (yfu_k ho h1 h2 hkn).mp hW' with h | h
            · exact hW h
            · rw [hcu] at h
              unfold ypl at h
              refine hxyz ?_
              omega
        show ((yh (ywe f (yfu f t left o k) (ypl (x : Int) (y : Int) (z : Int)).toNat) : Nat) : Int) = ((yh (ywe f (yfu f t left o (k + 1)) (ypl (x : Int) (y : Int) (z : Int)).toNat) : Nat) : Int)
        rw [hwe]
      · rw [if_neg (show ¬ ((0 ≤ (x : Int) ∧ (x : Int) < ypr f 0 t (ywe f (yfu f t left o (k + 1))) 0 0 0 0 0) ∧ (0 ≤ (y : Int) ∧ (y : Int) < ypr f 0 t (ywe f (yfu f t left o (k + 1))) 0 0 0 0 1) ∧ (0 ≤ (z : Int) ∧ (z : Int) < ypr f 0 t (ywe f (yfu f t left o (k + 1))) 0 0 0 0 2)) from hc),
          if_neg (show ¬ ((0 ≤ (x : Int) ∧ (x : Int) < ypr f 0 t (ywe f (yfu f t left o k)) 0 0 0 0 0) ∧ (0 ≤ (y : Int) ∧ (y : Int) < ypr f 0 t (ywe f (yfu f t left o k)) 0 0 0 0 1) ∧ (0 ≤ (z : Int) ∧ (z : Int) < ypr f 0 t (ywe f (yfu f t left o k)) 0 0 0 0 2)) from hc)]
theorem q_wall (hs : yst σ f) (hv : yv f) {o : Nat} (ho : o < 4) (hl : ¬ f 2 o 1 < 0) (h1 : ¬ o = t) (h2 : left.testBit o = true) (hg : ygd σ f t (yfu f t left o 0)) : xW (fm_Search_wall o σ) fun g => xfs [18] [] σ g ∧ ygd g f t (yfu f t left (o + 1) 0) := by
  unfold fm_Search_wall
  have h10 : f 2 o 0 ≤ 10 := (hv.1.2.2.1 o ho).1.2
  exact l_wall hs hv ho hl h1 h2 (fun g a1 a2 => xW_some ⟨a1, ygd_c (fun q => yfu_n) a2⟩) (f 2 o 0).toNat 0 xFU σ (by omega) (xfu_b (by omega)) (xfs_r _ _ _) hg
/-- all that lie, of a set -/
def yalo (f : xa_H) (left : Nat) : Prop := left < 16 ∧ ∀ o, o < 4 → left.testBit o = true → ¬ f 2 o 1 < 0
theorem q_goesAmongC (hs : yst σ f) (hv : yv f) (hf : yfl σ) (ht : t < 4) (hl : yalo f left) (htl : left.testBit t = true) :
    xW (fm_S_goesAmong (t : Int) (left : Int) σ) fun r => yst r.2 f ∧ yfl r.2 ∧ xfs [18, 20, 21, 22, 23] [8, 9, 10] σ r.2 ∧ ((r.1 = 1 ∧ yga f t left) ∨ (r.1 = 0 ∧ ¬ yga f t left)) := by
  have hlt := hl.2 t ht htl
  obtain ⟨hq, hlie⟩ := ystd_q hv ht hlt
  have hn1 : 1 ≤ f 2 t 0 := hlie.1
  have hthv := hv.1.2.2.1 t ht
  have tn : ∀ j : Nat, ((j : Int)).toNat = j := fun j => rfl
  have e4 : 4 * 0 + t = t := by omega
  unfold fm_S_goesAmong
  refine xW_f (by omega) (xW_f (by omega) (xW_t ⟨by omega, by omega⟩ ?_))
  have hfo : fm_Search_forget σ = some (xup σ 3 0 8 (-1)) := rfl
  refine xW_be hfo ?_
  have f1 : xfs [] [8] σ (xup σ 3 0 8 (-1)) := xfs_u3 (by decide)
  have h38 : xup σ 3 0 8 (-1) 3 0 8 < 0 := by rw [xup_at]; decide
  generalize xup σ 3 0 8 (-1) = s1 at f1 h38 ⊢
  have hs1 := yst_f (xfc_s f1 (by intro K hK; exact absurd hK List.not_mem_nil)) hs
  rw [tn, e4]
  refine xW_bind (q_about hs1 hv (Or.inl h38) ht hn1) ?_
  rintro s2 ⟨f2, b1, b2, b3, b5⟩
  have hs2 := yst_f (xfc_s f2 (by decide)) hs1
  have h21 := b5 h38
  have hg0 : ygd s2 f t (yfu f t left 0 0) := by
    unfold ygd
    rw [ywe_0 (fun q => yfu_0)]
    exact b1.2.1
  have f12 : xfs [18, 20, 21] [8] σ s2 := xfs_t (xfs_m f1 (by decide) (by decide)) f2
  have hf2 : yfl s2 := yfl_f f12 (by decide) (by decide) hf
  have hend : ∀ g, xfs [18] [] s2 g → ygd g f t (yfu f t left 4 0) → xW ((fm_Search_off 0 0 g).bind fun s22 =>
          (fm_Thing_stand t s22).bind fun v23 =>
          xb2 (fm_Search_flood v23 (s22 5 t 3) s22) fun v24 s25 =>
          if v24 < 0 then some ((0 : Int), s25) else some ((1 : Int), s25)) fun r => yst r.2 f ∧ yfl r.2 ∧ xfs [18, 20, 21, 22, 23] [8, 9, 10] σ r.2 ∧ ((r.1 = 1 ∧ yga f t left) ∨ (r.1 = 0 ∧ ¬ yga f t left)) := by
    intro g fg hg
    have hg4 : ygd g f t (yfil f t left) := ygd_c (fun q => yfu_4) hg
    have hP := ypr_v (b := 0) hv.1 ht hn1 (ywe_v hv (yfil f t left)) (A := 0) (D := 0) (by decide) (by decide)
    have hoff : xW (fm_Search_off 0 0 g) fun σ' => xfs [] [9] g σ' ∧ σ' 3 0 9 = ((yhn 0 0 5 : Nat) : Int) := q_off (A := 0) (D := 0) (by decide) (by decide) g
    refine xW_bind hoff ?_
    rintro s3 ⟨f3, b4⟩
    have f23 : xfs [18] [9] s2 s3 := xfs_t (xfs_m fg (by decide) (by decide)) (xfs_m f3 (by decide) (by decide))
    have hs3 := yst_f (xfc_s f23 (by decide)) hs2
    have hyt := hs3.2.1.2.2.1 t ht
    rw [e4] at hyt
    have h53 : s3 5 t 3 = f 2 t 3 := hyt.1.2.2.2
    have hsc3 : ysc s3 (ypr f 0 t (ywe f (yfil f t left)) 0 0) := by
      obtain ⟨⟨i, k1, k2, k3⟩, _, k5⟩ := b1
      refine ⟨⟨i, ?_, ?_, ?_⟩, ?_, ?_⟩
      · rw [f23.2 0 8 (by decide)]; exact k1
      · rw [f23.1 5 (by decide) (by decide)]; exact k2
      · rw [f23.1 28 (by decide) (by decide)]; exact k3
      · rw [f3.1 18 (by decide) (by decide)]; exact hg4
      · rw [f23.1 20 (by decide) (by decide)]; exact k5
    have hhc3 : yhc s3 (ypr f 0 t (ywe f (yfil f t left)) 0 0) := yhc_1 (fun c hc => by rw [f23.1 21 (by decide) (by decide)]; exact h21 c hc)
    have hb3 : s3 3 0 9 = ((yhd (ypr f 0 t (ywe f (yfil f t left)) 0 0) : Nat) : Int) := b4
    have hf3 : yfl s3 := yfl_f f23 (by decide) (by decide) hf2
    refine xW_be (q_stand hs3 hv ht hlt) ?_
    rw [h53]
    have hcell : ycell (ypr f 0 t (ywe f (yfil f t left)) 0 0) (ystd f 0 t) := ystd_c hlie hthv.2.2.2.2.1
    refine xW_b2 (q_flood hs3.1 hP hsc3 hhc3 hb3 (yst_wy hs3) hf3 hcell (f 2 t 3)) ?_
    rintro v s4 ⟨c1, c2, c3, c4⟩
    have c1 : xfs [21, 22, 23] [10] s3 s4 := c1
    have c3 : yfl s4 := c3
    have fall : xfs [18, 20, 21, 22, 23] [8, 9, 10] σ s4 := xfs_t (xfs_m f12 (by decide) (by decide)) (xfs_t (xfs_m f23 (by decide) (by decide)) (xfs_m c1 (by decide) (by decide)))
    have hs4 := yst_f (xfc_s c1 (by decide)) hs3
    unfold yga
    rcases c4 with ⟨d1, d2, _⟩ | ⟨n, q, row, h, d1, d2, d3, d4, d5, _⟩
    · have d1 : v = -6 := d1
      refine xW_t (by omega) (xW_some ⟨hs4, c3, fall, Or.inr ⟨rfl, ?_⟩⟩)
      rintro ⟨L, e, q1, q2⟩
      exact d2 L e q1 q2
    · have d3 : v = (q h : Int) := d3
      exact xW_f (by omega) (xW_some ⟨hs4, c3, fall, Or.inl ⟨rfl, row h, q h, d5, d4⟩⟩)
  have key : ∀ (d x fu : Nat) (g : xa_H), x + d = 4 → d < fu → xfs [18] [] s2 g → ygd g f t (yfu f t left x 0) → xW (fm_S_goesAmong_33 t (t : Int) (left : Int) (fun s21 => (fm_Search_off 0 0 s21).bind fun s22 =>
          (fm_Thing_stand t s22).bind fun v23 =>
          xb2 (fm_Search_flood v23 (s22 5 t 3) s22) fun v24 s25 =>
          if v24 < 0 then some ((0 : Int), s25) else some ((1 : Int), s25)) fu (x : Int) g) fun r => yst r.2 f ∧ yfl r.2 ∧ xfs [18, 20, 21, 22, 23] [8, 9, 10] σ r.2 ∧ ((r.1 = 1 ∧ yga f t left) ∨ (r.1 = 0 ∧ ¬ yga f t left)) := by
    intro d
    induction d with
    | zero =>
      intro x fu g hx hd fg hg
      obtain ⟨m, rfl⟩ : ∃ m, fu = m + 1 := ⟨fu - 1, by omega⟩
      rw [fm_S_goesAmong_33]
      have e : x = 4 := by omega
      rw [e] at hg
      exact xW_t (by omega) (hend g fg hg)
    | succ d ih =>
      intro x fu g hx hd fg hg
      obtain ⟨m, rfl⟩ : ∃ m, fu = m + 1 := ⟨fu - 1, by omega⟩
      have hx4 : x < 4 := by omega
      have hl16 := hl.1
      rw [fm_S_goesAmong_33]
      refine xW_f (by omega) (xW_f (by omega) (xW_f (by omega) (xW_t ⟨by omega, by omega⟩ ?_)))
      by_cases hxt : x = t
      · refine xW_t (by omega) (xW_nm ?_)
        rw [w32_s (by omega)]
        exact ih (x + 1) m g (by omega) (by omega) fg (ygd_c (fun q => yfu_s (Or.inl hxt)) hg)
      · refine xW_f (by omega) (xW_be (q_has (by omega) (by omega)) ?_)
        by_cases hb : left.testBit x = true
        · rw [if_pos hb, tn, show 4 * 0 + x = x by omega]
          refine xW_f (by decide) (xW_bind (q_wall (yst_f (xfc_s fg (by decide)) hs2) hv hx4 (hl.2 x hx4 hb) hxt hb hg) ?_)
          rintro s19 ⟨f19, g19⟩
          refine xW_nm ?_
          rw [w32_s (by omega)]
          exact ih (x + 1) m s19 (by omega) (by omega) (xfs_t fg f19) g19
        · rw [if_neg hb]
          refine xW_t rfl (xW_nm ?_)
          rw [w32_s (by omega)]
          exact ih (x + 1) m g (by omega) (by omega) fg (ygd_c (fun q => yfu_s (Or.inr hb)) hg)
  exact key 4 0 xFU s2 (by omega) (xfu_b (by omega)) (xfs_r _ _ _) hg0
end OC
