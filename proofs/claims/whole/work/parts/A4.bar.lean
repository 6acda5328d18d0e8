/-! bar, in the reference -/
section BM
variable {σ f : xa_H} {m D a : Nat}
/-- the bar as the reference keeps it -/
def yb4 (g f : xa_H) (m a : Nat) : Prop := g 54 0 4 = (m : Int) ∧ (∀ k, k < m → g 55 0 (40 + k) = (if 0 = a then (k : Int) else 0) ∧ g 56 0 (40 + k) = (if 1 = a then (k : Int) else 0) ∧ g 57 0 (40 + k) = (if 2 = a then (k : Int) else 0) ∧ g 58 0 (40 + k) = -6) ∧
  g 62 0 4 = f 2 0 1 ∧ g 63 0 4 = 0 ∧ g 64 0 4 = f 2 0 3
theorem yb4_f {g g' : xa_H} {L M : List Nat} (h : xfm L M g g') (hL : ∀ K ∈ L, K ∈ [66, 67, 68, 69, 70, 71, 72, 73, 74]) (hb : yb4 g f m a) : yb4 g' f m a := by
  have hn : ∀ K, K ∉ [66, 67, 68, 69, 70, 71, 72, 73, 74] → K ∉ L := fun K h q => h (hL K q)
  unfold yb4
  rw [h.1 54 (hn 54 (by decide)) (by decide), h.1 55 (hn 55 (by decide)) (by decide), h.1 56 (hn 56 (by decide)) (by decide), h.1 57 (hn 57 (by decide)) (by decide), h.1 58 (hn 58 (by decide)) (by decide), h.1 62 (hn 62 (by decide)) (by decide), h.1 63 (hn 63 (by decide)) (by decide), h.1 64 (hn 64 (by decide)) (by decide)]
  exact hb
theorem yb4_c {Di : Int} (hb : yb4 σ f m a) : ymc σ (ybp f m a Di) 4 := by
  obtain ⟨h1, h2, _⟩ := hb
  refine ⟨by decide, h1, fun k hk => ?_⟩
  have hk : k < m := hk
  obtain ⟨k1, k2, k3, k4⟩ := h2 k hk
  exact ⟨k1, k2, k3, Or.inl ⟨rfl, by show σ 58 0 (40 + k) < 0; rw [k4]; decide⟩⟩
/-- the cells of the bar are apart from all else -/
theorem ym_b {g : xa_H} (hs : ym σ f) (h : ∀ K i s, ¬ ((K = 54 ∨ K = 62 ∨ K = 63 ∨ K = 64) ∧ s = 4) → ¬ ((K = 55 ∨ K = 56 ∨ K = 57 ∨ K = 58) ∧ 40 ≤ s) → g K i s = σ K i s) : ym g f := by
  have hK : ∀ K, ¬ (K = 54 ∨ K = 62 ∨ K = 63 ∨ K = 64) → ¬ (K = 55 ∨ K = 56 ∨ K = 57 ∨ K = 58) → g K = σ K := by
    intro K d1 d2
    funext i s
    exact h K i s (fun q => d1 q.1) (fun q => d2 q.1)
  obtain ⟨a1, ⟨b1, b2, b3, b4, b5, b6⟩, a3, a4⟩ := hs
  refine ⟨?_, ⟨?_, ?_, fun t ht => ?_, ?_, ?_, fun t k ht hk => ?_⟩, ?_, fun n hn => ?_⟩
  · unfold ymt
    rw [hK 50 (by decide) (by decide), hK 51 (by decide) (by decide)]; exact a1
  · rw [hK 9 (by decide) (by decide)]; exact b1
  · rw [hK 53 (by decide) (by decide)]; exact b2
  · rw [h 54 0 t (by omega) (by omega), h 62 0 t (by omega) (by omega), h 63 0 t (by omega) (by omega), h 64 0 t (by omega) (by omega)]; exact b3 t ht
  · rw [hK 60 (by decide) (by decide), hK 61 (by decide) (by decide)]; exact b4
  · rw [hK 59 (by decide) (by decide)]; exact b5
  · rw [h 55 0 (10 * t + k) (by omega) (by omega), h 56 0 (10 * t + k) (by omega) (by omega), h 57 0 (10 * t + k) (by omega) (by omega), h 58 0 (10 * t + k) (by omega) (by omega)]; exact b6 t k ht hk
  · unfold ypd
    rw [hK 65 (by decide) (by decide), hK 9 (by decide) (by decide)]; exact a3
  · obtain ⟨k1, k2⟩ := a4 n hn
    rw [hK 76 (by decide) (by decide)]
    refine ⟨k1, fun h9 => ?_⟩
    have := k2 h9
    unfold ykp at this ⊢
    rw [hK 75 (by decide) (by decide)]
    exact this
theorem q_layBar (hs : ym σ f) (hm : 1 ≤ m ∧ m ≤ 6) (ha : a < 3) : xW (fm_M_layBar (m : Int) (a : Int) σ) fun g => ym g f ∧ yb4 g f m a := by
  have tn : ∀ j : Nat, ((j : Int)).toNat = j := fun j => rfl
  have e0 : (0 : Int).toNat = 0 := rfl
  have e4 : (4 : Int).toNat = 4 := rfl
  unfold fm_M_layBar
  rw [e4]
  refine xW_nm ?_
  have hfr : ∀ (K i s : Nat), ¬ ((K = 54 ∨ K = 62 ∨ K = 63 ∨ K = 64) ∧ s = 4) → ¬ ((K = 55 ∨ K = 56 ∨ K = 57 ∨ K = 58) ∧ 40 ≤ s) → xup σ 54 0 4 (m : Int) K i s = σ K i s := fun K i s d1 d2 => xup_o (by omega)
  have h54 : xup σ 54 0 4 (m : Int) 54 0 4 = (m : Int) := xup_at
  generalize xup σ 54 0 4 (m : Int) = s1 at hfr h54 ⊢
  have key : ∀ (d k fu : Nat) (g : xa_H), k + d = m → d < fu → (∀ (K i s : Nat), ¬ ((K = 54 ∨ K = 62 ∨ K = 63 ∨ K = 64) ∧ s = 4) → ¬ ((K = 55 ∨ K = 56 ∨ K = 57 ∨ K = 58) ∧ 40 ≤ s) → g K i s = σ K i s) → g 54 0 4 = (m : Int) →
      (∀ k', k' < k → g 55 0 (40 + k') = (if 0 = a then (k' : Int) else 0) ∧ g 56 0 (40 + k') = (if 1 = a then (k' : Int) else 0) ∧ g 57 0 (40 + k') = (if 2 = a then (k' : Int) else 0) ∧ g 58 0 (40 + k') = -6) →
      xW (fm_M_layBar_9 (m : Int) (a : Int) (fun s17 => xnm (xup s17 62 0 4 (s17 62 0 ((0 : Int).toNat))) fun s18 => xnm (xup s18 63 0 4 0) fun s19 => xnm (xup s19 64 0 4 (s19 64 0 ((0 : Int).toNat))) fun s20 => some s20) fu (k : Int) g) fun g => ym g f ∧ yb4 g f m a := by
    intro d
    induction d with
    | zero =>
      intro k fu g hk hd h1 h2 h3
      obtain ⟨n, rfl⟩ : ∃ n, fu = n + 1 := ⟨fu - 1, by omega⟩
      have e : k = m := by omega
      subst e
      rw [fm_M_layBar_9]
      refine xW_t (by omega) (xW_nm (xW_nm (xW_nm (xW_some ⟨ym_b hs (fun K i s d1 d2 => ?_), ?_, fun k' hk' => ?_, ?_, ?_, ?_⟩))))
      · rw [xup_o (by omega), xup_o (by omega), xup_o (by omega)]; exact h1 K i s d1 d2
      · rw [xup_o (by omega), xup_o (by omega), xup_o (by omega)]; exact h2
      · rw [xup_k (by decide), xup_k (by decide), xup_k (by decide), xup_k (by decide), xup_k (by decide), xup_k (by decide), xup_k (by decide), xup_k (by decide), xup_k (by decide), xup_k (by decide), xup_k (by decide), xup_k (by decide)]; exact h3 k' hk'
      · rw [xup_o (by omega), xup_o (by omega), xup_at, e0, h1 62 0 0 (by omega) (by omega)]
        exact (hs.2.1.2.2.1 0 (by decide)).2.1
      · rw [xup_o (by omega), xup_at]
      · rw [xup_at, e0, xup_o (by omega), xup_o (by omega), h1 64 0 0 (by omega) (by omega)]
        exact (hs.2.1.2.2.1 0 (by decide)).2.2.2
    | succ d ih =>
      intro k fu g hk hd h1 h2 h3
      obtain ⟨n, rfl⟩ : ∃ n, fu = n + 1 := ⟨fu - 1, by omega⟩
      rw [fm_M_layBar_9]
      refine xW_f (by omega) (xW_nm (xW_nm ?_))
      rw [w32_k (x := 40 + (k : Int)) (k := 40 + k) (by omega) (by omega)]
      refine xW_t ⟨by omega, by omega⟩ (xW_nm (xW_nm (xW_t ⟨by omega, by omega⟩ (xW_nm (xW_nm (xW_t ⟨by omega, by omega⟩ (xW_nm (xW_t ⟨by omega, by omega⟩ (xW_nm (xW_nm ?_))))))))))
      rw [w32_s (by omega), tn]
      refine ih (k + 1) n _ (by omega) (by omega) (fun K i s d1 d2 => ?_) ?_ (fun k' hk' => ?_)
      · rw [xup_o (by omega), xup_o (by omega), xup_o (by omega), xup_o (by omega)]; exact h1 K i s d1 d2
      · rw [xup_o (by omega), xup_o (by omega), xup_o (by omega), xup_o (by omega)]; exact h2
      · by_cases e : k' = k
        · subst e
          refine ⟨?_, ?_, ?_, ?_⟩
          · rw [xup_o (by omega), xup_o (by omega), xup_o (by omega), xup_at]
            by_cases c : 0 = a
            · rw [if_pos (by omega), if_pos c]
            · rw [if_neg (by omega), if_neg c]
          · rw [xup_o (by omega), xup_o (by omega), xup_at]
            by_cases c : 1 = a
            · rw [if_pos (by omega), if_pos c]
            · rw [if_neg (by omega), if_neg c]
          · rw [xup_o (by omega), xup_at]
            by_cases c : 2 = a
            · rw [if_pos (by omega), if_pos c]
            · rw [if_neg (by omega), if_neg c]
          · rw [xup_at]
        · obtain ⟨p1, p2, p3, p4⟩ := h3 k' (by omega)
          refine ⟨?_, ?_, ?_, ?_⟩
          · rw [xup_o (by omega), xup_o (by omega), xup_o (by omega), xup_o (by omega)]; exact p1
          · rw [xup_o (by omega), xup_o (by omega), xup_o (by omega), xup_o (by omega)]; exact p2
          · rw [xup_o (by omega), xup_o (by omega), xup_o (by omega), xup_o (by omega)]; exact p3
          · rw [xup_o (by omega), xup_o (by omega), xup_o (by omega), xup_o (by omega)]; exact p4
  exact key m 0 xFU s1 (by omega) (xfu_b (by omega)) hfr h54 (fun k' h => by omega)
theorem yb4_w (hs : ym σ f) (h23 : σ 9 0 23 = 0) (h24 : σ 9 0 24 = (D : Int)) (h69 : ∀ q, q < 144 → σ 69 0 q = 0) : ymw σ (ybp f m a (D : Int)) :=
  ⟨hs.2.1.1, ⟨h23, h24⟩, fun q hq => Or.inl ⟨h69 q hq, hs.2.1.2.1 q hq⟩⟩
theorem q_fitsBar (hs : ym σ f) (hv : yv f) (hl : ¬ f 2 0 1 < 0) (hm : 1 ≤ m ∧ m ≤ 6) (hD : D < 16) : xW (fm_M_fitsBar (m : Int) (D : Int) σ) fun r => ym r.2 f ∧ ((r.1 = 1 ∧ ∃ a, a < 3 ∧ (∀ a', a' < a → ¬ ybf0 f m a' (D : Int)) ∧ ybf0 f m a (D : Int) ∧ yb4 r.2 f m a) ∨ (r.1 = 0 ∧ ∀ a, a < 3 → ¬ ybf0 f m a (D : Int))) := by
  have hlie := (ystd_q hv (t := 0) (by decide) hl).2
  have hp : 0 ≤ f 2 0 1 ∧ f 2 0 1 < 144 := hlie.2.1
  have e0 : (0 : Int).toNat = 0 := rfl
  have key : ∀ (d x fu : Nat) (g : xa_H), x + d = 3 → d < fu → ym g f → (∀ a', a' < x → ¬ ybf0 f m a' (D : Int)) → xW (fm_M_fitsBar_2 (m : Int) (D : Int) (fun s8 => some ((0 : Int), s8)) fu (x : Int) g) fun r => ym r.2 f ∧ ((r.1 = 1 ∧ ∃ a, a < 3 ∧ (∀ a', a' < a → ¬ ybf0 f m a' (D : Int)) ∧ ybf0 f m a (D : Int) ∧ yb4 r.2 f m a) ∨ (r.1 = 0 ∧ ∀ a, a < 3 → ¬ ybf0 f m a (D : Int))) := by
    intro d
    induction d with
    | zero =>
      intro x fu g hx hd hg hn
      obtain ⟨n, rfl⟩ : ∃ n, fu = n + 1 := ⟨fu - 1, by omega⟩
      rw [fm_M_fitsBar_2]
      exact xW_t (by omega) (xW_some ⟨hg, Or.inr ⟨rfl, fun a ha => hn a (by omega)⟩⟩)
    | succ d ih =>
      intro x fu g hx hd hg hn
      obtain ⟨n, rfl⟩ : ∃ n, fu = n + 1 := ⟨fu - 1, by omega⟩
      have hx3 : x < 3 := by omega
      have hP := ybp_v (f := f) (m := m) (a := x) (D := (D : Int)) hv.1.1 hv.1.2.1 hm (by omega)
      rw [fm_M_fitsBar_2]
      refine xW_f (by omega) (xW_bind (q_layBar hg hm hx3) ?_)
      rintro s2 ⟨a1, a2⟩
      refine xW_bind (q_takeOff 0 (D : Int) s2) ?_
      rintro s3 ⟨f3, o1, o2, o3⟩
      have h3 := ym_f f3 (by decide) (by decide) a1
      have b3 := yb4_f f3 (by decide) a2
      have hw3 : ymw s3 (ybp f m x (D : Int)) := yb4_w h3 o1 o2 o3
      have h62 : s3 62 0 0 = f 2 0 1 := (h3.2.1.2.2.1 0 (by decide)).2.1
      rw [e0, h62, xdiv_p (by omega), xdiv_p (by omega), xrem_p (by omega), xrem_p (by omega)]
      have hwhy : xW (fm_M_whyAt 4 0 (f 2 0 1 / 24) (f 2 0 1 / 4 % 6) (f 2 0 1 % 4) s3) fun r => r.1 = ywn (ybp f m x (D : Int)) 0 (f 2 0 1 / 24) (f 2 0 1 / 4 % 6) (f 2 0 1 % 4) (ybp f m x (D : Int) 2 0 0).toNat ∧ xfm [66, 67, 68] [] s3 r.2 := by
        unfold fm_M_whyAt
        have hlay : xW (fm_M_layCubes 4 0 s3) fun s => xfm [66, 67, 68] [] s3 s ∧ ylc s (ybp f m x (D : Int)) 0 := q_lay (t := 4) h3.1 hP (yb4_c b3) (w := 0) (by decide)
        refine xW_bind hlay ?_
        rintro s ⟨k1, k2⟩
        exact xW_be (q_whyNot (t := 4) hP (ymc_f k1 (by decide) (yb4_c b3)) (ymw_f k1 (by decide) (by decide) hw3) (w := 0) (by decide) k2 (by omega) (by omega) (by omega)) (xW_some ⟨rfl, k1⟩)
      refine xW_b2 hwhy ?_
      rintro v s5 ⟨c1, c2⟩
      have c1 : v = ywn (ybp f m x (D : Int)) 0 (f 2 0 1 / 24) (f 2 0 1 / 4 % 6) (f 2 0 1 % 4) (ybp f m x (D : Int) 2 0 0).toNat := c1
      have c2 : xfm [66, 67, 68] [] s3 s5 := c2
      have h5 := ym_f c2 (by decide) (by decide) h3
      have b5 := yb4_f c2 (by decide) b3
      have hfit : v < 0 ↔ ybf0 f m x (D : Int) := by
        rw [c1, ywn_fit]
        unfold ybf0 yG
        have eX : yX (24 * (f 2 0 1).toNat) = f 2 0 1 / 24 := by unfold yX; omega
        have eY : yY (24 * (f 2 0 1).toNat) = f 2 0 1 / 4 % 6 := by unfold yY; omega
        have eZ : yZ (24 * (f 2 0 1).toNat) = f 2 0 1 % 4 := by unfold yZ; omega
        rw [eX, eY, eZ, show 24 * (f 2 0 1).toNat % 24 = 0 by omega]
        exact ⟨fun h => ⟨by omega, h⟩, fun h => h.2⟩
      by_cases hv0 : v < 0
      · exact xW_f (by omega) (xW_some ⟨h5, Or.inl ⟨rfl, x, hx3, hn, hfit.mp hv0, b5⟩⟩)
      · refine xW_t (by omega) (xW_nm ?_)
        rw [w32_s (by omega)]
        refine ih (x + 1) n s5 (by omega) (by omega) h5 (fun a' h => ?_)
        by_cases e : a' = x
        · rw [e]; exact fun q => hv0 (hfit.mpr q)
        · exact hn a' (by omega)
  unfold fm_M_fitsBar
  exact key 3 0 xFU σ (by omega) (xfu_b (by omega)) hs (fun a' h => by omega)
theorem q_goesBar (hs : ym σ f) (hv : yv f) (hl : ¬ f 2 0 1 < 0) (hm : 1 ≤ m ∧ m ≤ 6) (hD : D < 16) (hb : yb4 σ f m a) : xW (fm_M_doesGo 4 0 (D : Int) σ) fun r => ((r.1 = 1 ∧ ygoes (ybp f m a (D : Int)) (24 * (f 2 0 1).toNat) (f 2 0 3)) ∨ (r.1 = 0 ∧ ¬ ygoes (ybp f m a (D : Int)) (24 * (f 2 0 1).toNat) (f 2 0 3))) ∧ ym r.2 f := by
  have hlie := (ystd_q hv (t := 0) (by decide) hl).2
  have hp : 0 ≤ f 2 0 1 ∧ f 2 0 1 < 144 := hlie.2.1
  have hthv := hv.1.2.2.1 0 (by decide)
  have hg0 : 0 ≤ f 2 0 3 := hthv.2.2.2.2.2.1.1.1
  have hg1 : f 2 0 3 < 144 := hthv.2.2.2.2.2.1.1.2
  have hP := ybp_v (f := f) (m := m) (a := a) (D := (D : Int)) hv.1.1 hv.1.2.1 hm (by omega)
  have e4 : (4 : Int).toNat = 4 := rfl
  have tn : ∀ j : Nat, ((j : Int)).toNat = j := fun j => rfl
  unfold fm_M_doesGo
  refine xW_bind (q_takeOff 0 (D : Int) σ) ?_
  rintro s3 ⟨f3, o1, o2, o3⟩
  have h3 := ym_f f3 (by decide) (by decide) hs
  have b3 := yb4_f f3 (by decide) hb
  refine xW_nm ?_
  have f9 : xfm [] [37] s3 (xup s3 9 0 37 0) := xfm_u9 (by decide)
  have k37 : xup s3 9 0 37 0 9 0 37 = 0 := xup_at
  have w9 : ymw (xup s3 9 0 37 0) (ybp f m a (D : Int)) := ymw_f f9 (by decide) (by decide) (yb4_w h3 o1 o2 o3)
  generalize xup s3 9 0 37 0 = s9 at f9 k37 w9 ⊢
  have h9 : ym s9 f := ym_f f9 (by intro K hK; exact absurd hK List.not_mem_nil) (by decide) h3
  have b9 : yb4 s9 f m a := yb4_f f9 (by intro K hK; exact absurd hK List.not_mem_nil) b3
  have k9 : ymk s9 (ycn (ybp f m a (D : Int))) (fun _ => 1) := Or.inl ⟨k37, fun _ => rfl⟩
  have h64 : s9 64 0 4 = (((f 2 0 3).toNat : Nat) : Int) := by
    have := b9.2.2.2.2
    omega
  rw [e4, h64]
  have hfo : xW (fm_M_findOff 4 (((f 2 0 3).toNat : Nat) : Int) s9) fun s => xfm [66, 67, 68, 70, 71, 72, 73] [26, 27, 28, 29, 36] s9 s ∧ ymf s (ybp f m a (D : Int)) ∧ yoff (ybp f m a (D : Int)) (ygl (f 2 0 3)) (fun _ => 1) (s 71 0) ∧ s 9 0 36 = ((ycn (ybp f m a (D : Int)) : Nat) : Int) := by
    refine q_findOff (t := 4) (gl := ygl (f 2 0 3)) (w := fun _ => 1) h9.1 hP (yb4_c b9) w9 k9 ?_
    intro c
    unfold ygl
    omega
  refine xW_t (by decide) (xW_bind hfo ?_)
  rintro s10 ⟨d1, d2, d3, d4⟩
  have h10 := ym_f d1 (by decide) (by decide) h9
  have b10 := yb4_f d1 (by decide) b9
  have hc0 : 24 * (f 2 0 1).toNat < 3456 := by omega
  have hst : fm_M_standOf 4 s10 = some ((ycr (24 * (f 2 0 1).toNat) : Nat) : Int) := q_Mstand (t := 4) (by decide) hc0 (by have := b10.2.2.1; omega) (by have := b10.2.2.2.1; omega)
  have hr := (ycr_r hc0).1
  have hlt2 := xcmp_lt (a := s10 71 0 (ycr (24 * (f 2 0 1).toNat))) (b := 1000000000000000)
  refine xW_be hst (xW_t ⟨by omega, by omega⟩ ?_)
  rw [tn]
  rcases d3 (24 * (f 2 0 1).toNat) hc0 with ⟨d, k1, k2, k3⟩ | ⟨k1, k2⟩
  · obtain ⟨L, e, g1, g2, g3⟩ := k1.1
    refine xW_f ?_ (xW_some ⟨Or.inl ⟨rfl, L, e, g1, g2⟩, h10⟩)
    have := hlt2.mpr (by omega)
    omega
  · refine xW_t ?_ (xW_some ⟨Or.inr ⟨rfl, ?_⟩, h10⟩)
    · have : ¬ xcmp (s10 71 0 (ycr (24 * (f 2 0 1).toNat))) 1000000000000000 < 0 := fun q => by have := hlt2.mp q; omega
      omega
    · rintro ⟨L, e, q1, q2⟩
      exact k2 L e q1 q2
theorem M_bar (hs : ym σ f) (hv : yv f) (D : Int) : xW (fm_M_bar D σ) fun r => r.1 = abar f D ∧ ym r.2 f := by
  unfold fm_M_bar
  refine xW_be (q_isSetM D) ?_
  by_cases h2 : 0 ≤ D ∧ D ≤ 15
  · rw [if_pos h2]
    obtain ⟨d, hu⟩ : ∃ u : Nat, D = (u : Int) := ⟨D.toNat, by omega⟩
    subst hu
    have hd16 : d < 16 := by omega
    have h62 : σ 62 0 0 = f 2 0 1 := (hs.2.1.2.2.1 0 (by decide)).2.1
    have e0 : (0 : Int).toNat = 0 := rfl
    rw [e0, h62]
    refine xW_f (by decide) ?_
    by_cases hl : f 2 0 1 < 0
    · have eA : abar f (d : Int) = -3 := by unfold abar; rw [if_pos h2, if_pos hl]
      rw [eA]
      exact xW_f (by omega) (xW_some ⟨rfl, hs⟩)
    · have eA : abar f (d : Int) = yba f d := by unfold abar; rw [if_pos h2, if_neg hl]; rfl
      rw [eA]
      refine xW_t (by omega) ?_
      have key : ∀ (m fu : Nat) (g : xa_H), m < fu → m ≤ 6 → ym g f → (∀ m', m < m' → m' ≤ 6 → ¬ ybg f m' d) → xW (fm_M_bar_25 (d : Int) (fun s10 => some ((-6), s10)) fu (m : Int) g) fun r => r.1 = yba f d ∧ ym r.2 f := by
        intro m
        induction m with
        | zero =>
          intro fu g hfu _ hg hno
          obtain ⟨n, rfl⟩ : ∃ n, fu = n + 1 := ⟨fu - 1, by omega⟩
          have hb : ybl f d 0 := ⟨by decide, hno, Or.inl rfl⟩
          rw [fm_M_bar_25, yba_1 hb]
          exact xW_t (by decide) (xW_some ⟨rfl, hg⟩)
        | succ m ih =>
          intro fu g hfu hm6 hg hno
          obtain ⟨n, rfl⟩ : ∃ n, fu = n + 1 := ⟨fu - 1, by omega⟩
          have hnext : ∀ s, ym s f → ¬ ybg f (m + 1) d → xW (xnm (w32 (((m + 1 : Nat) : Int) + (-1)) : Int) fun v5 => fm_M_bar_25 (d : Int) (fun s10 => some ((-6), s10)) n v5 s) fun r => r.1 = yba f d ∧ ym r.2 f := by
            intro s hs' hnb
            refine xW_nm ?_
            rw [w32_k (x := ((m + 1 : Nat) : Int) + (-1)) (k := m) (by omega) (by omega)]
            refine ih n s (by omega) (by omega) hs' (fun m' h h6 => ?_)
            by_cases e : m' = m + 1
            · rw [e]; exact hnb
            · exact hno m' (by omega) h6
          rw [fm_M_bar_25]
          refine xW_f (by omega) (xW_b2 (q_fitsBar hg hv hl ⟨by omega, hm6⟩ hd16) ?_)
          rintro v s3 ⟨a1, a2⟩
          have a1 : ym s3 f := a1
          rcases a2 with ⟨a2, a, c1, c2, c3, c4⟩ | ⟨a2, a3⟩
          · have a2 : v = 1 := a2
            have c4 : yb4 s3 f (m + 1) a := c4
            refine xW_f (by omega) (xW_b2 (q_goesBar a1 hv hl ⟨by omega, hm6⟩ hd16 c4) ?_)
            rintro v6 s7 ⟨d1, d2⟩
            have d2 : ym s7 f := d2
            rcases d1 with ⟨d1, d3⟩ | ⟨d1, d3⟩
            · have d1 : v6 = 1 := d1
              have hb : ybl f d (m + 1) := ⟨hm6, hno, Or.inr ⟨a, c1, c2, c3, d3⟩⟩
              refine xW_f (by omega) (xW_some ⟨?_, d2⟩)
              rw [yba_1 hb]
              exact (if_neg (by omega)).symm
            · have d1 : v6 = 0 := d1
              refine xW_t d1 (hnext s7 d2 ?_)
              rintro ⟨a', p1, p2, p3, p4⟩
              have e : a' = a := by
                by_cases h : a' < a
                · exact absurd p3 (c2 a' h)
                · by_cases h' : a < a'
                  · exact absurd c3 (p2 a h')
                  · omega
              subst e
              exact d3 p4
          · have a2 : v = 0 := a2
            refine xW_t a2 (hnext s3 a1 ?_)
            rintro ⟨a', p1, p2, p3, p4⟩
            exact a3 a' p1 p3
      exact key 6 xFU σ (xfu_b (by omega)) (by decide) hs (fun m' h h6 => by omega)
  · have eA : abar f D = -2 := if_neg h2
    rw [eA, if_neg h2]
    exact xW_t rfl (xW_some ⟨rfl, hs⟩)
end BM
