/-! images of the reference -/
def ypv (V : Nat → Int) (f : xa_H) (b : Nat) : Prop := (∀ a, a < 3 → V a = f b 0 a) ∧ (∀ q, q < 144 → V (3 + q) = f (b + 1) 0 q) ∧
  (∀ t, t < 4 → (∀ j, j < 4 → V (147 + 6 * t + j) = f (b + 2) t j) ∧ V (147 + 6 * t + 4) = f (b + 3) 0 t ∧ V (147 + 6 * t + 5) = f (b + 4) 0 t) ∧
  (∀ k a, k < 40 → a < 4 → V (171 + 4 * k + a) = f (b + 6) k a) ∧ ∀ t i, t < 4 → i < 4 → V (331 + 4 * t + i) = f (b + 5) t i
theorem ypv_c {V V' : Nat → Int} {f : xa_H} {b : Nat} (h : ∀ j, j < 347 → V j = V' j) (hv : ypv V f b) : ypv V' f b := by
  obtain ⟨h1, h2, h3, h4, h5⟩ := hv
  refine ⟨fun a ha => by rw [← h a (by omega)]; exact h1 a ha, fun q hq => by rw [← h _ (by omega)]; exact h2 q hq, fun t ht => ?_, fun k a hk ha => by rw [← h _ (by omega)]; exact h4 k a hk ha, fun t i ht hi => by rw [← h _ (by omega)]; exact h5 t i ht hi⟩
  obtain ⟨d1, d2, d3⟩ := h3 t ht
  exact ⟨fun j hj => by rw [← h _ (by omega)]; exact d1 j hj, by rw [← h _ (by omega)]; exact d2, by rw [← h _ (by omega)]; exact d3⟩
theorem ypv_s {V : Nat → Int} {f f' : xa_H} {b b' : Nat} (h : ysh f f' b b') (hv : ypv V f b) : ypv V f' b' := by
  have h0 : f' b' = f b := h 0 (by decide)
  unfold ypv
  rw [h0, h 1 (by decide), h 2 (by decide), h 3 (by decide), h 4 (by decide), h 5 (by decide), h 6 (by decide)]
  exact hv
theorem ypv_kp {g f : xa_H} {n b : Nat} : ypv (fun j => g 75 0 (420 * n + j)) f b ↔ ykp g n f b := by
  unfold ypv ykp
  simp only [Nat.add_assoc]
theorem ypv_rf {g f : xa_H} : ypv (fun j => g (ycl1 j) 0 (ycl2 j)) f 0 ↔ yrf g f := by
  constructor
  · rintro ⟨h1, h2, h3, h4, h5⟩
    refine ⟨⟨?_, ?_, ?_⟩, fun q hq => ?_, fun t ht => ?_, fun t ht => ?_, fun t i ht hi => ?_, fun t k ht hk => ?_⟩
    · exact h1 0 (by decide)
    · exact h1 1 (by decide)
    · exact h1 2 (by decide)
    · have := h2 q hq
      simp only [(ycl_53 q hq).1, (ycl_53 q hq).2] at this
      exact this
    · obtain ⟨d1, d2, d3⟩ := h3 t ht
      obtain ⟨⟨a1, a2⟩, ⟨b1, b2⟩, ⟨c1, c2⟩, ⟨e1, e2⟩, _⟩ := ycl_t t ht
      have k0 := d1 0 (by decide)
      have k1 := d1 1 (by decide)
      have k2 := d1 2 (by decide)
      have k3 := d1 3 (by decide)
      simp only [Nat.add_zero, a1, a2] at k0
      simp only [b1, b2] at k1
      simp only [c1, c2] at k2
      simp only [e1, e2] at k3
      exact ⟨k0, k1, k2, k3⟩
    · obtain ⟨d1, d2, d3⟩ := h3 t ht
      obtain ⟨_, _, _, _, ⟨a1, a2⟩, ⟨b1, b2⟩⟩ := ycl_t t ht
      simp only [a1, a2] at d2
      simp only [b1, b2] at d3
      exact ⟨d2, d3⟩
    · have := h5 t i ht hi
      obtain ⟨e1, e2⟩ := ycl_59 (4 * t + i) (by omega)
      rw [show 331 + 4 * t + i = 331 + (4 * t + i) by omega] at this
      simp only [e1, e2] at this
      exact this
    · obtain ⟨⟨a1, a2⟩, ⟨b1, b2⟩, ⟨c1, c2⟩, ⟨e1, e2⟩⟩ := ycl_k (10 * t + k) (by omega)
      have k0 := h4 (10 * t + k) 0 (by omega) (by decide)
      have k1 := h4 (10 * t + k) 1 (by omega) (by decide)
      have k2 := h4 (10 * t + k) 2 (by omega) (by decide)
      have k3 := h4 (10 * t + k) 3 (by omega) (by decide)
      simp only [Nat.add_zero, a1, a2] at k0
      simp only [b1, b2] at k1
      simp only [c1, c2] at k2
      simp only [e1, e2] at k3
      exact ⟨k0, k1, k2, k3⟩
  · rintro ⟨⟨h1, h1', h1''⟩, h2, h3, h4, h5, h6⟩
    refine ⟨fun a ha => ?_, fun q hq => ?_, fun t ht => ⟨fun j hj => ?_, ?_, ?_⟩, fun k a hk ha => ?_, fun t i ht hi => ?_⟩
    · have : a = 0 ∨ a = 1 ∨ a = 2 := by omega
      rcases this with h | h | h <;> subst h
      · exact h1
      · exact h1'
      · exact h1''
    · show g (ycl1 (3 + q)) 0 (ycl2 (3 + q)) = _
      rw [(ycl_53 q hq).1, (ycl_53 q hq).2]
      exact h2 q hq
    · obtain ⟨k0, k1, k2, k3⟩ := h3 t ht
      obtain ⟨⟨a1, a2⟩, ⟨b1, b2⟩, ⟨c1, c2⟩, ⟨e1, e2⟩, _⟩ := ycl_t t ht
      have : j = 0 ∨ j = 1 ∨ j = 2 ∨ j = 3 := by omega
      show g (ycl1 (147 + 6 * t + j)) 0 (ycl2 (147 + 6 * t + j)) = _
      rcases this with h | h | h | h <;> subst h
      · rw [Nat.add_zero, a1, a2]; exact k0
      · rw [b1, b2]; exact k1
      · rw [c1, c2]; exact k2
      · rw [e1, e2]; exact k3
    · obtain ⟨_, _, _, _, ⟨a1, a2⟩, ⟨b1, b2⟩⟩ := ycl_t t ht
      show g (ycl1 (147 + 6 * t + 4)) 0 (ycl2 (147 + 6 * t + 4)) = _
      rw [a1, a2]; exact (h4 t ht).1
    · obtain ⟨_, _, _, _, ⟨a1, a2⟩, ⟨b1, b2⟩⟩ := ycl_t t ht
      show g (ycl1 (147 + 6 * t + 5)) 0 (ycl2 (147 + 6 * t + 5)) = _
      rw [b1, b2]; exact (h4 t ht).2
    · obtain ⟨⟨a1, a2⟩, ⟨b1, b2⟩, ⟨c1, c2⟩, ⟨e1, e2⟩⟩ := ycl_k k hk
      obtain ⟨k0, k1, k2, k3⟩ := h6 (k / 10) (k % 10) (by omega) (by omega)
      rw [show 10 * (k / 10) + k % 10 = k by omega] at k0 k1 k2 k3
      have : a = 0 ∨ a = 1 ∨ a = 2 ∨ a = 3 := by omega
      show g (ycl1 (171 + 4 * k + a)) 0 (ycl2 (171 + 4 * k + a)) = _
      rcases this with h | h | h | h <;> subst h
      · rw [Nat.add_zero, a1, a2]; exact k0
      · rw [b1, b2]; exact k1
      · rw [c1, c2]; exact k2
      · rw [e1, e2]; exact k3
    · obtain ⟨e1, e2⟩ := ycl_59 (4 * t + i) (by omega)
      show g (ycl1 (331 + 4 * t + i)) 0 (ycl2 (331 + 4 * t + i)) = _
      rw [show 331 + 4 * t + i = 331 + (4 * t + i) by omega, e1, e2]
      exact h5 t i ht hi
/-- after the passing -/
theorem ypi_k {σ g : xa_H} {a : Nat} {W : Nat → Int} {j : Nat} (h : ypi σ a W j g) {K : Nat} (hK : ¬ K = 9 ∧ ¬ (53 ≤ K ∧ K ≤ 64) ∧ ¬ K = 75) : g K = σ K := by
  funext i s
  refine h.2.2.2 K i s (fun j' hj' => ?_) (by omega) (by omega)
  have := ycl_r j' hj'
  rintro ⟨e, _⟩
  omega
theorem ypi_9 {σ g : xa_H} {a : Nat} {W : Nat → Int} {j : Nat} (h : ypi σ a W j g) {s : Nat} (hs : 6 ≤ s ∧ ¬ s = 41) : g 9 0 s = σ 9 0 s := by
  refine h.2.2.2 9 0 s (fun j' hj' => ?_) (by omega) (by omega)
  have := ycl_r j' hj'
  rintro ⟨e, _, e2⟩
  omega
theorem ypi_75 {σ g : xa_H} {a : Nat} {W : Nat → Int} {j : Nat} (h : ypi σ a W j g) {s : Nat} (hs : ¬ (420 * a ≤ s ∧ s < 420 * a + 347)) : g 75 0 s = σ 75 0 s := by
  refine h.2.2.2 75 0 s (fun j' hj' => ?_) (by omega) (by omega)
  have := ycl_r j' hj'
  rintro ⟨e, _⟩
  omega
section IR
variable {σ f : xa_H}
theorem M_image (hs : ym σ f) (hv : yv f) (a : Int) : xW (fm_M_image a σ) fun r => r.1 = (aimage f a).1 ∧ ym r.2 (aimage f a).2 := by
  unfold fm_M_image
  refine xW_be (q_in a 0 1) ?_
  by_cases h : 0 ≤ a ∧ a ≤ 1
  · obtain ⟨u, hu⟩ : ∃ u : Nat, a = (u : Int) := ⟨a.toNat, by omega⟩
    subst hu
    have tn : ((u : Int)).toNat = u := rfl
    have hu2 : u < 2 := by omega
    have eA : aimage f (u : Int) = (1, aim1 f u) := if_pos h
    rw [if_pos h, eA, tn]
    have e41 : w32 (420 * (u : Int)) = ((420 * u : Nat) : Int) := w32_k (by omega) (by omega)
    rw [e41]
    refine xW_f (by decide) (xW_nm (xW_nm ?_))
    have ho : ∀ K i s, ¬ (K = 9 ∧ i = 0 ∧ (s = 41 ∨ s = 42)) → xup (xup σ 9 0 41 ((420 * u : Nat) : Int)) 9 0 42 1 K i s = σ K i s := by
      intro K i s q
      rw [xup_o (by omega), xup_o (by omega)]
    have h41 : xup (xup σ 9 0 41 ((420 * u : Nat) : Int)) 9 0 42 1 9 0 41 = ((420 * u : Nat) : Int) := by rw [xup_o (by omega), xup_at]
    have h42 : xup (xup σ 9 0 41 ((420 * u : Nat) : Int)) 9 0 42 1 9 0 42 = 1 := xup_at
    generalize xup (xup σ 9 0 41 ((420 * u : Nat) : Int)) 9 0 42 1 = τ at ho h41 h42 ⊢
    have hok : ∀ K, ¬ K = 9 → τ K = σ K := fun K q => by funext i s; exact ho K i s (by omega)
    refine xW_bind (q_passAll (W := fun j => τ (ycl1 j) 0 (ycl2 j)) (a := u) (fun j hj => by rw [if_neg (by rw [h42]; decide)]) hu2 h41) ?_
    intro g hg
    refine xW_t (by omega) (xW_nm (xW_some ⟨rfl, ?_⟩))
    show ym (xup g 76 0 u (1 % 2)) (aim1 f u)
    have e12 : (1 % 2 : Int) = 1 := rfl
    rw [e12]
    have hW : ypv (fun j => τ (ycl1 j) 0 (ycl2 j)) f 0 := by
      refine ypv_c (fun j hj => ?_) (ypv_rf.mpr hs.2.1)
      have := ycl_r j hj
      exact (ho _ _ _ (by omega)).symm
    have hcell : ypv (fun j => g (ycl1 j) 0 (ycl2 j)) f 0 := ypv_c (fun j hj => by have := (hg.2.2.1 j hj).1; rw [if_pos hj] at this; exact this.symm) hW
    have h75 : ypv (fun j => g 75 0 (420 * u + j)) f 0 := ypv_c (fun j hj => by have := (hg.2.2.1 j hj).2; rw [if_pos hj] at this; exact this.symm) hW
    obtain ⟨a1, a2, a3, a4⟩ := hs
    have hF : ∀ K, ¬ K = 76 → xup g 76 0 u 1 K = g K := fun K q => xup_k q
    refine ⟨?_, ?_, ?_, fun n hn => ?_⟩
    · unfold ymt
      rw [hF 50 (by decide), hF 51 (by decide), ypi_k hg (by decide), ypi_k hg (by decide), hok 50 (by decide), hok 51 (by decide)]
      exact a1
    · refine ypv_rf.mp (ypv_s aim_0 (ypv_c (fun j hj => ?_) hcell))
      have := ycl_r j hj
      show g (ycl1 j) 0 (ycl2 j) = xup g 76 0 u 1 (ycl1 j) 0 (ycl2 j)
      rw [xup_o (by omega)]
    · unfold ypd
      rw [hF 9 (by decide), hF 65 (by decide), ypi_9 hg (by decide), ypi_k hg (by decide), ho 9 0 19 (by decide), hok 65 (by decide), aim_b 7 (by decide), aim_b 8 (by decide)]
      exact a3
    · rw [aim_9]
      have e75 : ∀ b, ykp g n f b → ykp (xup g 76 0 u 1) n f b := by
        intro b hb
        unfold ykp at hb ⊢
        rw [hF 75 (by decide)]
        exact hb
      by_cases hnu : n = u
      · subst hnu
        rw [if_pos rfl, xup_at]
        refine ⟨rfl, fun _ => ?_⟩
        refine ypv_kp.mp (ypv_s aim_a (ypv_c (fun j hj => ?_) h75))
        show g 75 0 (420 * n + j) = xup g 76 0 n 1 75 0 (420 * n + j)
        rw [xup_o (by omega)]
      · obtain ⟨e1, e2⟩ := a4 n hn
        rw [if_neg hnu, xup_o (by omega), ypi_k hg (by decide), hok 76 (by decide)]
        refine ⟨e1, fun h1 => ypv_kp.mp (ypv_s (aim_o hnu) (ypv_c (fun j hj => ?_) (ypv_kp.mpr (e2 h1))))⟩
        show σ 75 0 (420 * n + j) = xup g 76 0 u 1 75 0 (420 * n + j)
        rw [xup_o (by omega), ypi_75 hg (by omega), hok 75 (by decide)]
  · have eA : aimage f a = (-2, f) := if_neg h
    rw [eA, if_neg h]
    exact xW_t rfl (xW_some ⟨rfl, hs⟩)
theorem M_rest (hs : ym σ f) (hv : yv f) (a : Int) : xW (fm_M_restore a σ) fun r => r.1 = (arest f a).1 ∧ ym r.2 (arest f a).2 := by
  unfold fm_M_restore
  refine xW_be (q_in a 0 1) ?_
  by_cases h : 0 ≤ a ∧ a ≤ 1
  · obtain ⟨u, hu⟩ : ∃ u : Nat, a = (u : Int) := ⟨a.toNat, by omega⟩
    subst hu
    have tn : ((u : Int)).toNat = u := rfl
    have hu2 : u < 2 := by omega
    obtain ⟨a1, a2, a3, a4⟩ := hs
    obtain ⟨k1, k2⟩ := a4 u hu2
    rw [if_pos h, tn, k1]
    refine xW_f (by decide) (xW_t (by omega) ?_)
    by_cases h9 : f 9 u 0 = 0
    · have eA : arest f (u : Int) = (-3, f) := by unfold arest; rw [if_pos h, tn, if_pos h9]
      rw [eA]
      exact xW_t h9 (xW_some ⟨rfl, ⟨a1, a2, a3, a4⟩⟩)
    · have eA : arest f (u : Int) = (1, ars1 f u) := by unfold arest; rw [if_pos h, tn, if_neg h9]
      rw [eA]
      have h91 : f 9 u 0 = 1 := by
        rcases hv.2.2 u hu2 with h1 | h2
        · exact absurd h1 h9
        · exact h2.1
      have e41 : w32 (420 * (u : Int)) = ((420 * u : Nat) : Int) := w32_k (by omega) (by omega)
      rw [e41]
      refine xW_f h9 (xW_nm (xW_nm ?_))
      have ho : ∀ K i s, ¬ (K = 9 ∧ i = 0 ∧ (s = 41 ∨ s = 42)) → xup (xup σ 9 0 41 ((420 * u : Nat) : Int)) 9 0 42 0 K i s = σ K i s := by
        intro K i s q
        rw [xup_o (by omega), xup_o (by omega)]
      have h41 : xup (xup σ 9 0 41 ((420 * u : Nat) : Int)) 9 0 42 0 9 0 41 = ((420 * u : Nat) : Int) := by rw [xup_o (by omega), xup_at]
      have h42 : xup (xup σ 9 0 41 ((420 * u : Nat) : Int)) 9 0 42 0 9 0 42 = 0 := xup_at
      generalize xup (xup σ 9 0 41 ((420 * u : Nat) : Int)) 9 0 42 0 = τ at ho h41 h42 ⊢
      have hok : ∀ K, ¬ K = 9 → τ K = σ K := fun K q => by funext i s; exact ho K i s (by omega)
      refine xW_bind (q_passAll (W := fun j => τ 75 0 (420 * u + j)) (a := u) (fun j hj => by rw [if_pos h42]) hu2 h41) ?_
      intro g hg
      refine xW_some ⟨rfl, ?_⟩
      show ym g (ars1 f u)
      have hW : ypv (fun j => τ 75 0 (420 * u + j)) f (10 * u + 10) := by
        refine ypv_c (fun j hj => ?_) (ypv_kp.mpr (k2 h91))
        show σ 75 0 (420 * u + j) = τ 75 0 (420 * u + j)
        rw [hok 75 (by decide)]
      have hcell : ypv (fun j => g (ycl1 j) 0 (ycl2 j)) f (10 * u + 10) := ypv_c (fun j hj => by have := (hg.2.2.1 j hj).1; rw [if_pos hj] at this; exact this.symm) hW
      have h75 : ypv (fun j => g 75 0 (420 * u + j)) f (10 * u + 10) := ypv_c (fun j hj => by have := (hg.2.2.1 j hj).2; rw [if_pos hj] at this; exact this.symm) hW
      refine ⟨?_, ypv_rf.mp (ypv_s ars_0 hcell), ?_, fun n hn => ?_⟩
      · unfold ymt
        rw [ypi_k hg (by decide), ypi_k hg (by decide), hok 50 (by decide), hok 51 (by decide)]
        exact a1
      · unfold ypd
        rw [ypi_9 hg (by decide), ypi_k hg (by decide), ho 9 0 19 (by decide), hok 65 (by decide), ars_k (by decide), ars_k (by decide)]
        exact a3
      · obtain ⟨e1, e2⟩ := a4 n hn
        rw [ars_k (by decide), ypi_k hg (by decide), hok 76 (by decide)]
        refine ⟨e1, fun h1 => ?_⟩
        have hsn : ysh f (ars1 f u) (10 * n + 10) (10 * n + 10) := fun K hK => ars_k (by omega)
        by_cases hnu : n = u
        · subst hnu
          exact ypv_kp.mp (ypv_s hsn h75)
        · refine ypv_kp.mp (ypv_s hsn (ypv_c (fun j hj => ?_) (ypv_kp.mpr (e2 h1))))
          show σ 75 0 (420 * n + j) = g 75 0 (420 * n + j)
          rw [ypi_75 hg (by omega), hok 75 (by decide)]
  · have eA : arest f a = (-2, f) := if_neg h
    rw [eA, if_neg h]
    exact xW_t rfl (xW_some ⟨rfl, hs⟩)
end IR
