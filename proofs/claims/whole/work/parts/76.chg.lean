/-! calls that change the state: cost, goal, size -/
theorem ybs_e {f f' : xa_H} {t t' : Nat} {e e' : Nat → Int} {A D A' D' : Int} {p m : Nat} (h : f' 0 = f 0) : ybs (ypr f' 0 t' e' A' D') p m = ybs (ypr f 0 t e A D) p m := by
  have : ypr f' 0 t' e' A' D' 0 = ypr f 0 t e A D 0 := by
    show (fun (_ : Nat) s => f' 0 0 s) = fun (_ : Nat) s => f 0 0 s
    rw [h]
  unfold ybs
  rw [this]
theorem yst_up {σ σ' f f' : xa_H} (hs : yst σ f) (hT : σ' 31 = σ 31 ∧ σ' 32 = σ 32 ∧ σ' 19 = σ 19) (h2 : ycl σ' 0 f' 0) (h3 : ∀ p m, p < 144 → m < 6 → σ' 34 0 (6 * p + m) = ybs (ypr f' 0 0 (ykd f' 0) 0 0) p m) (h4 : ypd σ' 17 2 1 f')
    (hI : ∀ K, K = 7 ∨ K = 33 ∨ K = 25 ∨ K = 26 ∨ K = 4 → ∀ i, 1 ≤ i → i < 3 → σ' K i = σ K i) (hJ : ∀ K, K = 5 ∨ K = 30 ∨ K = 27 ∨ K = 28 ∨ K = 29 → ∀ i, 4 ≤ i → i < 13 → σ' K i = σ K i) (hf : ∀ K, 9 ≤ K → f' K = f K) : yst σ' f' := by
  obtain ⟨a1, a2, a3, a4, a5⟩ := hs
  refine ⟨?_, h2, h3, h4, fun n hn => ?_⟩
  · unfold yct
    rw [hT.1, hT.2.1, hT.2.2, hJ 28 (by decide) 12 (by decide) (by decide)]
    exact a1
  · obtain ⟨k1, k2⟩ := a5 n hn
    rw [hI 4 (by decide) (n + 1) (by omega) (by omega), hf 9 (by decide)]
    refine ⟨k1, fun h9 => ?_⟩
    have he : yeq f f' (10 * n + 10) := fun K h _ => hf K (by omega)
    obtain ⟨b1, b2, b3, b4⟩ := ycl_e he (k2 h9)
    refine ⟨?_, ?_, fun t ht => ?_, ?_⟩
    · rw [hI 7 (by decide) (n + 1) (by omega) (by omega)]; exact b1
    · rw [hI 33 (by decide) (n + 1) (by omega) (by omega)]; exact b2
    · unfold yclt
      rw [hJ 5 (by decide) _ (by omega) (by omega), hJ 30 (by decide) _ (by omega) (by omega), hJ 27 (by decide) _ (by omega) (by omega), hJ 28 (by decide) _ (by omega) (by omega), hJ 29 (by decide) _ (by omega) (by omega)]
      exact b3 t ht
    · rw [hI 25 (by decide) (n + 1) (by omega) (by omega), hI 26 (by decide) (n + 1) (by omega) (by omega)]; exact b4
theorem ym_up {σ σ' f f' : xa_H} (hs : ym σ f) (hT : σ' 50 = σ 50 ∧ σ' 51 = σ 51 ∧ σ' 75 = σ 75 ∧ σ' 76 = σ 76) (h2 : yrf σ' f') (h4 : ypd σ' 65 9 19 f') (hf : ∀ K, 9 ≤ K → f' K = f K) : ym σ' f' := by
  obtain ⟨a1, a2, a3, a4⟩ := hs
  refine ⟨?_, h2, h4, fun n hn => ?_⟩
  · unfold ymt
    rw [hT.1, hT.2.1]
    exact a1
  · obtain ⟨k1, k2⟩ := a4 n hn
    rw [hT.2.2.2, hf 9 (by decide)]
    refine ⟨k1, fun h9 => ?_⟩
    have he : yeq f f' (10 * n + 10) := fun K h _ => hf K (by omega)
    have := ykp_e he (k2 h9)
    unfold ykp at this ⊢
    rw [hT.2.2.1]
    exact this
theorem yv_up {f f' : xa_H} (hv : yv f) (h0 : yval f' 0) (h1 : (0 ≤ f' 7 0 0 ∧ f' 7 0 0 ≤ 60) ∧ ∀ i, (i : Nat) < (f' 7 0 0).toNat → 33 ≤ f' 8 0 i ∧ f' 8 0 i ≤ 126) (hf : ∀ K, 9 ≤ K → f' K = f K) : yv f' := by
  refine ⟨h0, h1, fun n hn => ?_⟩
  rw [hf 9 (by decide)]
  rcases hv.2.2 n hn with h | ⟨h2, h3⟩
  · exact Or.inl h
  · exact Or.inr ⟨h2, yval_e (fun K h _ => hf K (by omega)) h3⟩
/-- what is looked at stays -/
theorem yca_k {σ f f' : xa_H} (h0 : f' 0 = f 0) (h1 : f' 1 = f 1) (h6 : f' 6 = f 6) (h2 : ∀ t, f' 2 t 0 = f 2 t 0) (hc : yca σ f) : yca σ f' := by
  have he : ∀ t, ypr f' 0 t (ykd f' 0) 0 0 = ypr f 0 t (ykd f 0) 0 0 := by
    intro t
    have e1 : ykd f' 0 = ykd f 0 := by unfold ykd; rw [h1]
    funext K i s
    rw [e1]
    unfold ypr
    rw [h0, h6, h2 t]
  rcases hc with h | h | ⟨t, a1, a2, a3, a4⟩
  · exact Or.inl h
  · exact Or.inr (Or.inl h)
  · refine Or.inr (Or.inr ⟨t, a1, a2, by rw [h2]; exact a3, ?_⟩)
    rw [he]; exact a4
theorem yca_f {L M : List Nat} {σ σ' f : xa_H} (h : xfs L M σ σ') (hL : 5 ∉ L ∧ 28 ∉ L ∧ 18 ∉ L ∧ 20 ∉ L ∧ 21 ∉ L) (hM : 8 ∉ M) (hc : yca σ f) : yca σ' f := by
  unfold yca at hc ⊢
  rw [h.2 0 8 hM]
  rcases hc with h1 | h1 | ⟨t, a1, a2, a3, a4, a5⟩
  · exact Or.inl h1
  · exact Or.inr (Or.inl h1)
  · exact Or.inr (Or.inr ⟨t, a1, a2, a3, ysc_f h ⟨hL.1, hL.2.1, hL.2.2.1, hL.2.2.2.1⟩ hM a4, yhc_f h hL.2.2.2.2 a5⟩)
/-- costs -/
noncomputable def acost (f : xa_H) (t w v : Int) : Int × xa_H :=
  if -2 ≤ t ∧ t ≤ 3 then (if (0 ≤ w ∧ w ≤ 3) ∧ (0 ≤ v ∧ v ≤ 9) then
    (if t = -1 then (f 3 0 w.toNat, xup f 3 0 w.toNat v) else if t = -2 then (f 4 0 w.toNat, xup f 4 0 w.toNat v) else (f 5 t.toNat w.toNat, xup f 5 t.toNat w.toNat v)) else (-2, f)) else (-1, f)
theorem xup_k {f : xa_H} {K i s : Nat} {v : Int} {K' : Nat} (h : ¬ K' = K) : xup f K i s v K' = f K' := by
  funext i' s'
  rw [xup_o (fun e => h e.1)]
theorem xup_i {f : xa_H} {K i s : Nat} {v : Int} {K' i' : Nat} (h : ¬ (K' = K ∧ i' = i)) : xup f K i s v K' i' = f K' i' := by
  funext s'
  rw [xup_o (fun e => h ⟨e.1, e.2.1⟩)]
/-- a cost has changed: the state is good, and both sides tell it -/
theorem yval_cost {f : xa_H} (hv : yval f 0) {K i s : Nat} {v : Int} (hK : K = 3 ∨ K = 4 ∨ K = 5) (hr : 0 ≤ v ∧ v ≤ 9) : yval (xup f K i s v) 0 := by
  obtain ⟨h1, h2, h3, h4⟩ := hv
  have hC : ∀ t, yC (xup f K i s v) 0 t = yC f 0 t := by
    intro t
    unfold yC
    rw [xup_k (by omega)]
  have hx : ∀ i' s', 0 ≤ f 5 i' s' ∧ f 5 i' s' ≤ 9 → 0 ≤ xup f K i s v 5 i' s' ∧ xup f K i s v 5 i' s' ≤ 9 := by
    intro i' s' h
    rw [xup_v]
    split
    · exact hr
    · exact h
  refine ⟨by rw [xup_k (by omega)]; exact h1, by rw [xup_k (by omega)]; exact h2, fun t ht => ?_, fun j hj => ?_⟩
  · obtain ⟨k1, k2, k3, k4, k5, k6, k7⟩ := h3 t ht
    have e2 : xup f K i s v (0 + 2) = f (0 + 2) := xup_k (by omega)
    refine ⟨by rw [e2]; exact k1, by rw [e2, hC]; exact k2, by rw [e2, xup_k (by omega)]; exact k3, ?_, by rw [e2]; exact k5, by rw [e2, xup_k (by omega)]; exact k6, fun j hj => hx _ _ (k7 j hj)⟩
    rw [e2]
    rcases k4 with h | h
    · exact Or.inl h
    · right
      unfold ylie
      rw [e2, hC, xup_k (by omega)]
      exact h
  · obtain ⟨a, b⟩ := h4 j hj
    refine ⟨?_, ?_⟩
    · rw [xup_v]
      split
      · exact hr
      · exact a
    · rw [xup_v]
      split
      · exact hr
      · exact b
theorem V_cost {f : xa_H} (hv : yv f) (t w v : Int) : yv (acost f t w v).2 := by
  unfold acost
  split
  · split
    · rename_i hr
      have key : ∀ K i s, (K = 3 ∨ K = 4 ∨ K = 5) → yv (xup f K i s v) := by
        intro K i s hK
        refine yv_up hv (yval_cost hv.1 hK hr.2) ?_ (fun K' h => xup_k (by omega))
        rw [xup_k (by omega), xup_k (by omega)]
        exact hv.2.1
      split
      · exact key 3 _ _ (by decide)
      · split
        · exact key 4 _ _ (by decide)
        · exact key 5 _ _ (by decide)
    · exact hv
  · exact hv
/-- the class with one cost changed -/
theorem yc_cost {σ f : xa_H} (hs : yc σ f) {K Kf i j s : Nat} {v : Int} (hc : (K = 25 ∧ Kf = 3 ∧ i = 0 ∧ j = 0) ∨ (K = 26 ∧ Kf = 4 ∧ i = 0 ∧ j = 0) ∨ (K = 30 ∧ Kf = 5 ∧ i < 4 ∧ j = i)) :
    yc (xup (xup σ K i s v) 0 0 1 0) (xup f Kf j s v) := by
  obtain ⟨h1, h2, h3, h4⟩ := hs
  have hk : ∀ K', ¬ K' = K → ¬ K' = 0 → xup (xup σ K i s v) 0 0 1 0 K' = σ K' := by
    intro K' a b
    rw [xup_k b, xup_k a]
  have hC : ∀ t, yC (xup f Kf j s v) 0 t = yC f 0 t := by
    intro t
    unfold yC
    rw [xup_k (by omega)]
  have hfx : xfs [0, 25, 26, 30] [] σ (xup (xup σ K i s v) 0 0 1 0) := by
    refine ⟨fun K' hK' _ => hk K' (fun e => hK' ?_) (fun e => hK' (by rw [e]; decide)), fun a b _ => by rw [hk 3 (by omega) (by decide)]⟩
    rw [e]
    rcases hc with h | h | h <;> rw [h.1] <;> decide
  refine ⟨?_, ?_, yfl_f hfx (by decide) (by decide) h3, Or.inl xup_at⟩
  · refine yst_up h1 ⟨hk 31 (by omega) (by decide), hk 32 (by omega) (by decide), hk 19 (by omega) (by decide)⟩ ?_ ?_ ?_ ?_ ?_ (fun K' h => xup_k (by omega))
    · obtain ⟨b1, b2, b3, b4⟩ := h1.2.1
      refine ⟨?_, ?_, fun t ht => ?_, fun q hq => ?_⟩
      · rw [hk 7 (by omega) (by decide), xup_k (by omega)]; exact b1
      · rw [hk 33 (by omega) (by decide), xup_k (by omega)]; exact b2
      · obtain ⟨c1, c2, c3, c4⟩ := b3 t ht
        refine ⟨?_, fun q hq => ?_, ?_, ?_⟩
        · rw [hk 5 (by omega) (by decide), xup_k (by omega)]; exact c1
        · rw [xup_o (by omega), xup_v, xup_v, c2 q hq]
          rcases hc with ⟨e1, e2, e3, e4⟩ | ⟨e1, e2, e3, e4⟩ | ⟨e1, e2, e3, e4⟩
          · rw [if_neg (by omega), if_neg (by omega)]
          · rw [if_neg (by omega), if_neg (by omega)]
          · by_cases hh : 4 * 0 + t = i ∧ q = s
            · rw [if_pos (by omega), if_pos (by omega)]
            · rw [if_neg (by omega), if_neg (by omega)]
        · rw [hk 27 (by omega) (by decide), hk 28 (by omega) (by decide), xup_k (by omega), xup_k (by omega)]; exact c3
        · rw [hk 29 (by omega) (by decide), hC, xup_k (by omega)]; exact c4
      · obtain ⟨d1, d2⟩ := b4 q hq
        have e25 : xup (xup σ K i s v) 0 0 1 0 25 = xup σ K i s v 25 := xup_k (by decide)
        have e26 : xup (xup σ K i s v) 0 0 1 0 26 = xup σ K i s v 26 := xup_k (by decide)
        rw [e25, e26, xup_v, xup_v, xup_v, xup_v, d1, d2]
        rcases hc with ⟨e1, e2, e3, e4⟩ | ⟨e1, e2, e3, e4⟩ | ⟨e1, e2, e3, e4⟩
        · by_cases hh : q = s
          · rw [if_pos (by omega), if_pos (by omega), if_neg (by omega), if_neg (by omega)]; exact ⟨rfl, rfl⟩
          · rw [if_neg (by omega), if_neg (by omega), if_neg (by omega), if_neg (by omega)]; exact ⟨rfl, rfl⟩
        · by_cases hh : q = s
          · rw [if_neg (by omega), if_neg (by omega), if_pos (by omega), if_pos (by omega)]; exact ⟨rfl, rfl⟩
          · rw [if_neg (by omega), if_neg (by omega), if_neg (by omega), if_neg (by omega)]; exact ⟨rfl, rfl⟩
        · rw [if_neg (by omega), if_neg (by omega), if_neg (by omega), if_neg (by omega)]; exact ⟨rfl, rfl⟩
    · intro p m hp hm
      rw [hk 34 (by omega) (by decide)]
      have := h1.2.2.1 p m hp hm
      rw [this]
      exact (ybs_e (by rw [xup_k (by omega)])).symm
    · unfold ypd
      rw [hk 2 (by omega) (by decide), hk 17 (by omega) (by decide), xup_k (by omega), xup_k (by omega)]
      exact h1.2.2.2.1
    · intro K' hK' i' h1' _
      rw [xup_k (show ¬ K' = 0 by omega), xup_i (by omega)]
    · intro K' hK' i' h1' _
      rw [xup_k (show ¬ K' = 0 by omega), xup_i (by omega)]
  · exact yca_f hfx (by decide) (by decide) (yca_k (xup_k (by omega)) (xup_k (by omega)) (xup_k (by omega)) (fun t => by rw [xup_k (by omega)]) h2)
theorem K_cost {σ f : xa_H} (hs : yc σ f) (hv : yv f) (t w v : Int) : xW (fm_S_cost t w v σ) fun r => r.1 = (acost f t w v).1 ∧ yc r.2 (acost f t w v).2 := by
  have h25 := fun i hi => (hs.1.2.1.2.2.2 i hi).1
  have h26 := fun i hi => (hs.1.2.1.2.2.2 i hi).2
  have hfg : ∀ s : xa_H, fm_Answer_forget s = some (xup s 0 0 1 0) := fun _ => rfl
  unfold fm_S_cost
  by_cases hr : (0 ≤ w ∧ w ≤ 3) ∧ (0 ≤ v ∧ v ≤ 9)
  · have hw4 : 0 ≤ w ∧ w < 4 := by omega
    by_cases h1 : t = -1
    · have eA : acost f t w v = (f 3 0 w.toNat, xup f 3 0 w.toNat v) := by unfold acost; rw [if_pos (show -2 ≤ t ∧ t ≤ 3 by omega), if_pos hr, if_pos h1]
      rw [eA]
      refine xW_t (by omega) (xW_t h1 (xW_f (by omega) (xW_f (by omega) (xW_f (by omega) (xW_t (by omega) (xW_t hw4 (xW_nm (xW_t hw4 (xW_nm (xW_be (hfg _) (xW_some ⟨h25 _ (by omega), ?_⟩)))))))))))
      exact yc_cost hs (Or.inl ⟨rfl, rfl, rfl, rfl⟩)
    · by_cases h2 : t = -2
      · have eA : acost f t w v = (f 4 0 w.toNat, xup f 4 0 w.toNat v) := by unfold acost; rw [if_pos (show -2 ≤ t ∧ t ≤ 3 by omega), if_pos hr, if_neg h1, if_pos h2]
        rw [eA]
        refine xW_t (by omega) (xW_f h1 (xW_t h2 (xW_f (by omega) (xW_f (by omega) (xW_f (by omega) (xW_t (by omega) (xW_t hw4 (xW_nm (xW_t hw4 (xW_nm (xW_be (hfg _) (xW_some ⟨h26 _ (by omega), ?_⟩))))))))))))
        exact yc_cost hs (Or.inr (Or.inl ⟨rfl, rfl, rfl, rfl⟩))
      · by_cases h3 : 0 ≤ t ∧ t ≤ 3
        · have eA : acost f t w v = (f 5 t.toNat w.toNat, xup f 5 t.toNat w.toNat v) := by unfold acost; rw [if_pos (show -2 ≤ t ∧ t ≤ 3 by omega), if_pos hr, if_neg h1, if_neg h2]
          rw [eA]
          refine xW_f (by omega) (xW_f (by omega) (xW_t (by omega) (xW_f (by omega) (xW_f (by omega) (xW_f (by omega) (xW_t (by omega) (xW_t hw4 (xW_nm (xW_t hw4 (xW_nm (xW_be (hfg _) (xW_some ⟨?_, ?_⟩))))))))))))
          · exact (hs.1.2.1.2.2.1 t.toNat (by omega)).2.1 w.toNat (by omega)
          · have e : 4 * 0 + t.toNat = t.toNat := by omega
            rw [e]
            exact yc_cost hs (Or.inr (Or.inr ⟨rfl, rfl, by omega, rfl⟩))
        · have eA : acost f t w v = (-1, f) := by unfold acost; rw [if_neg (show ¬ (-2 ≤ t ∧ t ≤ 3) by omega)]
          rw [eA]
          by_cases h4 : t < 0
          · exact xW_t h4 (xW_f h1 (xW_f h2 (xW_some ⟨rfl, hs⟩)))
          · exact xW_f h4 (xW_t (by omega) (xW_f h1 (xW_f h2 (xW_some ⟨rfl, hs⟩))))
  · have hbad : ∀ (g : Option (Int × xa_H)), xW (if w < 0 then some ((-2), σ) else if 4 ≤ w then some ((-2), σ) else if v < 0 then some ((-2), σ) else if v ≤ 9 then g else some ((-2), σ)) fun r => r.1 = -2 ∧ yc r.2 f := by
      intro g
      by_cases a : w < 0
      · exact xW_t a (xW_some ⟨rfl, hs⟩)
      · by_cases b : 4 ≤ w
        · exact xW_f a (xW_t b (xW_some ⟨rfl, hs⟩))
        · by_cases c : v < 0
          · exact xW_f a (xW_f b (xW_t c (xW_some ⟨rfl, hs⟩)))
          · exact xW_f a (xW_f b (xW_f c (xW_f (by omega) (xW_some ⟨rfl, hs⟩))))
    by_cases h3 : -2 ≤ t ∧ t ≤ 3
    · have eA : acost f t w v = (-2, f) := by unfold acost; rw [if_pos h3, if_neg hr]
      rw [eA]
      by_cases h4 : t < 0
      · refine xW_t h4 ?_
        by_cases h1 : t = -1
        · exact xW_t h1 (hbad _)
        · exact xW_f h1 (xW_t (by omega) (hbad _))
      · exact xW_f h4 (xW_f (by omega) (xW_t (by omega) (hbad _)))
    · have eA : acost f t w v = (-1, f) := by unfold acost; rw [if_neg h3]
      rw [eA]
      by_cases h4 : t < 0
      · exact xW_t h4 (xW_f (by omega) (xW_f (by omega) (xW_some ⟨rfl, hs⟩)))
      · exact xW_f h4 (xW_t (by omega) (xW_f (by omega) (xW_f (by omega) (xW_some ⟨rfl, hs⟩))))
/-- the reference with one cost changed -/
theorem ym_cost {σ f : xa_H} (hs : ym σ f) {K Kf s j sf : Nat} {v : Int} (hc : (K = 60 ∧ Kf = 3 ∧ j = 0 ∧ sf = s) ∨ (K = 61 ∧ Kf = 4 ∧ j = 0 ∧ sf = s) ∨ (K = 59 ∧ Kf = 5 ∧ j < 4 ∧ sf < 4 ∧ s = 4 * j + sf)) : ym (xup σ K 0 s v) (xup f Kf j sf v) := by
  have hk : ∀ K', ¬ K' = K → xup σ K 0 s v K' = σ K' := fun K' a => xup_k a
  refine ym_up hs ⟨hk 50 (by omega), hk 51 (by omega), hk 75 (by omega), hk 76 (by omega)⟩ ?_ ?_ (fun K' h => xup_k (by omega))
  · obtain ⟨b1, b2, b3, b4, b5, b6⟩ := hs.2.1
    refine ⟨?_, ?_, ?_, fun q hq => ?_, fun t q ht hq => ?_, ?_⟩
    · rw [hk 9 (by omega), xup_k (by omega)]; exact b1
    · rw [hk 53 (by omega), xup_k (by omega)]; exact b2
    · rw [hk 54 (by omega), hk 62 (by omega), hk 63 (by omega), hk 64 (by omega), xup_k (by omega)]; exact b3
    · obtain ⟨d1, d2⟩ := b4 q hq
      rw [xup_v, xup_v, xup_v, xup_v, d1, d2]
      rcases hc with ⟨e1, e2, e3, e4⟩ | ⟨e1, e2, e3, e4⟩ | ⟨e1, e2, e3, e4⟩
      · by_cases hh : q = s
        · rw [if_pos (by omega), if_pos (by omega), if_neg (by omega), if_neg (by omega)]; exact ⟨rfl, rfl⟩
        · rw [if_neg (by omega), if_neg (by omega), if_neg (by omega), if_neg (by omega)]; exact ⟨rfl, rfl⟩
      · by_cases hh : q = s
        · rw [if_neg (by omega), if_neg (by omega), if_pos (by omega), if_pos (by omega)]; exact ⟨rfl, rfl⟩
        · rw [if_neg (by omega), if_neg (by omega), if_neg (by omega), if_neg (by omega)]; exact ⟨rfl, rfl⟩
      · rw [if_neg (by omega), if_neg (by omega), if_neg (by omega), if_neg (by omega)]; exact ⟨rfl, rfl⟩
    · rw [xup_v, xup_v, b5 t q ht hq]
      rcases hc with ⟨e1, e2, e3, e4⟩ | ⟨e1, e2, e3, e4⟩ | ⟨e1, e2, e3, e4, e5⟩
      · rw [if_neg (by omega), if_neg (by omega)]
      · rw [if_neg (by omega), if_neg (by omega)]
      · by_cases hh : t = j ∧ q = sf
        · rw [if_pos (by omega), if_pos (by omega)]
        · rw [if_neg (by omega), if_neg (by omega)]
    · rw [hk 55 (by omega), hk 56 (by omega), hk 57 (by omega), hk 58 (by omega), xup_k (by omega)]; exact b6
  · unfold ypd
    rw [hk 9 (by omega), hk 65 (by omega), xup_k (by omega), xup_k (by omega)]
    exact hs.2.2.1
theorem M_cost {σ f : xa_H} (hs : ym σ f) (hv : yv f) (t w v : Int) : xW (fm_M_cost t w v σ) fun r => r.1 = (acost f t w v).1 ∧ ym r.2 (acost f t w v).2 := by
  unfold fm_M_cost
  refine xW_be (q_in t (-2) 3) ?_
  by_cases h3 : -2 ≤ t ∧ t ≤ 3
  · rw [if_pos h3]
    refine xW_f (by decide) (xW_be (q_in w 0 3) ?_)
    by_cases hw : 0 ≤ w ∧ w ≤ 3
    · rw [if_pos hw]
      refine xW_f (by decide) (xW_be (q_in v 0 9) ?_)
      have hw4 : 0 ≤ w ∧ w < 4 := by omega
      by_cases hvr : 0 ≤ v ∧ v ≤ 9
      · rw [if_pos hvr]
        refine xW_f (by decide) (xW_j ?_)
        have h60 := (hs.2.1.2.2.2.1 w.toNat (by omega)).1
        have h61 := (hs.2.1.2.2.2.1 w.toNat (by omega)).2
        by_cases h1 : t = -1
        · have eA : acost f t w v = (f 3 0 w.toNat, xup f 3 0 w.toNat v) := by unfold acost; rw [if_pos h3, if_pos ⟨hw, hvr⟩, if_pos h1]
          rw [eA]
          refine xW_t h1 (xW_t hw4 (xW_t h1 (xW_t hw4 (xW_nm (xW_some ⟨h60, ?_⟩)))))
          exact ym_cost hs (Or.inl ⟨rfl, rfl, rfl, rfl⟩)
        · by_cases h2 : t = -2
          · have eA : acost f t w v = (f 4 0 w.toNat, xup f 4 0 w.toNat v) := by unfold acost; rw [if_pos h3, if_pos ⟨hw, hvr⟩, if_neg h1, if_pos h2]
            rw [eA]
            refine xW_f h1 (xW_t h2 (xW_t hw4 (xW_f h1 (xW_t h2 (xW_t hw4 (xW_nm (xW_some ⟨h61, ?_⟩)))))))
            exact ym_cost hs (Or.inr (Or.inl ⟨rfl, rfl, rfl, rfl⟩))
          · have eA : acost f t w v = (f 5 t.toNat w.toNat, xup f 5 t.toNat w.toNat v) := by unfold acost; rw [if_pos h3, if_pos ⟨hw, hvr⟩, if_neg h1, if_neg h2]
            rw [eA]
            have e : w32 (w32 (4 * t) + w) = ((4 * t.toNat + w.toNat : Nat) : Int) := w32_2 (by omega) (by omega) (by omega)
            have tn : ∀ j : Nat, ((j : Int)).toNat = j := fun j => rfl
            rw [e, tn]
            refine xW_f h1 (xW_f h2 (xW_t ⟨by omega, by omega⟩ (xW_f h1 (xW_f h2 (xW_t ⟨by omega, by omega⟩ (xW_nm (xW_some ⟨?_, ?_⟩)))))))
            · exact hs.2.1.2.2.2.2.1 t.toNat w.toNat (by omega) (by omega)
            · exact ym_cost hs (Or.inr (Or.inr ⟨rfl, rfl, by omega, by omega, rfl⟩))
      · have eA : acost f t w v = (-2, f) := by unfold acost; rw [if_pos h3, if_neg (fun h => hvr h.2)]
        rw [eA, if_neg hvr]
        exact xW_t rfl (xW_some ⟨rfl, hs⟩)
    · have eA : acost f t w v = (-2, f) := by unfold acost; rw [if_pos h3, if_neg (fun h => hw h.1)]
      rw [eA, if_neg hw]
      exact xW_t rfl (xW_some ⟨rfl, hs⟩)
  · have eA : acost f t w v = (-1, f) := by unfold acost; rw [if_neg h3]
    rw [eA, if_neg h3]
    exact xW_t rfl (xW_some ⟨rfl, hs⟩)
