/-! small calls: cell, say, wipe, fault, told, cube; the class and the reference answer alike -/
def ypn (c : Int) : Int := 24 * (c / 100) + 4 * (c / 10 % 10) + c % 10
def ycel (f : xa_H) (c : Int) : Prop := 0 ≤ c ∧ qin (f 0 0 0) (f 0 0 1) (f 0 0 2) (c / 100) (c / 10 % 10) (c % 10)
theorem ypn_r {f : xa_H} {c : Int} (hv : yv f) (h : ycel f c) : 0 ≤ ypn c ∧ ypn c < 144 ∧ ypn c / 24 = c / 100 ∧ ypn c / 4 % 6 = c / 10 % 10 ∧ ypn c % 4 = c % 10 := by
  obtain ⟨h0, h1⟩ := h
  have hz := hv.1.1
  unfold qin at h1
  unfold qsz at hz
  unfold ypn
  omega
theorem q_placeOf {σ f : xa_H} (hs : yst σ f) (hv : yv f) (c : Int) : (ycel f c → fm_Way_placeOf 0 c σ = some (ypn c)) ∧ (¬ ycel f c → fm_Way_placeOf 0 c σ = some (-6)) := by
  obtain ⟨w1, w2, w3⟩ := hs.2.1.1
  have hz : qsz (σ 7 0 0) (σ 7 0 1) (σ 7 0 2) := by rw [w1, w2, w3]; exact hv.1.1
  unfold fm_Way_placeOf
  by_cases h0 : 0 ≤ c
  · have hp := q_placeAt hz (c / 100) (c / 10 % 10) (c % 10)
    rw [w1, w2, w3] at hp
    rw [if_pos h0, xdiv_p h0, xdiv_p h0, xrem_p (by omega), xrem_p h0]
    refine ⟨fun h => ?_, fun h => ?_⟩
    · rw [hp.1 h.2, Option.bind_some]; rfl
    · rw [hp.2 (fun h1 => h ⟨h0, h1⟩), Option.bind_some]
  · rw [if_neg h0]
    exact ⟨fun h => absurd h.1 h0, fun _ => rfl⟩
theorem q_cellNo {σ f : xa_H} (hs : ym σ f) (hv : yv f) (c : Int) : (ycel f c → fm_M_isCellNumber c σ = some 1 ∧ fm_M_placeOf c = some (ypn c)) ∧ (¬ ycel f c → fm_M_isCellNumber c σ = some 0) := by
  obtain ⟨w1, w2, w3⟩ := hs.2.1.1
  have hz : qsz (σ 9 0 3) (σ 9 0 4) (σ 9 0 5) := by rw [w1, w2, w3]; exact hv.1.1
  unfold fm_M_isCellNumber
  by_cases h0 : c < 0
  · rw [if_pos h0]
    exact ⟨fun h => absurd h0 (by have := h.1; omega), fun _ => rfl⟩
  · have hp := q_MisCell hz (c / 100) (c / 10 % 10) (c % 10)
    rw [w1, w2, w3] at hp
    rw [if_neg h0, xdiv_p (by omega), xdiv_p (by omega), xrem_p (by omega), xrem_p (by omega)]
    refine ⟨fun h => ⟨?_, ?_⟩, fun h => ?_⟩
    · rw [hp.1 h.2, Option.bind_some, if_neg (by decide)]
    · obtain ⟨h1, h2⟩ := h
      have hz2 := hv.1.1
      unfold qin at h2
      unfold qsz at hz2
      unfold fm_M_placeOf
      rw [xdiv_p (by omega), xdiv_p (by omega), xrem_p (by omega), xrem_p (by omega), q_at (by omega) (by omega) (by omega), Option.bind_some]
      rfl
    · rw [hp.2 (fun h1 => h ⟨by omega, h1⟩), Option.bind_some, if_pos rfl]
noncomputable def acell (f : xa_H) (c : Int) : Int := @ite Int (ycel f c) (Classical.propDecidable _) (f 1 0 (ypn c).toNat) (-1)
theorem K_cell {σ f : xa_H} (hs : yst σ f) (hv : yv f) (c : Int) : fm_S_cell c σ = some (acell f c) := by
  obtain ⟨h1, h2⟩ := q_placeOf hs hv c
  unfold fm_S_cell acell
  by_cases h : ycel f c
  · have hr := ypn_r hv h
    rw [h1 h, Option.bind_some, if_pos hr.1, if_pos h]
    unfold fm_Way_kindAt
    obtain ⟨p, hp⟩ : ∃ p : Nat, ypn c = (p : Int) := ⟨(ypn c).toNat, by omega⟩
    rw [hp, rd33 (by omega), Option.bind_some, Option.bind_some, hs.2.1.2.1 p (by omega)]
    rfl
  · rw [h2 h, Option.bind_some, if_neg (by decide), if_neg h]
theorem M_cell {σ f : xa_H} (hs : ym σ f) (hv : yv f) (c : Int) : fm_M_cell c σ = some (acell f c) := by
  obtain ⟨h1, h2⟩ := q_cellNo hs hv c
  unfold fm_M_cell acell
  by_cases h : ycel f c
  · have hr := ypn_r hv h
    rw [(h1 h).1, Option.bind_some, if_neg (by decide), (h1 h).2, Option.bind_some, if_pos ⟨hr.1, hr.2.1⟩, if_pos h, hs.2.1.2.1 _ (by omega)]
  · rw [h2 h, Option.bind_some, if_pos rfl, if_neg h]
/-- the pad of f -/
theorem ypd_c {σ f : xa_H} (hs : yst σ f) (hv : yv f) : ypc σ (f 8 0) (f 7 0 0).toNat ∧ ypg (f 8 0) (f 7 0 0).toNat := by
  obtain ⟨h1, h2⟩ := hs.2.2.2.1
  have h3 := hv.2.1
  exact ⟨⟨by rw [h1]; omega, h2⟩, by omega, h3.2⟩
theorem ypd_m {σ f : xa_H} (hs : ym σ f) (hv : yv f) : ypm σ (f 8 0) (f 7 0 0).toNat := by
  obtain ⟨h1, h2⟩ := hs.2.2.1
  have h3 := hv.2.1
  exact ⟨by rw [h1]; omega, h2⟩
noncomputable def afault (f : xa_H) (how : Int) : Int := if how = 0 then ythf (f 8 0) (f 7 0 0).toNat else if how = 1 then yrwf (f 8 0) (f 7 0 0).toNat (f 7 0 0).toNat 0 else -2
theorem q_upTo (a b : Int) : fm_S_isUpTo a b = some (if 0 ≤ a ∧ a ≤ b then 1 else 0) := by
  unfold fm_S_isUpTo
  by_cases h1 : a < 0
  · rw [if_pos h1, if_neg (by omega)]
  · rw [if_neg h1]
    by_cases h2 : b < a
    · rw [if_pos h2, if_neg (by omega)]
    · rw [if_neg h2, if_pos (by omega)]
theorem K_fault {σ f : xa_H} (hs : yst σ f) (hv : yv f) (a : Int) : fm_S_fault a σ = some (afault f a) := by
  obtain ⟨hp, hg⟩ := ypd_c hs hv
  unfold fm_S_fault afault
  rw [q_upTo, Option.bind_some, q_thingFaultC hg hp, q_rowFaultC hg hp, Option.bind_some, Option.bind_some]
  by_cases h0 : a = 0
  · rw [if_pos (show 0 ≤ a ∧ a ≤ 1 by omega), if_neg (by decide), if_pos h0, if_pos h0]
  · by_cases h1 : a = 1
    · rw [if_pos (show 0 ≤ a ∧ a ≤ 1 by omega), if_neg (by decide), if_neg h0, if_neg h0, if_pos h1]
    · rw [if_neg (show ¬ (0 ≤ a ∧ a ≤ 1) by omega), if_pos rfl, if_neg h0, if_neg h1]
theorem M_fault {σ f : xa_H} (hs : ym σ f) (hg : ypg (f 8 0) (f 7 0 0).toNat) (hv : yv f) (a : Int) : fm_M_fault a σ = some (afault f a) := by
  have hp := ypd_m hs hv
  unfold fm_M_fault afault
  rw [q_thingFaultM hg hp, q_rowFaultM hg hp, Option.bind_some, Option.bind_some]
  by_cases h0 : a = 0
  · rw [if_pos h0, if_pos h0]
  · rw [if_neg h0, if_neg h0]
    by_cases h1 : a = 1
    · rw [if_pos h1, if_pos h1]
    · rw [if_neg h1, if_neg h1]
theorem ypg_v {f : xa_H} (hv : yv f) : ypg (f 8 0) (f 7 0 0).toNat := by
  have h3 := hv.2.1
  exact ⟨by omega, h3.2⟩
/-- saying a sign -/
noncomputable def asay (f : xa_H) (a : Int) : Int × xa_H := if 33 ≤ a ∧ a ≤ 126 then (if f 7 0 0 = 60 then (-4, f) else (f 7 0 0 + 1, xup (xup f 8 0 (f 7 0 0).toNat a) 7 0 0 (f 7 0 0 + 1))) else (-2, f)
theorem asay_q (f : xa_H) (a : Int) : yeqA f (asay f a).2 := by
  unfold asay
  split
  · split
    · exact fun _ _ _ => rfl
    · intro K h7 h8
      show xup (xup f 8 0 (f 7 0 0).toNat a) 7 0 0 (f 7 0 0 + 1) K = f K
      funext i s
      rw [xup_o (by omega), xup_o (by omega)]
  · exact fun _ _ _ => rfl
/-- a pad that has changed, and nothing else -/
theorem yst_pad {σ σ' f f' : xa_H} (hs : yst σ f) (hfr : ∀ K, ¬ K = 2 → ¬ K = 17 → σ' K = σ K) (hq : yeqA f f') (hp : ypd σ' 17 2 1 f') : yst σ' f' := by
  obtain ⟨h1, h2, h3, h4, h5⟩ := hs
  have hc : ∀ {s b}, ycl σ s f b → (b = 0 ∨ b = 10 ∨ b = 20) → ycl σ' s f' b := by
    intro s b hcl hb
    obtain ⟨a1, a2, a3, a4⟩ := ycl_e (yeqA_b hq hb) hcl
    refine ⟨?_, ?_, fun t ht => ?_, ?_⟩
    · rw [hfr 7 (by decide) (by decide)]; exact a1
    · rw [hfr 33 (by decide) (by decide)]; exact a2
    · unfold yclt
      rw [hfr 5 (by decide) (by decide), hfr 30 (by decide) (by decide), hfr 27 (by decide) (by decide), hfr 28 (by decide) (by decide), hfr 29 (by decide) (by decide)]
      exact a3 t ht
    · rw [hfr 25 (by decide) (by decide), hfr 26 (by decide) (by decide)]; exact a4
  refine ⟨?_, hc h2 (by decide), ?_, hp, fun n hn => ?_⟩
  · unfold yct
    rw [hfr 31 (by decide) (by decide), hfr 32 (by decide) (by decide), hfr 19 (by decide) (by decide), hfr 28 (by decide) (by decide)]
    exact h1
  · rw [hfr 34 (by decide) (by decide), ykd_e (yeqA_b hq (by decide)), ypr_e (yeqA_b hq (by decide))]
    exact h3
  · obtain ⟨k1, k2⟩ := h5 n hn
    rw [hfr 4 (by decide) (by decide), hq 9 (by decide) (by decide)]
    exact ⟨k1, fun h9 => hc (k2 h9) (by omega)⟩
theorem yc_pad {σ σ' f f' : xa_H} (hs : yc σ f) (hfr : ∀ K, ¬ K = 2 → ¬ K = 17 → σ' K = σ K) (hq : yeqA f f') (hp : ypd σ' 17 2 1 f') : yc σ' f' := by
  obtain ⟨h1, h2, h3, h4⟩ := hs
  have hfx : xfs [2, 17] [] σ σ' := ⟨fun K hK _ => hfr K (fun e => hK (by rw [e]; decide)) (fun e => hK (by rw [e]; decide)), fun i s _ => by rw [hfr 3 (by decide) (by decide)]⟩
  refine ⟨yst_pad h1 hfr hq hp, ?_, yfl_f hfx (by decide) (by decide) h3, yan_f (hfr 0 (by decide) (by decide)) (hfr 12 (by decide) (by decide)) (yan_e (yeqA_b hq (by decide)) h4)⟩
  have := yca_e (yeqA_b hq (by decide)) h2
  unfold yca at this ⊢
  rw [hfr 3 (by decide) (by decide)]
  rcases this with h | h | ⟨t, a1, a2, a3, a4, a5⟩
  · exact Or.inl h
  · exact Or.inr (Or.inl h)
  · exact Or.inr (Or.inr ⟨t, a1, a2, a3, ysc_f hfx (by decide) (by decide) a4, yhc_f hfx (by decide) a5⟩)
theorem ym_pad {σ σ' f f' : xa_H} (hs : ym σ f) (hfr : xfm [65] [19] σ σ') (hq : yeqA f f') (hp : ypd σ' 65 9 19 f') : ym σ' f' := by
  obtain ⟨h1, h2, h3, h4⟩ := hs
  refine ⟨ymt_f hfr (by decide) h1, ?_, hp, fun n hn => ?_⟩
  · have := yrf_e (yeqA_b hq (by decide)) h2
    unfold yrf at this ⊢
    rw [hfr.1 53 (by decide) (by decide), hfr.1 54 (by decide) (by decide), hfr.1 62 (by decide) (by decide), hfr.1 63 (by decide) (by decide), hfr.1 64 (by decide) (by decide), hfr.1 60 (by decide) (by decide), hfr.1 61 (by decide) (by decide), hfr.1 59 (by decide) (by decide), hfr.1 55 (by decide) (by decide), hfr.1 56 (by decide) (by decide), hfr.1 57 (by decide) (by decide), hfr.1 58 (by decide) (by decide), hfr.2 0 3 (by decide), hfr.2 0 4 (by decide), hfr.2 0 5 (by decide)]
    exact this
  · obtain ⟨k1, k2⟩ := h4 n hn
    rw [hfr.1 76 (by decide) (by decide), hq 9 (by decide) (by decide)]
    refine ⟨k1, fun h9 => ?_⟩
    have := ykp_e (yeqA_b hq (b := 10 * n + 10) (by omega)) (k2 h9)
    unfold ykp at this ⊢
    rw [hfr.1 75 (by decide) (by decide)]
    exact this
theorem yv_pad {f f' : xa_H} (hv : yv f) (hq : yeqA f f') (hp : (0 ≤ f' 7 0 0 ∧ f' 7 0 0 ≤ 60) ∧ ∀ i, (i : Nat) < (f' 7 0 0).toNat → 33 ≤ f' 8 0 i ∧ f' 8 0 i ≤ 126) : yv f' := by
  refine ⟨yval_e (yeqA_b hq (by decide)) hv.1, hp, fun n hn => ?_⟩
  rw [hq 9 (by decide) (by decide)]
  rcases hv.2.2 n hn with h | ⟨h1, h2⟩
  · exact Or.inl h
  · exact Or.inr ⟨h1, yval_e (yeqA_b hq (by omega)) h2⟩
theorem V_say {f : xa_H} (hv : yv f) (a : Int) : yv (asay f a).2 := by
  refine yv_pad hv (asay_q f a) ?_
  have h := hv.2.1
  unfold asay
  split
  · rename_i ha
    split
    · exact h
    · rename_i hn
      show (0 ≤ xup (xup f 8 0 (f 7 0 0).toNat a) 7 0 0 (f 7 0 0 + 1) 7 0 0 ∧ xup (xup f 8 0 (f 7 0 0).toNat a) 7 0 0 (f 7 0 0 + 1) 7 0 0 ≤ 60) ∧ ∀ i, (i : Nat) < (xup (xup f 8 0 (f 7 0 0).toNat a) 7 0 0 (f 7 0 0 + 1) 7 0 0).toNat → 33 ≤ xup (xup f 8 0 (f 7 0 0).toNat a) 7 0 0 (f 7 0 0 + 1) 8 0 i ∧ xup (xup f 8 0 (f 7 0 0).toNat a) 7 0 0 (f 7 0 0 + 1) 8 0 i ≤ 126
      rw [xup_at]
      refine ⟨by omega, fun i hi => ?_⟩
      rw [xup_o (by omega)]
      by_cases hin : i = (f 7 0 0).toNat
      · rw [hin, xup_at]; exact ha
      · rw [xup_o (by omega)]
        exact h.2 i (by omega)
  · exact h
theorem K_say {σ f : xa_H} (hs : yc σ f) (hv : yv f) (a : Int) : xW (fm_S_say a σ) fun r => r.1 = (asay f a).1 ∧ yc r.2 (asay f a).2 := by
  obtain ⟨⟨hp1, hp2⟩, hg⟩ := ypd_c hs.1 hv
  have h3 := hv.2.1
  unfold fm_S_say asay
  by_cases h : 33 ≤ a ∧ a ≤ 126
  · rw [if_pos h]
    refine xW_f (by omega) (xW_t h.2 ?_)
    unfold fm_Pad_isFull
    by_cases h60 : f 7 0 0 = 60
    · rw [if_pos h60, if_neg (by omega)]
      exact xW_be rfl (xW_f (by decide) (xW_some ⟨rfl, hs⟩))
    · rw [if_neg h60, if_pos (by omega)]
      refine xW_be rfl (xW_t rfl ?_)
      have hadd : fm_Pad_add a σ = some ((((f 7 0 0).toNat + 1 : Nat) : Int), xup (xup σ 17 0 (f 7 0 0).toNat a) 2 0 1 (((f 7 0 0).toNat + 1 : Nat) : Int)) := by
        unfold fm_Pad_add
        rw [hp1, wr17 (by omega), Option.bind_some, xnm_e, xup_at, xup_o (by omega), hp1, w32_s (by omega)]
      refine xW_be2 hadd (xW_some ⟨?_, ?_⟩)
      · show (((f 7 0 0).toNat + 1 : Nat) : Int) = f 7 0 0 + 1
        omega
      · refine yc_pad hs ?_ ?_ ?_
        · intro K k1 k2
          show xup (xup σ 17 0 (f 7 0 0).toNat a) 2 0 1 (((f 7 0 0).toNat + 1 : Nat) : Int) K = σ K
          funext i s
          rw [xup_o (by omega), xup_o (by omega)]
        · have := asay_q f a
          unfold asay at this
          rw [if_pos h, if_neg h60] at this
          exact this
        · refine ⟨?_, fun i hi => ?_⟩
          · show xup (xup σ 17 0 (f 7 0 0).toNat a) 2 0 1 (((f 7 0 0).toNat + 1 : Nat) : Int) 2 0 1 = xup (xup f 8 0 (f 7 0 0).toNat a) 7 0 0 (f 7 0 0 + 1) 7 0 0
            rw [xup_at, xup_at]; omega
          · show xup (xup σ 17 0 (f 7 0 0).toNat a) 2 0 1 (((f 7 0 0).toNat + 1 : Nat) : Int) 17 0 i = xup (xup f 8 0 (f 7 0 0).toNat a) 7 0 0 (f 7 0 0 + 1) 8 0 i
            have hi : i < (xup (xup f 8 0 (f 7 0 0).toNat a) 7 0 0 (f 7 0 0 + 1) 7 0 0).toNat := hi
            rw [xup_at] at hi
            rw [xup_o (by omega), xup_o (σ := xup f 8 0 (f 7 0 0).toNat a) (by omega)]
            by_cases hin : i = (f 7 0 0).toNat
            · rw [hin, xup_at, xup_at]
            · rw [xup_o (by omega), xup_o (by omega)]
              exact hp2 i (by omega)
  · rw [if_neg h]
    by_cases h1 : a < 33
    · exact xW_t h1 (xW_some ⟨rfl, hs⟩)
    · exact xW_f h1 (xW_f (by omega) (xW_some ⟨rfl, hs⟩))
theorem M_say {σ f : xa_H} (hs : ym σ f) (hv : yv f) (a : Int) : xW (fm_M_say a σ) fun r => r.1 = (asay f a).1 ∧ ym r.2 (asay f a).2 := by
  obtain ⟨hp1, hp2⟩ := ypd_m hs hv
  have h3 := hv.2.1
  have tn : ∀ j : Nat, ((j : Int)).toNat = j := fun j => rfl
  unfold fm_M_say asay
  refine xW_be (q_in a 33 126) ?_
  by_cases h : 33 ≤ a ∧ a ≤ 126
  · rw [if_pos h, if_pos h]
    refine xW_f (by decide) ?_
    rw [hp1]
    by_cases h60 : f 7 0 0 = 60
    · rw [if_pos h60]
      exact xW_t (by omega) (xW_some ⟨rfl, hs⟩)
    · rw [if_neg h60, tn]
      refine xW_f (by omega) (xW_t ⟨by omega, by omega⟩ (xW_nm (xW_nm ?_)))
      rw [xup_o (σ := σ) (by omega), hp1, w32_s (by omega), xup_at]
      refine xW_some ⟨?_, ?_⟩
      · show (((f 7 0 0).toNat + 1 : Nat) : Int) = f 7 0 0 + 1
        omega
      · refine ym_pad hs (xfm_t (xfm_up (by decide) (by decide)) (xfm_u9 (by decide))) ?_ ?_
        · have := asay_q f a
          unfold asay at this
          rw [if_pos h, if_neg h60] at this
          exact this
        · refine ⟨?_, fun i hi => ?_⟩
          · show xup (xup σ 65 0 (f 7 0 0).toNat a) 9 0 19 (((f 7 0 0).toNat + 1 : Nat) : Int) 9 0 19 = xup (xup f 8 0 (f 7 0 0).toNat a) 7 0 0 (f 7 0 0 + 1) 7 0 0
            rw [xup_at, xup_at]; omega
          · show xup (xup σ 65 0 (f 7 0 0).toNat a) 9 0 19 (((f 7 0 0).toNat + 1 : Nat) : Int) 65 0 i = xup (xup f 8 0 (f 7 0 0).toNat a) 7 0 0 (f 7 0 0 + 1) 8 0 i
            have hi : i < (xup (xup f 8 0 (f 7 0 0).toNat a) 7 0 0 (f 7 0 0 + 1) 7 0 0).toNat := hi
            rw [xup_at] at hi
            rw [xup_o (by omega), xup_o (σ := xup f 8 0 (f 7 0 0).toNat a) (by omega)]
            by_cases hin : i = (f 7 0 0).toNat
            · rw [hin, xup_at, xup_at]
            · rw [xup_o (by omega), xup_o (by omega)]
              exact hp2 i (by omega)
  · rw [if_neg h, if_neg h]
    exact xW_t rfl (xW_some ⟨rfl, hs⟩)
/-- an empty pad -/
noncomputable def aclr (f : xa_H) : xa_H := xup f 7 0 0 0
theorem aclr_q (f : xa_H) : yeqA f (aclr f) := by
  intro K h7 _
  unfold aclr
  funext i s
  rw [xup_o (by omega)]
theorem V_clr {f : xa_H} (hv : yv f) : yv (aclr f) := by
  refine yv_pad hv (aclr_q f) ?_
  have e : aclr f 7 0 0 = 0 := xup_at
  rw [e]
  exact ⟨by decide, fun i hi => by have : i < 0 := hi; omega⟩
theorem ypd_0 {σ f : xa_H} {K Kn sl : Nat} (h : σ Kn 0 sl = 0) : ypd σ K Kn sl (aclr f) := by
  have e : aclr f 7 0 0 = 0 := xup_at
  refine ⟨by rw [e]; exact h, fun i hi => ?_⟩
  rw [e] at hi
  have : i < 0 := hi
  omega
theorem K_wipe {σ f : xa_H} (hs : yc σ f) (hv : yv f) : xW (fm_S_wipe σ) fun r => r.1 = f 7 0 0 ∧ yc r.2 (aclr f) := by
  have hp := hs.1.2.2.2.1.1
  unfold fm_S_wipe
  have e : fm_Pad_clear σ = some (σ 2 0 1, xup σ 2 0 1 0) := rfl
  refine xW_be2 e (xW_some ⟨hp, ?_⟩)
  refine yc_pad hs ?_ (aclr_q f) (ypd_0 (by show xup σ 2 0 1 0 2 0 1 = 0; exact xup_at))
  intro K k1 k2
  show xup σ 2 0 1 0 K = σ K
  funext i s
  rw [xup_o (by omega)]
theorem M_wipe {σ f : xa_H} (hs : ym σ f) (hv : yv f) : xW (fm_M_wipe σ) fun r => r.1 = f 7 0 0 ∧ ym r.2 (aclr f) := by
  have hp := hs.2.2.1.1
  unfold fm_M_wipe
  refine xW_nm (xW_nm (xW_some ⟨hp, ?_⟩))
  exact ym_pad hs (xfm_u9 (by decide)) (aclr_q f) (ypd_0 (by show xup σ 9 0 19 0 9 0 19 = 0; exact xup_at))
/-- what is told -/
def anum (p : Int) : Int := 100 * (p / 24) + 10 * (p / 4 % 6) + p % 4
def atold (f : xa_H) (w : Int) : Int :=
  if w = 0 then f 7 0 0 else if w = 1 then f 0 0 0 else if w = 2 then f 0 0 1 else if w = 3 then f 0 0 2 else
  if 10 ≤ w ∧ w ≤ 13 then f 2 (w - 10).toNat 0 else if 20 ≤ w ∧ w ≤ 23 then (if f 2 (w - 20).toNat 1 < 0 then -6 else anum (f 2 (w - 20).toNat 1)) else
  if 30 ≤ w ∧ w ≤ 33 then anum (f 2 (w - 30).toNat 3) else -2
theorem q_sizeA {σ f : xa_H} (hs : yst σ f) (w : Int) : fm_Way_sizeAlong 0 w σ = some (if w = 1 then f 0 0 0 else if w = 2 then f 0 0 1 else if w = 3 then f 0 0 2 else -2) := by
  obtain ⟨w1, w2, w3⟩ := hs.2.1.1
  unfold fm_Way_sizeAlong
  rw [w1, w2, w3]
  by_cases h1 : w = 1
  · rw [if_pos h1, if_pos h1]
  · rw [if_neg h1, if_neg h1]
    by_cases h2 : w = 2
    · rw [if_pos h2, if_pos h2]
    · rw [if_neg h2, if_neg h2]
      by_cases h3 : w = 3
      · rw [if_pos h3, if_pos h3]
      · rw [if_neg h3, if_neg h3]
theorem K_told {σ f : xa_H} (hs : yst σ f) (hv : yv f) (w : Int) : fm_S_told w σ = some (atold f w) := by
  have hp := hs.2.2.2.1.1
  unfold fm_S_told
  by_cases h10 : 10 ≤ w
  · rw [if_pos h10, xrem_p (by omega), xdiv_p (by omega), if_neg (by omega)]
    by_cases h4 : 4 ≤ w % 10
    · rw [if_pos h4, if_neg (by omega), q_sizeA hs, Option.bind_some]
      unfold atold
      rw [if_neg (show ¬ w = 1 by omega), if_neg (show ¬ w = 2 by omega), if_neg (show ¬ w = 3 by omega), if_neg (show ¬ w = 0 by omega), if_neg (show ¬ w = 1 by omega), if_neg (show ¬ w = 2 by omega), if_neg (show ¬ w = 3 by omega), if_neg (by omega), if_neg (by omega), if_neg (by omega)]
    · rw [if_neg h4, if_pos ⟨by omega, by omega⟩]
      have hth := hs.2.1.2.2.1 (w % 10).toNat (by omega)
      have htv := hv.1.2.2.1 (w % 10).toNat (by omega)
      obtain ⟨⟨a0, a1, a2, a3⟩, _⟩ := hth
      rw [a0, a1, a3]
      unfold atold
      rw [if_neg (show ¬ w = 0 by omega), if_neg (show ¬ w = 1 by omega), if_neg (show ¬ w = 2 by omega), if_neg (show ¬ w = 3 by omega)]
      by_cases h1 : w / 10 = 1
      · have e : (w % 10).toNat = (w - 10).toNat := by omega
        rw [if_pos h1, if_pos (by omega), e]
      · rw [if_neg h1, if_neg (show ¬ (10 ≤ w ∧ w ≤ 13) by omega)]
        by_cases h2 : w / 10 = 2
        · have e : (w % 10).toNat = (w - 20).toNat := by omega
          rw [if_pos h2, if_pos (show 20 ≤ w ∧ w ≤ 23 by omega), e]
          rw [e] at htv
          show (if 0 ≤ f 2 (w - 20).toNat 1 then (fm_S_cellOf (f 2 (w - 20).toNat 1)).bind fun v10 => some v10 else some (-6)) = _
          rcases htv.2.2.2.1 with h | h
          · have h : f 2 (w - 20).toNat 1 = -6 := h
            rw [h, if_neg (by decide), if_pos (by decide)]
          · have h5 := h.2.1
            have h5 : 0 ≤ f 2 (w - 20).toNat 1 ∧ f 2 (w - 20).toNat 1 < 144 := h5
            rw [if_pos h5.1, if_neg (by omega), q_cellOf h5.1 h5.2, Option.bind_some]
            rfl
        · rw [if_neg h2, if_neg (show ¬ (20 ≤ w ∧ w ≤ 23) by omega)]
          by_cases h3 : w / 10 = 3
          · have e : (w % 10).toNat = (w - 30).toNat := by omega
            rw [if_pos h3, if_pos (by omega), e]
            rw [e] at htv
            have h5 : 0 ≤ f 2 (w - 30).toNat 3 ∧ f 2 (w - 30).toNat 3 < 144 := htv.2.2.2.2.2.1.1
            show ((fm_S_cellOf (f 2 (w - 30).toNat 3)).bind fun v7 => some v7) = _
            rw [q_cellOf h5.1 h5.2, Option.bind_some]
            rfl
          · rw [if_neg h3, if_neg (by omega)]
  · rw [if_neg h10, hp, q_sizeA hs, Option.bind_some]
    unfold atold
    by_cases h0 : w = 0
    · rw [if_pos h0, if_pos h0]
    · rw [if_neg h0, if_neg h0]
      by_cases h1 : w = 1
      · rw [if_pos h1, if_pos h1]
      · rw [if_neg h1, if_neg h1]
        by_cases h2 : w = 2
        · rw [if_pos h2, if_pos h2]
        · rw [if_neg h2, if_neg h2]
          by_cases h3 : w = 3
          · rw [if_pos h3, if_pos h3]
          · rw [if_neg h3, if_neg h3, if_neg (by omega), if_neg (by omega), if_neg (by omega)]
theorem M_told {σ f : xa_H} (hs : ym σ f) (hv : yv f) (w : Int) : fm_M_told w σ = some (atold f w) := by
  obtain ⟨w1, w2, w3⟩ := hs.2.1.1
  have hp := hs.2.2.1.1
  unfold fm_M_told atold
  rw [q_in, q_in, q_in, Option.bind_some, Option.bind_some, Option.bind_some, w1, w2, w3, hp]
  by_cases h1 : 10 ≤ w ∧ w ≤ 13
  · have e : w32 (w - 10) = (((w - 10).toNat : Nat) : Int) := w32_k (by omega) (by omega)
    have tn : ∀ j : Nat, ((j : Int)).toNat = j := fun j => rfl
    rw [if_pos h1, if_neg (by decide), e, tn, if_pos ⟨by omega, by omega⟩, (hs.2.1.2.2.1 _ (show (w - 10).toNat < 4 by omega)).1, if_neg (show ¬ w = 0 by omega), if_neg (show ¬ w = 1 by omega), if_neg (show ¬ w = 2 by omega), if_neg (show ¬ w = 3 by omega), if_pos h1]
  · rw [if_neg h1, if_pos rfl]
    by_cases h2 : 20 ≤ w ∧ w ≤ 23
    · have e : w32 (w - 20) = (((w - 20).toNat : Nat) : Int) := w32_k (by omega) (by omega)
      have tn : ∀ j : Nat, ((j : Int)).toNat = j := fun j => rfl
      have htv := hv.1.2.2.1 (w - 20).toNat (by omega)
      rw [if_pos h2, if_neg (by decide), e, tn, if_pos ⟨by omega, by omega⟩, (hs.2.1.2.2.1 _ (show (w - 20).toNat < 4 by omega)).2.1, if_neg (show ¬ w = 0 by omega), if_neg (show ¬ w = 1 by omega), if_neg (show ¬ w = 2 by omega), if_neg (show ¬ w = 3 by omega), if_neg h1, if_pos h2]
      rcases htv.2.2.2.1 with h | h
      · have h : f 2 (w - 20).toNat 1 = -6 := h
        rw [h, if_neg (by decide), if_pos (by decide)]
      · have h5 : 0 ≤ f 2 (w - 20).toNat 1 ∧ f 2 (w - 20).toNat 1 < 144 := h.2.1
        rw [if_pos h5.1, if_pos ⟨by omega, by omega⟩, if_neg (by omega), q_numberOf h5.1 h5.2, Option.bind_some]
        rfl
    · rw [if_neg h2, if_pos rfl]
      by_cases h3 : 30 ≤ w ∧ w ≤ 33
      · have e : w32 (w - 30) = (((w - 30).toNat : Nat) : Int) := w32_k (by omega) (by omega)
        have tn : ∀ j : Nat, ((j : Int)).toNat = j := fun j => rfl
        have htv := hv.1.2.2.1 (w - 30).toNat (by omega)
        have h5 : 0 ≤ f 2 (w - 30).toNat 3 ∧ f 2 (w - 30).toNat 3 < 144 := htv.2.2.2.2.2.1.1
        rw [if_pos h3, if_neg (by decide), e, tn, if_pos ⟨by omega, by omega⟩, (hs.2.1.2.2.1 _ (show (w - 30).toNat < 4 by omega)).2.2.2, if_neg (show ¬ w = 0 by omega), if_neg (show ¬ w = 1 by omega), if_neg (show ¬ w = 2 by omega), if_neg (show ¬ w = 3 by omega), if_neg h1, if_neg h2, if_pos h3, q_numberOf h5.1 h5.2, Option.bind_some]
        rfl
      · rw [if_neg h3, if_pos rfl, if_neg h1, if_neg h2, if_neg h3]
        by_cases a0 : w = 0
        · rw [if_pos a0, if_pos a0]
        · rw [if_neg a0, if_neg a0]
          by_cases a1 : w = 1
          · rw [if_pos a1, if_pos a1]
          · rw [if_neg a1, if_neg a1]
            by_cases a2 : w = 2
            · rw [if_pos a2, if_pos a2]
            · rw [if_neg a2, if_neg a2]
              by_cases a3 : w = 3
              · rw [if_pos a3, if_pos a3]
              · rw [if_neg a3, if_neg a3]
