/-! what a search leaves as it was; fits, off, why, step -/
def xfs (L M : List Nat) (σ σ' : xa_H) : Prop := (∀ K, K ∉ L → ¬ K = 3 → σ' K = σ K) ∧ (∀ i s, s ∉ M → σ' 3 i s = σ 3 i s)
theorem xfs_r (L M : List Nat) (σ : xa_H) : xfs L M σ σ := ⟨fun _ _ _ => rfl, fun _ _ _ => rfl⟩
theorem xfs_t {L M : List Nat} {σ σ1 σ2 : xa_H} (h : xfs L M σ σ1) (h2 : xfs L M σ1 σ2) : xfs L M σ σ2 :=
  ⟨fun K h1 h3 => (h2.1 K h1 h3).trans (h.1 K h1 h3), fun i s h1 => (h2.2 i s h1).trans (h.2 i s h1)⟩
theorem xfs_m {L M L' M' : List Nat} {σ σ' : xa_H} (h : xfs L M σ σ') (hL : ∀ K ∈ L, K ∈ L') (hM : ∀ K ∈ M, K ∈ M') : xfs L' M' σ σ' :=
  ⟨fun K h1 h3 => h.1 K (fun q => h1 (hL K q)) h3, fun i s h1 => h.2 i s (fun q => h1 (hM s q))⟩
theorem xfs_up {L M : List Nat} {σ : xa_H} {K i s : Nat} {v : Int} (h : K ∈ L) (h3 : ¬ K = 3) : xfs L M σ (xup σ K i s v) := by
  constructor
  · intro K' h1 _
    funext i' s'
    rw [xup_o]
    rintro ⟨e, -⟩; subst e; exact h1 h
  · intro i' s' _
    rw [xup_o]
    rintro ⟨e, -⟩; exact h3 e.symm
theorem xfs_u3 {L M : List Nat} {σ : xa_H} {i s : Nat} {v : Int} (h : s ∈ M) : xfs L M σ (xup σ 3 i s v) := by
  constructor
  · intro K' _ h3
    funext i' s'
    rw [xup_o]
    rintro ⟨e, -⟩; exact h3 e
  · intro i' s' h1
    rw [xup_o]
    rintro ⟨-, -, e⟩; subst e; exact h1 h
section FR
variable {L M : List Nat} {σ σ' P : xa_H}
theorem yct_f (h : xfs L M σ σ') (hL : 31 ∉ L ∧ 32 ∉ L ∧ 19 ∉ L ∧ 28 ∉ L) (ht : yct σ) : yct σ' := by
  unfold yct
  rw [h.1 31 hL.1 (by decide), h.1 32 hL.2.1 (by decide), h.1 19 hL.2.2.1 (by decide), h.1 28 hL.2.2.2 (by decide)]
  exact ht
theorem ywy_f (h : xfs L M σ σ') (hL : 7 ∉ L ∧ 34 ∉ L) (ht : ywy σ P) : ywy σ' P := by
  unfold ywy
  rw [h.1 7 hL.1 (by decide), h.1 34 hL.2 (by decide)]
  exact ht
theorem ysc_f (h : xfs L M σ σ') (hL : 5 ∉ L ∧ 28 ∉ L ∧ 18 ∉ L ∧ 20 ∉ L) (hM : 8 ∉ M) (ht : ysc σ P) : ysc σ' P := by
  unfold ysc
  rw [h.1 5 hL.1 (by decide), h.1 28 hL.2.1 (by decide), h.1 18 hL.2.2.1 (by decide), h.1 20 hL.2.2.2 (by decide), h.2 0 8 hM]
  exact ht
theorem yhc_f (h : xfs L M σ σ') (hL : 21 ∉ L) (ht : yhc σ P) : yhc σ' P := by
  unfold yhc
  rw [h.1 21 hL (by decide)]
  exact ht
end FR
/-- what hinders, by what is off -/
def yea (D : Nat) : Nat := 48 ||| (15 ^^^ (15 &&& D))
def yhn (A D : Nat) : Nat → Nat
  | 0 => 0
  | g + 1 => yhn A D g ||| (if (A <<< 1).testBit g = true then 0 else yea D <<< (6 * g))
theorem yea_r (D : Nat) : yea D < 64 := by
  unfold yea
  exact Nat.or_lt_two_pow (n := 6) (by decide) (Nat.xor_lt_two_pow (n := 6) (by decide) (by
    have := Nat.and_le_left (n := 15) (m := D)
    omega))
theorem yhn_r {A D : Nat} : ∀ {g : Nat}, g ≤ 5 → yhn A D g < 1073741824 := by
  intro g
  induction g with
  | zero => intro _; unfold yhn; omega
  | succ g ih =>
    intro h
    unfold yhn
    refine Nat.or_lt_two_pow (n := 30) (ih (by omega)) ?_
    split
    · decide
    · exact sh_lt (yea_r D) (by omega)
theorem yhn_b {A D i : Nat} : ∀ {n : Nat}, (yhn A D n).testBit i = true ↔ ∃ g, g < n ∧ (A <<< 1).testBit g = false ∧ (yea D <<< (6 * g)).testBit i = true := by
  intro n
  induction n with
  | zero =>
    unfold yhn
    rw [Nat.zero_testBit]
    constructor
    · intro h; cases h
    · rintro ⟨k, h, _⟩; omega
  | succ n ih =>
    unfold yhn
    rw [Nat.testBit_or, Bool.or_eq_true, ih]
    constructor
    · rintro (⟨k, h1, h2, h3⟩ | h)
      · exact ⟨k, by omega, h2, h3⟩
      · by_cases hb : (A <<< 1).testBit n = true
        · rw [if_pos hb, Nat.zero_testBit] at h; cases h
        · rw [if_neg hb] at h
          exact ⟨n, by omega, by simpa using hb, h⟩
    · rintro ⟨k, h1, h2, h3⟩
      by_cases hk : k = n
      · subst hk
        right
        rw [if_neg (by rw [h2]; decide)]
        exact h3
      · exact Or.inl ⟨k, by omega, h2, h3⟩
def yhd (P : xa_H) : Nat := yhn (P 5 0 0).toNat (P 5 0 1).toNat 5
theorem yon_b {A g : Nat} (h : g ≤ 4) : (A <<< 1).testBit g = false ↔ (g = 0 ∨ A.testBit (g - 1) = false) := by
  rw [Nat.testBit_shiftLeft]
  cases g with
  | zero => simp
  | succ g => simp
theorem yea_h : ∀ e : Nat, e < 6 → ∀ D : Nat, D < 16 → (yh (e : Int) &&& yea D = 0 ↔ ((e : Int) = 0 ∨ (2 ≤ (e : Int) ∧ D.testBit (e - 2) = true))) := by decide +kernel
theorem yea_32 : ∀ D : Nat, D < 16 → ¬ 32 &&& yea D = 0 := by decide +kernel
theorem ygc_o {P : xa_H} (hv : yPv P) (x y z : Int) : (ygc P x y z &&& yea (P 5 0 1).toNat = 0) ↔ (yqin P x y z ∧ yopn P (ypl x y z)) := by
  have hd : (P 5 0 1).toNat < 16 := by have := hv.2.2.2.2.2.2; omega
  unfold ygc
  by_cases h : (0 ≤ x ∧ x < P 0 0 0) ∧ (0 ≤ y ∧ y < P 0 0 1) ∧ (0 ≤ z ∧ z < P 0 0 2)
  · rw [if_pos h]
    have hs := hv.1
    unfold qsz at hs
    have hk := hv.2.1 (ypl x y z).toNat (by unfold ypl; omega)
    have := yea_h (P 1 0 (ypl x y z).toNat).toNat (by omega) (P 5 0 1).toNat hd
    have e : (((P 1 0 (ypl x y z).toNat).toNat : Nat) : Int) = P 1 0 (ypl x y z).toNat := by omega
    rw [e] at this
    rw [this]
    constructor
    · intro h2; exact ⟨h, h2⟩
    · rintro ⟨_, h2⟩; exact h2
  · rw [if_neg h]
    constructor
    · intro h2; exact absurd h2 (yea_32 _ hd)
    · rintro ⟨h2, _⟩; exact absurd h2 h
theorem yV_G {P : xa_H} (hv : yPv P) {c : Nat} (hc : ycell P c) : (yV P c &&& yhd P = 0) ↔ yG P c := by
  have hg : ∀ k, k < (P 2 0 0).toNat → (P 4 k 0).toNat ≤ 4 := fun k hk => by have := hv.2.2.2.2.1 k hk; omega
  have ho : ∀ k, k < (P 2 0 0).toNat → (yon P k ↔ ((P 5 0 0).toNat <<< 1).testBit (P 4 k 0).toNat = false) := by
    intro k hk
    rw [yon_b (hg k hk)]
    have := hv.2.2.2.2.1 k hk
    unfold yon
    constructor
    · rintro (h | h)
      · left; omega
      · right; exact h
    · rintro (h | h)
      · left; omega
      · right; exact h
  have hH : ∀ k, yH P c k < 64 := fun k => ygc_r hv _ _ _
  have hkey : (yV P c &&& yhd P = 0) ↔ ∀ k, k < (P 2 0 0).toNat → yon P k → yH P c k &&& yea (P 5 0 1).toNat = 0 := by
    rw [and_0]
    constructor
    · intro h k hk hon
      rw [and_0]
      intro i hi
      cases hb : (yea (P 5 0 1).toNat).testBit i with
      | false => rfl
      | true =>
        have h1 : (yV P c).testBit (6 * (P 4 k 0).toNat + i) = true := yseen_b.mpr ⟨k, hk, by
          rw [Nat.testBit_shiftLeft]
          simp [hi]⟩
        have h2 := h _ h1
        have h3 : (yhd P).testBit (6 * (P 4 k 0).toNat + i) = true := yhn_b.mpr ⟨(P 4 k 0).toNat, by have := hg k hk; omega, (ho k hk).mp hon, by
          rw [Nat.testBit_shiftLeft]
          simp [hb]⟩
        rw [h2] at h3; cases h3
    · intro h i hi
      cases hb : (yhd P).testBit i with
      | false => rfl
      | true =>
        obtain ⟨k, hk, h1⟩ := yseen_b.mp hi
        obtain ⟨g, hg5, h2, h3⟩ := yhn_b.mp hb
        rw [Nat.testBit_shiftLeft, Bool.and_eq_true, decide_eq_true_iff] at h1 h3
        obtain ⟨a1, a2⟩ := h1
        obtain ⟨b1, b2⟩ := h3
        have c1 : i - 6 * (P 4 k 0).toNat < 6 := by
          cases Nat.lt_or_ge (i - 6 * (P 4 k 0).toNat) 6 with
          | inl h => exact h
          | inr hge =>
            have := Nat.testBit_lt_two_pow (x := yH P c k) (i := i - 6 * (P 4 k 0).toNat) (Nat.lt_of_lt_of_le (hH k) (Nat.pow_le_pow_right (n := 2) (i := 6) (by decide) hge))
            rw [this] at a2; cases a2
        have c2 : i - 6 * g < 6 := by
          cases Nat.lt_or_ge (i - 6 * g) 6 with
          | inl h => exact h
          | inr hge =>
            have := Nat.testBit_lt_two_pow (x := yea (P 5 0 1).toNat) (i := i - 6 * g) (Nat.lt_of_lt_of_le (yea_r _) (Nat.pow_le_pow_right (n := 2) (i := 6) (by decide) hge))
            rw [this] at b2; cases b2
        have eg : (P 4 k 0).toNat = g := by omega
        subst eg
        have h4 := and_0.mp (h k hk ((ho k hk).mpr h2)) _ a2
        rw [h4] at b2; cases b2
  rw [hkey]
  constructor
  · intro h
    exact ⟨hc.1, hc.2, fun k hk hon => (ygc_o hv _ _ _).mp (h k hk hon)⟩
  · rintro ⟨_, _, h⟩ k hk hon
    exact (ygc_o hv _ _ _).mpr (h k hk hon)
theorem q_off {A D : Nat} (hA : A < 16) (hD : D < 16) (σ : xa_H) : xW (fm_Search_off (A : Int) (D : Int) σ) fun σ' => xfs [] [9] σ σ' ∧ σ' 3 0 9 = ((yhn A D 5 : Nat) : Int) := by
  unfold fm_Search_off
  have e1 : xor2 48 (xand 15 (xxor (D : Int) (-1))) = ((yea D : Nat) : Int) := by
    have h1 := xandn_n (a := 15) (b := D) (by decide) (by omega)
    have h2 : 15 ^^^ (15 &&& D) < 16 := Nat.xor_lt_two_pow (n := 4) (by decide) (by
      have := Nat.and_le_left (n := 15) (m := D)
      omega)
    have h3 := xor2_n (a := 48) (b := 15 ^^^ (15 &&& D)) (by decide) (by omega)
    unfold yea
    rw [← h3]
    show xor2 48 (xand 15 (xxor (D : Int) (-1))) = xor2 48 _
    rw [← h1]
    rfl
  rw [e1]
  refine xW_nm (xW_nm ?_)
  refine xfor0 (fun n (j : Int) (g : xa_H) => fm_Search_off_18 (A : Int) ((yea D : Nat) : Int) (fun s => some s) n j g) 5
    (fun j g => xfs [] [9] σ g ∧ g 3 0 9 = ((yhn A D j : Nat) : Int)) _ (by unfold xFU; omega) ?_ ?_ (xup σ 3 0 9 0) ?_
  · rintro n j g hj ⟨i1, i2⟩ ih
    show xW (fm_Search_off_18 (A : Int) ((yea D : Nat) : Int) (fun s => some s) (n + 1) (j : Int) g) _
    rw [fm_Search_off_18]
    refine xW_f (by omega) ?_
    have hA1 : A <<< 1 < 32 := by rw [Nat.shiftLeft_eq]; omega
    have e2 : xshl (A : Int) 1 = ((A <<< 1 : Nat) : Int) := xshl_n (b := 1) (by decide) (by omega) (by omega)
    rw [e2]
    refine xW_be (q_has (by omega) (by omega)) ?_
    refine xW_nm (xW_nm (xW_nm ?_))
    rw [w32_s (by omega)]
    refine ih _ ⟨xfs_t i1 (xfs_u3 (by decide)), ?_⟩
    rw [xup_at, i2]
    have e3 : w32 ((j : Int) * 6) = ((6 * j : Nat) : Int) := by simp only [w32_d]; omega
    have hsl := sh_lt (g := j) (yea_r D) (by omega)
    rw [e3, xshl_n (a := yea D) (b := 6 * j) (by omega) (by omega) (by have := yea_r D; omega)]
    have hr := yhn_r (A := A) (D := D) (g := j) (by omega)
    by_cases hb : (A <<< 1).testBit j = true
    · rw [if_pos hb, if_neg (by decide)]
      have := xor2_n (a := yhn A D j) (b := 0) (by omega) (by decide)
      show xor2 _ ((0 : Nat) : Int) = _
      rw [this]
      show _ = ((yhn A D j ||| (if (A <<< 1).testBit j = true then 0 else yea D <<< (6 * j)) : Nat) : Int)
      rw [if_pos hb]
    · rw [if_neg hb, if_pos rfl, xor2_n (by omega) (by omega)]
      show _ = ((yhn A D j ||| (if (A <<< 1).testBit j = true then 0 else yea D <<< (6 * j)) : Nat) : Int)
      rw [if_neg hb]
  · rintro n g h
    show xW (fm_Search_off_18 (A : Int) ((yea D : Nat) : Int) (fun s => some s) (n + 1) ((5 : Nat) : Int) g) _
    rw [fm_Search_off_18]
    refine xW_t (by omega) (xW_some h)
  · exact ⟨xfs_u3 (by decide), xup_at⟩
/-- whether it fits -/
theorem q_fits {σ P : xa_H} (ht : yct σ) (hv : yPv P) (hs : ysc σ P) (hh : yhc σ P) (hb : σ 3 0 9 = ((yhd P : Nat) : Int)) {c : Nat} (hc : ycell P c) :
    xW (fm_Search_fits (c : Int) σ) fun r => xfs [21] [] σ r.2 ∧ yhc r.2 P ∧ ((r.1 = 1 ∧ yG P c) ∨ (r.1 = 0 ∧ ¬ yG P c)) := by
  have hc1 := hc.1
  have hV := yV_r hv c
  have hD : yhd P < 1073741824 := yhn_r (by omega)
  have hfin : ∀ s4 : xa_H, s4 3 0 9 = ((yhd P : Nat) : Int) → xfs [21] [] σ s4 → yhc s4 P →
      xW (if (xand ((yV P c : Nat) : Int) (s4 3 0 9)) = 0 then some ((1 : Int), s4) else some (0, s4)) fun r => xfs [21] [] σ r.2 ∧ yhc r.2 P ∧ ((r.1 = 1 ∧ yG P c) ∨ (r.1 = 0 ∧ ¬ yG P c)) := by
    intro s4 h9 hf h2
    rw [h9, xand_n (by omega) (by omega)]
    refine xW_if (fun h => xW_some ⟨hf, h2, Or.inl ⟨rfl, (yV_G hv hc).mp (by omega)⟩⟩) (fun h => xW_some ⟨hf, h2, Or.inr ⟨rfl, fun hG => h (by rw [(yV_G hv hc).mpr hG]; rfl)⟩⟩)
  unfold fm_Search_fits
  refine xW_be (rd21 (show c < 3456 from hc1)) ?_
  refine xW_j ?_
  rcases hh c hc with h1 | h1
  · refine xW_t h1 ?_
    refine xW_be (q_lookAt ht hv hs hc) ?_
    refine xW_be (wr21 (show c < 3456 from hc1)) ?_
    have hf : xfs [21] [] σ (xup σ 21 0 c ((yV P c : Nat) : Int)) := xfs_up (by decide) (by decide)
    refine hfin _ ?_ hf ?_
    · rw [hf.2 0 9 (by decide)]; exact hb
    · intro c' hc'
      by_cases he : c' = c
      · subst he; right; exact xup_at
      · rw [xup_o (by rintro ⟨-, -, e⟩; exact he e)]
        exact hh c' hc'
  · rw [h1]
    refine xW_f (by omega) ?_
    exact hfin σ hb (xfs_r _ _ _) hh
def ynv (o : Option Nat) : Int := match o with
  | some c => (c : Int)
  | none => -6
theorem q_step {σ P : xa_H} (ht : yct σ) (hz : qsz (P 0 0 0) (P 0 0 1) (P 0 0 2)) (hw : ywy σ P) {c m : Nat} (hc : c < 3456) (hm : m < 12) : fm_Search_step (c : Int) (m : Int) σ = some (ynv (ynx P c m)) := by
  unfold fm_Search_step
  rw [xnm_e, xnm_e]
  have e1 : xdiv (c : Int) 24 = ((c / 24 : Nat) : Int) := by rw [xdiv_p (by omega)]; omega
  have e2 : xrem (c : Int) 24 = ((c % 24 : Nat) : Int) := by rw [xrem_p (by omega)]; omega
  rw [e1, e2]
  unfold ynx
  by_cases h6 : m < 6
  · rw [if_pos (by omega), if_pos h6]
    unfold fm_Way_placeBeside
    have e3 : w32 (w32 (((c / 24 : Nat) : Int) * 6) + (m : Int)) = ((6 * (c / 24) + m : Nat) : Int) := by simp only [w32_d]; omega
    rw [e3, rd34 (show 6 * (c / 24) + m < 864 by omega), Option.bind_some, Option.bind_some, hw.2 _ _ (by omega) h6]
    unfold ybs
    by_cases hq : (0 ≤ yX c + ydx m ∧ yX c + ydx m < P 0 0 0) ∧ (0 ≤ yY c + ydy m ∧ yY c + ydy m < P 0 0 1) ∧ (0 ≤ yZ c + ydz m ∧ yZ c + ydz m < P 0 0 2)
    · have hq' := hq
      unfold yX yY yZ at hq'
      unfold qsz at hz
      rw [if_pos hq', if_pos hq]
      have hp : 0 ≤ ypl (yX c + ydx m) (yY c + ydy m) (yZ c + ydz m) ∧ ypl (yX c + ydx m) (yY c + ydy m) (yZ c + ydz m) < 144 := by unfold ypl; omega
      show (if 0 ≤ ypl (yX c + ydx m) (yY c + ydy m) (yZ c + ydz m) then some (w32 (w32 (ypl (yX c + ydx m) (yY c + ydy m) (yZ c + ydz m) * 24) + ((c % 24 : Nat) : Int))) else some (-6)) = _
      rw [if_pos hp.1]
      have e4 : w32 (w32 (ypl (yX c + ydx m) (yY c + ydy m) (yZ c + ydz m) * 24) + ((c % 24 : Nat) : Int)) = ((24 * (ypl (yX c + ydx m) (yY c + ydy m) (yZ c + ydz m)).toNat + c % 24 : Nat) : Int) := w32_2 (by omega) (by omega) (by omega)
      rw [e4]
      rfl
    · have hq' := hq
      unfold yX yY yZ at hq'
      rw [if_neg hq', if_neg hq, if_neg (by decide)]
      rfl
  · rw [if_neg (by omega), if_neg h6]
    have e3 : w32 ((m : Int) - 6) = ((m - 6 : Nat) : Int) := by simp only [w32_d]; omega
    rw [e3, q_after ht (by omega) (by omega), Option.bind_some]
    have := yn_r (c % 24) (by omega) (m - 6) (by omega)
    have e4 : w32 (w32 (((c / 24 : Nat) : Int) * 24) + ((yn (c % 24) (m - 6) : Nat) : Int)) = ((24 * (c / 24) + yn (c % 24) (m - 6) : Nat) : Int) := w32_2 (by omega) (by omega) (by omega)
    rw [e4]
    rfl
theorem q_opp {m : Nat} (hm : m < 12) : fm_Search_opposite (m : Int) = some ((yud m : Nat) : Int) := by
  unfold fm_Search_opposite
  by_cases h6 : m < 6
  · rw [if_neg (by omega)]
    have : ∀ m : Nat, m < 6 → xxor (m : Int) 1 = ((yud m : Nat) : Int) := by
      intro m hm
      rw [xxor_d]
      have : m = 0 ∨ m = 1 ∨ m = 2 ∨ m = 3 ∨ m = 4 ∨ m = 5 := by omega
      rcases this with h | h | h | h | h | h <;> subst h <;> decide
    rw [this m h6]
  · rw [if_pos (by omega)]
    unfold yud
    rw [if_neg h6]
    by_cases h9 : m < 9
    · rw [if_neg (by omega), if_pos h9, w32_k (k := m + 3) (by omega) (by omega)]
    · rw [if_pos (by omega), if_neg h9, w32_k (k := m - 3) (by omega) (by omega)]
