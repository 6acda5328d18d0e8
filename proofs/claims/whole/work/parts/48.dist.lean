/-! costs of rows, and the first of the cheapest -/
def ysum (c : Nat → Nat) : List Nat → Nat
  | [] => 0
  | m :: r => c m + ysum c r
theorem ysum_a {c : Nat → Nat} : ∀ {A B : List Nat}, ysum c (A ++ B) = ysum c A + ysum c B := by
  intro A
  induction A with
  | nil => intro B; show ysum c B = 0 + ysum c B; omega
  | cons m r ih =>
    intro B
    show c m + ysum c (r ++ B) = c m + ysum c r + ysum c B
    rw [ih]; omega
theorem ysum_l {c : Nat → Nat} {w : Nat} : ∀ {L : List Nat}, (∀ m ∈ L, c m ≤ w) → ysum c L ≤ L.length * w := by
  intro L
  induction L with
  | nil => intro _; exact Nat.zero_le _
  | cons m r ih =>
    intro h
    have h1 := ih (fun m' hm' => h m' (List.Mem.tail _ hm'))
    have h2 := h m (List.Mem.head _)
    show c m + ysum c r ≤ (r.length + 1) * w
    rw [Nat.succ_mul]; omega
theorem ysum_g {c : Nat → Nat} : ∀ {L : List Nat}, (∀ m, 1 ≤ c m) → L.length ≤ ysum c L := by
  intro L
  induction L with
  | nil => intro _; exact Nat.zero_le _
  | cons m r ih =>
    intro h
    have h1 := ih h
    have h2 := h m
    show r.length + 1 ≤ c m + ysum c r
    omega
/-- the weight of a move: K times its cost, and one -/
def ywt (K : Nat) (c : Nat → Nat) (m : Nat) : Nat := K * c m + 1
theorem ysum_w {K : Nat} {c : Nat → Nat} : ∀ {L : List Nat}, ysum (ywt K c) L = K * ysum c L + L.length := by
  intro L
  induction L with
  | nil => rfl
  | cons m r ih =>
    show ywt K c m + ysum (ywt K c) r = K * (c m + ysum c r) + (r.length + 1)
    rw [ih, Nat.mul_add]
    unfold ywt
    omega
section DI
variable {G : Nat → Prop} {nx : Nat → Nat → Option Nat} {gl : Nat → Prop}
/-- where a row leads -/
def yend (nx : Nat → Nat → Option Nat) (s : Nat) (L : List Nat) : Nat := L.foldl (fun u m => (nx u m).getD 0) s
theorem yend_e : ∀ {L : List Nat} {s e : Nat}, ygo G nx s L e → yend nx s L = e := by
  intro L
  induction L with
  | nil => rintro s e ⟨_, h⟩; exact h
  | cons m r ih =>
    rintro s e ⟨_, _, s', h3, h4⟩
    show yend nx ((nx s m).getD 0) r = e
    rw [h3]
    exact ih h4
/-- a long row comes to a stand twice -/
theorem ycut {N : Nat} (hN : ∀ u, G u → u < N) {L : List Nat} {s e : Nat} (h : ygo G nx s L e) (hl : N ≤ L.length) :
    ∃ A B C u, L = A ++ (B ++ C) ∧ 0 < B.length ∧ ygo G nx s A u ∧ ygo G nx u B u ∧ ygo G nx u C e := by
  have hp : ∀ i, i ≤ L.length → ygo G nx s (L.take i) (yend nx s (L.take i)) := by
    intro i _
    have h0 : ygo G nx s (L.take i ++ L.drop i) e := by rw [List.take_append_drop]; exact h
    obtain ⟨u, h1, h2⟩ := ygo_app.mp h0
    rw [yend_e h1]; exact h1
  cases Classical.em (∃ i j, i < j ∧ j ≤ L.length ∧ yend nx s (L.take i) = yend nx s (L.take j)) with
  | inr hn =>
    exfalso
    have := pig N (L.length + 1) (fun i => yend nx s (L.take i)) (fun i hi => hN _ (ygo_Ge (hp i (by omega)))) (fun i j hi hj he => by
      cases Nat.lt_trichotomy i j with
      | inl hij => exact absurd ⟨i, j, hij, by omega, he⟩ hn
      | inr hij => cases hij with
        | inl hij => exact hij
        | inr hij => exact absurd ⟨j, i, hij, by omega, he.symm⟩ hn)
    omega
  | inl hy =>
    obtain ⟨i, j, hij, hj, he⟩ := hy
    have e1 : L.take j = L.take i ++ (L.take j).drop i := by
      have h1 := (List.take_append_drop i (L.take j)).symm
      rw [List.take_take, Nat.min_eq_left (by omega)] at h1
      exact h1
    have hj2 := hp j hj
    have hd := hj2
    rw [e1] at hd
    obtain ⟨u, h1, h2⟩ := ygo_app.mp hd
    have hu : yend nx s (L.take i) = u := yend_e h1
    have hu2 : yend nx s (L.take i ++ (L.take j).drop i) = u := by rw [← e1, ← he]; exact hu
    rw [hu2] at h2
    have h0 : ygo G nx s (L.take j ++ L.drop j) e := by rw [List.take_append_drop]; exact h
    obtain ⟨v, h3, h4⟩ := ygo_app.mp h0
    have hv : v = u := by
      have := yend_e h3
      rw [e1, hu2] at this
      exact this.symm
    subst hv
    refine ⟨L.take i, (L.take j).drop i, L.drop j, v, ?_, ?_, h1, h2, h4⟩
    · rw [← List.append_assoc, ← e1, List.take_append_drop]
    · rw [List.length_drop, List.length_take]; omega
theorem yshort {N : Nat} (hN : ∀ u, G u → u < N) {c : Nat → Nat} : ∀ (n : Nat) {L : List Nat} {s e : Nat}, L.length = n → ygo G nx s L e → ∃ L', ygo G nx s L' e ∧ L'.length < N ∧ ysum c L' ≤ ysum c L := by
  intro n
  induction n using Nat.strongRecOn with
  | ind n ih =>
    intro L s e hl h
    by_cases hc : L.length < N
    · exact ⟨L, h, hc, Nat.le_refl _⟩
    · obtain ⟨A, B, C, u, h1, h2, h3, h4, h5⟩ := ycut hN h (by omega)
      have hAC : ygo G nx s (A ++ C) e := ygo_app.mpr ⟨u, h3, h5⟩
      have hlen : (A ++ C).length < n := by
        rw [← hl, h1, List.length_append, List.length_append, List.length_append]; omega
      obtain ⟨L', k1, k2, k3⟩ := ih _ hlen rfl hAC
      refine ⟨L', k1, k2, ?_⟩
      rw [h1, ysum_a, ysum_a]
      rw [ysum_a] at k3
      omega
/-- the least weight of rows to the goal -/
def ydi (G : Nat → Prop) (nx : Nat → Nat → Option Nat) (gl : Nat → Prop) (w : Nat → Nat) (u d : Nat) : Prop :=
  (∃ L e, ygo G nx u L e ∧ gl e ∧ ysum w L = d) ∧ ∀ L e, ygo G nx u L e → gl e → d ≤ ysum w L
theorem ydi_1 {w : Nat → Nat} {u d d' : Nat} (h : ydi G nx gl w u d) (h' : ydi G nx gl w u d') : d = d' := by
  obtain ⟨⟨L, e, a1, a2, a3⟩, b⟩ := h
  obtain ⟨⟨L', e', a1', a2', a3'⟩, b'⟩ := h'
  have := b L' e' a1' a2'
  have := b' L e a1 a2
  omega
theorem ydi_ex {w : Nat → Nat} {u : Nat} : ∀ (n : Nat) {L : List Nat} {e : Nat}, ysum w L = n → ygo G nx u L e → gl e → ∃ d, ydi G nx gl w u d := by
  intro n
  induction n using Nat.strongRecOn with
  | ind n ih =>
    intro L e hl h hg
    cases Classical.em (∃ L' e', ygo G nx u L' e' ∧ gl e' ∧ ysum w L' < n) with
    | inl hy =>
      obtain ⟨L', e', h1, h2, h3⟩ := hy
      exact ih _ h3 rfl h1 h2
    | inr hn =>
      refine ⟨n, ⟨L, e, h, hg, hl⟩, fun L' e' h1 h2 => ?_⟩
      cases Nat.lt_or_ge (ysum w L') n with
      | inl h3 => exact absurd ⟨L', e', h1, h2, h3⟩ hn
      | inr h3 => exact h3
theorem ydi_len {N : Nat} (hN : ∀ u, G u → u < N) {w : Nat → Nat} (hw : ∀ m, 1 ≤ w m) {u d : Nat} (h : ydi G nx gl w u d) {L : List Nat} {e : Nat} (hL : ygo G nx u L e) (hg : gl e) (hd : ysum w L = d) : L.length < N := by
  cases Nat.lt_or_ge L.length N with
  | inl h1 => exact h1
  | inr h1 =>
    exfalso
    obtain ⟨A, B, C, v, h2, h3, h4, h5, h6⟩ := ycut hN hL h1
    have := h.2 (A ++ C) e (ygo_app.mpr ⟨v, h4, h6⟩) hg
    rw [h2, ysum_a, ysum_a] at hd
    rw [ysum_a] at this
    have := ysum_g (c := w) (L := B) hw
    omega
theorem ydi_b {N W : Nat} (hN : ∀ u, G u → u < N) {w : Nat → Nat} (hw : ∀ m, 1 ≤ w m) (hW : ∀ m, m < 12 → w m ≤ W) {u d : Nat} (h : ydi G nx gl w u d) : d + W ≤ N * W := by
  obtain ⟨L, e, h1, h2, h3⟩ := h.1
  have hl := ydi_len hN hw h h1 h2 h3
  have hs := ysum_l (c := w) (w := W) (L := L) (fun m hm => hW m (ygo_lt h1 m hm))
  have h4 : (L.length + 1) * W ≤ N * W := Nat.mul_le_mul_right W hl
  rw [Nat.succ_mul] at h4
  omega
theorem ydi_0 {w : Nat → Nat} {u : Nat} (h : G u) (hg : gl u) : ydi G nx gl w u 0 := ⟨⟨[], u, ygo_0 h, hg, rfl⟩, fun _ _ _ _ => Nat.zero_le _⟩
theorem ydi_z {w : Nat → Nat} (hw : ∀ m, 1 ≤ w m) {u : Nat} (h : ydi G nx gl w u 0) : gl u := by
  obtain ⟨L, e, h1, h2, h3⟩ := h.1
  have := ysum_g (c := w) (L := L) hw
  have : L = [] := List.length_eq_zero_iff.mp (by omega)
  subst this
  have := h1.2
  subst this
  exact h2
/-- the rest of a least row is a least row -/
theorem ydi_c {w : Nat → Nat} {u d m : Nat} {r : List Nat} {e : Nat} (h : ydi G nx gl w u d) (hL : ygo G nx u (m :: r) e) (hg : gl e) (hd : ysum w (m :: r) = d) :
    ∃ v, nx u m = some v ∧ m < 12 ∧ ygo G nx v r e ∧ ydi G nx gl w v (ysum w r) ∧ ysum w r + w m = d := by
  obtain ⟨h1, h2, v, h3, h4⟩ := hL
  have hd : w m + ysum w r = d := hd
  refine ⟨v, h3, h2, h4, ⟨⟨r, e, h4, hg, rfl⟩, fun L' e' k1 k2 => ?_⟩, by omega⟩
  have : d ≤ w m + ysum w L' := h.2 (m :: L') e' ⟨h1, h2, v, h3, k1⟩ k2
  omega
/-- always the first move that is on a least row -/
def yfst (G : Nat → Prop) (nx : Nat → Nat → Option Nat) (gl : Nat → Prop) (w : Nat → Nat) (u d m v : Nat) : Prop :=
  m < 12 ∧ nx u m = some v ∧ ∃ d', ydi G nx gl w v d' ∧ d' + w m = d ∧ ∀ m' v' d'', m' < m → nx u m' = some v' → ydi G nx gl w v' d'' → ¬ d'' + w m' = d
def ygre (G : Nat → Prop) (nx : Nat → Nat → Option Nat) (gl : Nat → Prop) (w : Nat → Nat) : Nat → Nat → List Nat → Prop
  | u, d, [] => ydi G nx gl w u d ∧ d = 0
  | u, d, m :: r => ydi G nx gl w u d ∧ 0 < d ∧ ∃ v d', yfst G nx gl w u d m v ∧ d' + w m = d ∧ ygre G nx gl w v d' r
theorem ygre_d {w : Nat → Nat} {u d : Nat} {L : List Nat} (h : ygre G nx gl w u d L) : ydi G nx gl w u d := by
  cases L with
  | nil => exact h.1
  | cons m r => exact h.1
theorem ydi_G {w : Nat → Nat} {u d : Nat} (h : ydi G nx gl w u d) : G u := by
  obtain ⟨L, e, h1, _⟩ := h.1
  exact ygo_G h1
theorem ygre_go {w : Nat → Nat} (hw : ∀ m, 1 ≤ w m) : ∀ {L : List Nat} {u d : Nat}, ygre G nx gl w u d L → ∃ e, ygo G nx u L e ∧ gl e ∧ ysum w L = d := by
  intro L
  induction L with
  | nil =>
    rintro u d ⟨h1, h2⟩
    subst h2
    exact ⟨u, ygo_0 (ydi_G h1), ydi_z hw h1, rfl⟩
  | cons m r ih =>
    rintro u d ⟨h1, h2, v, d', ⟨h3, h4, h5⟩, h6, h7⟩
    obtain ⟨e, k1, k2, k3⟩ := ih h7
    refine ⟨e, ⟨ydi_G h1, h3, v, h4, k1⟩, k2, ?_⟩
    show w m + ysum w r = d
    omega
/-- there is such a move, and such a row -/
theorem yfst_ex {w : Nat → Nat} {u d : Nat} (h : ydi G nx gl w u d) (h0 : 0 < d) : ∃ m v, yfst G nx gl w u d m v := by
  obtain ⟨L, e, h1, h2, h3⟩ := h.1
  cases L with
  | nil => have : (0 : Nat) = d := h3; omega
  | cons m0 r =>
    obtain ⟨v0, k1, k2, k3, k4, k5⟩ := ydi_c h h1 h2 h3
    have key : ∀ n, ∀ m, m < n → (∃ v d', m < 12 ∧ nx u m = some v ∧ ydi G nx gl w v d' ∧ d' + w m = d) → ∃ m v, yfst G nx gl w u d m v := by
      intro n
      induction n with
      | zero => intro m hm; omega
      | succ n ih =>
        rintro m hm ⟨v, d', a1, a2, a3, a4⟩
        cases Classical.em (∃ m' v' d'', m' < m ∧ nx u m' = some v' ∧ ydi G nx gl w v' d'' ∧ d'' + w m' = d) with
        | inl hy =>
          obtain ⟨m', v', d'', b1, b2, b3, b4⟩ := hy
          exact ih m' (by omega) ⟨v', d'', by omega, b2, b3, b4⟩
        | inr hn => exact ⟨m, v, a1, a2, d', a3, a4, fun m' v' d'' b1 b2 b3 b4 => hn ⟨m', v', d'', b1, b2, b3, b4⟩⟩
    exact key (m0 + 1) m0 (by omega) ⟨v0, _, k2, k1, k4, k5⟩
theorem ygre_ex {w : Nat → Nat} (hw : ∀ m, 1 ≤ w m) : ∀ (d : Nat) {u : Nat}, ydi G nx gl w u d → ∃ L, ygre G nx gl w u d L := by
  intro d
  induction d using Nat.strongRecOn with
  | ind d ih =>
    intro u h
    by_cases h0 : d = 0
    · exact ⟨[], h, h0⟩
    · obtain ⟨m, v, hf⟩ := yfst_ex h (by omega)
      obtain ⟨a1, a2, d', a3, a4, a5⟩ := hf
      have := hw m
      obtain ⟨L, hL⟩ := ih d' (by omega) a3
      exact ⟨m :: L, h, by omega, v, d', ⟨a1, a2, d', a3, a4, a5⟩, a4, hL⟩
/-- of the rows with the least weight and the same length it is the first -/
theorem ygre_1 {w : Nat → Nat} (hw : ∀ m, 1 ≤ w m) : ∀ {L L' : List Nat} {u d e' : Nat}, ygre G nx gl w u d L → L.length = L'.length → ygo G nx u L' e' → gl e' → ysum w L' = d → yrk L ≤ yrk L' := by
  intro L
  induction L with
  | nil => intro L' u d e' _ _ _ _ _; exact Nat.zero_le _
  | cons m r ih =>
    intro L' u d e' h hl hgo hg hd
    have h0 := h
    obtain ⟨h1, h2, v, d', ⟨h3, h4, d1, f1, f2, f3⟩, h6, h7⟩ := h
    cases L' with
    | nil => cases hl
    | cons m' r' =>
      obtain ⟨v', k1, k2, k3, k4, k5⟩ := ydi_c h1 hgo hg hd
      have hlr : r.length = r'.length := by simpa using hl
      have hmm : ¬ m' < m := fun hc => f3 m' v' _ hc k1 k4 k5
      have hm12 : ∀ x ∈ r, x < 12 := by
        obtain ⟨e, g1, _⟩ := ygre_go hw h7
        exact ygo_lt g1
      rw [yrk_c, yrk_c, ← hlr]
      by_cases hm : m = m'
      · subst hm
        have : v = v' := Option.some.inj (h4.symm.trans k1)
        subst this
        have := ih h7 hlr k3 hg (by omega)
        omega
      · have hn := yrk_near r.length (A := r) (B := r') rfl hlr.symm hm12
        have h8 : (m + 1 + 1) * 12 ^ r.length ≤ (m' + 1) * 12 ^ r.length := Nat.mul_le_mul_right _ (by omega)
        rw [Nat.succ_mul (m + 1)] at h8
        omega
end DI
theorem yrk_inj : ∀ (n : Nat) {A B : List Nat}, A.length = n → (∀ m ∈ A, m < 12) → (∀ m ∈ B, m < 12) → yrk A = yrk B → A = B := by
  intro n
  induction n with
  | zero =>
    intro A B hA _ hB h
    have : A = [] := List.length_eq_zero_iff.mp hA
    subst this
    cases B with
    | nil => rfl
    | cons b B =>
      have := yrk_len (b :: B).length (A := []) (B := b :: B) rfl (fun m hm => by cases hm) (by show 0 < B.length + 1; omega)
      omega
  | succ n ih =>
    intro A B hA ha hb h
    obtain ⟨A', a, rfl, hA'⟩ := ysnoc hA
    cases hn : B.length with
    | zero =>
      have : B = [] := List.length_eq_zero_iff.mp hn
      subst this
      have := yrk_len (A' ++ [a]).length (A := []) (B := A' ++ [a]) rfl (fun m hm => by cases hm) (by show 0 < (A' ++ [a]).length; omega)
      omega
    | succ k =>
      obtain ⟨B', b, rfl, hB'⟩ := ysnoc hn
      rw [yrk_sn, yrk_sn] at h
      have h1 := ha a (List.mem_append_right _ (List.Mem.head _))
      have h2 := hb b (List.mem_append_right _ (List.Mem.head _))
      have h3 : a = b := by omega
      have h4 := ih hA' (fun m hm => ha m (List.mem_append_left _ hm)) (fun m hm => hb m (List.mem_append_left _ hm)) (by omega)
      rw [h3, h4]
/-- the row that is asked for: the least sum, then the fewest moves, then the first -/
def yopt (G : Nat → Prop) (nx : Nat → Nat → Option Nat) (gl : Nat → Prop) (c : Nat → Nat) (s : Nat) (L : List Nat) : Prop :=
  ∃ e, ygo G nx s L e ∧ gl e ∧ ∀ L' e', ygo G nx s L' e' → gl e' → ysum c L < ysum c L' ∨ (ysum c L = ysum c L' ∧ yrk L ≤ yrk L')
section OP
variable {G : Nat → Prop} {nx : Nat → Nat → Option Nat} {gl : Nat → Prop} {c : Nat → Nat}
theorem yopt_1 {s : Nat} {L L' : List Nat} (h : yopt G nx gl c s L) (h' : yopt G nx gl c s L') : L = L' := by
  obtain ⟨e, a1, a2, a3⟩ := h
  obtain ⟨e', b1, b2, b3⟩ := h'
  have h1 := a3 L' e' b1 b2
  have h2 := b3 L e a1 a2
  exact yrk_inj L.length rfl (ygo_lt a1) (ygo_lt b1) (by omega)
theorem yopt_g {N K : Nat} (hN : ∀ u, G u → u < N) (hK : N ≤ K) {s d : Nat} {L : List Nat} (h : ygre G nx gl (ywt K c) s d L) : yopt G nx gl c s L := by
  have hw : ∀ m, 1 ≤ ywt K c m := fun m => by unfold ywt; omega
  obtain ⟨e, h1, h2, h3⟩ := ygre_go hw h
  have hd := ygre_d h
  have hl := ydi_len hN hw hd h1 h2 h3
  refine ⟨e, h1, h2, fun L' e' k1 k2 => ?_⟩
  obtain ⟨L2, j1, j2, j3⟩ := yshort hN (c := c) L'.length rfl k1
  have m1 := hd.2 L2 e' j1 k2
  have m2 := hd.2 L' e' k1 k2
  rw [← h3, ysum_w, ysum_w] at m1 m2
  have m3 : ysum c L ≤ ysum c L' := by
    cases Nat.lt_or_ge (ysum c L2) (ysum c L) with
    | inr hge => omega
    | inl hlt =>
      exfalso
      have : K * (ysum c L2 + 1) ≤ K * ysum c L := Nat.mul_le_mul_left K hlt
      rw [Nat.mul_add] at this
      omega
  by_cases hc : ysum c L < ysum c L'
  · exact Or.inl hc
  · refine Or.inr ⟨by omega, ?_⟩
    have he : ysum c L = ysum c L' := by omega
    rw [he] at m2
    by_cases hlen : L.length = L'.length
    · refine ygre_1 hw h hlen k1 k2 ?_
      rw [← h3, ysum_w, ysum_w, he, hlen]
    · exact Nat.le_of_lt (yrk_len L'.length rfl (ygo_lt h1) (by omega))
theorem yopt_ex {N : Nat} (hN : ∀ u, G u → u < N) {s : Nat} {L : List Nat} {e : Nat} (h : ygo G nx s L e) (hg : gl e) : ∃ L', yopt G nx gl c s L' := by
  obtain ⟨d, hd⟩ := ydi_ex (w := ywt N c) _ rfl h hg
  obtain ⟨L', hL'⟩ := ygre_ex (fun m => by unfold ywt; omega) d hd
  exact ⟨L', yopt_g hN (Nat.le_refl _) hL'⟩
theorem yopt_len {N : Nat} (hN : ∀ u, G u → u < N) {s : Nat} {L : List Nat} (h : yopt G nx gl c s L) : L.length < N := by
  have h0 := h
  obtain ⟨e, h1, h2, _⟩ := h0
  obtain ⟨d, hd⟩ := ydi_ex (w := ywt N c) _ rfl h1 h2
  obtain ⟨L', hL'⟩ := ygre_ex (fun m => by unfold ywt; omega) d hd
  have hw : ∀ m, 1 ≤ ywt N c m := fun m => by unfold ywt; omega
  have := yopt_1 h (yopt_g hN (Nat.le_refl _) hL')
  subst this
  obtain ⟨e', k1, k2, k3⟩ := ygre_go hw hL'
  exact ydi_len hN hw (ygre_d hL') k1 k2 k3
/-- what fits more goes more -/
theorem ygo_mono {G' : Nat → Prop} (h : ∀ u, G u → G' u) : ∀ {L : List Nat} {s e : Nat}, ygo G nx s L e → ygo G' nx s L e := by
  intro L
  induction L with
  | nil => rintro s e ⟨h1, h2⟩; exact ⟨h s h1, h2⟩
  | cons m r ih => rintro s e ⟨h1, h2, v, h3, h4⟩; exact ⟨h s h1, h2, v, h3, ih h4⟩
end OP
