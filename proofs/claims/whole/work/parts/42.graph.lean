/-! rows in a graph: G tells which stands fit, nx what a move leads to -/
def ygo (G : Nat → Prop) (nx : Nat → Nat → Option Nat) : Nat → List Nat → Nat → Prop
  | s, [], e => G s ∧ s = e
  | s, m :: r, e => G s ∧ m < 12 ∧ ∃ s', nx s m = some s' ∧ ygo G nx s' r e
section GR
variable {G : Nat → Prop} {nx : Nat → Nat → Option Nat}
theorem ygo_0 {s : Nat} (h : G s) : ygo G nx s [] s := ⟨h, rfl⟩
theorem ygo_G {s e : Nat} {L : List Nat} (h : ygo G nx s L e) : G s := by
  cases L with
  | nil => exact h.1
  | cons m r => exact h.1
theorem ygo_Ge : ∀ {L : List Nat} {s e : Nat}, ygo G nx s L e → G e := by
  intro L
  induction L with
  | nil => intro s e h; obtain ⟨h1, h2⟩ := h; exact h2 ▸ h1
  | cons m r ih =>
    intro s e h
    obtain ⟨_, _, s', _, h4⟩ := h
    exact ih h4
theorem ygo_app : ∀ {A B : List Nat} {s e : Nat}, ygo G nx s (A ++ B) e ↔ ∃ u, ygo G nx s A u ∧ ygo G nx u B e := by
  intro A
  induction A with
  | nil =>
    intro B s e
    constructor
    · intro h; exact ⟨s, ⟨ygo_G h, rfl⟩, h⟩
    · rintro ⟨u, ⟨_, h2⟩, h3⟩; subst h2; exact h3
  | cons m r ih =>
    intro B s e
    constructor
    · rintro ⟨h1, h2, s', h3, h4⟩
      obtain ⟨u, h5, h6⟩ := ih.mp h4
      exact ⟨u, ⟨h1, h2, s', h3, h5⟩, h6⟩
    · rintro ⟨u, ⟨h1, h2, s', h3, h4⟩, h5⟩
      exact ⟨h1, h2, s', h3, ih.mpr ⟨u, h4, h5⟩⟩
theorem ygo_sn {A : List Nat} {m s e : Nat} : ygo G nx s (A ++ [m]) e ↔ ∃ u, ygo G nx s A u ∧ m < 12 ∧ nx u m = some e ∧ G e := by
  rw [ygo_app]
  constructor
  · rintro ⟨u, h1, _, h3, s', h4, h5, h6⟩
    subst h6
    exact ⟨u, h1, h3, h4, h5⟩
  · rintro ⟨u, h1, h2, h3, h4⟩
    exact ⟨u, h1, ygo_Ge h1, h2, e, h3, h4, rfl⟩
theorem ygo_det : ∀ {L : List Nat} {s e e' : Nat}, ygo G nx s L e → ygo G nx s L e' → e = e' := by
  intro L
  induction L with
  | nil => rintro s e e' ⟨_, h⟩ ⟨_, h'⟩; exact h.symm.trans h'
  | cons m r ih =>
    rintro s e e' ⟨_, _, u, h1, h2⟩ ⟨_, _, v, h3, h4⟩
    have : u = v := Option.some.inj (h1.symm.trans h3)
    subst this
    exact ih h2 h4
theorem ygo_lt : ∀ {L : List Nat} {s e : Nat}, ygo G nx s L e → ∀ m ∈ L, m < 12 := by
  intro L
  induction L with
  | nil => intro s e _ m hm; cases hm
  | cons a r ih =>
    rintro s e ⟨_, h2, u, _, h4⟩ m hm
    cases hm with
    | head => exact h2
    | tail _ hm => exact ih h4 m hm
/-- the number of a row: shorter rows first, then by their moves -/
def yrk (L : List Nat) : Nat := L.foldl (fun a m => 12 * a + (m + 1)) 0
theorem yrk_0 : yrk [] = 0 := rfl
theorem yrk_sn {A : List Nat} {m : Nat} : yrk (A ++ [m]) = 12 * yrk A + (m + 1) := by
  unfold yrk
  rw [List.foldl_append]
  rfl
theorem yrk_f : ∀ (B : List Nat) (a : Nat), B.foldl (fun a m => 12 * a + (m + 1)) a = a * 12 ^ B.length + yrk B := by
  intro B
  induction B with
  | nil => intro a; simp [yrk]
  | cons m r ih =>
    intro a
    have e : yrk (m :: r) = (12 * 0 + (m + 1)) * 12 ^ r.length + yrk r := ih (12 * 0 + (m + 1))
    have e2 : (m :: r).foldl (fun a m => 12 * a + (m + 1)) a = (12 * a + (m + 1)) * 12 ^ r.length + yrk r := ih (12 * a + (m + 1))
    rw [Nat.mul_zero, Nat.zero_add] at e
    rw [e2, e, List.length_cons, Nat.pow_succ, Nat.add_mul]
    have e3 : a * (12 ^ r.length * 12) = 12 * a * 12 ^ r.length := by rw [Nat.mul_comm (12 ^ r.length) 12, ← Nat.mul_assoc, Nat.mul_comm a 12]
    omega
theorem yrk_c (m : Nat) (r : List Nat) : yrk (m :: r) = (m + 1) * 12 ^ r.length + yrk r := by
  have e : yrk (m :: r) = (12 * 0 + (m + 1)) * 12 ^ r.length + yrk r := yrk_f r (12 * 0 + (m + 1))
  rw [e, Nat.mul_zero, Nat.zero_add]
theorem ysnoc {A : List Nat} {n : Nat} (h : A.length = n + 1) : ∃ (B : List Nat) (m : Nat), A = B ++ [m] ∧ B.length = n := by
  have hne : A ≠ [] := by intro e; subst e; cases h
  refine ⟨A.dropLast, A.getLast hne, (List.dropLast_concat_getLast hne).symm, ?_⟩
  rw [List.length_dropLast]; omega
theorem yrk_len : ∀ (n : Nat) {A B : List Nat}, B.length = n → (∀ m ∈ A, m < 12) → A.length < n → yrk A < yrk B := by
  intro n
  induction n with
  | zero => intro A B _ _ h; omega
  | succ n ih =>
    intro A B hB hA hl
    obtain ⟨B', b, rfl, hB'⟩ := ysnoc hB
    rw [yrk_sn]
    cases hn : A.length with
    | zero =>
      have : A = [] := List.length_eq_zero_iff.mp hn
      subst this
      rw [yrk_0]; omega
    | succ k =>
      obtain ⟨A', a, rfl, hA'⟩ := ysnoc hn
      rw [yrk_sn]
      have h1 : a < 12 := hA a (List.mem_append_right _ (List.Mem.head _))
      have h2 := ih (A := A') (B := B') hB' (fun m hm => hA m (List.mem_append_left _ hm)) (by omega)
      omega
theorem yrk_near : ∀ (n : Nat) {A B : List Nat}, A.length = n → B.length = n → (∀ m ∈ A, m < 12) → yrk A < yrk B + 12 ^ n := by
  intro n
  induction n with
  | zero =>
    intro A B hA hB _
    have : A = [] := List.length_eq_zero_iff.mp hA
    subst this
    rw [yrk_0]; simp
  | succ n ih =>
    intro A B hA hB hm
    obtain ⟨A', a, rfl, hA'⟩ := ysnoc hA
    obtain ⟨B', b, rfl, hB'⟩ := ysnoc hB
    have h1 : a < 12 := hm a (List.mem_append_right _ (List.Mem.head _))
    have h2 := ih (A := A') (B := B') hA' hB' (fun m hm' => hm m (List.mem_append_left _ hm'))
    rw [yrk_sn, yrk_sn, Nat.pow_succ]
    omega
end GR
/-! the flood: a queue of stands, each with the least row that leads to it -/
def ybf (G : Nat → Prop) (nx : Nat → Nat → Option Nat) (s0 : Nat) (q : Nat → Nat) (row : Nat → List Nat) (n h m : Nat) : Prop :=
  (0 < n ∧ q 0 = s0 ∧ row 0 = []) ∧ (∀ i, i < n → ygo G nx s0 (row i) (q i)) ∧ (∀ i j, i < j → j < n → yrk (row i) < yrk (row j)) ∧
  (∀ i, i < n → ∀ L, ygo G nx s0 L (q i) → yrk (row i) ≤ yrk L) ∧
  (∀ j m', j < n → m' < 12 → j < h ∨ (j = h ∧ m' < m) → ∀ e, nx (q j) m' = some e → G e → ∃ i, i < n ∧ q i = e) ∧
  (h < n → ∀ i, i < n → yrk (row i) < 12 * yrk (row h) + (m + 1))
section BF
variable {G : Nat → Prop} {nx : Nat → Nat → Option Nat} {s0 n h m : Nat} {q : Nat → Nat} {row : Nat → List Nat}
theorem ybf_0 (hs : G s0) (h0 : q 0 = s0) : ybf G nx s0 q (fun _ => []) 1 0 0 := by
  refine ⟨⟨by omega, h0, rfl⟩, ?_, ?_, ?_, ?_, ?_⟩
  · intro i hi
    have : i = 0 := by omega
    subst this
    rw [h0]
    exact ygo_0 hs
  · intro i j h1 h2; omega
  · intro i _ L _; exact Nat.zero_le _
  · intro j m' _ _ h; omega
  · intro _ i _; rw [yrk_0]; omega
theorem ybf_far (hb : ybf G nx s0 q row n h m) (hh : h < n) (hm : m ≤ 12) : ∀ (k : Nat) (L : List Nat) (e : Nat), L.length = k → ygo G nx s0 L e → (∀ i, i < n → ¬ q i = e) → 12 * yrk (row h) + (m + 1) ≤ yrk L := by
  obtain ⟨b1, b2, b3, b4, b5, b6⟩ := hb
  intro k
  induction k with
  | zero =>
    intro L e hl hg hn
    have : L = [] := List.length_eq_zero_iff.mp hl
    subst this
    exact absurd (b1.2.1.trans hg.2) (hn 0 b1.1)
  | succ k ih =>
    intro L e hl hg hn
    obtain ⟨A, a, rfl, hA⟩ := ysnoc hl
    obtain ⟨u, h1, h2, h3, h4⟩ := ygo_sn.mp hg
    rw [yrk_sn]
    by_cases hu : ∃ j, j < n ∧ q j = u
    · obtain ⟨j, hj, e1⟩ := hu
      subst e1
      have h5 : ¬ (j < h ∨ (j = h ∧ a < m)) := fun hc => by
        obtain ⟨i, hi, e2⟩ := b5 j a hj h2 hc e h3 h4
        exact hn i hi e2
      have h6 := b4 j hj A h1
      by_cases hjh : j = h
      · subst hjh
        have : ¬ a < m := fun hc => h5 (Or.inr ⟨rfl, hc⟩)
        omega
      · have := b3 h j (by omega) hj
        omega
    · have := ih A u hA h1 (fun i hi e2 => hu ⟨i, hi, e2⟩)
      omega
/-- a stand is added -/
theorem ybf_add (hb : ybf G nx s0 q row n h m) (hh : h < n) (hm : m < 12) {e : Nat} (he : nx (q h) m = some e) (hg : G e) (hn : ∀ i, i < n → ¬ q i = e)
    {q' : Nat → Nat} (hq : ∀ i, i < n → q' i = q i) (hq2 : q' n = e) : ybf G nx s0 q' (fun i => if i = n then row h ++ [m] else row i) (n + 1) h (m + 1) := by
  have hf := ybf_far hb hh (by omega)
  obtain ⟨b1, b2, b3, b4, b5, b6⟩ := hb
  have er : ygo G nx s0 (row h ++ [m]) e := ygo_sn.mpr ⟨q h, b2 h hh, hm, he, hg⟩
  refine ⟨⟨by omega, ?_, ?_⟩, ?_, ?_, ?_, ?_, ?_⟩
  · rw [hq 0 b1.1]; exact b1.2.1
  · show (if 0 = n then row h ++ [m] else row 0) = []
    rw [if_neg (by omega)]; exact b1.2.2
  · intro i hi
    show ygo G nx s0 (if i = n then row h ++ [m] else row i) (q' i)
    by_cases hin : i = n
    · subst hin
      rw [if_pos rfl, hq2]; exact er
    · rw [if_neg hin, hq i (by omega)]; exact b2 i (by omega)
  · intro i j hij hj
    show yrk (if i = n then row h ++ [m] else row i) < yrk (if j = n then row h ++ [m] else row j)
    rw [if_neg (show ¬ i = n by omega)]
    by_cases hjn : j = n
    · rw [if_pos hjn, yrk_sn]; exact b6 hh i (by omega)
    · rw [if_neg hjn]; exact b3 i j hij (by omega)
  · intro i hi L hL
    show yrk (if i = n then row h ++ [m] else row i) ≤ yrk L
    by_cases hin : i = n
    · subst hin
      rw [if_pos rfl, yrk_sn]
      rw [hq2] at hL
      exact hf L.length L e rfl hL hn
    · rw [if_neg hin]
      rw [hq i (by omega)] at hL
      exact b4 i (by omega) L hL
  · intro j m' hj hm' hc e' he' hg'
    by_cases hjn : j = n
    · omega
    · rw [hq j (by omega)] at he'
      by_cases hl : j < h ∨ (j = h ∧ m' < m)
      · obtain ⟨i, hi, e2⟩ := b5 j m' (by omega) hm' hl e' he' hg'
        exact ⟨i, by omega, (hq i hi).trans e2⟩
      · have e1 : j = h ∧ m' = m := by omega
        obtain ⟨e1, e2⟩ := e1
        subst e1; subst e2
        refine ⟨n, by omega, hq2.trans ?_⟩
        exact Option.some.inj (he.symm.trans he')
  · intro _ i hi
    show yrk (if i = n then row h ++ [m] else row i) < 12 * yrk (if h = n then row h ++ [m] else row h) + (m + 1 + 1)
    rw [if_neg (show ¬ h = n by omega)]
    by_cases hin : i = n
    · rw [if_pos hin, yrk_sn]; omega
    · rw [if_neg hin]
      have := b6 hh i (by omega)
      omega
/-- a move that adds nothing -/
theorem ybf_skip (hb : ybf G nx s0 q row n h m) (hs : ∀ e, nx (q h) m = some e → G e → ∃ i, i < n ∧ q i = e) : ybf G nx s0 q row n h (m + 1) := by
  obtain ⟨b1, b2, b3, b4, b5, b6⟩ := hb
  refine ⟨b1, b2, b3, b4, ?_, ?_⟩
  · intro j m' hj hm' hc e' he' hg'
    by_cases hl : j < h ∨ (j = h ∧ m' < m)
    · exact b5 j m' hj hm' hl e' he' hg'
    · have e1 : j = h ∧ m' = m := by omega
      obtain ⟨e1, e2⟩ := e1
      subst e1; subst e2
      exact hs e' he' hg'
  · intro hh i hi
    have := b6 hh i hi
    omega
/-- the next stand of the queue -/
theorem ybf_next (hb : ybf G nx s0 q row n h 12) (hh : h < n) : ybf G nx s0 q row n (h + 1) 0 := by
  obtain ⟨b1, b2, b3, b4, b5, b6⟩ := hb
  refine ⟨b1, b2, b3, b4, ?_, ?_⟩
  · intro j m' hj hm' hc e' he' hg'
    exact b5 j m' hj hm' (by omega) e' he' hg'
  · intro hh2 i hi
    have h1 := b6 hh i hi
    have h2 := b3 h (h + 1) (by omega) hh2
    omega
theorem ybf_all (hb : ybf G nx s0 q row n n 0) : ∀ (k : Nat) (L : List Nat) (e : Nat), L.length = k → ygo G nx s0 L e → ∃ i, i < n ∧ q i = e := by
  obtain ⟨b1, b2, b3, b4, b5, b6⟩ := hb
  intro k
  induction k with
  | zero =>
    intro L e hl hg
    have : L = [] := List.length_eq_zero_iff.mp hl
    subst this
    exact ⟨0, b1.1, b1.2.1.trans hg.2⟩
  | succ k ih =>
    intro L e hl hg
    obtain ⟨A, a, rfl, hA⟩ := ysnoc hl
    obtain ⟨u, h1, h2, h3, h4⟩ := ygo_sn.mp hg
    obtain ⟨j, hj, e1⟩ := ih A u hA h1
    subst e1
    exact b5 j a hj h2 (Or.inl hj) e h3 h4
theorem ybf_goal {gl : Nat → Prop} (hb : ybf G nx s0 q row n h 0) (hh : h < n) (hj : ∀ j, j < h → ¬ gl (q j)) {L : List Nat} {e : Nat} (hg : ygo G nx s0 L e) (he : gl e) : yrk (row h) ≤ yrk L := by
  by_cases hu : ∃ j, j < n ∧ q j = e
  · obtain ⟨j, h1, e1⟩ := hu
    subst e1
    have h2 : ¬ j < h := fun hc => hj j hc he
    have h4 := hb.2.2.2.1 j h1 L hg
    by_cases hjh : j = h
    · subst hjh; exact h4
    · have := hb.2.2.1 h j (by omega) h1
      omega
  · have := ybf_far hb hh (by omega) L.length L e rfl hg (fun i hi e2 => hu ⟨i, hi, e2⟩)
    omega
theorem ybf_inj (hb : ybf G nx s0 q row n h m) : ∀ i j, i < n → j < n → q i = q j → i = j := by
  obtain ⟨b1, b2, b3, b4, b5, b6⟩ := hb
  intro i j hi hj e
  have h1 := b4 i hi (row j) (e ▸ b2 j hj)
  have h2 := b4 j hj (row i) (e ▸ b2 i hi)
  by_cases hij : i < j
  · have := b3 i j hij hj; omega
  · by_cases hji : j < i
    · have := b3 j i hji hi; omega
    · omega
end BF
