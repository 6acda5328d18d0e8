/-! what a method computes, row by row: J says that the abstract machine comes to what t says, where t says something -/
def J {α : Type} (k pc : Nat) (L : xa_L) (S : List xa_V) (σ : xa_H) (Q : α → Option xa_V → xa_H → Prop) (t : Option α) : Prop :=
  ∀ x, t = some x → ∃ (n : Nat) (r : Option xa_V) (σ' : xa_H), xrun n k pc L S σ = some (r, σ') ∧ Q x r σ'
/-- what a method answers: a number and nothing changed; a long; a number and new contents; new contents -/
def jqP (σ : xa_H) : Int → Option xa_V → xa_H → Prop := fun x r σ' => r = some (xi x) ∧ σ' = σ
def jqL (σ : xa_H) : Int → Option xa_V → xa_H → Prop := fun x r σ' => r = some (xl x) ∧ σ' = σ
def jqW : Int × xa_H → Option xa_V → xa_H → Prop := fun x r σ' => r = some (xi x.1) ∧ σ' = x.2
def jqV : xa_H → Option xa_V → xa_H → Prop := fun x r σ' => r = none ∧ σ' = x
/-- a method called in place: what it answers goes on in the caller -/
def jqC {α : Type} (k pc : Nat) (L : xa_L) (S : List xa_V) (Q : α → Option xa_V → xa_H → Prop) : α → Option xa_V → xa_H → Prop := fun x v σ1 =>
  ∃ (n : Nat) (r : Option xa_V) (σ' : xa_H), xrun n k pc L (v.toList ++ S) σ1 = some (r, σ') ∧ Q x r σ'
def xnm {α β : Type} (e : α) (K : α → β) : β := K e
noncomputable def xFU : Nat := 10000000000000000000
section JR
variable {α : Type} {k pc pc' len x y z : Nat} {L L' : xa_L} {S S' : List xa_V} {σ σ' : xa_H} {Q : α → Option xa_V → xa_H → Prop} {t t' : Option α} {ins : Instr} {a b : Int} {v w : xa_V}
theorem jr_none : J k pc L S σ Q (none : Option α) := fun _ h => by cases h
theorem jr_s {en : xa_I} {q : xa_C} (he : xcd k pc = some en) (hk : xkd en.1 = 0) (hs : xstp k en pc L S σ = some q) (h : J k q.1 q.2.1 q.2.2.1 q.2.2.2 Q t) : J k pc L S σ Q t := by
  intro x hx
  obtain ⟨n, r, σ', h1, h2⟩ := h x hx
  refine ⟨n + 1, r, σ', ?_, h2⟩
  unfold xrun
  rw [he]
  (try dsimp only)
  rw [hk]
  (try dsimp only)
  rw [hs]
  exact h1
theorem jr_iconst (he : xcd k pc = some (.iconst a, len, x, y, z)) (hp : pc + 1 = pc') (h : J k pc' L (xi a :: S) σ Q t) : J k pc L S σ Q t := jr_s he rfl rfl (hp ▸ h)
theorem jr_bipush (he : xcd k pc = some (.bipush a, len, x, y, z)) (hp : pc + 2 = pc') (h : J k pc' L (xi a :: S) σ Q t) : J k pc L S σ Q t := jr_s he rfl rfl (hp ▸ h)
theorem jr_sipush (he : xcd k pc = some (.sipush a, len, x, y, z)) (hp : pc + 3 = pc') (h : J k pc' L (xi a :: S) σ Q t) : J k pc L S σ Q t := jr_s he rfl rfl (hp ▸ h)
theorem jr_lconst {n : Fin 2} (he : xcd k pc = some (.lconst n, len, x, y, z)) (hp : pc + 1 = pc') (hn : ((n : Nat) : Int) = a) (h : J k pc' L (xl a :: S) σ Q t) : J k pc L S σ Q t := jr_s he rfl rfl (by subst hn; exact hp ▸ h)
theorem jr_ldc {ix : Nat} (he : xcd k pc = some (.ldc ix, len, x, 0, z)) (hp : pc + 2 = pc') (hn : (x : Int) = a) (h : J k pc' L (xi a :: S) σ Q t) : J k pc L S σ Q t := jr_s he rfl rfl (by subst hn; exact hp ▸ h)
theorem jr_ldcS {ix : Nat} (he : xcd k pc = some (.ldc ix, len, x, 1, z)) (hp : pc + 2 = pc') (h : J k pc' L (xr 99 x :: S) σ Q t) : J k pc L S σ Q t := jr_s he rfl rfl (hp ▸ h)
theorem jr_ldc2 {ix : Nat} (he : xcd k pc = some (.ldc2_w ix, len, x, y, z)) (hp : pc + 3 = pc') (hn : cond (Nat.beq y 0) (x : Int) (-(x : Int)) = a) (h : J k pc' L (xl a :: S) σ Q t) : J k pc L S σ Q t := jr_s he rfl rfl (by subst hn; exact hp ▸ h)
theorem jr_null (he : xcd k pc = some (.aconst_null, len, x, y, z)) (hp : pc + 1 = pc') (h : J k pc' L (xn :: S) σ Q t) : J k pc L S σ Q t := jr_s he rfl rfl (hp ▸ h)
theorem jr_iload {i : Nat} (he : xcd k pc = some (.iload i, len, x, y, z)) (hp : pc + 2 = pc') (hl : xget L i = some (xi a)) (h : J k pc' L (xi a :: S) σ Q t) : J k pc L S σ Q t := jr_s (q := (pc + 2, L, xi a :: S, σ)) he rfl (by show xs_ld i 2 pc L S σ 0 = _; unfold xs_ld; rw [hl]; rfl) (hp ▸ h)
theorem jr_iload_n {i : Fin 4} (he : xcd k pc = some (.iload_n i, len, x, y, z)) (hp : pc + 1 = pc') (hl : xget L i = some (xi a)) (h : J k pc' L (xi a :: S) σ Q t) : J k pc L S σ Q t := jr_s (q := (pc + 1, L, xi a :: S, σ)) he rfl (by show xs_ld i 1 pc L S σ 0 = _; unfold xs_ld; rw [hl]; rfl) (hp ▸ h)
theorem jr_lload {i : Nat} (he : xcd k pc = some (.lload i, len, x, y, z)) (hp : pc + 2 = pc') (hl : xget L i = some (xl a)) (h : J k pc' L (xl a :: S) σ Q t) : J k pc L S σ Q t := jr_s (q := (pc + 2, L, xl a :: S, σ)) he rfl (by show xs_ld i 2 pc L S σ 1 = _; unfold xs_ld; rw [hl]; rfl) (hp ▸ h)
theorem jr_lload_n {i : Fin 4} (he : xcd k pc = some (.lload_n i, len, x, y, z)) (hp : pc + 1 = pc') (hl : xget L i = some (xl a)) (h : J k pc' L (xl a :: S) σ Q t) : J k pc L S σ Q t := jr_s (q := (pc + 1, L, xl a :: S, σ)) he rfl (by show xs_ld i 1 pc L S σ 1 = _; unfold xs_ld; rw [hl]; rfl) (hp ▸ h)
theorem jr_aload {i : Nat} {r : Option (Nat × Nat)} (he : xcd k pc = some (.aload i, len, x, y, z)) (hp : pc + 2 = pc') (hl : xget L i = some (.inr (.inr r))) (h : J k pc' L (.inr (.inr r) :: S) σ Q t) : J k pc L S σ Q t := jr_s (q := (pc + 2, L, .inr (.inr r) :: S, σ)) he rfl (by show xs_ld i 2 pc L S σ 2 = _; unfold xs_ld; rw [hl]; rfl) (hp ▸ h)
theorem jr_aload_n {i : Fin 4} {r : Option (Nat × Nat)} (he : xcd k pc = some (.aload_n i, len, x, y, z)) (hp : pc + 1 = pc') (hl : xget L i = some (.inr (.inr r))) (h : J k pc' L (.inr (.inr r) :: S) σ Q t) : J k pc L S σ Q t := jr_s (q := (pc + 1, L, .inr (.inr r) :: S, σ)) he rfl (by show xs_ld i 1 pc L S σ 2 = _; unfold xs_ld; rw [hl]; rfl) (hp ▸ h)
theorem jr_istore {i : Nat} (he : xcd k pc = some (.istore i, len, x, y, z)) (hp : pc + 2 = pc') (hi : Nat.blt i (xmL k) = true) (hl : xset L i (xi a) = L') (h : J k pc' L' S σ Q t) : J k pc L (xi a :: S) σ Q t := jr_s (q := (pc + 2, xset L i (xi a), S, σ)) he rfl (by show cond (Nat.blt i (xmL k)) (some _) none = _; rw [hi]; rfl) (by subst hl; exact hp ▸ h)
theorem jr_istore_n {i : Fin 4} (he : xcd k pc = some (.istore_n i, len, x, y, z)) (hp : pc + 1 = pc') (hi : Nat.blt i (xmL k) = true) (hl : xset L i (xi a) = L') (h : J k pc' L' S σ Q t) : J k pc L (xi a :: S) σ Q t := jr_s (q := (pc + 1, xset L i (xi a), S, σ)) he rfl (by show cond (Nat.blt i (xmL k)) (some _) none = _; rw [hi]; rfl) (by subst hl; exact hp ▸ h)
theorem jr_lstore {i : Nat} (he : xcd k pc = some (.lstore i, len, x, y, z)) (hp : pc + 2 = pc') (hi : Nat.blt (i + 1) (xmL k) = true) (hl : xsetl L i (xl a) = L') (h : J k pc' L' S σ Q t) : J k pc L (xl a :: S) σ Q t := jr_s (q := (pc + 2, xsetl L i (xl a), S, σ)) he rfl (by show cond (Nat.blt (i + 1) (xmL k)) (some _) none = _; rw [hi]; rfl) (by subst hl; exact hp ▸ h)
theorem jr_lstore_n {i : Fin 4} (he : xcd k pc = some (.lstore_n i, len, x, y, z)) (hp : pc + 1 = pc') (hi : Nat.blt ((i : Nat) + 1) (xmL k) = true) (hl : xsetl L i (xl a) = L') (h : J k pc' L' S σ Q t) : J k pc L (xl a :: S) σ Q t := jr_s (q := (pc + 1, xsetl L i (xl a), S, σ)) he rfl (by show cond (Nat.blt ((i : Nat) + 1) (xmL k)) (some _) none = _; rw [hi]; rfl) (by subst hl; exact hp ▸ h)
theorem jr_astore {i : Nat} {r : Option (Nat × Nat)} (he : xcd k pc = some (.astore i, len, x, y, z)) (hp : pc + 2 = pc') (hi : Nat.blt i (xmL k) = true) (hl : xset L i (.inr (.inr r)) = L') (h : J k pc' L' S σ Q t) : J k pc L (.inr (.inr r) :: S) σ Q t := jr_s (q := (pc + 2, xset L i (.inr (.inr r)), S, σ)) he rfl (by show cond (Nat.blt i (xmL k)) (some _) none = _; rw [hi]; rfl) (by subst hl; exact hp ▸ h)
theorem jr_astore_n {i : Fin 4} {r : Option (Nat × Nat)} (he : xcd k pc = some (.astore_n i, len, x, y, z)) (hp : pc + 1 = pc') (hi : Nat.blt i (xmL k) = true) (hl : xset L i (.inr (.inr r)) = L') (h : J k pc' L' S σ Q t) : J k pc L (.inr (.inr r) :: S) σ Q t := jr_s (q := (pc + 1, xset L i (.inr (.inr r)), S, σ)) he rfl (by show cond (Nat.blt i (xmL k)) (some _) none = _; rw [hi]; rfl) (by subst hl; exact hp ▸ h)
/-- a number on the stack gets a name -/
theorem jr_nm {K : Int → Option α} (h : ∀ c : Int, J k pc L (xi c :: S) σ Q (K c)) : J k pc L (xi a :: S) σ Q (xnm a K) := h a
theorem jr_nml {K : Int → Option α} (h : ∀ c : Int, J k pc L (xl c :: S) σ Q (K c)) : J k pc L (xl a :: S) σ Q (xnm a K) := h a
theorem jr_nme {β : Type} {e e' : β} {K : β → Option α} (he : e = e') (h : J k pc L S σ Q (K e')) : J k pc L S σ Q (xnm e K) := by subst he; exact h
theorem jr_iinc {i : Nat} {n : Int} {K : Int → Option α} {L2 : Int → xa_L} (he : xcd k pc = some (.iinc i n, len, x, y, z)) (hp : pc + 3 = pc') (hi : Nat.blt i (xmL k) = true) (hg : xget L i = some (xi a)) (hl : ∀ c : Int, xset L i (xi c) = L2 c) (h : ∀ c : Int, J k pc' (L2 c) S σ Q (K c)) : J k pc L S σ Q (xnm (w32 (a + n)) K) :=
  jr_s (q := (pc + 3, xset L i (xi (w32 (a + n))), S, σ)) he rfl (by
    show (match xget L i with | some (.inl v) => cond (Nat.blt i (xmL k)) (some (pc + 3, xset L i (.inl (w32 (v + n))), S, σ)) none | _ => none) = _
    rw [hg]
    show cond (Nat.blt i (xmL k)) _ none = _
    rw [hi]; rfl) (by
    show J k (pc + 3) (xset L i (xi (w32 (a + n)))) S σ Q (K (w32 (a + n)))
    rw [hl, hp]
    exact h _)
theorem jr_iadd (he : xcd k pc = some (.iadd, len, x, y, z)) (hp : pc + 1 = pc') (h : J k pc' L (xi (w32 (a + b)) :: S) σ Q t) : J k pc L (xi b :: xi a :: S) σ Q t := jr_s he rfl rfl (hp ▸ h)
theorem jr_isub (he : xcd k pc = some (.isub, len, x, y, z)) (hp : pc + 1 = pc') (h : J k pc' L (xi (w32 (a - b)) :: S) σ Q t) : J k pc L (xi b :: xi a :: S) σ Q t := jr_s he rfl rfl (hp ▸ h)
theorem jr_imul (he : xcd k pc = some (.imul, len, x, y, z)) (hp : pc + 1 = pc') (h : J k pc' L (xi (w32 (a * b)) :: S) σ Q t) : J k pc L (xi b :: xi a :: S) σ Q t := jr_s he rfl rfl (hp ▸ h)
theorem jr_iand (he : xcd k pc = some (.iand, len, x, y, z)) (hp : pc + 1 = pc') (h : J k pc' L (xi (xand a b) :: S) σ Q t) : J k pc L (xi b :: xi a :: S) σ Q t := jr_s he rfl rfl (hp ▸ h)
theorem jr_ior (he : xcd k pc = some (.ior, len, x, y, z)) (hp : pc + 1 = pc') (h : J k pc' L (xi (xor2 a b) :: S) σ Q t) : J k pc L (xi b :: xi a :: S) σ Q t := jr_s he rfl rfl (hp ▸ h)
theorem jr_ixor (he : xcd k pc = some (.ixor, len, x, y, z)) (hp : pc + 1 = pc') (h : J k pc' L (xi (xxor a b) :: S) σ Q t) : J k pc L (xi b :: xi a :: S) σ Q t := jr_s he rfl rfl (hp ▸ h)
theorem jr_ishl (he : xcd k pc = some (.ishl, len, x, y, z)) (hp : pc + 1 = pc') (h : J k pc' L (xi (xshl a b) :: S) σ Q t) : J k pc L (xi b :: xi a :: S) σ Q t := jr_s he rfl rfl (hp ▸ h)
theorem jr_ishr (he : xcd k pc = some (.ishr, len, x, y, z)) (hp : pc + 1 = pc') (h : J k pc' L (xi (xshr a b) :: S) σ Q t) : J k pc L (xi b :: xi a :: S) σ Q t := jr_s he rfl rfl (hp ▸ h)
theorem jr_idiv (he : xcd k pc = some (.idiv, len, x, y, z)) (hp : pc + 1 = pc') (hb : 0 < b) (h : J k pc' L (xi (xdiv a b) :: S) σ Q t) : J k pc L (xi b :: xi a :: S) σ Q t := jr_s (q := (pc + 1, L, xi (xdiv a b) :: S, σ)) he rfl (if_pos hb) (hp ▸ h)
theorem jr_irem (he : xcd k pc = some (.irem, len, x, y, z)) (hp : pc + 1 = pc') (hb : 0 < b) (h : J k pc' L (xi (xrem a b) :: S) σ Q t) : J k pc L (xi b :: xi a :: S) σ Q t := jr_s (q := (pc + 1, L, xi (xrem a b) :: S, σ)) he rfl (if_pos hb) (hp ▸ h)
theorem jr_ineg (he : xcd k pc = some (.ineg, len, x, y, z)) (hp : pc + 1 = pc') (h : J k pc' L (xi (w32 (-a)) :: S) σ Q t) : J k pc L (xi a :: S) σ Q t := jr_s he rfl rfl (hp ▸ h)
theorem jr_ladd (he : xcd k pc = some (.ladd, len, x, y, z)) (hp : pc + 1 = pc') (h : J k pc' L (xl (w64 (a + b)) :: S) σ Q t) : J k pc L (xl b :: xl a :: S) σ Q t := jr_s he rfl rfl (hp ▸ h)
theorem jr_lmul (he : xcd k pc = some (.lmul, len, x, y, z)) (hp : pc + 1 = pc') (h : J k pc' L (xl (w64 (a * b)) :: S) σ Q t) : J k pc L (xl b :: xl a :: S) σ Q t := jr_s he rfl rfl (hp ▸ h)
theorem jr_ldiv (he : xcd k pc = some (.ldiv, len, x, y, z)) (hp : pc + 1 = pc') (hb : 0 < b) (h : J k pc' L (xl (xdiv a b) :: S) σ Q t) : J k pc L (xl b :: xl a :: S) σ Q t := jr_s (q := (pc + 1, L, xl (xdiv a b) :: S, σ)) he rfl (if_pos hb) (hp ▸ h)
theorem jr_lcmp (he : xcd k pc = some (.lcmp, len, x, y, z)) (hp : pc + 1 = pc') (h : J k pc' L (xi (xcmp a b) :: S) σ Q t) : J k pc L (xl b :: xl a :: S) σ Q t := jr_s he rfl rfl (hp ▸ h)
theorem jr_i2l (he : xcd k pc = some (.i2l, len, x, y, z)) (hp : pc + 1 = pc') (h : J k pc' L (xl a :: S) σ Q t) : J k pc L (xi a :: S) σ Q t := jr_s he rfl rfl (hp ▸ h)
theorem jr_l2i (he : xcd k pc = some (.l2i, len, x, y, z)) (hp : pc + 1 = pc') (h : J k pc' L (xi (w32 a) :: S) σ Q t) : J k pc L (xl a :: S) σ Q t := jr_s he rfl rfl (hp ▸ h)
theorem jr_i2c (he : xcd k pc = some (.i2c, len, x, y, z)) (hp : pc + 1 = pc') (h : J k pc' L (xi (a % 65536) :: S) σ Q t) : J k pc L (xi a :: S) σ Q t := jr_s he rfl rfl (hp ▸ h)
theorem jr_goto {off : Int} (he : xcd k pc = some (.goto off, len, x, y, z)) (hp : xtgt pc off = pc') (h : J k pc' L S σ Q t) : J k pc L S σ Q t := jr_s he rfl rfl (hp ▸ h)
theorem jr_dup (he : xcd k pc = some (.dup, len, x, y, z)) (hp : pc + 1 = pc') (hv : xlong v = false) (h : J k pc' L (v :: v :: S) σ Q t) : J k pc L (v :: S) σ Q t := jr_s (q := (pc + 1, L, v :: v :: S, σ)) he rfl (by show cond (xlong v) none (some _) = _; rw [hv]; rfl) (hp ▸ h)
theorem jr_dup2 (he : xcd k pc = some (.dup2, len, x, y, z)) (hp : pc + 1 = pc') (hv : (xlong v || xlong w) = false) (h : J k pc' L (v :: w :: v :: w :: S) σ Q t) : J k pc L (v :: w :: S) σ Q t := jr_s (q := (pc + 1, L, v :: w :: v :: w :: S, σ)) he rfl (by show cond (xlong v || xlong w) none (some _) = _; rw [hv]; rfl) (hp ▸ h)
theorem jr_pop (he : xcd k pc = some (.pop, len, x, y, z)) (hp : pc + 1 = pc') (hv : xlong v = false) (h : J k pc' L S σ Q t) : J k pc L (v :: S) σ Q t := jr_s (q := (pc + 1, L, S, σ)) he rfl (by show cond (xlong v) none (some _) = _; rw [hv]; rfl) (hp ▸ h)
theorem jr_alen {K i : Nat} (he : xcd k pc = some (.arraylength, len, x, y, z)) (hp : pc + 1 = pc') (hk : ¬ (xaty K = 9 ∨ K = 99)) (hn : ((xalen K : Nat) : Int) = a) (h : J k pc' L (xi a :: S) σ Q t) : J k pc L (xr K i :: S) σ Q t := jr_s (q := (pc + 1, L, xi (xalen K : Int) :: S, σ)) he rfl (if_neg hk) (by subst hn; exact hp ▸ h)
/-- rows, read and written -/
theorem jr_ald {n : Int} {K i : Nat} (he : xcd k pc = some (.iaload, len, x, y, z)) (hp : pc + 1 = pc') (hk : xaty K = 0) (hn : ((xalen K : Nat) : Int) = n) (h : J k pc' L (xi (σ K i a.toNat) :: S) σ Q t) : J k pc L (xi a :: xr K i :: S) σ Q (if 0 ≤ a ∧ a < n then t else none) := by
  by_cases hc : 0 ≤ a ∧ a < n
  · rw [if_pos hc]
    subst hn
    exact jr_s (q := (pc + 1, L, xi (σ K i a.toNat) :: S, σ)) he rfl (if_pos ⟨hk, hc⟩) (hp ▸ h)
  · rw [if_neg hc]; exact jr_none
theorem jr_ald' {n : Int} {K i : Nat} (he : xcd k pc = some (.iaload, len, x, y, z)) (hp : pc + 1 = pc') (hk : xaty K = 0) (hn : ((xalen K : Nat) : Int) = n) (hc : 0 ≤ a ∧ a < n) (h : J k pc' L (xi (σ K i a.toNat) :: S) σ Q t) : J k pc L (xi a :: xr K i :: S) σ Q t := by
  subst hn
  exact jr_s (q := (pc + 1, L, xi (σ K i a.toNat) :: S, σ)) he rfl (if_pos ⟨hk, hc⟩) (hp ▸ h)
theorem jr_bald {n : Int} {K i : Nat} (he : xcd k pc = some (.baload, len, x, y, z)) (hp : pc + 1 = pc') (hk : xaty K = 1) (hn : ((xalen K : Nat) : Int) = n) (h : J k pc' L (xi (σ K i a.toNat) :: S) σ Q t) : J k pc L (xi a :: xr K i :: S) σ Q (if 0 ≤ a ∧ a < n then t else none) := by
  by_cases hc : 0 ≤ a ∧ a < n
  · rw [if_pos hc]
    subst hn
    exact jr_s (q := (pc + 1, L, xi (σ K i a.toNat) :: S, σ)) he rfl (if_pos ⟨hk, hc⟩) (hp ▸ h)
  · rw [if_neg hc]; exact jr_none
theorem jr_lald {n : Int} {K i : Nat} (he : xcd k pc = some (.laload, len, x, y, z)) (hp : pc + 1 = pc') (hk : xaty K = 2) (hn : ((xalen K : Nat) : Int) = n) (h : J k pc' L (xl (σ K i a.toNat) :: S) σ Q t) : J k pc L (xi a :: xr K i :: S) σ Q (if 0 ≤ a ∧ a < n then t else none) := by
  by_cases hc : 0 ≤ a ∧ a < n
  · rw [if_pos hc]
    subst hn
    exact jr_s (q := (pc + 1, L, xl (σ K i a.toNat) :: S, σ)) he rfl (if_pos ⟨hk, hc⟩) (hp ▸ h)
  · rw [if_neg hc]; exact jr_none
theorem jr_aald {n : Int} {K i K2 i2 : Nat} (he : xcd k pc = some (.aaload, len, x, y, z)) (hp : pc + 1 = pc') (hk : xaty K = 5 ∨ xaty K = 6) (hn : ((xalen K : Nat) : Int) = n) (hr : xar K i a.toNat = (K2, i2)) (h : J k pc' L (xr K2 i2 :: S) σ Q t) : J k pc L (xi a :: xr K i :: S) σ Q (if 0 ≤ a ∧ a < n then t else none) := by
  by_cases hc : 0 ≤ a ∧ a < n
  · rw [if_pos hc]
    subst hn
    exact jr_s (q := (pc + 1, L, .inr (.inr (some (xar K i a.toNat))) :: S, σ)) he rfl (if_pos ⟨hk, hc⟩) (by rw [hr]; exact hp ▸ h)
  · rw [if_neg hc]; exact jr_none
theorem jr_ast {n : Int} {K i : Nat} (he : xcd k pc = some (.iastore, len, x, y, z)) (hp : pc + 1 = pc') (hk : xaty K = 0) (hg : xkg K = xmg k) (hn : ((xalen K : Nat) : Int) = n) (h : J k pc' L S (xup σ K i a.toNat b) Q t) : J k pc L (xi b :: xi a :: xr K i :: S) σ Q (if 0 ≤ a ∧ a < n then t else none) := by
  by_cases hc : 0 ≤ a ∧ a < n
  · rw [if_pos hc]
    subst hn
    exact jr_s (q := (pc + 1, L, S, xup σ K i a.toNat b)) he rfl (if_pos ⟨Or.inl rfl, hk, hc, hg⟩) (hp ▸ h)
  · rw [if_neg hc]; exact jr_none
theorem jr_ast' {n : Int} {K i : Nat} (he : xcd k pc = some (.iastore, len, x, y, z)) (hp : pc + 1 = pc') (hk : xaty K = 0) (hg : xkg K = xmg k) (hn : ((xalen K : Nat) : Int) = n) (hc : 0 ≤ a ∧ a < n) (h : J k pc' L S (xup σ K i a.toNat b) Q t) : J k pc L (xi b :: xi a :: xr K i :: S) σ Q t := by
  subst hn
  exact jr_s (q := (pc + 1, L, S, xup σ K i a.toNat b)) he rfl (if_pos ⟨Or.inl rfl, hk, hc, hg⟩) (hp ▸ h)
theorem jr_bast {n : Int} {K i : Nat} (he : xcd k pc = some (.bastore, len, x, y, z)) (hp : pc + 1 = pc') (hk : xaty K = 1) (hg : xkg K = xmg k) (hn : ((xalen K : Nat) : Int) = n) (h : J k pc' L S (xup σ K i a.toNat (b % 2)) Q t) : J k pc L (xi b :: xi a :: xr K i :: S) σ Q (if 0 ≤ a ∧ a < n then t else none) := by
  by_cases hc : 0 ≤ a ∧ a < n
  · rw [if_pos hc]
    subst hn
    exact jr_s (q := (pc + 1, L, S, xup σ K i a.toNat (b % 2))) he rfl (if_pos ⟨Or.inr rfl, hk, hc, hg⟩) (hp ▸ h)
  · rw [if_neg hc]; exact jr_none
theorem jr_last {n : Int} {K i : Nat} (he : xcd k pc = some (.lastore, len, x, y, z)) (hp : pc + 1 = pc') (hk : xaty K = 2) (hg : xkg K = xmg k) (hn : ((xalen K : Nat) : Int) = n) (h : J k pc' L S (xup σ K i a.toNat b) Q t) : J k pc L (xl b :: xi a :: xr K i :: S) σ Q (if 0 ≤ a ∧ a < n then t else none) := by
  by_cases hc : 0 ≤ a ∧ a < n
  · rw [if_pos hc]
    subst hn
    exact jr_s (q := (pc + 1, L, S, xup σ K i a.toNat b)) he rfl (if_pos ⟨rfl, hk, hc, hg⟩) (hp ▸ h)
  · rw [if_neg hc]; exact jr_none
/-- fields -/
theorem jr_geti {K i ix f : Nat} (he : xcd k pc = some (.getfield ix, len, K, f, z)) (hp : pc + 3 = pc') (hf : xfty K f = 0 ∨ xfty K f = 1) (h : J k pc' L (xi (σ K i f) :: S) σ Q t) : J k pc L (xr K i :: S) σ Q t :=
  jr_s (q := (pc + 3, L, xi (σ K i f) :: S, σ)) he rfl (by
    show xs_getf K f pc L (xr K i :: S) σ = _
    unfold xs_getf
    dsimp only
    rw [Nat.beq_refl, cond_true]
    rcases hf with hf | hf <;> rw [hf] <;> rfl) (hp ▸ h)
theorem jr_getr {K i ix f K2 i2 : Nat} (he : xcd k pc = some (.getfield ix, len, K, f, z)) (hp : pc + 3 = pc') (hf : xfty K f = 3) (hr : xsr K i f = (K2, i2)) (h : J k pc' L (xr K2 i2 :: S) σ Q t) : J k pc L (xr K i :: S) σ Q t :=
  jr_s (q := (pc + 3, L, .inr (.inr (some (xsr K i f))) :: S, σ)) he rfl (by
    show xs_getf K f pc L (xr K i :: S) σ = _
    unfold xs_getf
    dsimp only
    rw [Nat.beq_refl, cond_true, hf]
    rfl) (by rw [hr]; exact hp ▸ h)
theorem jr_getd {K i ix f : Nat} (he : xcd k pc = some (.getfield ix, len, K, f, z)) (hp : pc + 3 = pc') (hf : xfty K f = 4) (h0 : σ K i f < 0 → J k pc' L (xn :: S) σ Q t) (h1 : ¬ σ K i f < 0 → J k pc' L (xr 5 (σ K i f).toNat :: S) σ Q t') : J k pc L (xr K i :: S) σ Q (if σ K i f < 0 then t else t') := by
  refine jr_s (q := (pc + 3, L, .inr (.inr (if σ K i f < 0 then none else some (5, (σ K i f).toNat))) :: S, σ)) he rfl (by
    show xs_getf K f pc L (xr K i :: S) σ = _
    unfold xs_getf
    dsimp only
    rw [Nat.beq_refl, cond_true, hf]
    rfl) ?_
  dsimp only
  rw [hp]
  by_cases hc : σ K i f < 0
  · rw [if_pos hc, if_pos hc]; exact h0 hc
  · rw [if_neg hc, if_neg hc]; exact h1 hc
theorem jr_put {K i ix f : Nat} (he : xcd k pc = some (.putfield ix, len, K, f, z)) (hp : pc + 3 = pc') (hf : xfty K f = 0) (hg : Nat.beq (xkg K) (xmg k) = true) (h : J k pc' L S (xup σ K i f a) Q t) : J k pc L (xi a :: xr K i :: S) σ Q t :=
  jr_s (q := (pc + 3, L, S, xup σ K i f a)) he rfl (by
    show xs_putf k K f pc L (xi a :: xr K i :: S) σ = _
    unfold xs_putf
    dsimp only
    rw [Nat.beq_refl, hg, Bool.and_self, cond_true, hf]
    rfl) (hp ▸ h)
theorem jr_putz {K i ix f : Nat} (he : xcd k pc = some (.putfield ix, len, K, f, z)) (hp : pc + 3 = pc') (hf : xfty K f = 1) (hg : Nat.beq (xkg K) (xmg k) = true) (ha : a = 0 ∨ a = 1) (h : J k pc' L S (xup σ K i f a) Q t) : J k pc L (xi a :: xr K i :: S) σ Q t :=
  jr_s (q := (pc + 3, L, S, xup σ K i f a)) he rfl (by
    show xs_putf k K f pc L (xi a :: xr K i :: S) σ = _
    unfold xs_putf
    dsimp only
    rw [Nat.beq_refl, hg, Bool.and_self, cond_true, hf]
    exact if_pos ha) (hp ▸ h)
theorem jr_putn {K i ix f : Nat} (he : xcd k pc = some (.putfield ix, len, K, f, z)) (hp : pc + 3 = pc') (hf : xfty K f = 4) (hg : Nat.beq (xkg K) (xmg k) = true) (h : J k pc' L S (xup σ K i f (-1)) Q t) : J k pc L (xn :: xr K i :: S) σ Q t :=
  jr_s (q := (pc + 3, L, S, xup σ K i f (-1))) he rfl (by
    show xs_putf k K f pc L (xn :: xr K i :: S) σ = _
    unfold xs_putf
    dsimp only
    rw [Nat.beq_refl, hg, Bool.and_self, cond_true, hf]
    rfl) (hp ▸ h)
theorem jr_putr {K i ix f j : Nat} (he : xcd k pc = some (.putfield ix, len, K, f, z)) (hp : pc + 3 = pc') (hf : xfty K f = 4) (hg : Nat.beq (xkg K) (xmg k) = true) (h : J k pc' L S (xup σ K i f (j : Int)) Q t) : J k pc L (xr 5 j :: xr K i :: S) σ Q t :=
  jr_s (q := (pc + 3, L, S, xup σ K i f (j : Int))) he rfl (by
    show xs_putf k K f pc L (xr 5 j :: xr K i :: S) σ = _
    unfold xs_putf
    dsimp only
    rw [Nat.beq_refl, hg, Bool.and_self, cond_true, hf]
    rfl) (hp ▸ h)
/-- branches: the machine goes to pt where the condition holds -/
theorem jr_br {c : Prop} [Decidable c] {pt pn : Nat} {en : xa_I} (he : xcd k pc = some en) (hk : xkd en.1 = 0) (hs : xstp k en pc L S σ = some (cond (decide c) pt pn, L, S', σ)) (h1 : c → J k pt L S' σ Q t) (h2 : ¬ c → J k pn L S' σ Q t) : J k pc L S σ Q t := by
  refine jr_s he hk hs ?_
  by_cases hc : c
  · rw [decide_eq_true hc]; exact h1 hc
  · rw [decide_eq_false hc]; exact h2 hc
theorem jr_ite {c : Prop} [Decidable c] (h1 : c → J k pc L S σ Q t) (h2 : ¬ c → J k pc L S σ Q t') : J k pc L S σ Q (if c then t else t') := by
  by_cases hc : c
  · rw [if_pos hc]; exact h1 hc
  · rw [if_neg hc]; exact h2 hc
end JR
