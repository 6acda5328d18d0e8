/-! small rules for the printed rows -/
theorem xsb_n {L : xa_L} : xsb [] L := fun q h => by cases h
theorem xsb_c {q : Nat × xa_V} {L' L : xa_L} (h : List.Mem q L) (h2 : xsb L' L) : xsb (q :: L') L := by
  intro x hx
  rcases List.mem_cons.mp hx with rfl | hx
  · exact h
  · exact h2 x hx
theorem xno9 {K : Nat} (h : xaty K = 0) : ¬ (xaty K = 9 ∨ K = 99) := by
  rintro (h9 | h9)
  · omega
  · subst h9
    have := xaty_99
    omega
def xb2 {α : Type} (t : Option (Int × xa_H)) (K : Int → xa_H → Option α) : Option α := t.bind fun q => K q.1 q.2
section JR3
variable {α β : Type} {k pc pc' len x y z : Nat} {L L' : xa_L} {S S' S1 as : List xa_V} {σ σ' : xa_H} {Q : α → Option xa_V → xa_H → Prop} {t t' : Option α} {ins : Instr} {a b : Int} {v w : xa_V}
theorem jr_iinc1 {i : Nat} {n : Int} (he : xcd k pc = some (.iinc i n, len, x, y, z)) (hp : pc + 3 = pc') (hi : Nat.blt i (xmL k) = true) (hg : xget L i = some (xi a)) (hl : xset L i (xi (w32 (a + n))) = L') (h : J k pc' L' S σ Q t) : J k pc L S σ Q t :=
  jr_s (q := (pc + 3, xset L i (xi (w32 (a + n))), S, σ)) he rfl (by
    show (match xget L i with | some (.inl v) => cond (Nat.blt i (xmL k)) (some (pc + 3, xset L i (.inl (w32 (v + n))), S, σ)) none | _ => none) = _
    rw [hg]
    show cond (Nat.blt i (xmL k)) _ none = _
    rw [hi]; rfl) (by subst hl; exact hp ▸ h)
theorem jr_callX {tc : Option (Int × xa_H)} {K : Int → xa_H → Option α} {en : xa_I} (he : xcd k pc = some en) (hk : xkd en.1 = 2) (h5 : Nat.ble 5000 en.2.2.1 = false) (hc : (Nat.ble en.2.2.2.1 S.length && Nat.ble (xwt (S.drop en.2.2.2.1)) 8) = true) (ha : (S.take en.2.2.2.1).reverse = as) (hd : S.drop en.2.2.2.1 = S1)
    (h3 : (Nat.ble (xwt as) (xmL en.2.2.1) && (xstat en.1 || xrcv en.2.2.1 as)) = true) (hj : J en.2.2.1 0 (xargs 0 as) [] σ jqW tc) (hp : pc + 3 = pc')
    (h : ∀ (g : Int) (σ1 : xa_H), J k pc' L (xi g :: S1) σ1 Q (K g σ1)) : J k pc L S σ Q (xb2 tc K) := jr_callW he hk h5 hc ha hd h3 hj hp h
theorem jr_retCi {k0 pc0 : Nat} {L0 : xa_L} (he : xcd k pc = some (.ireturn, len, x, y, z)) (hz : Nat.beq (xmZ k) 1 = false) (h : J k0 pc0 L0 (xi a :: S1) σ Q t) : J k pc L [xi a] σ (jqC k0 pc0 L0 S1 Q) t := by
  intro x hx
  obtain ⟨n, r', σ', e1, q1⟩ := h x hx
  refine ⟨1, some (xi a), σ, ?_, n, r', σ', e1, q1⟩
  unfold xrun
  rw [he]
  show xret k .ireturn [xi a] σ = _
  rw [xret_i, hz]
  rfl
theorem jr_tabc {pt : Nat} {en : xa_I} (he : xcd k pc = some en) (hk : xkd en.1 = 0) (hv : a = b) (hs : xstp k en pc L (xi b :: S) σ = some (pt, L, S, σ)) (h : J k pt L S σ Q t) : J k pc L (xi a :: S) σ Q t := by
  subst hv
  exact jr_s he hk hs h
theorem jr_tabd {d lo hi : Int} {offs : Array Int} {pt : Nat} (he : xcd k pc = some (.tableswitch d lo hi offs, len, x, y, z)) (hp : xtgt pc d = pt) (hm : ¬ (a < lo ∨ hi < a) → offs[(a - lo).toNat]? = some d) (h : J k pt L S σ Q t) : J k pc L (xi a :: S) σ Q t := by
  refine jr_s (q := (pt, L, S, σ)) he rfl ?_ h
  show (if a < lo ∨ hi < a then some (xtgt pc d, L, S, σ) else match offs[(a - lo).toNat]? with
      | some off => some (xtgt pc off, L, S, σ)
      | none => none) = _
  by_cases hc : a < lo ∨ hi < a
  · rw [if_pos hc, hp]
  · rw [if_neg hc, hm hc]
    show some (xtgt pc d, L, S, σ) = _
    rw [hp]
theorem xprim_ix {i : Nat} (h0 : 0 ≤ a) (h1 : a < 65536) : xprim 5000 [xr 99 i, xi a] = some (xi (xixo xmoves a 0)) := by
  show (if (99 : Nat) = 99 then (if 0 ≤ a ∧ a < 65536 then some (xi (xixo xmoves a 0)) else none) else none) = _
  rw [if_pos rfl, if_pos ⟨h0, h1⟩]
theorem xprim_ch {i : Nat} (h0 : 0 ≤ a) (h1 : a < 12) : xprim 5001 [xr 99 i, xi a] = some (xi (xmoves.getD a.toNat 0)) := by
  show (if (99 : Nat) = 99 then (if 0 ≤ a ∧ a < 12 then some (xi (xmoves.getD a.toNat 0)) else none) else none) = _
  rw [if_pos rfl, if_pos ⟨h0, h1⟩]
theorem xprim_le {i : Nat} : xprim 5002 [xr 99 i] = some (xi 12) := rfl
end JR3
