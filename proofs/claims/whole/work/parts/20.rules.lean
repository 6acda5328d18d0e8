/-! calls; returns; joins; branches -/
section JR2
variable {α β : Type} {k pc pc' len x y z : Nat} {L L' : xa_L} {S S' S1 as : List xa_V} {σ σ' : xa_H} {Q : α → Option xa_V → xa_H → Prop} {t t' : Option α} {ins : Instr} {a b : Int} {v w : xa_V}
/-- fewer locals: each of the fewer ones lies at its place -/
theorem jr_sub (hn : xnd L) (hs : xsb L' L) (h : J k pc L' S σ Q t) : J k pc L S σ Q t := by
  intro x hx
  obtain ⟨n, r, σ', h1, h2⟩ := h x hx
  exact ⟨n, r, σ', xrun_sub _ _ _ _ _ _ _ _ hn hs h1, h2⟩
theorem xrun_pad {n m : Nat} {r : Option xa_V × xa_H} (h : xrun n k pc L S σ = some r) (hm : n ≤ m) : xrun m k pc L S σ = some r := by
  obtain ⟨d, rfl⟩ := Nat.exists_eq_add_of_le hm
  exact xrun_mono h d
theorem jr_callQ {γ : Type} {Qc : γ → Option xa_V → xa_H → Prop} {tc : Option γ} {K : γ → Option α} {en : xa_I} (he : xcd k pc = some en) (hk : xkd en.1 = 2) (h5 : Nat.ble 5000 en.2.2.1 = false) (hc : (Nat.ble en.2.2.2.1 S.length && Nat.ble (xwt (S.drop en.2.2.2.1)) 8) = true) (ha : (S.take en.2.2.2.1).reverse = as) (hd : S.drop en.2.2.2.1 = S1)
    (h3 : (Nat.ble (xwt as) (xmL en.2.2.1) && (xstat en.1 || xrcv en.2.2.1 as)) = true) (hj : J en.2.2.1 0 (xargs 0 as) [] σ Qc tc) (hp : pc + 3 = pc')
    (h : ∀ (g : γ) (r : Option xa_V) (σ1 : xa_H), Qc g r σ1 → J k pc' L (r.toList ++ S1) σ1 Q (K g)) : J k pc L S σ Q (tc.bind K) := by
  intro x hx
  obtain ⟨g, hg, hx⟩ := Option.bind_eq_some_iff.mp hx
  obtain ⟨n1, r1, σ1, e1, q1⟩ := hj g hg
  obtain ⟨n2, r, σ', e2, q2⟩ := h g r1 σ1 q1 x hx
  refine ⟨max n1 n2 + 1, r, σ', ?_, q2⟩
  unfold xrun
  rw [he]
  (try dsimp only)
  rw [hk]
  (try dsimp only)
  rw [hc, cond_true, h5, cond_false, ha, h3, cond_true, xrun_pad e1 (Nat.le_max_left _ _)]
  (try dsimp only)
  rw [hd, hp]
  exact xrun_pad e2 (Nat.le_max_right _ _)
theorem jr_callP {tc : Option Int} {K : Int → Option α} {en : xa_I} (he : xcd k pc = some en) (hk : xkd en.1 = 2) (h5 : Nat.ble 5000 en.2.2.1 = false) (hc : (Nat.ble en.2.2.2.1 S.length && Nat.ble (xwt (S.drop en.2.2.2.1)) 8) = true) (ha : (S.take en.2.2.2.1).reverse = as) (hd : S.drop en.2.2.2.1 = S1)
    (h3 : (Nat.ble (xwt as) (xmL en.2.2.1) && (xstat en.1 || xrcv en.2.2.1 as)) = true) (hj : J en.2.2.1 0 (xargs 0 as) [] σ (jqP σ) tc) (hp : pc + 3 = pc')
    (h : ∀ g : Int, J k pc' L (xi g :: S1) σ Q (K g)) : J k pc L S σ Q (tc.bind K) := jr_callQ he hk h5 hc ha hd h3 hj hp (fun g r σ1 hq => by obtain ⟨rfl, rfl⟩ := hq; exact h g)
theorem jr_callL {tc : Option Int} {K : Int → Option α} {en : xa_I} (he : xcd k pc = some en) (hk : xkd en.1 = 2) (h5 : Nat.ble 5000 en.2.2.1 = false) (hc : (Nat.ble en.2.2.2.1 S.length && Nat.ble (xwt (S.drop en.2.2.2.1)) 8) = true) (ha : (S.take en.2.2.2.1).reverse = as) (hd : S.drop en.2.2.2.1 = S1)
    (h3 : (Nat.ble (xwt as) (xmL en.2.2.1) && (xstat en.1 || xrcv en.2.2.1 as)) = true) (hj : J en.2.2.1 0 (xargs 0 as) [] σ (jqL σ) tc) (hp : pc + 3 = pc')
    (h : ∀ g : Int, J k pc' L (xl g :: S1) σ Q (K g)) : J k pc L S σ Q (tc.bind K) := jr_callQ he hk h5 hc ha hd h3 hj hp (fun g r σ1 hq => by obtain ⟨rfl, rfl⟩ := hq; exact h g)
theorem jr_callW {tc : Option (Int × xa_H)} {K : Int × xa_H → Option α} {en : xa_I} (he : xcd k pc = some en) (hk : xkd en.1 = 2) (h5 : Nat.ble 5000 en.2.2.1 = false) (hc : (Nat.ble en.2.2.2.1 S.length && Nat.ble (xwt (S.drop en.2.2.2.1)) 8) = true) (ha : (S.take en.2.2.2.1).reverse = as) (hd : S.drop en.2.2.2.1 = S1)
    (h3 : (Nat.ble (xwt as) (xmL en.2.2.1) && (xstat en.1 || xrcv en.2.2.1 as)) = true) (hj : J en.2.2.1 0 (xargs 0 as) [] σ jqW tc) (hp : pc + 3 = pc')
    (h : ∀ (g : Int) (σ1 : xa_H), J k pc' L (xi g :: S1) σ1 Q (K (g, σ1))) : J k pc L S σ Q (tc.bind K) := jr_callQ he hk h5 hc ha hd h3 hj hp (fun g r σ1 hq => by obtain ⟨rfl, rfl⟩ := hq; exact h g.1 g.2)
theorem jr_callV {tc : Option xa_H} {K : xa_H → Option α} {en : xa_I} (he : xcd k pc = some en) (hk : xkd en.1 = 2) (h5 : Nat.ble 5000 en.2.2.1 = false) (hc : (Nat.ble en.2.2.2.1 S.length && Nat.ble (xwt (S.drop en.2.2.2.1)) 8) = true) (ha : (S.take en.2.2.2.1).reverse = as) (hd : S.drop en.2.2.2.1 = S1)
    (h3 : (Nat.ble (xwt as) (xmL en.2.2.1) && (xstat en.1 || xrcv en.2.2.1 as)) = true) (hj : J en.2.2.1 0 (xargs 0 as) [] σ jqV tc) (hp : pc + 3 = pc')
    (h : ∀ σ1 : xa_H, J k pc' L S1 σ1 Q (K σ1)) : J k pc L S σ Q (tc.bind K) := jr_callQ he hk h5 hc ha hd h3 hj hp (fun g r σ1 hq => by obtain ⟨h1, h2⟩ := hq; subst h1; subst h2; exact h _)
/-- a method called in place -/
theorem jr_inl {en : xa_I} (he : xcd k pc = some en) (hk : xkd en.1 = 2) (h5 : Nat.ble 5000 en.2.2.1 = false) (hc : (Nat.ble en.2.2.2.1 S.length && Nat.ble (xwt (S.drop en.2.2.2.1)) 8) = true) (ha : (S.take en.2.2.2.1).reverse = as) (hd : S.drop en.2.2.2.1 = S1)
    (h3 : (Nat.ble (xwt as) (xmL en.2.2.1) && (xstat en.1 || xrcv en.2.2.1 as)) = true) (hp : pc + 3 = pc') (hl : xargs 0 as = L')
    (h : J en.2.2.1 0 L' [] σ (jqC k pc' L S1 Q) t) : J k pc L S σ Q t := by
  intro x hx
  obtain ⟨n1, r1, σ1, e1, n2, r, σ', e2, q2⟩ := h x hx
  refine ⟨max n1 n2 + 1, r, σ', ?_, q2⟩
  unfold xrun
  rw [he]
  (try dsimp only)
  rw [hk]
  (try dsimp only)
  rw [hc, cond_true, h5, cond_false, ha, h3, cond_true, hl, xrun_pad e1 (Nat.le_max_left _ _)]
  (try dsimp only)
  rw [hd, hp]
  exact xrun_pad e2 (Nat.le_max_right _ _)
/-- the calls on the text of the moves, and Math's -/
theorem jr_prim {en : xa_I} (he : xcd k pc = some en) (hk : xkd en.1 = 2) (h5 : Nat.ble 5000 en.2.2.1 = true) (hc : (Nat.ble en.2.2.2.1 S.length && Nat.ble (xwt (S.drop en.2.2.2.1)) 8) = true) (ha : (S.take en.2.2.2.1).reverse = as) (hd : S.drop en.2.2.2.1 = S1)
    (hv : xprim en.2.2.1 as = some v) (hp : pc + 3 = pc') (h : J k pc' L (v :: S1) σ Q t) : J k pc L S σ Q t := by
  intro x hx
  obtain ⟨n, r, σ', e1, q1⟩ := h x hx
  refine ⟨n + 1, r, σ', ?_, q1⟩
  unfold xrun
  rw [he]
  (try dsimp only)
  rw [hk]
  (try dsimp only)
  rw [hc, cond_true, h5, cond_true, ha, hv]
  (try dsimp only)
  rw [hd, hp]
  exact e1
theorem jr_ret0 {en : xa_I} {Q : α → Option xa_V → xa_H → Prop} {u : α} {r : Option xa_V} {σ' : xa_H} (he : xcd k pc = some en) (hk : xkd en.1 = 1) (hr : xret k en.1 S σ = some (r, σ')) (hq : Q u r σ') : J k pc L S σ Q (some u) := by
  intro x hx
  cases hx
  refine ⟨1, r, σ', ?_, hq⟩
  unfold xrun
  rw [he]
  (try dsimp only)
  rw [hk]
  (try dsimp only)
  exact hr
theorem xret_i : xret k .ireturn [xi a] σ = some (some (xi (cond (Nat.beq (xmZ k) 1) (a % 2) a)), σ) := rfl
theorem jr_retP (he : xcd k pc = some (.ireturn, len, x, y, z)) (hz : Nat.beq (xmZ k) 1 = false) : J k pc L [xi a] σ (jqP σ) (some a) := jr_ret0 he rfl xret_i ⟨by rw [hz]; rfl, rfl⟩
theorem jr_retPz (he : xcd k pc = some (.ireturn, len, x, y, z)) (hz : Nat.beq (xmZ k) 1 = true) (ha : a % 2 = b) : J k pc L [xi a] σ (jqP σ) (some b) := jr_ret0 he rfl xret_i ⟨by rw [hz, cond_true, ha], rfl⟩
theorem jr_retW (he : xcd k pc = some (.ireturn, len, x, y, z)) (hz : Nat.beq (xmZ k) 1 = false) : J k pc L [xi a] σ jqW (some (a, σ)) := jr_ret0 he rfl xret_i ⟨by rw [hz]; rfl, rfl⟩
theorem jr_retWz (he : xcd k pc = some (.ireturn, len, x, y, z)) (hz : Nat.beq (xmZ k) 1 = true) (ha : a % 2 = b) : J k pc L [xi a] σ jqW (some (b, σ)) := jr_ret0 he rfl xret_i ⟨by rw [hz, cond_true, ha], rfl⟩
theorem jr_retL (he : xcd k pc = some (.lreturn, len, x, y, z)) : J k pc L [xl a] σ (jqL σ) (some a) := jr_ret0 he rfl rfl ⟨rfl, rfl⟩
theorem jr_retV (he : xcd k pc = some (.return_, len, x, y, z)) : J k pc L [] σ jqV (some σ) := jr_ret0 he rfl rfl ⟨rfl, rfl⟩
/-- a return in a method called in place -/
theorem jr_retC {k0 pc0 : Nat} {L0 : xa_L} {r : Option (Nat × Nat)} (he : xcd k pc = some (.areturn, len, x, y, z)) (h : J k0 pc0 L0 (.inr (.inr r) :: S1) σ Q t) : J k pc L [.inr (.inr r)] σ (jqC k0 pc0 L0 S1 Q) t := by
  intro x hx
  obtain ⟨n, r', σ', e1, q1⟩ := h x hx
  refine ⟨1, some (.inr (.inr r)), σ, ?_, n, r', σ', e1, q1⟩
  unfold xrun
  rw [he]
  rfl
/-- joins: what lies behind gets a name -/
def xj (K : β) (F : β → α) : α := F K
theorem jr_j {K : β} {F : β → Option α} (P : β → Prop) (h1 : P K) (h2 : ∀ K' : β, P K' → J k pc L S σ Q (F K')) : J k pc L S σ Q (xj K F) := h2 K h1
theorem jr_pm1 {e : Int} {T : Int → Option α} (P : (Int → Option α) → Prop) (h1 : P T) (h2 : ∀ T' : Int → Option α, P T' → J k pc L S σ Q (xnm e T')) : J k pc L S σ Q (xnm e T) := h2 T h1
theorem jr_pm2 {e e2 : Int} {T : Int → Int → Option α} (P : (Int → Int → Option α) → Prop) (h1 : P T) (h2 : ∀ T' : Int → Int → Option α, P T' → J k pc L S σ Q (xnm e (fun v => xnm e2 (T' v)))) : J k pc L S σ Q (xnm e (fun v => xnm e2 (T v))) := h2 T h1
theorem jr_pm3 {e e2 e3 : Int} {T : Int → Int → Int → Option α} (P : (Int → Int → Int → Option α) → Prop) (h1 : P T) (h2 : ∀ T' : Int → Int → Int → Option α, P T' → J k pc L S σ Q (xnm e (fun v => xnm e2 (fun v2 => xnm e3 (T' v v2))))) : J k pc L S σ Q (xnm e (fun v => xnm e2 (fun v2 => xnm e3 (T v v2)))) := h2 T h1
/-- new contents get a name -/
theorem jr_nms {K : xa_H → Option α} (h : ∀ σ1 : xa_H, J k pc L S σ1 Q (K σ1)) : J k pc L S σ Q (xnm σ K) := h σ
theorem jr_bri {c : Prop} [Decidable c] {pt pn : Nat} {en : xa_I} (he : xcd k pc = some en) (hk : xkd en.1 = 0) (hs : xstp k en pc L S σ = some (cond (decide c) pt pn, L, S', σ)) (h1 : c → J k pt L S' σ Q t) (h2 : ¬ c → J k pn L S' σ Q t') : J k pc L S σ Q (if c then t else t') := by
  refine jr_s he hk hs ?_
  by_cases hc : c
  · rw [decide_eq_true hc, if_pos hc]; exact h1 hc
  · rw [decide_eq_false hc, if_neg hc]; exact h2 hc
theorem jr_brx {c : Prop} [Decidable c] {pt pn : Nat} {en : xa_I} (he : xcd k pc = some en) (hk : xkd en.1 = 0) (hs : xstp k en pc L S σ = some (cond (decide (¬ c)) pt pn, L, S', σ)) (h1 : c → J k pn L S' σ Q t) (h2 : ¬ c → J k pt L S' σ Q t') : J k pc L S σ Q (if c then t else t') := by
  refine jr_s he hk hs ?_
  by_cases hc : c
  · rw [decide_eq_false (fun q => q hc), if_pos hc]; exact h1 hc
  · rw [decide_eq_true hc, if_neg hc]; exact h2 hc
theorem jr_bx {c : Prop} [Decidable c] {pt pn : Nat} {en : xa_I} (he : xcd k pc = some en) (hk : xkd en.1 = 0) (hs : xstp k en pc L S σ = some (cond (decide (¬ c)) pt pn, L, S', σ)) (h1 : c → J k pn L S' σ Q t) (h2 : ¬ c → J k pt L S' σ Q t) : J k pc L S σ Q t := by
  refine jr_s he hk hs ?_
  by_cases hc : c
  · rw [decide_eq_false (fun q => q hc)]; exact h1 hc
  · rw [decide_eq_true hc]; exact h2 hc
theorem jr_acmp {off : Int} {K i j : Nat} {pt : Nat} (he : xcd k pc = some (.if_acmp .ne off, len, x, y, z)) (hp : pc + 3 = pc') (ht : xtgt pc off = pt) (h9 : Nat.beq K 99 = false) (h1 : i = j → J k pc' L S σ Q t) (h2 : ¬ i = j → J k pt L S σ Q t') : J k pc L (xr K j :: xr K i :: S) σ Q (if i = j then t else t') := by
  refine jr_s (q := (cond (decide (some (K, i) = some (K, j))) (pc + 3) (xtgt pc off), L, S, σ)) he rfl (by
    show cond (xnst (some (K, i)) && xnst (some (K, j))) (some (cond (decide (some (K, i) = some (K, j))) (pc + 3) (xtgt pc off), L, S, σ)) none = _
    have e : xnst (some (K, i)) = true := by show (!Nat.beq K 99) = true; rw [h9]; rfl
    have e2 : xnst (some (K, j)) = true := by show (!Nat.beq K 99) = true; rw [h9]; rfl
    rw [e, e2]
    rfl) ?_
  by_cases hc : i = j
  · subst hc
    rw [if_pos rfl]
    dsimp only
    rw [decide_eq_true rfl, hp]
    exact h1 rfl
  · rw [if_neg hc]
    dsimp only
    rw [decide_eq_false (by intro q; cases q; exact hc rfl), ht]
    exact h2 hc
end JR2
