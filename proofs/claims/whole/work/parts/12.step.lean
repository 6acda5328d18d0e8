/-! the machine follows the abstract machine: any instruction that is no call and no return -/
section XSIM5
variable {p : Program} {l : Launch} {e : Env} {R : Room} {s : State} {m : MethodId} {args : Array Value} {below : List Frame} {meth : Method} {c : Code} {H : Heap} {locs : List Loc} {cells slots : Nat} {ls : Array Slot} {Q : State → Prop}
variable {D : va_G} {cA : Nat → ClassId} {tyl : List Nat} {ids : List (Nat × Nat)} {ad : Nat × Nat → Nat} {A : Nat → Prop} {k pc nL : Nat} {L L' : xa_L} {S S' : List xa_V} {σ σ' : xa_H} {q : xa_C}
theorem xcv_c1 {ad : Nat × Nat → Nat} {v : xa_V} (h : xlong v = false) : (xcv ad v).category = 1 := by
  rcases v with a | a | _ | q
  · rfl
  · cases h
  · rfl
  · rfl
theorem xsg_pop (C : xcx D cA tyl ids ad A p R s m args meth c k) (hdg : decode (xmB k) pc = .ok (.pop, 1))
    (Y : xdy D cA ids ad A s H locs ls nL L S σ) (hst : xstp k (.pop, 1, 0, 0, 0) pc L S σ = some q)
    (kk : ∀ H' locs' ls', xdy D cA ids ad A s H' locs' ls' nL q.2.1 q.2.2.1 q.2.2.2 → W p l e R s m args below meth c H' locs' cells slots Q (F0 m q.1 ls' (q.2.2.1.map (xcv ad)))) : W p l e R s m args below meth c H locs cells slots Q (F0 m pc ls (S.map (xcv ad))) := by
  obtain ⟨⟨hx, hb, -⟩, -⟩ := C
  match S, Y, hst with
  | [], _, hst => exact xno hst
  | a :: S', Y, hst =>
    have hst : cond (xlong a) none (some (pc + 1, L, S', σ)) = some q := hst
    cases ha : xlong a with
    | true => rw [ha] at hst; exact xno hst
    | false =>
      rw [ha] at hst
      cases hst
      exact lv_pop hx hb hdg (xcv_c1 ha) (kk H locs ls (xdy_pop Y (fun w hw => by simp [hw])))
theorem xsg_dup (C : xcx D cA tyl ids ad A p R s m args meth c k) (hdg : decode (xmB k) pc = .ok (.dup, 1))
    (Y : xdy D cA ids ad A s H locs ls nL L S σ) (hst : xstp k (.dup, 1, 0, 0, 0) pc L S σ = some q)
    (kk : ∀ H' locs' ls', xdy D cA ids ad A s H' locs' ls' nL q.2.1 q.2.2.1 q.2.2.2 → W p l e R s m args below meth c H' locs' cells slots Q (F0 m q.1 ls' (q.2.2.1.map (xcv ad)))) : W p l e R s m args below meth c H locs cells slots Q (F0 m pc ls (S.map (xcv ad))) := by
  obtain ⟨⟨hx, hb, -⟩, -⟩ := C
  match S, Y, hst with
  | [], _, hst => exact xno hst
  | a :: S', Y, hst =>
    have hst : cond (xlong a) none (some (pc + 1, L, a :: a :: S', σ)) = some q := hst
    cases ha : xlong a with
    | true => rw [ha] at hst; exact xno hst
    | false =>
      rw [ha] at hst
      cases hst
      refine lv_dup hx hb hdg (xcv_c1 ha) (kk H locs ls (xdy_st Y (fun w hw => Y.2.2.2.1 w ?_)))
      rcases List.mem_cons.mp hw with h | h
      · rw [h]; exact List.mem_cons_self
      · exact h
theorem xsg_dup2 (C : xcx D cA tyl ids ad A p R s m args meth c k) (hdg : decode (xmB k) pc = .ok (.dup2, 1))
    (Y : xdy D cA ids ad A s H locs ls nL L S σ) (hst : xstp k (.dup2, 1, 0, 0, 0) pc L S σ = some q)
    (kk : ∀ H' locs' ls', xdy D cA ids ad A s H' locs' ls' nL q.2.1 q.2.2.1 q.2.2.2 → W p l e R s m args below meth c H' locs' cells slots Q (F0 m q.1 ls' (q.2.2.1.map (xcv ad)))) : W p l e R s m args below meth c H locs cells slots Q (F0 m pc ls (S.map (xcv ad))) := by
  obtain ⟨⟨hx, hb, -⟩, -⟩ := C
  match S, Y, hst with
  | [], _, hst => exact xno hst
  | [_], _, hst => exact xno hst
  | a :: b :: S', Y, hst =>
    have hst : cond (xlong a || xlong b) none (some (pc + 1, L, a :: b :: a :: b :: S', σ)) = some q := hst
    cases hab : xlong a || xlong b with
    | true => rw [hab] at hst; exact xno hst
    | false =>
      rw [hab] at hst
      cases hst
      rw [Bool.or_eq_false_iff] at hab
      refine lv_dup2_11 hx hb hdg (xcv_c1 hab.1) (xcv_c1 hab.2) (kk H locs ls (xdy_st Y (fun w hw => Y.2.2.2.1 w ?_)))
      simp only [List.mem_cons] at hw ⊢
      rcases hw with h | h | h | h | h
      · exact Or.inl h
      · exact Or.inr (Or.inl h)
      · exact Or.inl h
      · exact Or.inr (Or.inl h)
      · exact Or.inr (Or.inr h)
theorem xsg_null (b : Bool) {off : Int} (C : xcx D cA tyl ids ad A p R s m args meth c k) (ht : 0 ≤ (pc : Int) + off) {ins : Instr} (hi : ins = cond b (.ifnull off) (.ifnonnull off)) (hdg : decode (xmB k) pc = .ok (ins, 3))
    (Y : xdy D cA ids ad A s H locs ls nL L S σ) (hst : xstp k (ins, 3, 0, 0, 0) pc L S σ = some q)
    (kk : ∀ H' locs' ls', xdy D cA ids ad A s H' locs' ls' nL q.2.1 q.2.2.1 q.2.2.2 → W p l e R s m args below meth c H' locs' cells slots Q (F0 m q.1 ls' (q.2.2.1.map (xcv ad)))) : W p l e R s m args below meth c H locs cells slots Q (F0 m pc ls (S.map (xcv ad))) := by
  obtain ⟨⟨hx, hb, -⟩, -⟩ := C
  have htg : (pc : Int) + off = (xtgt pc off : Int) := by unfold xtgt; omega
  subst hi
  match S, Y, hst with
  | [], _, hst => cases b <;> exact xno hst
  | .inl _ :: _, _, hst => cases b <;> exact xno hst
  | .inr (.inl _) :: _, _, hst => cases b <;> exact xno hst
  | .inr (.inr r) :: S', Y, hst =>
    cases b with
    | true =>
      have hst : some (cond r.isNone (xtgt pc off) (pc + 3), L, S', σ) = some q := hst
      cases hst
      rcases r with _ | r
      · exact lv_ifnullN hx hb hdg htg (kk H locs ls (xdy_pop Y (fun w hw => by simp [hw])))
      · exact lv_ifnull hx hb hdg (kk H locs ls (xdy_pop Y (fun w hw => by simp [hw])))
    | false =>
      have hst : some (cond r.isSome (xtgt pc off) (pc + 3), L, S', σ) = some q := hst
      cases hst
      rcases r with _ | r
      · exact lv_ifnonnullN hx hb hdg (kk H locs ls (xdy_pop Y (fun w hw => by simp [hw])))
      · exact lv_ifnonnull hx hb hdg htg (kk H locs ls (xdy_pop Y (fun w hw => by simp [hw])))
theorem xid_inj (hD : va_D A (xwl cA ids ad σ)) {a b : Nat × Nat} (ha : a ∈ ids) (hb : b ∈ ids) (h : ad a = ad b) : a = b := by
  obtain ⟨n, hn, he⟩ := xwl_get (cA := cA) (ad := ad) (σ := σ) ha
  obtain ⟨n2, hn2, he2⟩ := xwl_get (cA := cA) (ad := ad) (σ := σ) hb
  have := hD.1 n n2 _ _ he he2 h
  subst this
  exact Option.some.inj (hn.symm.trans hn2)
theorem xsg_acmp {off : Int} (C : xcx D cA tyl ids ad A p R s m args meth c k) (ht : 0 ≤ (pc : Int) + off) (hdg : decode (xmB k) pc = .ok (.if_acmp .ne off, 3))
    (Y : xdy D cA ids ad A s H locs ls nL L S σ) (hst : xstp k (.if_acmp .ne off, 3, 0, 0, 0) pc L S σ = some q)
    (kk : ∀ H' locs' ls', xdy D cA ids ad A s H' locs' ls' nL q.2.1 q.2.2.1 q.2.2.2 → W p l e R s m args below meth c H' locs' cells slots Q (F0 m q.1 ls' (q.2.2.1.map (xcv ad)))) : W p l e R s m args below meth c H locs cells slots Q (F0 m pc ls (S.map (xcv ad))) := by
  obtain ⟨⟨hx, hb, -⟩, -⟩ := C
  have htg : (pc : Int) + off = (xtgt pc off : Int) := by unfold xtgt; omega
  match S, Y, hst with
  | [], _, hst => exact xno hst
  | [.inl _], _, hst => exact xno hst
  | [.inr (.inl _)], _, hst => exact xno hst
  | [.inr (.inr _)], _, hst => exact xno hst
  | .inl _ :: _ :: _, _, hst => exact xno hst
  | .inr (.inl _) :: _ :: _, _, hst => exact xno hst
  | .inr (.inr _) :: .inl _ :: _, _, hst => exact xno hst
  | .inr (.inr _) :: .inr (.inl _) :: _, _, hst => exact xno hst
  | .inr (.inr r2) :: .inr (.inr r1) :: S', Y, hst =>
    have hst : cond (xnst r1 && xnst r2) (some (cond (decide (r1 = r2)) (pc + 3) (xtgt pc off), L, S', σ)) none = some q := hst
    cases hn : xnst r1 && xnst r2 with
    | false => rw [hn] at hst; exact xno hst
    | true =>
      rw [hn] at hst
      cases hst
      rw [Bool.and_eq_true] at hn
      have key : ∀ r : Option (Nat × Nat), xok ids (.inr (.inr r)) → xnst r = true → ∀ q, r = some q → q ∈ ids := by
        intro r h1 h2 q hq
        subst hq
        rcases h1 with h | h
        · exact h
        · exfalso
          have h3 : (!Nat.beq q.1 99) = true := h2
          rw [h] at h3
          cases h3
      have k1 := key r1 (Y.2.2.2.1 (.inr (.inr r1)) (by simp)) hn.1
      have k2 := key r2 (Y.2.2.2.1 (.inr (.inr r2)) (by simp)) hn.2
      have e0 : ∀ r : Option (Nat × Nat), xcv ad (.inr (.inr r)) = va_rf (r.map ad) := by
        intro r
        rcases r with _ | r <;> rfl
      have hkk := kk H locs ls (xdy_pop (S' := S') Y (fun w hw => by simp [hw]))
      rw [List.map_cons, List.map_cons, e0, e0]
      have inj : r1.map ad = r2.map ad → r1 = r2 := by
        intro h
        rcases r1 with _ | q1
        · rcases r2 with _ | q2
          · rfl
          · cases h
        · rcases r2 with _ | q2
          · cases h
          · rw [xid_inj Y.1.2.1 (k1 q1 rfl) (k2 q2 rfl) (Option.some.inj h)]
      refine lv_acmp_ne hx hb hdg htg (fun h => ?_) (fun h => ?_)
      · have hne : ¬ r1 = r2 := fun e => h (by rw [e])
        simp only [decide_eq_false hne, cond_false] at hkk
        exact hkk
      · simp only [decide_eq_true (inj h), cond_true] at hkk
        exact hkk
theorem xsg_goto {off : Int} (C : xcx D cA tyl ids ad A p R s m args meth c k) (ht : 0 ≤ (pc : Int) + off) (hdg : decode (xmB k) pc = .ok (.goto off, 3))
    (Y : xdy D cA ids ad A s H locs ls nL L S σ) (hst : some (xtgt pc off, L, S, σ) = some q)
    (kk : ∀ H' locs' ls', xdy D cA ids ad A s H' locs' ls' nL q.2.1 q.2.2.1 q.2.2.2 → W p l e R s m args below meth c H' locs' cells slots Q (F0 m q.1 ls' (q.2.2.1.map (xcv ad)))) : W p l e R s m args below meth c H locs cells slots Q (F0 m pc ls (S.map (xcv ad))) := by
  obtain ⟨⟨hx, hb, -⟩, -⟩ := C
  cases hst
  exact lv_goto hx hb hdg (by unfold xtgt; omega) (kk H locs ls Y)
theorem xsg_tab {d lo hi : Int} {offs : Array Int} {n : Nat} (C : xcx D cA tyl ids ad A p R s m args meth c k) (ht : xck_t pc d = true ∧ offs.toList.all (xck_t pc) = true) (hdg : decode (xmB k) pc = .ok (.tableswitch d lo hi offs, n))
    (Y : xdy D cA ids ad A s H locs ls nL L S σ) (hst : xstp k (.tableswitch d lo hi offs, n, 0, 0, 0) pc L S σ = some q)
    (kk : ∀ H' locs' ls', xdy D cA ids ad A s H' locs' ls' nL q.2.1 q.2.2.1 q.2.2.2 → W p l e R s m args below meth c H' locs' cells slots Q (F0 m q.1 ls' (q.2.2.1.map (xcv ad)))) : W p l e R s m args below meth c H locs cells slots Q (F0 m pc ls (S.map (xcv ad))) := by
  obtain ⟨⟨hx, hb, -⟩, -⟩ := C
  have tg : ∀ off : Int, xck_t pc off = true → (pc : Int) + off = (xtgt pc off : Int) := by
    intro off h
    have h := of_decide_eq_true h
    unfold xtgt
    omega
  match S, Y, hst with
  | [], _, hst => exact xno hst
  | .inr _ :: _, _, hst => exact xno hst
  | .inl v :: S', Y, hst =>
    have hst : (if v < lo ∨ hi < v then some (xtgt pc d, L, S', σ) else match offs[(v - lo).toNat]? with
      | some off => some (xtgt pc off, L, S', σ)
      | none => none) = some q := hst
    have hv : xr32 v := Y.2.2.2.1 (.inl v) (by simp)
    have hv2 := xo32 hv
    by_cases hc : v < lo ∨ hi < v
    · rw [if_pos hc] at hst
      cases hst
      exact lv_tableOut hx hb hdg (by rw [hv2]; exact hc) (tg _ ht.1) (kk H locs ls (xdy_pop Y (fun w hw => by simp [hw])))
    · rw [if_neg hc] at hst
      cases ho : offs[(v - lo).toNat]? with
      | none => rw [ho] at hst; exact xno hst
      | some off =>
        rw [ho] at hst
        cases hst
        have hmem : off ∈ offs.toList := by
          have := Array.mem_of_getElem? ho
          exact Array.mem_toList_iff.mpr this
        have h2 := List.all_eq_true.mp ht.2 off hmem
        exact lv_tableIn hx hb hdg (by rw [hv2]; omega) (by rw [hv2]; omega) (by rw [hv2]; exact ho) (tg _ h2) (kk H locs ls (xdy_pop Y (fun w hw => by simp [hw])))
theorem xsg_iinc {i : Nat} {n : Int} (C : xcx D cA tyl ids ad A p R s m args meth c k) (hdg : decode (xmB k) pc = .ok (.iinc i n, 3))
    (Y : xdy D cA ids ad A s H locs ls (xmL k) L S σ) (hst : xstp k (.iinc i n, 3, 0, 0, 0) pc L S σ = some q)
    (kk : ∀ H' locs' ls', xdy D cA ids ad A s H' locs' ls' (xmL k) q.2.1 q.2.2.1 q.2.2.2 → W p l e R s m args below meth c H' locs' cells slots Q (F0 m q.1 ls' (q.2.2.1.map (xcv ad)))) : W p l e R s m args below meth c H locs cells slots Q (F0 m pc ls (S.map (xcv ad))) := by
  obtain ⟨⟨hx, hb, -⟩, -⟩ := C
  have hst : (match xget L i with
    | some (.inl v) => cond (Nat.blt i (xmL k)) (some (pc + 3, xset L i (.inl (w32 (v + n))), S, σ)) none
    | _ => none) = some q := hst
  cases hg : xget L i with
  | none => rw [hg] at hst; exact xno hst
  | some v =>
    rw [hg] at hst
    rcases v with a | a
    · have hst : cond (Nat.blt i (xmL k)) (some (pc + 3, xset L i (.inl (w32 (a + n))), S, σ)) none = some q := hst
      cases hb2 : Nat.blt i (xmL k) with
      | false => rw [hb2] at hst; exact xno hst
      | true =>
        rw [hb2] at hst
        cases hst
        have hm : (i, xcv ad (.inl a)) ∈ L.map (fun q => (q.1, xcv ad q.2)) := List.mem_map.mpr ⟨(i, .inl a), xget_mem hg, rfl⟩
        obtain ⟨j, hj⟩ := List.getElem?_of_mem hm
        refine lv_iinc (x := Int32.ofInt a) (v := Int32.ofInt (w32 (a + n))) hx hb hdg Y.2.2.2.2 hj (xadd a n).symm (Nat.blt_eq.mp hb2) rfl (fun ls' hl => kk H locs ls' (xdy_set Y (w32_r _) (fun w hw => hw) hl))
    · exact xno hst
def xspc : Instr → Bool
  | .new _ => true
  | .newarray _ => true
  | .anewarray _ => true
  | .invokespecial _ => true
  | _ => false
theorem xlen_of {pc len x y z n : Nat} {ins : Instr} (h : xck2 (pc, (ins, len, x, y, z)) = true) (h1 : xln ins = n) (h0 : Nat.beq n 0 = false) (h2 : xspc ins = false) : len = n := by
  have h : (Nat.beq (xln ins) 0 || Nat.beq len (xln ins) || xspc ins) = true := h
  rw [h1, h0, h2, Bool.or_false, Bool.false_or] at h
  exact Nat.eq_of_beq_eq_true h
theorem xsim_step {en : xa_I} (C : xcx D cA tyl ids ad A p R s m args meth c k) (he : xcd k pc = some en)
    (Y : xdy D cA ids ad A s H locs ls (xmL k) L S σ) (hst : xstp k en pc L S σ = some q)
    (kk : ∀ H' locs' ls', xdy D cA ids ad A s H' locs' ls' (xmL k) q.2.1 q.2.2.1 q.2.2.2 → W p l e R s m args below meth c H' locs' cells slots Q (F0 m q.1 ls' (q.2.2.1.map (xcv ad)))) : W p l e R s m args below meth c H locs cells slots Q (F0 m pc ls (S.map (xcv ad))) := by
  obtain ⟨hdg, hck, hck2⟩ := xdec he
  have C' := C
  obtain ⟨⟨hx, hb, hml, hown⟩, hts, ⟨hK, hN, hZ⟩, hI, -, -, -⟩ := C'
  obtain ⟨ins, len, x, y, z⟩ := en
  cases ins with
  | iadd =>
    have hl := xlen_of (n := 1) hck2 rfl rfl rfl
    subst hl
    exact xsg_b (g := fun x y => x + y) (fun a b _ _ => ⟨xadd a b, w32_r _⟩) (fun a b rest h => lv_iadd hx hb hdg h) Y hst kk
  | isub =>
    have hl := xlen_of (n := 1) hck2 rfl rfl rfl
    subst hl
    exact xsg_b (g := fun x y => x - y) (fun a b _ _ => ⟨xsub a b, w32_r _⟩) (fun a b rest h => lv_isub hx hb hdg h) Y hst kk
  | imul =>
    have hl := xlen_of (n := 1) hck2 rfl rfl rfl
    subst hl
    exact xsg_b (g := fun x y => x * y) (fun a b _ _ => ⟨xmul a b, w32_r _⟩) (fun a b rest h => lv_imul hx hb hdg h) Y hst kk
  | iand =>
    have hl := xlen_of (n := 1) hck2 rfl rfl rfl
    subst hl
    exact xsg_b (g := fun x y => x &&& y) (fun a b _ _ => ⟨xand_o a b, xand_r a b⟩) (fun a b rest h => lv_iand hx hb hdg h) Y hst kk
  | ior =>
    have hl := xlen_of (n := 1) hck2 rfl rfl rfl
    subst hl
    exact xsg_b (g := fun x y => x ||| y) (fun a b _ _ => ⟨xor2_o a b, xor2_r a b⟩) (fun a b rest h => lv_ior hx hb hdg h) Y hst kk
  | ixor =>
    have hl := xlen_of (n := 1) hck2 rfl rfl rfl
    subst hl
    exact xsg_b (g := fun x y => x ^^^ y) (fun a b _ _ => ⟨xxor_o a b, xxor_r a b⟩) (fun a b rest h => lv_ixor hx hb hdg h) Y hst kk
  | ishl =>
    have hl := xlen_of (n := 1) hck2 rfl rfl rfl
    subst hl
    exact xsg_b (g := fun x y => x <<< (y &&& 31)) (fun a b _ _ => ⟨xshl_o a b, xshl_r a b⟩) (fun a b rest h => lv_ishl hx hb hdg h) Y hst kk
  | ishr =>
    have hl := xlen_of (n := 1) hck2 rfl rfl rfl
    subst hl
    exact xsg_b (g := fun x y => x >>> (y &&& 31)) (fun a b _ _ => ⟨xshr_o a b, xshr_r a b⟩) (fun a b rest h => lv_ishr hx hb hdg h) Y hst kk
  | idiv =>
    have hl := xlen_of (n := 1) hck2 rfl rfl rfl
    subst hl
    exact xsg_d (g := fun x y => x / y) (fun a b ha hb0 hp => ⟨xdiv_o ha hb0 hp, xdiv_r ha hp⟩) (fun a b rest hne h => lv_idiv hx hb hdg hne h) Y hst kk
  | irem =>
    have hl := xlen_of (n := 1) hck2 rfl rfl rfl
    subst hl
    exact xsg_d (g := fun x y => x - x / y * y) (fun a b ha hb0 hp => ⟨xrem_o ha hb0 hp, xrem_r ha hp⟩) (fun a b rest hne h => lv_irem hx hb hdg hne h) Y hst kk
  | ladd =>
    have hl := xlen_of (n := 1) hck2 rfl rfl rfl
    subst hl
    exact xsg_bl (g := fun x y => x + y) (fun a b _ _ => ⟨xladd a b, w64_r _⟩) (fun a b rest h => lv_ladd hx hb hdg h) Y hst kk
  | lmul =>
    have hl := xlen_of (n := 1) hck2 rfl rfl rfl
    subst hl
    exact xsg_bl (g := fun x y => x * y) (fun a b _ _ => ⟨xlmul a b, w64_r _⟩) (fun a b rest h => lv_lmul hx hb hdg h) Y hst kk
  | ldiv =>
    have hl := xlen_of (n := 1) hck2 rfl rfl rfl
    subst hl
    match S, Y, hst with
    | [], _, hst => exact xno hst
    | [.inl _], _, hst => exact xno hst
    | [.inr (.inl _)], _, hst => exact xno hst
    | [.inr (.inr _)], _, hst => exact xno hst
    | .inl _ :: _ :: _, _, hst => exact xno hst
    | .inr (.inr _) :: _ :: _, _, hst => exact xno hst
    | .inr (.inl _) :: .inl _ :: _, _, hst => exact xno hst
    | .inr (.inl _) :: .inr (.inr _) :: _, _, hst => exact xno hst
    | .inr (.inl b) :: .inr (.inl a) :: S', Y, hst =>
      have hst : (if 0 < b then some (pc + 1, L, (.inr (.inl (xdiv a b)) : xa_V) :: S', σ) else none) = some q := hst
      split at hst
      · rename_i hp
        cases hst
        have ha : xr64 a := Y.2.2.2.1 (.inr (.inl a)) (by simp)
        have hb0 : xr64 b := Y.2.2.2.1 (.inr (.inl b)) (by simp)
        refine lv_ldiv hx hb hdg (xne064 hb0 hp) ?_
        rw [← xdiv_o64 ha hb0 hp]
        exact kk H locs ls (xdy_push (v := .inr (.inl (xdiv a b))) Y (fun w hw => by simp [hw]) (xdiv_r64 ha hp))
      · exact xno hst
  | lcmp =>
    have hl := xlen_of (n := 1) hck2 rfl rfl rfl
    subst hl
    match S, Y, hst with
    | [], _, hst => exact xno hst
    | [.inl _], _, hst => exact xno hst
    | [.inr (.inl _)], _, hst => exact xno hst
    | [.inr (.inr _)], _, hst => exact xno hst
    | .inl _ :: _ :: _, _, hst => exact xno hst
    | .inr (.inr _) :: _ :: _, _, hst => exact xno hst
    | .inr (.inl _) :: .inl _ :: _, _, hst => exact xno hst
    | .inr (.inl _) :: .inr (.inr _) :: _, _, hst => exact xno hst
    | .inr (.inl b) :: .inr (.inl a) :: S', Y, hst =>
      have hst : some (pc + 1, L, (.inl (xcmp a b) : xa_V) :: S', σ) = some q := hst
      cases hst
      have ha : xr64 a := Y.2.2.2.1 (.inr (.inl a)) (by simp)
      have hb0 : xr64 b := Y.2.2.2.1 (.inr (.inl b)) (by simp)
      refine W.lcmp hx hb hdg ?_
      rw [← xcmp_o ha hb0]
      exact kk H locs ls (xdy_push (v := .inl (xcmp a b)) Y (fun w hw => by simp [hw]) (xcmp_r a b))
  | ineg =>
    have hl := xlen_of (n := 1) hck2 rfl rfl rfl
    subst hl
    match S, Y, hst with
    | [], _, hst => exact xno hst
    | .inr _ :: _, _, hst => exact xno hst
    | .inl a :: S', Y, hst =>
      have hst : some (pc + 1, L, (.inl (w32 (-a)) : xa_V) :: S', σ) = some q := hst
      cases hst
      have ha : xok ids (.inl a) := Y.2.2.2.1 (.inl a) (by simp)
      refine lv_ineg hx hb hdg ?_
      rw [← xneg]
      exact kk H locs ls (xdy_push (v := .inl (w32 (-a))) Y (fun w hw => by simp [hw]) (w32_r _))
  | i2l =>
    have hl := xlen_of (n := 1) hck2 rfl rfl rfl
    subst hl
    match S, Y, hst with
    | [], _, hst => exact xno hst
    | .inr _ :: _, _, hst => exact xno hst
    | .inl a :: S', Y, hst =>
      have hst : some (pc + 1, L, (.inr (.inl a) : xa_V) :: S', σ) = some q := hst
      cases hst
      have ha : xok ids (.inl a) := Y.2.2.2.1 (.inl a) (by simp)
      refine lv_i2l (v := Int64.ofInt a) hx hb hdg (xi2l ha) ?_
      exact kk H locs ls (xdy_push (v := .inr (.inl a)) Y (fun w hw => by simp [hw]) (by have h1 : xr32 a := ha; exact ⟨by have := h1.1; omega, by have := h1.2; omega⟩))
  | l2i =>
    have hl := xlen_of (n := 1) hck2 rfl rfl rfl
    subst hl
    match S, Y, hst with
    | [], _, hst => exact xno hst
    | .inl _ :: _, _, hst => exact xno hst
    | .inr (.inr _) :: _, _, hst => exact xno hst
    | .inr (.inl a) :: S', Y, hst =>
      have hst : some (pc + 1, L, (.inl (w32 a) : xa_V) :: S', σ) = some q := hst
      cases hst
      have ha : xok ids (.inr (.inl a)) := Y.2.2.2.1 (.inr (.inl a)) (by simp)
      refine lv_l2i (v := Int32.ofInt (w32 a)) hx hb hdg (xl2i a) ?_
      exact kk H locs ls (xdy_push (v := .inl (w32 a)) Y (fun w hw => by simp [hw]) (w32_r _))
  | i2c =>
    have hl := xlen_of (n := 1) hck2 rfl rfl rfl
    subst hl
    match S, Y, hst with
    | [], _, hst => exact xno hst
    | .inr _ :: _, _, hst => exact xno hst
    | .inl a :: S', Y, hst =>
      have hst : some (pc + 1, L, (.inl (a % 65536) : xa_V) :: S', σ) = some q := hst
      cases hst
      have ha : xok ids (.inl a) := Y.2.2.2.1 (.inl a) (by simp)
      refine lv_i2c (v := Int32.ofInt (a % 65536)) hx hb hdg (xi2c ha) ?_
      exact kk H locs ls (xdy_push (v := .inl (a % 65536)) Y (fun w hw => by simp [hw]) ⟨by omega, by omega⟩)
  | iconst v =>
    have hl := xlen_of (n := 1) hck2 rfl rfl rfl
    subst hl
    have hv := of_decide_eq_true hck
    exact xsg_c (v := .inl v) (n := 1) ⟨by omega, by omega⟩ (fun h => lv_iconst hx hb hdg rfl h) Y hst kk
  | bipush v =>
    have hl := xlen_of (n := 2) hck2 rfl rfl rfl
    subst hl
    have hck := Bool.and_eq_true _ _ ▸ hck
    have hv := of_decide_eq_true hck.1
    exact xsg_c (v := .inl v) (n := 2) ⟨by omega, by omega⟩ (fun h => lv_bipush hx hb hdg (of_decide_eq_true hck.2) h) Y hst kk
  | sipush v =>
    have hl := xlen_of (n := 3) hck2 rfl rfl rfl
    subst hl
    have hck := Bool.and_eq_true _ _ ▸ hck
    have hv := of_decide_eq_true hck.1
    exact xsg_c (v := .inl v) (n := 3) ⟨by omega, by omega⟩ (fun h => lv_sipush hx hb hdg (of_decide_eq_true hck.2) h) Y hst kk
  | lconst v =>
    have hl := xlen_of (n := 1) hck2 rfl rfl rfl
    subst hl
    exact xsg_c (v := .inr (.inl ((v : Nat) : Int))) (n := 1) ⟨by omega, by omega⟩ (fun h => lv_lconst (v := Int64.ofInt ((v : Nat) : Int)) hx hb hdg Int64.ofInt_eq_ofNat.symm h) Y hst kk
  | aconst_null =>
    have hl := xlen_of (n := 1) hck2 rfl rfl rfl
    subst hl
    exact xsg_c (v := .inr (.inr none)) (n := 1) trivial (fun h => lv_null hx hb hdg h) Y hst kk
  | ldc ix =>
    have hl := xlen_of (n := 2) hck2 rfl rfl rfl
    subst hl
    cases hy : Nat.beq y 0 with
    | true =>
      have hck : cond (Nat.beq y 0) (decide (lw_tbl[z]? = some (Cond.constant (xmO k) ix (Int32.ofInt (x : Int)))) && Nat.blt x 2147483648) _ = true := hck
      rw [hy, cond_true, Bool.and_eq_true] at hck
      have hx2 := Nat.blt_eq.mp hck.2
      have hst : some (pc + 2, L, cond (Nat.beq y 0) (.inl (x : Int)) (.inr (.inr (some (99, x)))) :: S, σ) = some q := hst
      rw [hy] at hst
      exact xsg_c (v := .inl (x : Int)) (n := 2) ⟨by omega, by omega⟩ (fun h => lv_ldc hx hb hown (hts _ (xw_in (of_decide_eq_true hck.1) rfl)) hdg h) Y hst kk
    | false =>
      have hck : cond (Nat.beq y 0) _ (decide (xmO k = cond (Nat.beq x 0) "SofaStair$Pad" "SofaStair$Search") && decide (ix = cond (Nat.beq x 0) 27 142) && Nat.blt x 2) = true := hck
      rw [hy, cond_false, Bool.and_eq_true, Bool.and_eq_true] at hck
      have hx2 := Nat.blt_eq.mp hck.2
      have hst : some (pc + 2, L, cond (Nat.beq y 0) (.inl (x : Int)) (.inr (.inr (some (99, x)))) :: S, σ) = some q := hst
      rw [hy] at hst
      have h1 := of_decide_eq_true hck.1.1
      have h2 := of_decide_eq_true hck.1.2
      refine xsg_c (v := .inr (.inr (some (99, x)))) (n := 2) (Or.inr rfl) (fun h => ?_) Y hst kk
      rcases (show x = 0 ∨ x = 1 by omega) with rfl | rfl
      · rw [h1] at hown
        have h2 : ix = 27 := h2
        subst h2
        exact va_ldcS hx hb hown hZ.1 hdg h
      · rw [h1] at hown
        have h2 : ix = 142 := h2
        subst h2
        exact va_ldcS hx hb hown hZ.2.1 hdg h
  | ldc2_w ix =>
    have hl := xlen_of (n := 3) hck2 rfl rfl rfl
    subst hl
    have hck := Bool.and_eq_true _ _ ▸ hck
    have hx2 : x < 1000000000000000000 := Nat.blt_eq.mp hck.2
    refine xsg_c (v := .inr (.inl (cond (Nat.beq y 0) (x : Int) (-(x : Int))))) (n := 3) ?_ (fun h => lv_ldc2 hx hb hown (hts _ (xw_in (of_decide_eq_true hck.1) rfl)) hdg h) Y hst kk
    show xr64 _
    cases Nat.beq y 0
    · exact ⟨by show _ ≤ -(x : Int); omega, by show -(x : Int) < _; omega⟩
    · exact ⟨by show _ ≤ (x : Int); omega, by show (x : Int) < _; omega⟩
  | iload i =>
    have hl := xlen_of (n := 2) hck2 rfl rfl rfl
    subst hl
    exact xsg_ldi (n := 2) (fun x rest h1 h => lv_iload hx hb hdg h1 h) Y hst kk
  | iload_n i =>
    have hl := xlen_of (n := 1) hck2 rfl rfl rfl
    subst hl
    exact xsg_ldi (i := (i : Nat)) (n := 1) (fun x rest h1 h => lv_iload_n hx hb hdg rfl h1 h) Y hst kk
  | lload i =>
    have hl := xlen_of (n := 2) hck2 rfl rfl rfl
    subst hl
    exact xsg_ldl (n := 2) (fun x rest h1 h => lv_lload hx hb hdg h1 h) Y hst kk
  | lload_n i =>
    have hl := xlen_of (n := 1) hck2 rfl rfl rfl
    subst hl
    exact xsg_ldl (i := (i : Nat)) (n := 1) (fun x rest h1 h => lv_lload_n hx hb hdg rfl h1 h) Y hst kk
  | aload i =>
    have hl := xlen_of (n := 2) hck2 rfl rfl rfl
    subst hl
    exact xsg_lda (n := 2) (fun x rest h1 h => lv_aload hx hb hdg h1 h) (fun rest h1 h => lv_aloadN hx hb hdg h1 h) Y hst kk
  | aload_n i =>
    have hl := xlen_of (n := 1) hck2 rfl rfl rfl
    subst hl
    exact xsg_lda (i := (i : Nat)) (n := 1) (fun x rest h1 h => lv_aload_n hx hb hdg rfl h1 h) (fun rest h1 h => lv_aload_nN hx hb hdg rfl h1 h) Y hst kk
  | istore i =>
    have hl := xlen_of (n := 2) hck2 rfl rfl rfl
    subst hl
    exact xsg_sti (n := 2) (fun x rest lv h hn h2 => lv_istore hx hb hdg h hn rfl h2) Y hst kk
  | istore_n i =>
    have hl := xlen_of (n := 1) hck2 rfl rfl rfl
    subst hl
    exact xsg_sti (i := (i : Nat)) (n := 1) (fun x rest lv h hn h2 => lv_istore_n hx hb hdg rfl h hn rfl h2) Y hst kk
  | lstore i =>
    have hl := xlen_of (n := 2) hck2 rfl rfl rfl
    subst hl
    exact xsg_stl (n := 2) (fun x rest lv h hn h2 => lv_lstore hx hb hdg h hn rfl h2) Y hst kk
  | lstore_n i =>
    have hl := xlen_of (n := 1) hck2 rfl rfl rfl
    subst hl
    exact xsg_stl (i := (i : Nat)) (n := 1) (fun x rest lv h hn h2 => lv_lstore_n hx hb hdg rfl h hn rfl h2) Y hst kk
  | astore i =>
    have hl := xlen_of (n := 2) hck2 rfl rfl rfl
    subst hl
    exact xsg_sta (n := 2) (fun x rest lv h hn h2 => lv_astore hx hb hdg h hn rfl h2) (fun rest lv h hn h2 => lv_astoreN hx hb hdg h hn rfl h2) Y hst kk
  | astore_n i =>
    have hl := xlen_of (n := 1) hck2 rfl rfl rfl
    subst hl
    exact xsg_sta (i := (i : Nat)) (n := 1) (fun x rest lv h hn h2 => lv_astore_n hx hb hdg rfl h hn rfl h2) (fun rest lv h hn h2 => lv_astore_nN hx hb hdg rfl h hn rfl h2) Y hst kk
  | iinc i n =>
    have hl := xlen_of (n := 3) hck2 rfl rfl rfl
    subst hl
    exact xsg_iinc C hdg Y hst kk
  | ifCond cnd off =>
    have hl := xlen_of (n := 3) hck2 rfl rfl rfl
    subst hl
    have ht := of_decide_eq_true hck
    cases cnd with
    | eq => exact xsg_if (k := k) (cnd := .eq) ht (fun x rest tgt htg h => lv_if_eq hx hb hdg htg (fun hc => h true (fun a ha e => decide_eq_true ((xeq0 ha).mp (e ▸ hc)))) (fun hc => h false (fun a ha e => decide_eq_false (fun hh => hc (e ▸ (xeq0 ha).mpr hh))))) Y hst kk
    | ne => exact xsg_if (k := k) (cnd := .ne) ht (fun x rest tgt htg h => lv_if_ne hx hb hdg htg (fun hc => h true (fun a ha e => decide_eq_true ((not_congr (xeq0 ha)).mp (e ▸ hc)))) (fun hc => h false (fun a ha e => decide_eq_false (fun hh => hh ((xeq0 ha).mp (e ▸ hc)))))) Y hst kk
    | lt => exact xsg_if (k := k) (cnd := .lt) ht (fun x rest tgt htg h => lv_if_lt hx hb hdg htg (fun hc => h true (fun a ha e => decide_eq_true ((xlt0 ha).mp (e ▸ hc)))) (fun hc => h false (fun a ha e => decide_eq_false (fun hh => hc (e ▸ (xlt0 ha).mpr hh))))) Y hst kk
    | ge => exact xsg_if (k := k) (cnd := .ge) ht (fun x rest tgt htg h => lv_if_ge hx hb hdg htg (fun hc => h true (fun a ha e => decide_eq_true ((xle0 ha).mp (e ▸ hc)))) (fun hc => h false (fun a ha e => decide_eq_false (fun hh => hc (e ▸ (xle0 ha).mpr hh))))) Y hst kk
    | gt => exact xsg_if (k := k) (cnd := .gt) ht (fun x rest tgt htg h => lv_if_gt hx hb hdg htg (fun hc => h true (fun a ha e => decide_eq_true (((show (0 : Int32) < Int32.ofInt a ↔ 0 < a by rw [← xz32]; exact xlt32 ⟨by decide, by decide⟩ ha)).mp (e ▸ hc)))) (fun hc => h false (fun a ha e => decide_eq_false (fun hh => hc (e ▸ ((show (0 : Int32) < Int32.ofInt a ↔ 0 < a by rw [← xz32]; exact xlt32 ⟨by decide, by decide⟩ ha)).mpr hh))))) Y hst kk
    | le => exact xsg_if (k := k) (cnd := .le) ht (fun x rest tgt htg h => lv_if_le hx hb hdg htg (fun hc => h true (fun a ha e => decide_eq_true (((show Int32.ofInt a ≤ 0 ↔ a ≤ 0 by rw [← xz32]; exact xle32 ha ⟨by decide, by decide⟩)).mp (e ▸ hc)))) (fun hc => h false (fun a ha e => decide_eq_false (fun hh => hc (e ▸ ((show Int32.ofInt a ≤ 0 ↔ a ≤ 0 by rw [← xz32]; exact xle32 ha ⟨by decide, by decide⟩)).mpr hh))))) Y hst kk
  | if_icmp cnd off =>
    have hl := xlen_of (n := 3) hck2 rfl rfl rfl
    subst hl
    have ht := of_decide_eq_true hck
    cases cnd with
    | eq => exact xsg_icmp (k := k) (cnd := .eq) ht (fun x y rest tgt htg h => lv_icmp_eq hx hb hdg htg (fun hc => h true (fun a a2 ha ha2 e e2 => decide_eq_true ((xeq32 ha ha2).mp (by rw [← e, ← e2]; exact hc)))) (fun hc => h false (fun a a2 ha ha2 e e2 => decide_eq_false (fun hh => hc (by rw [e, e2]; exact (xeq32 ha ha2).mpr hh))))) Y hst kk
    | ne => exact xsg_icmp (k := k) (cnd := .ne) ht (fun x y rest tgt htg h => lv_icmp_ne hx hb hdg htg (fun hc => h true (fun a a2 ha ha2 e e2 => decide_eq_true (fun hh => hc (by rw [e, e2, hh])))) (fun hc => h false (fun a a2 ha ha2 e e2 => decide_eq_false (fun hh => hh ((xeq32 ha ha2).mp (by rw [← e, ← e2]; exact hc)))))) Y hst kk
    | lt => exact xsg_icmp (k := k) (cnd := .lt) ht (fun x y rest tgt htg h => lv_icmp_lt hx hb hdg htg (fun hc => h true (fun a a2 ha ha2 e e2 => decide_eq_true ((xlt32 ha ha2).mp (by rw [← e, ← e2]; exact hc)))) (fun hc => h false (fun a a2 ha ha2 e e2 => decide_eq_false (fun hh => hc (by rw [e, e2]; exact (xlt32 ha ha2).mpr hh))))) Y hst kk
    | ge => exact xsg_icmp (k := k) (cnd := .ge) ht (fun x y rest tgt htg h => lv_icmp_ge hx hb hdg htg (fun hc => h true (fun a a2 ha ha2 e e2 => decide_eq_true ((xle32 ha2 ha).mp (by rw [← e, ← e2]; exact hc)))) (fun hc => h false (fun a a2 ha ha2 e e2 => decide_eq_false (fun hh => hc (by rw [e, e2]; exact (xle32 ha2 ha).mpr hh))))) Y hst kk
    | gt => exact xsg_icmp (k := k) (cnd := .gt) ht (fun x y rest tgt htg h => lv_icmp_gt hx hb hdg htg (fun hc => h true (fun a a2 ha ha2 e e2 => decide_eq_true ((xlt32 ha2 ha).mp (by rw [← e, ← e2]; exact hc)))) (fun hc => h false (fun a a2 ha ha2 e e2 => decide_eq_false (fun hh => hc (by rw [e, e2]; exact (xlt32 ha2 ha).mpr hh))))) Y hst kk
    | le => exact xsg_icmp (k := k) (cnd := .le) ht (fun x y rest tgt htg h => lv_icmp_le hx hb hdg htg (fun hc => h true (fun a a2 ha ha2 e e2 => decide_eq_true ((xle32 ha ha2).mp (by rw [← e, ← e2]; exact hc)))) (fun hc => h false (fun a a2 ha ha2 e e2 => decide_eq_false (fun hh => hc (by rw [e, e2]; exact (xle32 ha ha2).mpr hh))))) Y hst kk
  | ifnull off =>
    have hl := xlen_of (n := 3) hck2 rfl rfl rfl
    subst hl
    exact xsg_null true C (of_decide_eq_true hck) rfl hdg Y hst kk
  | ifnonnull off =>
    have hl := xlen_of (n := 3) hck2 rfl rfl rfl
    subst hl
    exact xsg_null false C (of_decide_eq_true hck) rfl hdg Y hst kk
  | if_acmp cnd off =>
    have hl := xlen_of (n := 3) hck2 rfl rfl rfl
    subst hl
    cases cnd with
    | eq => rcases S with _ | ⟨a, _ | ⟨b, S⟩⟩ <;> exact xno hst
    | ne => exact xsg_acmp C (of_decide_eq_true hck) hdg Y hst kk
  | goto off =>
    have hl := xlen_of (n := 3) hck2 rfl rfl rfl
    subst hl
    exact xsg_goto C (of_decide_eq_true hck) hdg Y hst kk
  | tableswitch d lo hi offs => exact xsg_tab C (by have hck := Bool.and_eq_true _ _ ▸ hck; exact hck) hdg Y hst kk
  | dup =>
    have hl := xlen_of (n := 1) hck2 rfl rfl rfl
    subst hl
    exact xsg_dup C hdg Y hst kk
  | dup2 =>
    have hl := xlen_of (n := 1) hck2 rfl rfl rfl
    subst hl
    exact xsg_dup2 C hdg Y hst kk
  | pop =>
    have hl := xlen_of (n := 1) hck2 rfl rfl rfl
    subst hl
    exact xsg_pop C hdg Y hst kk
  | arraylength =>
    have hl := xlen_of (n := 1) hck2 rfl rfl rfl
    subst hl
    exact xsg_alen C hdg Y hst kk
  | iaload =>
    have hl := xlen_of (n := 1) hck2 rfl rfl rfl
    subst hl
    exact xsg_ald0 C hdg Y hst kk
  | baload =>
    have hl := xlen_of (n := 1) hck2 rfl rfl rfl
    subst hl
    exact xsg_ald1 C hdg Y hst kk
  | laload =>
    have hl := xlen_of (n := 1) hck2 rfl rfl rfl
    subst hl
    exact xsg_ald2 C hdg Y hst kk
  | aaload =>
    have hl := xlen_of (n := 1) hck2 rfl rfl rfl
    subst hl
    exact xsg_aald C hdg Y hst kk
  | iastore =>
    have hl := xlen_of (n := 1) hck2 rfl rfl rfl
    subst hl
    exact xsg_ast0 C hdg Y hst kk
  | bastore =>
    have hl := xlen_of (n := 1) hck2 rfl rfl rfl
    subst hl
    exact xsg_ast1 C hdg Y hst kk
  | lastore =>
    have hl := xlen_of (n := 1) hck2 rfl rfl rfl
    subst hl
    exact xsg_ast2 C hdg Y hst kk
  | getfield ix =>
    have hl := xlen_of (n := 3) hck2 rfl rfl rfl
    subst hl
    exact xsg_get C hck hdg Y hst kk
  | putfield ix =>
    have hl := xlen_of (n := 3) hck2 rfl rfl rfl
    subst hl
    have hck : (Nat.beq (xfty x y) 3 || (xck_f k ix x y z && !((xcl x).2.1 y).2.2.2)) = true := hck
    rcases (Bool.or_eq_true _ _ ▸ hck : Nat.beq (xfty x y) 3 = true ∨ (xck_f k ix x y z && !((xcl x).2.1 y).2.2.2) = true) with h | h
    · have h3 : xfty x y = 3 := Nat.eq_of_beq_eq_true h
      exfalso
      have hst : xs_putf k x y pc L S σ = some q := hst
      unfold xs_putf at hst
      split at hst
      · rename_i v K i S' hh0
        cases hKx : Nat.beq K x && Nat.beq (xkg K) (xmg k) with
        | false => rw [hKx] at hst; exact xno hst
        | true =>
          have hKe : K = x := Nat.eq_of_beq_eq_true (Bool.and_eq_true _ _ ▸ hKx).1
          subst hKe
          rw [hKx, cond_true] at hst
          split at hst
          · omega
          · omega
          · omega
          · omega
          · exact xno hst
      · exact xno hst
    · rw [Bool.and_eq_true] at h
      exact xsg_put C h.1 (by have := h.2; rwa [Bool.not_eq_true'] at this) hdg Y hst kk
  | _ => exact xno hst
end XSIM5
