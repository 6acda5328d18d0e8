/-! the machine follows the abstract machine: loads, stores, fields, rows, branches -/
section XSIM2
variable {p : Program} {l : Launch} {e : Env} {R : Room} {s : State} {m : MethodId} {args : Array Value} {below : List Frame} {meth : Method} {c : Code} {H : Heap} {locs : List Loc} {cells slots : Nat} {ls : Array Slot} {Q : State → Prop}
variable {D : va_G} {cA : Nat → ClassId} {tyl : List Nat} {ids : List (Nat × Nat)} {ad : Nat × Nat → Nat} {A : Nat → Prop} {k pc nL i n : Nat} {L L' : xa_L} {S S' : List xa_V} {σ σ' : xa_H} {q : xa_C}
theorem xno {α : Type} {q : α} {P : Prop} (h : none = some q) : P := by cases h
theorem xsg_ldi (hrow : ∀ (x : Int32) (rest : List Value), ls[i]? = some (.val (.int x)) → W p l e R s m args below meth c H locs cells slots Q (F0 m (pc + n) ls (.int x :: rest)) → W p l e R s m args below meth c H locs cells slots Q (F0 m pc ls rest))
    (Y : xdy D cA ids ad A s H locs ls nL L S σ) (hst : xs_ld i n pc L S σ 0 = some q)
    (kk : ∀ H' locs' ls', xdy D cA ids ad A s H' locs' ls' nL q.2.1 q.2.2.1 q.2.2.2 → W p l e R s m args below meth c H' locs' cells slots Q (F0 m q.1 ls' (q.2.2.1.map (xcv ad)))) : W p l e R s m args below meth c H locs cells slots Q (F0 m pc ls (S.map (xcv ad))) := by
  unfold xs_ld at hst
  cases hg : xget L i with
  | none => rw [hg] at hst; exact xno hst
  | some v =>
    rw [hg] at hst
    rcases v with a | a | r
    · have hst : some (pc + n, L, (.inl a : xa_V) :: S, σ) = some q := hst
      cases hst
      obtain ⟨h1, h2⟩ := xdy_at Y hg
      exact hrow _ _ h1 (kk H locs ls (xdy_push Y (fun w hw => hw) h2))
    · exact xno hst
    · exact xno hst
theorem xsg_ldl (hrow : ∀ (x : Int64) (rest : List Value), ls[i]? = some (.val (.long x)) → W p l e R s m args below meth c H locs cells slots Q (F0 m (pc + n) ls (.long x :: rest)) → W p l e R s m args below meth c H locs cells slots Q (F0 m pc ls rest))
    (Y : xdy D cA ids ad A s H locs ls nL L S σ) (hst : xs_ld i n pc L S σ 1 = some q)
    (kk : ∀ H' locs' ls', xdy D cA ids ad A s H' locs' ls' nL q.2.1 q.2.2.1 q.2.2.2 → W p l e R s m args below meth c H' locs' cells slots Q (F0 m q.1 ls' (q.2.2.1.map (xcv ad)))) : W p l e R s m args below meth c H locs cells slots Q (F0 m pc ls (S.map (xcv ad))) := by
  unfold xs_ld at hst
  cases hg : xget L i with
  | none => rw [hg] at hst; exact xno hst
  | some v =>
    rw [hg] at hst
    rcases v with a | a | r
    · exact xno hst
    · have hst : some (pc + n, L, (.inr (.inl a) : xa_V) :: S, σ) = some q := hst
      cases hst
      obtain ⟨h1, h2⟩ := xdy_at Y hg
      exact hrow _ _ h1 (kk H locs ls (xdy_push Y (fun w hw => hw) h2))
    · exact xno hst
theorem xsg_lda (hrow : ∀ (x : Nat) (rest : List Value), ls[i]? = some (.val (.ref x)) → W p l e R s m args below meth c H locs cells slots Q (F0 m (pc + n) ls (.ref x :: rest)) → W p l e R s m args below meth c H locs cells slots Q (F0 m pc ls rest))
    (hrow0 : ∀ (rest : List Value), ls[i]? = some (.val .null) → W p l e R s m args below meth c H locs cells slots Q (F0 m (pc + n) ls (.null :: rest)) → W p l e R s m args below meth c H locs cells slots Q (F0 m pc ls rest))
    (Y : xdy D cA ids ad A s H locs ls nL L S σ) (hst : xs_ld i n pc L S σ 2 = some q)
    (kk : ∀ H' locs' ls', xdy D cA ids ad A s H' locs' ls' nL q.2.1 q.2.2.1 q.2.2.2 → W p l e R s m args below meth c H' locs' cells slots Q (F0 m q.1 ls' (q.2.2.1.map (xcv ad)))) : W p l e R s m args below meth c H locs cells slots Q (F0 m pc ls (S.map (xcv ad))) := by
  unfold xs_ld at hst
  cases hg : xget L i with
  | none => rw [hg] at hst; exact xno hst
  | some v =>
    rw [hg] at hst
    rcases v with a | a | r
    · exact xno hst
    · exact xno hst
    · have hst : some (pc + n, L, (.inr (.inr r) : xa_V) :: S, σ) = some q := hst
      cases hst
      obtain ⟨h1, h2⟩ := xdy_at Y hg
      rcases r with _ | r
      · exact hrow0 _ h1 (kk H locs ls (xdy_push Y (fun w hw => hw) h2))
      · exact hrow _ _ h1 (kk H locs ls (xdy_push Y (fun w hw => hw) h2))
theorem xsg_sti (hrow : ∀ (x : Int32) (rest : List Value) (lv : List (Nat × Value)), lv_has ls nL lv → i < nL → (∀ ls' : Array Slot, lv_has ls' nL ((i, .int x) :: lv.filter (fun q => !(q.1 == i) && !(q.1 + 1 == i && q.2.category == 2))) → W p l e R s m args below meth c H locs cells slots Q (F0 m (pc + n) ls' rest)) → W p l e R s m args below meth c H locs cells slots Q (F0 m pc ls (.int x :: rest)))
    (Y : xdy D cA ids ad A s H locs ls nL L S σ) (hst : xs_st i n pc L S σ 0 nL = some q)
    (kk : ∀ H' locs' ls', xdy D cA ids ad A s H' locs' ls' nL q.2.1 q.2.2.1 q.2.2.2 → W p l e R s m args below meth c H' locs' cells slots Q (F0 m q.1 ls' (q.2.2.1.map (xcv ad)))) : W p l e R s m args below meth c H locs cells slots Q (F0 m pc ls (S.map (xcv ad))) := by
  match S, Y, hst with
  | [], _, hst => exact xno hst
  | .inl v :: S', Y, hst =>
    have hst : cond (Nat.blt i nL) (some (pc + n, xset L i (.inl v), S', σ)) none = some q := hst
    cases hb : Nat.blt i nL with
    | false => rw [hb] at hst; exact xno hst
    | true =>
      rw [hb] at hst
      cases hst
      refine hrow _ _ _ Y.2.2.2.2 (Nat.blt_eq.mp hb) (fun ls' hl => kk H locs ls' (xdy_set Y ?_ (fun w hw => by simp [hw]) hl))
      exact Y.2.2.2.1 (.inl v) (by simp)
  | .inr (.inl v) :: S', Y, hst => exact xno hst
  | .inr (.inr v) :: S', Y, hst => exact xno hst
theorem xsg_stl (hrow : ∀ (x : Int64) (rest : List Value) (lv : List (Nat × Value)), lv_has ls nL lv → i + 1 < nL → (∀ ls' : Array Slot, lv_has ls' nL ((i, .long x) :: lv.filter (fun q => !(q.1 == i) && (!(q.1 == i + 1) && !(q.1 + 1 == i && q.2.category == 2)))) → W p l e R s m args below meth c H locs cells slots Q (F0 m (pc + n) ls' rest)) → W p l e R s m args below meth c H locs cells slots Q (F0 m pc ls (.long x :: rest)))
    (Y : xdy D cA ids ad A s H locs ls nL L S σ) (hst : xs_st i n pc L S σ 1 nL = some q)
    (kk : ∀ H' locs' ls', xdy D cA ids ad A s H' locs' ls' nL q.2.1 q.2.2.1 q.2.2.2 → W p l e R s m args below meth c H' locs' cells slots Q (F0 m q.1 ls' (q.2.2.1.map (xcv ad)))) : W p l e R s m args below meth c H locs cells slots Q (F0 m pc ls (S.map (xcv ad))) := by
  match S, Y, hst with
  | [], _, hst => exact xno hst
  | .inr (.inl v) :: S', Y, hst =>
    have hst : cond (Nat.blt (i + 1) nL) (some (pc + n, xsetl L i (.inr (.inl v)), S', σ)) none = some q := hst
    cases hb : Nat.blt (i + 1) nL with
    | false => rw [hb] at hst; exact xno hst
    | true =>
      rw [hb] at hst
      cases hst
      refine hrow _ _ _ Y.2.2.2.2 (Nat.blt_eq.mp hb) (fun ls' hl => kk H locs ls' (xdy_setl Y ?_ (fun w hw => by simp [hw]) hl))
      exact Y.2.2.2.1 (.inr (.inl v)) (by simp)
  | .inl v :: S', Y, hst => exact xno hst
  | .inr (.inr v) :: S', Y, hst => exact xno hst
theorem xsg_sta (hrow : ∀ (x : Nat) (rest : List Value) (lv : List (Nat × Value)), lv_has ls nL lv → i < nL → (∀ ls' : Array Slot, lv_has ls' nL ((i, .ref x) :: lv.filter (fun q => !(q.1 == i) && !(q.1 + 1 == i && q.2.category == 2))) → W p l e R s m args below meth c H locs cells slots Q (F0 m (pc + n) ls' rest)) → W p l e R s m args below meth c H locs cells slots Q (F0 m pc ls (.ref x :: rest)))
    (hrow0 : ∀ (rest : List Value) (lv : List (Nat × Value)), lv_has ls nL lv → i < nL → (∀ ls' : Array Slot, lv_has ls' nL ((i, .null) :: lv.filter (fun q => !(q.1 == i) && !(q.1 + 1 == i && q.2.category == 2))) → W p l e R s m args below meth c H locs cells slots Q (F0 m (pc + n) ls' rest)) → W p l e R s m args below meth c H locs cells slots Q (F0 m pc ls (.null :: rest)))
    (Y : xdy D cA ids ad A s H locs ls nL L S σ) (hst : xs_st i n pc L S σ 2 nL = some q)
    (kk : ∀ H' locs' ls', xdy D cA ids ad A s H' locs' ls' nL q.2.1 q.2.2.1 q.2.2.2 → W p l e R s m args below meth c H' locs' cells slots Q (F0 m q.1 ls' (q.2.2.1.map (xcv ad)))) : W p l e R s m args below meth c H locs cells slots Q (F0 m pc ls (S.map (xcv ad))) := by
  match S, Y, hst with
  | [], _, hst => exact xno hst
  | .inr (.inr v) :: S', Y, hst =>
    have hst : cond (Nat.blt i nL) (some (pc + n, xset L i (.inr (.inr v)), S', σ)) none = some q := hst
    cases hb : Nat.blt i nL with
    | false => rw [hb] at hst; exact xno hst
    | true =>
      rw [hb] at hst
      cases hst
      have hv : xok ids (.inr (.inr v)) := Y.2.2.2.1 (.inr (.inr v)) (by simp)
      rcases v with _ | v
      · exact hrow0 _ _ Y.2.2.2.2 (Nat.blt_eq.mp hb) (fun ls' hl => kk H locs ls' (xdy_set Y hv (fun w hw => by simp [hw]) hl))
      · exact hrow _ _ _ Y.2.2.2.2 (Nat.blt_eq.mp hb) (fun ls' hl => kk H locs ls' (xdy_set Y hv (fun w hw => by simp [hw]) hl))
  | .inl v :: S', Y, hst => exact xno hst
  | .inr (.inl v) :: S', Y, hst => exact xno hst
/-- a branch on one int -/
theorem xsg_if {cnd : ClassFile.Cond} {off : Int} (ht : 0 ≤ (pc : Int) + off)
    (hrow : ∀ (x : Int32) (rest : List Value) (tgt : Nat), (pc : Int) + off = (tgt : Int) → (∀ b : Bool, (∀ a : Int, xr32 a → x = Int32.ofInt a → xrel cnd a 0 = b) → W p l e R s m args below meth c H locs cells slots Q (F0 m (cond b tgt (pc + 3)) ls rest)) → W p l e R s m args below meth c H locs cells slots Q (F0 m pc ls (.int x :: rest)))
    (Y : xdy D cA ids ad A s H locs ls nL L S σ) (hst : xstp k (.ifCond cnd off, 3, 0, 0, 0) pc L S σ = some q)
    (kk : ∀ H' locs' ls', xdy D cA ids ad A s H' locs' ls' nL q.2.1 q.2.2.1 q.2.2.2 → W p l e R s m args below meth c H' locs' cells slots Q (F0 m q.1 ls' (q.2.2.1.map (xcv ad)))) : W p l e R s m args below meth c H locs cells slots Q (F0 m pc ls (S.map (xcv ad))) := by
  match S, Y, hst with
  | [], _, hst => exact xno hst
  | .inr _ :: _, _, hst => exact xno hst
  | .inl a :: S', Y, hst =>
    have hst : some (cond (xrel cnd a 0) (xtgt pc off) (pc + 3), L, S', σ) = some q := hst
    cases hst
    have ha : xr32 a := Y.2.2.2.1 (.inl a) (by simp)
    refine hrow _ _ (xtgt pc off) (by unfold xtgt; omega) (fun b hb => ?_)
    rw [← hb a ha rfl]
    exact kk H locs ls (xdy_pop Y (fun w hw => by simp [hw]))
theorem xsg_icmp {cnd : ClassFile.Cond} {off : Int} (ht : 0 ≤ (pc : Int) + off)
    (hrow : ∀ (x y : Int32) (rest : List Value) (tgt : Nat), (pc : Int) + off = (tgt : Int) → (∀ b : Bool, (∀ a a' : Int, xr32 a → xr32 a' → x = Int32.ofInt a → y = Int32.ofInt a' → xrel cnd a a' = b) → W p l e R s m args below meth c H locs cells slots Q (F0 m (cond b tgt (pc + 3)) ls rest)) → W p l e R s m args below meth c H locs cells slots Q (F0 m pc ls (.int y :: .int x :: rest)))
    (Y : xdy D cA ids ad A s H locs ls nL L S σ) (hst : xstp k (.if_icmp cnd off, 3, 0, 0, 0) pc L S σ = some q)
    (kk : ∀ H' locs' ls', xdy D cA ids ad A s H' locs' ls' nL q.2.1 q.2.2.1 q.2.2.2 → W p l e R s m args below meth c H' locs' cells slots Q (F0 m q.1 ls' (q.2.2.1.map (xcv ad)))) : W p l e R s m args below meth c H locs cells slots Q (F0 m pc ls (S.map (xcv ad))) := by
  match S, Y, hst with
  | [], _, hst => exact xno hst
  | [.inl _], _, hst => exact xno hst
  | .inr _ :: _, _, hst => exact xno hst
  | .inl _ :: .inr _ :: _, _, hst => exact xno hst
  | .inl b :: .inl a :: S', Y, hst =>
    have hst : some (cond (xrel cnd a b) (xtgt pc off) (pc + 3), L, S', σ) = some q := hst
    cases hst
    have ha : xr32 a := Y.2.2.2.1 (.inl a) (by simp)
    have hb : xr32 b := Y.2.2.2.1 (.inl b) (by simp)
    refine hrow _ _ _ (xtgt pc off) (by unfold xtgt; omega) (fun d hd => ?_)
    rw [← hd a b ha hb rfl rfl]
    exact kk H locs ls (xdy_pop Y (fun w hw => by simp [hw]))
end XSIM2
