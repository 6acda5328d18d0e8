/-! the machine follows the abstract machine: one instruction -/
def xisN : Jvm.Cond → Bool
  | .fieldLinkNest .. => true
  | .methodLinkNest .. => true
  | _ => false
noncomputable def xnw : List Jvm.Cond := lw_tbl.filter xisN
def xmvb : List Int32 := [110, 115, 119, 101, 117, 118, 120, 121, 122, 88, 89, 90]
/-- the text of the moves, and what String's own methods ask -/
def xstr (ad : Nat × Nat → Nat) (A : Nat → Prop) (U : State) (H : Heap) : Prop :=
  vk_R "SofaStair$Pad" 27 "nsweuvxyzXYZ" (ad (99, 0)) U ∧ vk_R "SofaStair$Search" 142 "nsweuvxyzXYZ" (ad (99, 1)) U ∧
  (∃ adV : Nat → Nat, vk_S 1 [12] [xmvb] (fun _ => ad (99, 0)) adV A U H) ∧ (∀ i, ad (99, i) = ad (99, 0)) ∧
  va_Z "java/lang/String" "COMPACT_STRINGS" "Z" (.int 1) A U H ∧ va_Zq "jdk/internal/util/Preconditions" "SIOOBE_FORMATTER" "Ljava/util/function/BiFunction;" A U H
theorem xlk_mem {pc : Nat} {e : xa_I} : ∀ {l : List (Nat × xa_I)}, xlk pc l = some e → (pc, e) ∈ l := by
  intro l
  induction l with
  | nil => intro h; cases h
  | cons q r ih =>
    intro h
    unfold xlk at h
    cases hq : Nat.beq q.1 pc with
    | true =>
      rw [hq] at h
      have e1 : q.2 = e := Option.some.inj h
      have e2 : q.1 = pc := Nat.eq_of_beq_eq_true hq
      rw [← e1, ← e2]
      exact List.mem_cons_self
    | false =>
      rw [hq] at h
      exact List.mem_cons_of_mem _ (ih h)
def xln : Instr → Nat
  | .iconst _ => 1
  | .bipush _ => 2
  | .sipush _ => 3
  | .lconst _ => 1
  | .ldc _ => 2
  | .ldc2_w _ => 3
  | .iload _ => 2
  | .iload_n _ => 1
  | .lload _ => 2
  | .lload_n _ => 1
  | .aload _ => 2
  | .aload_n _ => 1
  | .istore _ => 2
  | .istore_n _ => 1
  | .lstore _ => 2
  | .lstore_n _ => 1
  | .astore _ => 2
  | .astore_n _ => 1
  | .iinc _ _ => 3
  | .if_icmp _ _ => 3
  | .ifCond _ _ => 3
  | .ifnull _ => 3
  | .ifnonnull _ => 3
  | .if_acmp _ _ => 3
  | .goto _ => 3
  | .getfield _ => 3
  | .putfield _ => 3
  | .invokevirtual _ => 3
  | .invokestatic _ => 3
  | .tableswitch _ _ _ _ => 0
  | _ => 1
noncomputable def xck2 (q : Nat × xa_I) : Bool := Nat.beq (xln q.2.1) 0 || Nat.beq q.2.2.1 (xln q.2.1) || (match q.2.1 with | .new _ => true | .newarray _ => true | .anewarray _ => true | .invokespecial _ => true | _ => false)
set_option maxRecDepth 100000 in
theorem xck2_a : ∀ j, j < 137 → (xcode j).all xck2 = true := by decide +kernel
set_option maxRecDepth 100000 in
theorem xck2_b : ∀ j, j < 72 → (xcode (200 + j)).all xck2 = true := by decide +kernel
set_option maxRecDepth 100000 in
theorem xcode_no : ∀ j, j < 63 → (xcode (137 + j)).isEmpty = true := by decide +kernel
theorem xcode_out {k : Nat} (h : (137 ≤ k ∧ k < 200) ∨ 272 ≤ k) : xcode k = [] := by
  rcases h with h | h
  · have := xcode_no (k - 137) (by omega)
    rw [show 137 + (k - 137) = k by omega] at this
    exact List.isEmpty_iff.mp this
  · unfold xcode
    have h1 : Nat.ble 200 k = true := Nat.ble_eq.mpr (by omega)
    rw [h1, cond_true]
    rw [List.getD_eq_getElem?_getD, List.getElem?_eq_none (show xcl1.length ≤ k - 200 from (by have : xcl1.length = 72 := rfl; omega))]
    rfl
theorem xck_all (k : Nat) : (xcode k).all (xck k) = true ∧ (xcode k).all xck2 = true := by
  by_cases hout : (137 ≤ k ∧ k < 200) ∨ 272 ≤ k
  · rw [xcode_out hout]; exact ⟨rfl, rfl⟩
  refine ⟨?_, ?_⟩
  · by_cases h1 : k < 30
    · have := xck_0 k h1; rwa [Nat.zero_add] at this
    by_cases h2 : k < 60
    · have := xck_30 (k - 30) (by omega); rwa [show 30 + (k - 30) = k by omega] at this
    by_cases h3 : k < 90
    · have := xck_60 (k - 60) (by omega); rwa [show 60 + (k - 60) = k by omega] at this
    by_cases h4 : k < 115
    · have := xck_90 (k - 90) (by omega); rwa [show 90 + (k - 90) = k by omega] at this
    by_cases h5 : k < 137
    · have := xck_115 (k - 115) (by omega); rwa [show 115 + (k - 115) = k by omega] at this
    by_cases h6 : k < 215
    · have := xck_200 (k - 200) (by omega); rwa [show 200 + (k - 200) = k by omega] at this
    by_cases h7 : k < 230
    · have := xck_215 (k - 215) (by omega); rwa [show 215 + (k - 215) = k by omega] at this
    by_cases h8 : k < 245
    · have := xck_230 (k - 230) (by omega); rwa [show 230 + (k - 230) = k by omega] at this
    by_cases h9 : k < 260
    · have := xck_245 (k - 245) (by omega); rwa [show 245 + (k - 245) = k by omega] at this
    · have := xck_260 (k - 260) (by omega); rwa [show 260 + (k - 260) = k by omega] at this
  · by_cases h1 : k < 137
    · exact xck2_a k h1
    · have := xck2_b (k - 200) (by omega); rwa [show 200 + (k - 200) = k by omega] at this
theorem xdec {k pc : Nat} {e : xa_I} (h : xcd k pc = some e) : decode (xmB k) pc = .ok (e.1, e.2.1) ∧ xck_i k pc e = true ∧ xck2 (pc, e) = true := by
  have hm := xlk_mem h
  have h1 := List.all_eq_true.mp (xck_all k).1 _ hm
  have h2 := List.all_eq_true.mp (xck_all k).2 _ hm
  unfold xck at h1
  rw [Bool.and_eq_true, decide_eq_true_eq] at h1
  exact ⟨h1.1, h1.2, h2⟩
theorem xget_mem {i : Nat} {v : xa_V} : ∀ {L : xa_L}, xget L i = some v → (i, v) ∈ L := by
  intro L
  induction L with
  | nil => intro h; cases h
  | cons q r ih =>
    intro h
    unfold xget at h
    cases hq : Nat.beq q.1 i with
    | true =>
      rw [hq] at h
      have e1 : q.2 = v := Option.some.inj h
      have e2 : q.1 = i := Nat.eq_of_beq_eq_true hq
      rw [← e1, ← e2]
      exact List.mem_cons_self
    | false =>
      rw [hq] at h
      exact List.mem_cons_of_mem _ (ih h)
theorem xcv_cat {ad : Nat × Nat → Nat} (v : xa_V) : ((xcv ad v).category == 2) = xlong v := by
  rcases v with a | a | _ | q <;> rfl
theorem xset_map {ad : Nat × Nat → Nat} (L : xa_L) (i : Nat) (v : xa_V) : (xset L i v).map (fun q => (q.1, xcv ad q.2)) = (i, xcv ad v) :: (L.map (fun q => (q.1, xcv ad q.2))).filter (fun q => !(q.1 == i) && !(q.1 + 1 == i && q.2.category == 2)) := by
  unfold xset
  rw [List.map_cons, List.filter_map]
  congr 2
  apply List.filter_congr
  intro q _
  show _ = (!(q.1 == i) && !(q.1 + 1 == i && (xcv ad q.2).category == 2))
  rw [xcv_cat]
theorem xsetl_map {ad : Nat × Nat → Nat} (L : xa_L) (i : Nat) (v : xa_V) : (xsetl L i v).map (fun q => (q.1, xcv ad q.2)) = (i, xcv ad v) :: (L.map (fun q => (q.1, xcv ad q.2))).filter (fun q => !(q.1 == i) && (!(q.1 == i + 1) && !(q.1 + 1 == i && q.2.category == 2))) := by
  unfold xsetl
  rw [List.map_cons, List.filter_map]
  congr 2
  apply List.filter_congr
  intro q _
  show _ = (!(q.1 == i) && (!(q.1 == i + 1) && !(q.1 + 1 == i && (xcv ad q.2).category == 2)))
  rw [xcv_cat]
theorem xset_ok {ids : List (Nat × Nat)} {L : xa_L} {i : Nat} {v : xa_V} (h : ∀ q ∈ L, xok ids q.2) (hv : xok ids v) : ∀ q ∈ xset L i v, xok ids q.2 := by
  intro q hq
  rcases List.mem_cons.mp hq with rfl | hq
  · exact hv
  · exact h q (List.mem_filter.mp hq).1
theorem xsetl_ok {ids : List (Nat × Nat)} {L : xa_L} {i : Nat} {v : xa_V} (h : ∀ q ∈ L, xok ids q.2) (hv : xok ids v) : ∀ q ∈ xsetl L i v, xok ids q.2 := by
  intro q hq
  rcases List.mem_cons.mp hq with rfl | hq
  · exact hv
  · exact h q (List.mem_filter.mp hq).1
section XSIM
variable {p : Program} {l : Launch} {e : Env} {R : Room} {s : State} {m : MethodId} {args : Array Value} {below : List Frame} {meth : Method} {c : Code} {H : Heap} {locs : List Loc} {cells slots : Nat} {ls : Array Slot} {Q : State → Prop}
variable {D : va_G} {cA : Nat → ClassId} {tyl : List Nat} {ids : List (Nat × Nat)} {ad : Nat × Nat → Nat} {A : Nat → Prop} {k pc nL : Nat} {L L' : xa_L} {S S' : List xa_V} {σ σ' : xa_H} {q : xa_C}
def xcx (D : va_G) (cA : Nat → ClassId) (tyl : List Nat) (ids : List (Nat × Nat)) (ad : Nat × Nat → Nat) (A : Nat → Prop) (p : Program) (R : Room) (s : State) (m : MethodId) (args : Array Value) (meth : Method) (c : Code) (k : Nat) : Prop :=
  (p.tables.exec = Jvm.exec ∧ c.code = xmB k ∧ c.maxLocals = xmL k ∧ s.vm.findClass (xmO k) = some m.cls) ∧ (∀ w ∈ xw, w.before args s = true) ∧ (va_K D vwCl (xtys cA tyl) s ∧ (∀ w ∈ xnw, va_Nw w s) ∧ xstr ad A s s.heap) ∧ xids ids tyl ∧ (meth.sig.returnType = xmR k ∧ meth.locks = false) ∧ xmF k ≤ R.frames ∧ xmW k ≤ R.locals
def xdy (D : va_G) (cA : Nat → ClassId) (ids : List (Nat × Nat)) (ad : Nat × Nat → Nat) (A : Nat → Prop) (s : State) (H : Heap) (locs : List Loc) (ls : Array Slot) (nL : Nat) (L : xa_L) (S : List xa_V) (σ : xa_H) : Prop :=
  (va_P D vwCl (xwl cA ids ad σ) H ∧ va_D A (xwl cA ids ad σ) ∧ va_S A s.heap H locs) ∧ xhok ids σ ∧ (∀ q ∈ L, xok ids q.2) ∧ (∀ v ∈ S, xok ids v) ∧ lv_has ls nL (L.map fun q => (q.1, xcv ad q.2))
theorem xdy_st (Y : xdy D cA ids ad A s H locs ls nL L S σ) (h : ∀ v ∈ S', xok ids v) : xdy D cA ids ad A s H locs ls nL L S' σ := ⟨Y.1, Y.2.1, Y.2.2.1, h, Y.2.2.2.2⟩
theorem xdy_push {v : xa_V} (Y : xdy D cA ids ad A s H locs ls nL L S σ) (hs : ∀ w ∈ S', w ∈ S) (h : xok ids v) : xdy D cA ids ad A s H locs ls nL L (v :: S') σ := xdy_st Y (fun w hw => by
  rcases List.mem_cons.mp hw with rfl | hw
  · exact h
  · exact Y.2.2.2.1 w (hs w hw))
theorem xdy_pop (Y : xdy D cA ids ad A s H locs ls nL L S σ) (hs : ∀ w ∈ S', w ∈ S) : xdy D cA ids ad A s H locs ls nL L S' σ := xdy_st Y (fun w hw => Y.2.2.2.1 w (hs w hw))
theorem xdy_at {i : Nat} {v : xa_V} (Y : xdy D cA ids ad A s H locs ls nL L S σ) (h : xget L i = some v) : ls[i]? = some (.val (xcv ad v)) ∧ xok ids v := by
  have hm := xget_mem h
  exact ⟨Y.2.2.2.2.2.2 (i, xcv ad v) (List.mem_map.mpr ⟨(i, v), hm, rfl⟩), Y.2.2.1 _ hm⟩
theorem xdy_set {i : Nat} {v : xa_V} {ls' : Array Slot} (Y : xdy D cA ids ad A s H locs ls nL L S σ) (hv : xok ids v) (hs : ∀ w ∈ S', w ∈ S) (hl : lv_has ls' nL ((i, xcv ad v) :: (L.map (fun q => (q.1, xcv ad q.2))).filter (fun q => !(q.1 == i) && !(q.1 + 1 == i && q.2.category == 2)))) : xdy D cA ids ad A s H locs ls' nL (xset L i v) S' σ :=
  ⟨Y.1, Y.2.1, xset_ok Y.2.2.1 hv, fun w hw => Y.2.2.2.1 w (hs w hw), by rw [xset_map]; exact hl⟩
theorem xdy_setl {i : Nat} {v : xa_V} {ls' : Array Slot} (Y : xdy D cA ids ad A s H locs ls nL L S σ) (hv : xok ids v) (hs : ∀ w ∈ S', w ∈ S) (hl : lv_has ls' nL ((i, xcv ad v) :: (L.map (fun q => (q.1, xcv ad q.2))).filter (fun q => !(q.1 == i) && (!(q.1 == i + 1) && !(q.1 + 1 == i && q.2.category == 2))))) : xdy D cA ids ad A s H locs ls' nL (xsetl L i v) S' σ :=
  ⟨Y.1, Y.2.1, xsetl_ok Y.2.2.1 hv, fun w hw => Y.2.2.2.1 w (hs w hw), by rw [xsetl_map]; exact hl⟩
/-- a binary operation on ints -/
theorem xsg_b {f : Int → Int → Int} {g : Int32 → Int32 → Int32} (hf : ∀ a b, xr32 a → xr32 b → Int32.ofInt (f a b) = g (Int32.ofInt a) (Int32.ofInt b) ∧ xr32 (f a b))
    (hrow : ∀ (a b : Int32) (rest : List Value), W p l e R s m args below meth c H locs cells slots Q (F0 m (pc + 1) ls (.int (g a b) :: rest)) → W p l e R s m args below meth c H locs cells slots Q (F0 m pc ls (.int b :: .int a :: rest)))
    (Y : xdy D cA ids ad A s H locs ls nL L S σ) (hst : xs_b f pc L S σ = some q)
    (kk : ∀ H' locs' ls', xdy D cA ids ad A s H' locs' ls' nL q.2.1 q.2.2.1 q.2.2.2 → W p l e R s m args below meth c H' locs' cells slots Q (F0 m q.1 ls' (q.2.2.1.map (xcv ad)))) : W p l e R s m args below meth c H locs cells slots Q (F0 m pc ls (S.map (xcv ad))) := by
  match S, Y, hst with
  | .inl b :: .inl a :: S', Y, hst =>
    cases hst
    have ha : xr32 a := Y.2.2.2.1 (.inl a) (by simp)
    have hb : xr32 b := Y.2.2.2.1 (.inl b) (by simp)
    obtain ⟨h1, h2⟩ := hf a b ha hb
    refine hrow (Int32.ofInt a) (Int32.ofInt b) _ ?_
    rw [← h1]
    exact kk H locs ls (xdy_push Y (fun w hw => by simp [hw]) h2)
  | [], _, hst => cases hst
  | [_], _, hst => simp [xs_b] at hst
  | .inr _ :: _ :: _, _, hst => simp [xs_b] at hst
  | .inl _ :: .inr _ :: _, _, hst => simp [xs_b] at hst
theorem xsg_d {f : Int → Int → Int} {g : Int32 → Int32 → Int32} (hf : ∀ a b, xr32 a → xr32 b → 0 < b → Int32.ofInt (f a b) = g (Int32.ofInt a) (Int32.ofInt b) ∧ xr32 (f a b))
    (hrow : ∀ (a b : Int32) (rest : List Value), ¬ b = 0 → W p l e R s m args below meth c H locs cells slots Q (F0 m (pc + 1) ls (.int (g a b) :: rest)) → W p l e R s m args below meth c H locs cells slots Q (F0 m pc ls (.int b :: .int a :: rest)))
    (Y : xdy D cA ids ad A s H locs ls nL L S σ) (hst : xs_d f pc L S σ = some q)
    (kk : ∀ H' locs' ls', xdy D cA ids ad A s H' locs' ls' nL q.2.1 q.2.2.1 q.2.2.2 → W p l e R s m args below meth c H' locs' cells slots Q (F0 m q.1 ls' (q.2.2.1.map (xcv ad)))) : W p l e R s m args below meth c H locs cells slots Q (F0 m pc ls (S.map (xcv ad))) := by
  match S, Y, hst with
  | .inl b :: .inl a :: S', Y, hst =>
    have hst : (if 0 < b then some (pc + 1, L, (.inl (f a b) : xa_V) :: S', σ) else none) = some q := hst
    by_cases hpos : 0 < b
    · rw [if_pos hpos] at hst
      cases hst
      have ha : xr32 a := Y.2.2.2.1 (.inl a) (by simp)
      have hb : xr32 b := Y.2.2.2.1 (.inl b) (by simp)
      obtain ⟨h1, h2⟩ := hf a b ha hb hpos
      refine hrow (Int32.ofInt a) (Int32.ofInt b) _ (xne0 hb hpos) ?_
      rw [← h1]
      exact kk H locs ls (xdy_push Y (fun w hw => by simp [hw]) h2)
    · rw [if_neg hpos] at hst
      cases hst
  | [], _, hst => cases hst
  | [_], _, hst => simp [xs_d] at hst
  | .inr _ :: _ :: _, _, hst => simp [xs_d] at hst
  | .inl _ :: .inr _ :: _, _, hst => simp [xs_d] at hst
theorem xsg_bl {f : Int → Int → Int} {g : Int64 → Int64 → Int64} (hf : ∀ a b, xr64 a → xr64 b → Int64.ofInt (f a b) = g (Int64.ofInt a) (Int64.ofInt b) ∧ xr64 (f a b))
    (hrow : ∀ (a b : Int64) (rest : List Value), W p l e R s m args below meth c H locs cells slots Q (F0 m (pc + 1) ls (.long (g a b) :: rest)) → W p l e R s m args below meth c H locs cells slots Q (F0 m pc ls (.long b :: .long a :: rest)))
    (Y : xdy D cA ids ad A s H locs ls nL L S σ) (hst : xs_bl f pc L S σ = some q)
    (kk : ∀ H' locs' ls', xdy D cA ids ad A s H' locs' ls' nL q.2.1 q.2.2.1 q.2.2.2 → W p l e R s m args below meth c H' locs' cells slots Q (F0 m q.1 ls' (q.2.2.1.map (xcv ad)))) : W p l e R s m args below meth c H locs cells slots Q (F0 m pc ls (S.map (xcv ad))) := by
  match S, Y, hst with
  | .inr (.inl b) :: .inr (.inl a) :: S', Y, hst =>
    cases hst
    have ha : xr64 a := Y.2.2.2.1 (.inr (.inl a)) (by simp)
    have hb : xr64 b := Y.2.2.2.1 (.inr (.inl b)) (by simp)
    obtain ⟨h1, h2⟩ := hf a b ha hb
    refine hrow (Int64.ofInt a) (Int64.ofInt b) _ ?_
    rw [← h1]
    exact kk H locs ls (xdy_push Y (fun w hw => by simp [hw]) h2)
  | [], _, hst => cases hst
  | [_], _, hst => simp [xs_bl] at hst
  | .inl _ :: _ :: _, _, hst => simp [xs_bl] at hst
  | .inr (.inr _) :: _ :: _, _, hst => simp [xs_bl] at hst
  | .inr (.inl _) :: .inl _ :: _, _, hst => simp [xs_bl] at hst
  | .inr (.inl _) :: .inr (.inr _) :: _, _, hst => simp [xs_bl] at hst
/-- a constant -/
theorem xsg_c {v : xa_V} {n : Nat} (hv : xok ids v) (hrow : W p l e R s m args below meth c H locs cells slots Q (F0 m (pc + n) ls (xcv ad v :: S.map (xcv ad))) → W p l e R s m args below meth c H locs cells slots Q (F0 m pc ls (S.map (xcv ad))))
    (Y : xdy D cA ids ad A s H locs ls nL L S σ) (hst : some (pc + n, L, v :: S, σ) = some q)
    (kk : ∀ H' locs' ls', xdy D cA ids ad A s H' locs' ls' nL q.2.1 q.2.2.1 q.2.2.2 → W p l e R s m args below meth c H' locs' cells slots Q (F0 m q.1 ls' (q.2.2.1.map (xcv ad)))) : W p l e R s m args below meth c H locs cells slots Q (F0 m pc ls (S.map (xcv ad))) := by
  cases hst
  exact hrow (kk H locs ls (xdy_push Y (fun w hw => hw) hv))
end XSIM
