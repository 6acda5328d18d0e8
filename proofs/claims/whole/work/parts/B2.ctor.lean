/-! constructors: contracts, calls, ends -/
section XCU
variable {p : Program} {l : Launch} {e : Env} {R : Room} {s : State} {m : MethodId} {args : Array Value} {below : List Frame} {meth : Method} {c : Code} {H : Heap} {locs : List Loc} {cells slots : Nat} {ls : Array Slot} {Q : State → Prop}
variable {D : va_G} {cA : Nat → ClassId} {adS S0 : Nat} {os o1 o2 : List ((Nat × Nat) × List Nat)} {ids idA idR idU : List (Nat × Nat)} {ad : Nat × Nat → Nat} {A : Nat → Prop} {k pc nL N : Nat} {σ σX σF : xa_H} {rest : List Value} {key own : Nat × Nat} {dn : List Nat}
theorem xstr_narrow {ad : Nat × Nat → Nat} {A B : Nat → Prop} {U : State} {H : Heap} (h : xstr ad A U H) (hAB : ∀ q, B q → A q) : xstr ad B U H := by
  obtain ⟨h1, h2, ⟨adV, h3⟩, h4, h5, h6⟩ := h
  exact ⟨h1, h2, ⟨adV, h3.narrow hAB⟩, h4, h5.narrow hAB, h6.narrow hAB⟩
theorem xstr_at {ad : Nat × Nat → Nat} {A : Nat → Prop} {U : State} {H : Heap} (h : xstr (fun _ => adS) A U H) (h99 : ∀ j, ad (99, j) = adS) : xstr ad A U H := by
  obtain ⟨h1, h2, ⟨adV, h3⟩, h4, h5, h6⟩ := h
  exact ⟨by rw [h99]; exact h1, by rw [h99]; exact h2, ⟨adV, by rw [h99]; exact h3⟩, fun i => by rw [h99, h99], h5, h6⟩
theorem va_S_wide {A B : Nat → Prop} {H0 H : Heap} {locs : List Loc} (h : va_S A H0 H locs) (hAB : ∀ q, A q → B q) : va_S B H0 H locs := ⟨h.1, fun q h1 h2 => h.2.1 q h1 (fun hA => h2 (hAB q hA)), fun l hl => hAB _ (h.2.2 l hl)⟩
/-- what a constructor is held to: it makes the cells idU out of its own and idA -/
def xkA (cA : Nat → ClassId) (X i : Nat) (idA : List (Nat × Nat)) (ad : Nat × Nat → Nat) (σX : xa_H) (sz : Nat) : Nat → Prop := va_A (xwo cA [((X, i), [])] idA ad σX) sz
def xkQ (D : va_G) (cA : Nat → ClassId) (adS X i sz : Nat) (idA idU : List (Nat × Nat)) (ad : Nat × Nat → Nat) (σX σF : xa_H) : Array Value → State → Outcome → State → Prop :=
  va_Qv (fun ad1 : Nat × Nat → Nat => ∀ x ∈ (X, i) :: idA, ad1 x = ad x) (fun ad1 t => xcw D cA (xkA cA X i idA ad σX sz) adS [] idU ad1 σF t.heap) (xkA cA X i idA ad σX sz)
noncomputable def xkr (k mc ms : Nat) : Room := { frames := xmF k, cells := mc, slots := ms, locals := xmW k }
def xkn (l : Launch) (k X i : Nat) (idA idU : List (Nat × Nat)) (av : (Nat × Nat → Nat) → List Value) (mc ms : Nat) (σX σF : xa_H) : Prop :=
  ∀ (D : va_G) (cA : Nat → ClassId) (adS S0 sz : Nat) (ad : Nat × Nat → Nat), Met l (xmY k) (xws k) (xkr k mc ms)
    (va_Pc (.ref (ad (X, i)) :: av ad) (fun U => xenv D cA adS S0 U ∧ (S0 ≤ U.heap.size ∧ U.heap.size = sz) ∧ xcw D cA (fun q => S0 ≤ q) adS [((X, i), [])] idA ad σX U.heap))
    (xkQ D cA adS X i sz idA idU ad σX σF) mc ms (xkA cA X i idA ad σX sz)
theorem xcw_sub {X i : Nat} (h : xcw D cA A adS (os ++ [((X, i), [])]) (idA ++ idR) ad σ H) (hA : ∀ q ∈ idA, (∀ s, xfty q.1 s = 3 → xsr q.1 q.2 s ∈ idA) ∧ (xaty q.1 = 5 ∨ xaty q.1 = 6 → ∀ j, j < xalen q.1 → xar q.1 q.2 j ∈ idA)) : xcw D cA A adS [((X, i), [])] idA ad σ H := by
  obtain ⟨hP, hD, ⟨c1, c2, c3⟩, h99⟩ := h
  have hm : ∀ x, x ∈ xkeys [((X, i), [])] idA → x ∈ xkeys (os ++ [((X, i), [])]) (idA ++ idR) := by
    intro x hx
    unfold xkeys at hx ⊢
    simp only [List.map_append, List.map_cons, List.map_nil, List.mem_append, List.mem_cons, List.not_mem_nil, or_false] at hx ⊢
    rcases hx with h | h
    · exact Or.inl (Or.inr h)
    · exact Or.inr (Or.inl h)
  refine ⟨?_, ?_, ⟨fun o ho => ?_, fun q hq => ?_, fun q hq => c3 q (hm q hq)⟩, h99⟩
  · rw [xwo_iff] at hP ⊢
    exact ⟨fun o ho => hP.1 o (List.mem_append_right _ ho), fun q hq => hP.2 q (List.mem_append_left _ hq)⟩
  · rw [xwoD_iff] at hD ⊢
    refine ⟨?_, fun x hx => hD.2 x (hm x hx)⟩
    have ep : (xkeys (os ++ [((X, i), [])]) (idA ++ idR)).Perm (xkeys os idR ++ xkeys [((X, i), [])] idA) := by
      unfold xkeys
      rw [List.map_append, List.append_assoc, List.append_assoc]
      refine List.Perm.append_left _ ?_
      show ((X, i) :: (idA ++ idR)).Perm (idR ++ (X, i) :: idA)
      exact (List.Perm.cons _ List.perm_append_comm).trans List.perm_middle.symm
    have hn := (ep.map ad).nodup_iff.mp hD.1
    rw [List.map_append, List.nodup_append] at hn
    exact hn.2.1
  · have e : o = ((X, i), []) := by simpa using ho
    subst e
    exact ⟨fun _ s hs' => absurd hs' (by simp), fun _ j hj => absurd hj (by simp)⟩
  · exact ⟨fun s hs => List.mem_append_right _ ((hA q hq).1 s hs), fun h5 j hj => List.mem_append_right _ ((hA q hq).2 h5 j hj)⟩
def xcn (k x ix n : Nat) : Prop :=
  (x < 137 ∨ (200 ≤ x ∧ x < 272)) ∧ xmR x = none ∧ (xmY x).name = "<init>" ∧ (Cond.initialized (xmY x).cls ∈ xw ∧ (Cond.methodLink (xmO k) ix (xmY x) ∈ xw ∨ Cond.methodLinkNest (xmO k) ix (xmY x) "SofaStair" ∈ xnw) ∧ Cond.instanceMethod (xmY x) ∈ xw) ∧ ((xmY x).cls ≠ "java/lang/invoke/MethodHandle" ∧ (xmY x).cls ≠ "java/lang/invoke/VarHandle" ∧ (parseMethodDescriptor (xmY x).desc).map (fun d => d.parameters.length) = some n) ∧ xck_r k x = true
theorem ct_call {x X i ix mc ms : Nat} {av : (Nat × Nat → Nat) → List Value} (C : xkx D cA adS S0 A p R s m args meth c k) (hM : xkn l x X i idA idU av mc ms σX σF) (h : xcw D cA A adS (os ++ [((X, i), [])]) (idA ++ idR) ad σ H) (hS : va_S A s.heap H locs) (hn : xcn k x ix (av ad).length) (h0 : S0 ≤ s.heap.size)
    (hsz : ls.size = xmL k) (hrest : (rest.map fun v => v.category).sum ≤ 8) (hdg : decode (xmB k) pc = .ok (.invokespecial ix, 3)) (hr : cells + mc ≤ R.cells ∧ slots + ms ≤ R.slots)
    (hA : xids idA xtl5) (hσA : ∀ q ∈ idA, σX q.1 q.2 = σ q.1 q.2) (h4 : ∀ s', xfty X s' = 4 → σX X i s' < 0) (hs : ∀ q ∈ idU, σ q.1 q.2 = σF q.1 q.2) (hsub : ∀ q ∈ (X, i) :: idA, q ∈ idU) (hdis : ∀ q ∈ idU, q ∉ xkeys os idR)
    (kk : ∀ ad2 H1 locs1, (∀ q ∈ xkeys (os ++ [((X, i), [])]) (idA ++ idR), ad2 q = ad q) → xcw D cA A adS os (idR ++ idU) ad2 σ H1 → va_S A s.heap H1 locs1 → W p l e R s m args below meth c H1 locs1 (cells + mc) (slots + ms) Q (F0 m (pc + 3) ls rest)) :
    W p l e R s m args below meth c H locs cells slots Q (F0 m pc ls ((av ad).reverse ++ .ref (ad (X, i)) :: rest)) := by
  obtain ⟨⟨hx, hb, hml, hown⟩, hts, ⟨hen, hO1, hO2⟩, ⟨-, hAn, hAS⟩, -, hF, hW⟩ := C
  obtain ⟨n1, n2, n3, ⟨n4, n5, n6⟩, n7, n8⟩ := hn
  obtain ⟨r1, r2⟩ := xck_r_of n8
  have hAc : ∀ q ∈ idA, (∀ s, xfty q.1 s = 3 → xsr q.1 q.2 s ∈ idA) ∧ (xaty q.1 = 5 ∨ xaty q.1 = 6 → ∀ j, j < xalen q.1 → xar q.1 q.2 j ∈ idA) := fun q hq => ⟨hA.2.2.1 q hq, fun h5 j hj => hA.2.2.2 q hq j h5 hj⟩
  have hsb := xcw_sub h hAc
  have hkey : ∀ q ∈ idA, q ∈ xkeys [((X, i), [])] idA := fun q hq => List.mem_append_right _ hq
  have hsb2 : xcw D cA A adS [((X, i), [])] idA ad σX H := by
    refine xcw_ad hsb (fun _ _ => rfl) ⟨fun o ho => ?_, hσA⟩ (fun q hq s' hs' => ?_) hsb.2.2.2
    · have e : o = ((X, i), []) := by simpa using ho
      rw [e]
      exact Or.inl rfl
    · rcases List.mem_append.mp hq with hq | hq
      · have e : q = (X, i) := by simpa using hq
        subst e
        exact h4 s' hs'
      · rw [hσA q hq]
        exact (hsb.2.2.1.2.2 q (hkey q hq)).2 s' hs'
  have hG : GoodIn xw (xws x) := by
    intro w hw
    rcases List.mem_cons.mp hw with rfl | hw
    · exact xw_good _ (xcv_all n1)
    · exact xw_good _ hw
  have hFA : ∀ q, xkA cA X i idA ad σX H.size q → A q := by
    intro q hq
    rcases hq with ⟨n, e, hn⟩ | hq
    · exact hsb2.2.1.2 n _ hn
    · exact hAn q (Nat.le_trans hS.1 hq)
  have hp : PreS s H (va_Pc (.ref (ad (X, i)) :: av ad) (fun U => xenv D cA adS S0 U ∧ (S0 ≤ U.heap.size ∧ U.heap.size = H.size) ∧ xcw D cA (fun q => S0 ≤ q) adS [((X, i), [])] idA ad σX U.heap)) (.ref (ad (X, i)) :: av ad) := by
    refine ⟨fun a U g mk q => ?_, fun U hU hWm => ?_⟩
    · obtain ⟨q0, ⟨q1, q2, q3⟩, q4, q5⟩ := q
      exact ⟨q0, ⟨xen_same (u := U) (U := U.calling g mk a) rfl rfl q1, va_AO.moved (u := U) (U := U.calling g mk a) (Vm.Alike.refl U.vm) q2, va_AO.moved (u := U) (U := U.calling g mk a) (Vm.Alike.refl U.vm) q3⟩, q4, q5⟩
    · refine ⟨rfl, ⟨xen_warm hWm hU (va_S_wide hS hAS) hen, va_AO.moved hWm.alike hO1, va_AO.moved hWm.alike hO2⟩, ⟨by rw [hU]; exact Nat.le_trans h0 hS.1, by rw [hU]⟩, ?_⟩
      rw [hU]
      obtain ⟨a1, a2, a3, a4⟩ := hsb2
      exact ⟨a1, a2.weaken (fun n q hq hAq => hAS _ (a2.2 n q hq)), a3, a4⟩
  have fin : ∀ (ad1 : Nat × Nat → Nat) (t : State) (H1 : Heap) (locs1 : List Loc), t.heap = H1 → s.vm.Alike t.vm → (∀ q ∈ (X, i) :: idA, ad1 q = ad q) → xcw D cA (xkA cA X i idA ad σX H.size) adS [] idU ad1 σF t.heap → H.size ≤ H1.size → (∀ q : Nat, q < H.size → ¬ xkA cA X i idA ad σX H.size q → H1[q]? = H[q]?) → va_S A s.heap H1 locs1 → W p l e R s m args below meth c H1 locs1 (cells + mc) (slots + ms) Q (F0 m (pc + 3) ls rest) := by
    intro ad1 t H1 locs1 ht hvm hpost hB hz hk hS1
    rw [ht] at hB
    obtain ⟨ad2, e1, e2, hw⟩ := xcw_join (wc := xwo cA [((X, i), [])] idA ad σX) h xwo_addr hB hk hFA hs hpost hsub hdis
    exact kk ad2 H1 locs1 e1 hw hS1
  rcases n5 with n5 | n5
  · exact va_callv (va_runI (As := av ad) (rest := rest) ⟨hx, hb, hml, hown, hts⟩ (hM D cA adS S0 H.size ad) (cwI (av ad).length hts hG (by show xws x = _; unfold xws; rw [n2]) rfl rfl (hts _ n4) (hts _ n5) (hts _ n6) n3 n7 ⟨Nat.le_trans r1 hF, Nat.le_trans r2 hW⟩)
      hp rfl rfl hsz rfl (lv_room hrest) hdg hr) hS (fun q _ hq => hFA q hq) hFA fin
  · exact va_callv (va_runIN (host := "SofaStair") (As := av ad) (rest := rest) ⟨hx, hb, hml, hown, hts⟩ (hM D cA adS S0 H.size ad) ⟨va_cnB (av ad).length hts hG (by show xws x = _; unfold xws; rw [n2]) rfl rfl (hen.2.1 _ n5) (hts _ n4) n7 ⟨Nat.le_trans r1 hF, Nat.le_trans r2 hW⟩, n3, hts _ n6⟩
      hp rfl rfl hsz rfl (lv_room hrest) hdg hr) hS (fun q _ hq => hFA q hq) hFA fin
/-- the body of a constructor -/
theorem ct_met {x X i mc ms : Nat} {av : (Nat × Nat → Nat) → List Value} (hx : (x < 137 ∨ (200 ≤ x ∧ x < 272)) ∧ plainName (xmY x).cls = true ∧ xmO x = (xmY x).cls ∧ (xmY x).name = "<init>") (hav : ∀ ad, (lg_sl (.ref (ad (X, i)) :: av ad)).length ≤ xmL x)
    (body : ∀ (D : va_G) (cA : Nat → ClassId) (adS S0 : Nat) (ad : Nat × Nat → Nat) (p : Program) (e : Env) (R : Room) (s : State) (m : MethodId) (args : Array Value) (below : List Frame) (meth : Method) (c : Code) (ls : Array Slot), xkx D cA adS S0 (xkA cA X i idA ad σX s.heap.size) p R s m args meth c x → R.cells = mc ∧ R.slots = ms → S0 ≤ s.heap.size →
      xcw D cA (xkA cA X i idA ad σX s.heap.size) adS [((X, i), [])] idA ad σX s.heap → lv_has ls (xmL x) (lv_args 0 (.ref (ad (X, i)) :: av ad)) →
      W p l e R s m args below meth c s.heap [] 0 0 (MQ below (xkQ D cA adS X i s.heap.size idA idU ad σX σF) args s mc ms (xkA cA X i idA ad σX s.heap.size)) (F0 m 0 ls [])) : xkn l x X i idA idU av mc ms σX σF := by
  intro D cA adS S0 sz ad
  refine Met.ofW (cc := xmB x) (maxL := xmL x) (ret := xmR x) hx.2.1 rfl ?_
  intro p e s m args below meth c s₁ B hml hv
  obtain ⟨rfl, ⟨hen, hO1, hO2⟩, ⟨h0, hsz⟩, hw⟩ := hv
  subst hsz
  have hts : ∀ w ∈ xw, w.before ((.ref (ad (X, i)) :: av ad).toArray) s = true := fun w hw => atoms_spec (ws := xws x) B.pre w (List.mem_cons_of_mem _ hw)
  have hown : s.vm.findClass (xmO x) = some m.cls := by rw [hx.2.2.1]; exact findClass_of_methodNamed B.named
  have hin : meth.name = "<init>" := by rw [(name_of_methodNamed B.named B.method).1]; exact hx.2.2.2
  rw [lg_entry_eq]
  have hl := lv_entry (.ref (ad (X, i)) :: av ad) (n := xmL x) (hav ad)
  obtain ⟨a1, a2, a3, a4⟩ := hw
  refine body D cA adS S0 ad p e _ s m _ below meth c _ ⟨⟨B.exec, B.bytes, hml, hown⟩, hts, ⟨hen, hO1, hO2⟩, ⟨hin, fun q hq => Or.inr hq, fun q hq => ?_⟩, ⟨B.returns, B.notSynchronized⟩, Nat.le_refl _, Nat.le_refl _⟩ ⟨rfl, rfl⟩ h0 ⟨a1, ?_, a3, a4⟩ hl
  · rcases hq with ⟨n, e, hn⟩ | hq
    · exact a2.2 n _ hn
    · exact Nat.le_trans h0 hq
  · refine a2.weaken (fun n q hq hAq => Or.inl ⟨n, q.2, hq⟩)
/-- a constructor that ends -/
theorem ct_end {X i mc ms : Nat} {ad0 : Nat × Nat → Nat} (C : xkx D cA adS S0 (xkA cA X i idA ad0 σX s.heap.size) p R s m args meth c k) (hr : xmR k = none) (h : xcw D cA (xkA cA X i idA ad0 σX s.heap.size) adS [] idU ad σ H) (hS : va_S (xkA cA X i idA ad0 σX s.heap.size) s.heap H locs) (ha : ∀ q ∈ (X, i) :: idA, ad q = ad0 q) (hσ : ∀ q ∈ idU, σF q.1 q.2 = σ q.1 q.2)
    (hdg : decode (xmB k) pc = .ok (.return_, 1)) : W p l e R s m args below meth c H locs mc ms (MQ below (xkQ D cA adS X i s.heap.size idA idU ad0 σX σF) args s mc ms (xkA cA X i idA ad0 σX s.heap.size)) (F0 m pc ls []) := by
  obtain ⟨⟨hx, hb, -, -⟩, -, -, -, ⟨hrt, hlk⟩, -, -⟩ := C
  have hk : ∀ q ∈ xkeys [] idU, q ∈ idU := fun q hq => hq
  refine W.vret (hlocks := hlk) hx hb (by rw [hrt]; exact hr) (fun t ht _ => ⟨⟨ad, rfl, ha, ?_⟩, hS.F ht⟩) hS.2.2 hdg
  show xcw D cA _ adS [] idU ad σF t.heap
  rw [ht]
  exact xcw_ad h (fun _ _ => rfl) ⟨fun o ho => (by cases ho), hσ⟩ (fun q hq s' hs' => by rw [hσ q (hk q hq)]; exact (h.2.2.1.2.2 q hq).2 s' hs') h.2.2.2
noncomputable def xsz (K : Nat) : Nat := if xaty K = 9 then (xcl K).2.2 else xalen K
/-- only what lies within the cells counts -/
theorem xat_in {q : Nat × Nat} {σ2 : xa_H} (h : va_at D vwCl (xit cA ad σ q) H) (e : ∀ s, s < xsz q.1 → ¬ xfty q.1 s = 3 → σ2 q.1 q.2 s = σ q.1 q.2 s) : va_at D vwCl (xit cA ad σ2 q) H := by
  unfold xsz at e
  unfold xit at h ⊢
  by_cases h9 : xaty q.1 = 9
  · rw [if_pos h9] at e
    rw [xent_obj h9] at h ⊢
    have e1 : (List.range (xcl q.1).2.2).map (xfv ad q (σ2 q.1 q.2)) = (List.range (xcl q.1).2.2).map (xfv ad q (σ q.1 q.2)) := by
      apply List.map_congr_left
      intro s hs
      unfold xfv
      by_cases h3 : xfty q.1 s = 3
      · rw [if_pos h3, if_pos h3]
      · rw [e s (List.mem_range.mp hs) h3]
    rw [e1]
    exact h
  · rw [if_neg h9] at e
    have hn3 : ∀ s, ¬ xfty q.1 s = 3 := by
      intro s h3
      by_cases hK : q.1 < 10
      · exact h9 (xaty_obj _ hK)
      · exact xno3 q.1 s (Or.inl (by omega)) h3
    by_cases h56 : xaty q.1 = 5 ∨ xaty q.1 = 6
    · rw [xent_ref h56] at h ⊢
      exact h
    · unfold xent at h ⊢
      rw [if_neg h9] at h ⊢
      rw [if_neg h56] at h ⊢
      by_cases h2 : xaty q.1 = 2
      · rw [if_pos h2] at h ⊢
        have h : H[ad q]? = some (vp_cell (cA (xaty q.1)) (xalen q.1, .inr (.inl (fun j => Int64.ofInt (σ q.1 q.2 j))))) := h
        show H[ad q]? = some (vp_cell (cA (xaty q.1)) (xalen q.1, .inr (.inl (fun j => Int64.ofInt (σ2 q.1 q.2 j)))))
        rw [h, vp_cell_l, vp_cell_l]
        unfold arrV
        have e1 : (fun j : Fin (xalen q.1) => Value.long (Int64.ofInt (σ q.1 q.2 j.val))) = (fun j : Fin (xalen q.1) => Value.long (Int64.ofInt (σ2 q.1 q.2 j.val))) := by
          funext j
          rw [e j.val j.isLt (hn3 _)]
        rw [e1]
      · rw [if_neg h2] at h ⊢
        have h : H[ad q]? = some (vp_cell (cA (xaty q.1)) (xalen q.1, .inl (fun j => Int32.ofInt (σ q.1 q.2 j)))) := h
        show H[ad q]? = some (vp_cell (cA (xaty q.1)) (xalen q.1, .inl (fun j => Int32.ofInt (σ2 q.1 q.2 j))))
        rw [h, vp_cell_i, vp_cell_i]
        unfold arrV
        have e1 : (fun j : Fin (xalen q.1) => Value.int (Int32.ofInt (σ q.1 q.2 j.val))) = (fun j : Fin (xalen q.1) => Value.int (Int32.ofInt (σ2 q.1 q.2 j.val))) := by
          funext j
          rw [e j.val j.isLt (hn3 _)]
        rw [e1]
/-- a constructor that goes on without making cells -/
theorem ct_tail {X i mc ms : Nat} {ad0 : Nat × Nat → Nat} {σT : xa_H} (C : xkx D cA adS S0 (xkA cA X i idA ad0 σX s.heap.size) p R s m args meth c k) (h : xcw D cA (xkA cA X i idA ad0 σX s.heap.size) adS [] idU ad σ H) (hS : va_S (xkA cA X i idA ad0 σX s.heap.size) s.heap H locs) (ha : ∀ q ∈ (X, i) :: idA, ad q = ad0 q) (hI : xids idU xtl5) (hh : xhok idU σ) (hm : (X, i) ∈ idU)
    (hl : lv_has ls (xmL k) [(0, .ref (ad (X, i)))]) (hJ : J k pc [(0, xr X i)] [] σ jqV (some σT)) (hσ : ∀ q ∈ idU, ∀ s, s < xsz q.1 → ¬ xfty q.1 s = 3 → σF q.1 q.2 s = σT q.1 q.2 s) (h4 : ∀ q ∈ idU, ∀ s', xfty q.1 s' = 4 → σF q.1 q.2 s' < 0) (hr : mc ≤ R.cells ∧ ms ≤ R.slots) :
    W p l e R s m args below meth c H locs mc ms (MQ below (xkQ D cA adS X i s.heap.size idA idU ad0 σX σF) args s mc ms (xkA cA X i idA ad0 σX s.heap.size)) (F0 m pc ls []) := by
  obtain ⟨⟨hx, hb, hml, hown⟩, hts, ⟨⟨hK, hN, hst⟩, -⟩, ⟨-, hAn, hAS⟩, hret, hF, hW⟩ := C
  obtain ⟨hP, hD, hc, h99⟩ := h
  obtain ⟨n, r, σ', hrun, rfl, rfl⟩ := hJ _ rfl
  have hC : xcx D cA xtl5 idU ad (xkA cA X i idA ad0 σX s.heap.size) p R s m args meth c k := ⟨⟨hx, hb, hml, hown⟩, hts, ⟨hK, hN, xstr_at (xstr_narrow hst hAS) h99⟩, hI, hret, hF, hW⟩
  have hY : xdy D cA idU ad (xkA cA X i idA ad0 σX s.heap.size) s H locs ls (xmL k) [(0, xr X i)] [] σ := ⟨⟨hP, hD, hS⟩, hh, (fun q hq => by
    have e : q = (0, xr X i) := by simpa using hq
    subst e
    exact Or.inl hm), (fun v hv => by cases hv), hl⟩
  have hsim := xsim_all (D := D) (cA := cA) (ad := ad) (A := xkA cA X i idA ad0 σX s.heap.size) l hI n k pc [(0, xr X i)] [] σ none σ' hrun p e R s m args below meth c H locs ls mc ms hr hC hY
  intro T hT X'
  obtain ⟨t, st, o, t1, t2, ⟨q1, q2, q3, -, -⟩, t4⟩ := hsim T hT X'
  have hw : xcw D cA (xkA cA X i idA ad0 σX s.heap.size) adS [] idU ad σF t.heap := by
    refine ⟨?_, ?_, ⟨fun o ho => (by cases ho), hc.2.1, fun q hq => ⟨(hc.2.2 q hq).1, h4 q hq⟩⟩, h99⟩
    · rw [xwo_iff]
      refine ⟨fun o ho => (by cases ho), fun q hq => ?_⟩
      exact xat_in (vP_iff.mp q2 _ (List.mem_map.mpr ⟨q, hq, rfl⟩)) (hσ q hq)
    · exact xwoD_iff.mpr (xwoD_iff.mp hD)
  exact ⟨t, st, o, t1, t2, ⟨⟨ad, q1, ha, hw⟩, q3⟩, t4⟩
end XCU
