/-! THE CLAIM OUT OF ONE WALK OF THE LAW'S BODY. Your part is whole_start (and what it stands on); all else here is the same for every law, but numbers. -/
def R_law : String := "SofaStairLaw"
def lw_P (b : Addr) (xs : List Int32) (args : Array Value) (s : State) : Prop := args = #[.ref b] ∧ s.IntsAt b xs ∧ xs.length ≤ 320 ∧ (Jvm.Cond.and given_1 narrow_1).before args s = true
def lw_Q (_ : Array Value) (s : State) (o : Outcome) (t : State) : Prop := o = .returned (some (.int 1)) ∧ Framed s o t [] 600000 7302250
def lw_Z (below : List Frame) (a : Array Value) (s : State) : State → Prop := fun t => ∃ o, t.status = .running ∧ Ended t below o ∧ lw_Q a s o t
/-- the law's own end, with 1 on the stack, nothing written that was there before, its room as the claim has it -/
theorem lw_ret {p : Program} {l : Launch} {e : Env} {s : State} {m : MethodId} {below : List Frame} {meth : Method} {c : Code} {b : Nat} (hx : p.tables.exec = Jvm.exec) (hb : c.code = code) (hr : meth.sig.returnType = ret) (hlocks : meth.locks = false) {pc : Nat} {H : Heap} {ls : Array Slot} (hdg : decode code pc = .ok (.ireturn, 1)) : W p l e room_1 s m #[Value.ref b] below meth c H [] 600000 7302250 (lw_Z below #[Value.ref b] s) (F0 m pc ls [.int 1]) := by
  intro T hT X
  obtain ⟨fs, hret, hrun, hended, hW, hframe⟩ := X.leave (v := some (.int 1)) (hlocks := hlocks) (fun h => by rw [hr] at h; cases h)
  have hmeth' : T.vm.method? m = some meth := X.method'
  refine ⟨T.setFrames fs, ?_, .returned (some (.int 1)), hrun, hended, rfl, ⟨_, rfl⟩, hW, hframe⟩
  jvm_step X.here [X.here.top, hx, hb, hdg, hmeth', hr, ret, narrow_b1]
  (try refine ⟨rfl, ?_⟩); (try refine ⟨rfl, ?_⟩)
  first | (intro acts; rw [hret _ acts rfl rfl rfl]) | rw [hret _ _ rfl rfl rfl]
  exact Steps.refl _
/-- what holds at the law's entry: the machine, the code, the tables' words (any of lw_tbl by 'hts w (by decide +kernel)'), the script of L ints xs at the cell b, what the Statement gives of the start (any of its parts by flat_of_before) -/
def lw_At (p : Program) (s : State) (m : MethodId) (meth : Method) (c : Code) (b L : Nat) (xs : Nat → Int32) : Prop :=
  p.tables.exec = Jvm.exec ∧ c.code = code ∧ meth.sig.returnType = ret ∧ c.maxLocals = 4 ∧ s.vm.findClass R_law = some m.cls ∧ (∀ w ∈ lw_tbl, w.before #[Value.ref b] s = true) ∧ va_X b L xs s s.heap ∧ b < s.heap.size ∧ meth.locks = false ∧ (Jvm.Cond.and given_1 narrow_1).before #[Value.ref b] s = true
theorem xins : ∀ K, K < 10 → Cond.instantiable (xcl K).1 (xcl K).2.2 ∈ xw := by decide +kernel
def zgv : List Jvm.Cond := flatC (Jvm.Cond.and given_1 narrow_1)
theorem z_el : ∀ j, j < 12 → Cond.eq (.elem (.field (.string "SofaStair$Pad" 27) "java/lang/String" "value" "[B") (.int (Int32.ofNat j))) (.int (xmvb.getD j 0)) ∈ zgv := by decide +kernel
theorem z_env {s : State} {b : Nat} (hts : ∀ w ∈ lw_tbl, w.before #[Value.ref b] s = true) (hg : (Jvm.Cond.and given_1 narrow_1).before #[Value.ref b] s = true) : ∃ (D : va_G) (cA : Nat → ClassId) (adS : Nat), xenv D cA adS s.heap.size s := by
  have htx : ∀ w ∈ xw, w.before #[Value.ref b] s = true := fun w hw => hts w (List.mem_filter.mp hw).1
  have hs : ∀ w ∈ zgv, w.before #[Value.ref b] s = true := flat_of_before _ hg
  have hcl : ∀ K, ∃ q : ClassId × (Nat → Nat), K < 10 → u_Kn s (xcl K).1 (xcl K).2.1 (xcl K).2.2 q.1 q.2 := by
    intro K
    by_cases hK : K < 10
    · obtain ⟨a, b', h⟩ := u_known htx (xu_mem hK) (htx _ (xins K hK))
      exact ⟨(a, b'), fun _ => h⟩
    · obtain ⟨a, b', h⟩ := u_known htx (xu_mem (show 0 < 10 by decide)) (htx _ (xins 0 (by decide)))
      exact ⟨(a, b'), fun h => absurd h hK⟩
  obtain ⟨g, hgK⟩ := Classical.axiomOfChoice hcl
  have hpr : ∀ ty : FieldType, Cond.arrayClass ty ∈ xw → (∀ C, ty ≠ .object C) → ∃ cc : ClassId, ArrOfT s cc ty ∧ va_RA s cc ty := by
    intro ty hm hne
    obtain ⟨cc, k, comp, h1, h2, h3⟩ := Cond.arrayClass_spec (htx _ hm)
    refine ⟨cc, fun N z => ⟨(fun k h => by cases h), k, h2, comp, h3⟩, ?_⟩
    cases ty with
    | object C => exact absurd rfl (hne C)
    | _ => exact h1
  have hob : ∀ C : String, Cond.arrayOver (.object C) ∈ lw_tbl → ∃ cc : ClassId, ArrOfT s cc (.object C) ∧ va_RA s cc (.object C) := by
    intro C hm
    obtain ⟨comp, cc, k, h1, h2, h3, h4, h5⟩ := Cond.arrayOver_spec (hts _ hm)
    exact ⟨cc, fun N z => ⟨(fun k h => by cases h), k, h3, comp, h4⟩, k, comp, h3, h4, h1, h5⟩
  have o5 : Cond.arrayOver (.object "SofaStair$Thing") ∈ lw_tbl := by decide +kernel
  have o6 : Cond.arrayOver (.object "SofaStair$Stair") ∈ lw_tbl := by decide +kernel
  have har : ∀ t, ∃ cc : ClassId, t ∈ xtl5 → ArrOfT s cc (xtyp t) ∧ va_RA s cc (xtyp t) := by
    intro t
    by_cases h0 : t = 0
    · obtain ⟨cc, h⟩ := hpr .int (by decide +kernel) (fun C h => by cases h)
      exact ⟨cc, fun _ => by rw [h0]; exact h⟩
    by_cases h1 : t = 1
    · obtain ⟨cc, h⟩ := hpr .boolean (by decide +kernel) (fun C h => by cases h)
      exact ⟨cc, fun _ => by rw [h1]; exact h⟩
    by_cases h2 : t = 2
    · obtain ⟨cc, h⟩ := hpr .long (by decide +kernel) (fun C h => by cases h)
      exact ⟨cc, fun _ => by rw [h2]; exact h⟩
    by_cases h5 : t = 5
    · obtain ⟨cc, h⟩ := hob "SofaStair$Thing" o5
      exact ⟨cc, fun _ => by rw [h5]; exact h⟩
    · obtain ⟨cc, h⟩ := hob "SofaStair$Stair" o6
      refine ⟨cc, fun ht => ?_⟩
      have : t = 6 := by
        simp only [xtl5, List.mem_cons, List.not_mem_nil, or_false] at ht
        omega
      rw [this]
      exact h
  obtain ⟨cA, hcA⟩ := Classical.axiomOfChoice har
  have hA : ∀ a : Nat, a < s.heap.size → ¬ (fun q => s.heap.size ≤ q) a := fun a h => Nat.not_le.mpr h
  obtain ⟨adK, adV, hS, hev⟩ := vk_Sof (args := #[Value.ref b]) (s := s) (N := 1) (tm := fun _ => .string "SofaStair$Pad" 27) (len := [12]) (byt := [xmvb]) (A := fun q => s.heap.size ≤ q) (fun i hi => by rw [show i = 0 by omega]; decide) (fun i _ => hs _ (by decide +kernel)) (fun i _ => hs _ (by decide +kernel)) (fun i _ => hs _ (by decide +kernel))
    (fun i hi => by rw [show i = 0 by omega]; exact hs _ (by decide +kernel)) (fun i hi j hj => by
      have e : i = 0 := by omega
      subst e
      exact hs _ (z_el j hj)) (fun i j hi hj hij => absurd (by omega) hij) hA
  have hev0 := hev 0 (by decide)
  have he := hs (Cond.eq (.string "SofaStair$Pad" 27) (.string "SofaStair$Search" 142)) (by decide +kernel)
  have hev1 : (Term.string "SofaStair$Search" 142).eval #[Value.ref b] s none [] s = some (.ref (adK 0)) := by
    have hev0 : (Term.string "SofaStair$Pad" 27).eval #[Value.ref b] s none [] s = some (.ref (adK 0)) := hev0
    cases h2 : (Term.string "SofaStair$Search" 142).eval #[Value.ref b] s none [] s with
    | none => simp [Cond.before, Cond.holds, Cond.value, hev0, h2] at he
    | some v =>
      simp [Cond.before, Cond.holds, Cond.value, hev0, h2] at he
      cases v with
      | ref y =>
        have he : adK 0 = y := by simpa using he
        rw [he]
      | _ => simp at he
  refine ⟨(fun K => (g K).1, fun K => (g K).2), cA, adK 0, ⟨⟨fun k q hq => ?_, fun k q hq => ?_⟩, fun w hw => va_Nw.of (xnw_tab w hw) (hts w (List.mem_filter.mp hw).1), ?_⟩, va_AO.of (hts _ o5), va_AO.of (hts _ o6)⟩
  · have hk : k < 10 := (List.getElem?_eq_some_iff.mp hq).1
    have e : xcl k = q := by
      have := xcl_at k hk
      rw [hq] at this
      exact (Option.some.inj this).symm
    rw [← e]
    exact hgK k hk
  · unfold xtys at hq
    rw [List.getElem?_map] at hq
    cases hx : xtl5[k]? with
    | none => rw [hx] at hq; cases hq
    | some t =>
      rw [hx] at hq
      cases hq
      exact hcA t (List.mem_of_getElem? hx)
  · refine ⟨vk_R.of (hts _ (by decide +kernel)) hev0, vk_R.of (hts _ (by decide +kernel)) hev1, ⟨adV, ⟨fun i hi => ?_, fun i j hi hj _ => by omega⟩⟩, fun _ => rfl, va_Zof (hts _ (by decide +kernel)) (htx _ (by decide +kernel)) ?_ hA, va_Zqof (hts _ (by decide +kernel)) (htx _ (by decide +kernel)) (hs _ (by decide +kernel)) hA⟩
    · have e : i = 0 := by omega
      subst e
      exact hS.1 0 (by decide)
    · have hc := hs (Cond.eq (.static "java/lang/String" "COMPACT_STRINGS" "Z") (.int 1)) (by decide +kernel)
      cases h2 : (Term.static "java/lang/String" "COMPACT_STRINGS" "Z").eval #[Value.ref b] s none [] s with
      | none => simp [Cond.before, Cond.holds, Cond.value, h2] at hc
      | some v =>
        have h3 : (Term.int 1).eval #[Value.ref b] s none [] s = some (.int 1) := rfl
        simp [Cond.before, Cond.holds, Cond.value, h2, h3] at hc
        cases v with
        | int y =>
          have hc : y = 1 := by simpa using hc
          rw [hc]
        | _ => simp at hc
section ZL
variable {p : Program} {l : Launch} {e : Env} {s : State} {m : MethodId} {args : Array Value} {below : List Frame} {meth : Method} {c : Code} {H : Heap} {locs : List Loc} {cells slots : Nat} {ls : Array Slot} {Q : State → Prop}
variable {D : va_G} {cA : Nat → ClassId} {adS S0 : Nat} {os o1 o2 : List ((Nat × Nat) × List Nat)} {ids idA idR idU : List (Nat × Nat)} {ad : Nat × Nat → Nat} {A : Nat → Prop} {pc nL N : Nat} {σ σX σF : xa_H} {rest : List Value} {key own : Nat × Nat} {dn : List Nat}
def zkx (D : va_G) (cA : Nat → ClassId) (adS S0 : Nat) (A : Nat → Prop) (p : Program) (s : State) (m : MethodId) (args : Array Value) (c : Code) : Prop :=
  (p.tables.exec = Jvm.exec ∧ c.code = code ∧ c.maxLocals = 4 ∧ s.vm.findClass R_law = some m.cls) ∧ (∀ w ∈ xw, w.before args s = true) ∧ xenv D cA adS S0 s ∧ (∀ q : Nat, s.heap.size ≤ q → A q) ∧ ∀ q : Nat, A q → S0 ≤ q
def zcn (x ix n : Nat) : Prop :=
  (x < 137 ∨ (200 ≤ x ∧ x < 272)) ∧ xmR x = none ∧ (xmY x).name = "<init>" ∧ (Cond.initialized (xmY x).cls ∈ xw ∧ (Cond.methodLink R_law ix (xmY x) ∈ xw ∨ Cond.methodLinkNest R_law ix (xmY x) "SofaStair" ∈ xnw) ∧ Cond.instanceMethod (xmY x) ∈ xw) ∧ ((xmY x).cls ≠ "java/lang/invoke/MethodHandle" ∧ (xmY x).cls ≠ "java/lang/invoke/VarHandle" ∧ (parseMethodDescriptor (xmY x).desc).map (fun d => d.parameters.length) = some n) ∧ (xmF x + 1 ≤ room_1.frames ∧ 8 + (xmL x + 11) + xmW x ≤ room_1.locals)
theorem lt_new (C : zkx D cA adS S0 A p s m args c) (h : xcw D cA A adS os ids ad σ H) (hS : va_S A s.heap H locs) {X i ix : Nat} (hX : X < 10) (hcl : Cond.classLink (R_law) ix (xcl X).1 ∈ xw) (hin : Cond.instantiable (xcl X).1 (xcl X).2.2 ∈ xw ∧ Cond.initialized (xcl X).1 ∈ xw) (hk : (X, i) ∉ xkeys os ids) (h4 : ∀ s', xfty X s' = 4 → σ X i s' < 0)
    (hdg : decode (code) pc = .ok (.new ix, 3)) (hr : cells + 1 ≤ room_1.cells ∧ slots + (xcl X).2.2 ≤ room_1.slots)
    (kk : ∀ ad2 H1, (∀ x, x ≠ (X, i) → ad2 x = ad x) → xcw D cA A adS (os ++ [((X, i), [])]) ids ad2 σ H1 → va_S A s.heap H1 locs → W p l e room_1 s m args below meth c H1 locs (cells + 1) (slots + (xcl X).2.2) Q (F0 m (pc + 3) ls (.ref (ad2 (X, i)) :: rest))) :
    W p l e room_1 s m args below meth c H locs cells slots Q (F0 m pc ls rest) := by
  obtain ⟨⟨hx, hb, -, hown⟩, hts, ⟨⟨hK, -, -⟩, -⟩, hA, -⟩ := C
  refine va_new (ci := X) (fs := (List.range (xcl X).2.2).map (xdf X)) hx hb hts (xu_mem hX) _ (xu_ty X hX) hown (hts _ hcl) (hts _ hin.1) (hts _ hin.2) hK h.1 h.2.1 hS hA (xcl_at X hX) (fun j hj => ?_) hr.1 hr.2 hdg (fun q H1 hP hD hS1 => ?_)
  · unfold vp_V
    rw [List.getD_eq_getElem?_getD, List.getElem?_map, List.getElem?_range hj]
    rfl
  · obtain ⟨ad2, e1, e2, h2⟩ := xcw_newo h hP hD hk (by show X < 99; omega) h4 (fun ad2 => by
      unfold xoe
      rw [if_pos (xaty_obj X hX)]
      simp)
    rw [← e2]
    exact kk ad2 H1 e1 h2 hS1
theorem lt_call {x X i ix mc ms : Nat} {av : (Nat × Nat → Nat) → List Value} (C : zkx D cA adS S0 A p s m args c) (hM : xkn l x X i idA idU av mc ms σX σF) (h : xcw D cA A adS (os ++ [((X, i), [])]) (idA ++ idR) ad σ H) (hS : va_S A s.heap H locs) (hn : zcn x ix (av ad).length) (h0 : S0 ≤ s.heap.size)
    (hsz : ls.size = 4) (hrest : (rest.map fun v => v.category).sum ≤ 8) (hdg : decode (code) pc = .ok (.invokespecial ix, 3)) (hr : cells + mc ≤ room_1.cells ∧ slots + ms ≤ room_1.slots)
    (hA : xids idA xtl5) (hσA : ∀ q ∈ idA, σX q.1 q.2 = σ q.1 q.2) (h4 : ∀ s', xfty X s' = 4 → σX X i s' < 0) (hs : ∀ q ∈ idU, σ q.1 q.2 = σF q.1 q.2) (hsub : ∀ q ∈ (X, i) :: idA, q ∈ idU) (hdis : ∀ q ∈ idU, q ∉ xkeys os idR)
    (kk : ∀ ad2 H1 locs1, (∀ q ∈ xkeys (os ++ [((X, i), [])]) (idA ++ idR), ad2 q = ad q) → xcw D cA A adS os (idR ++ idU) ad2 σ H1 → va_S A s.heap H1 locs1 → W p l e room_1 s m args below meth c H1 locs1 (cells + mc) (slots + ms) Q (F0 m (pc + 3) ls rest)) :
    W p l e room_1 s m args below meth c H locs cells slots Q (F0 m pc ls ((av ad).reverse ++ .ref (ad (X, i)) :: rest)) := by
  obtain ⟨⟨hx, hb, hml, hown⟩, hts, ⟨hen, hO1, hO2⟩, hAn, hAS⟩ := C
  obtain ⟨n1, n2, n3, ⟨n4, n5, n6⟩, n7, n8⟩ := hn
  obtain ⟨r1, r2⟩ := n8
  have hAc : ∀ q ∈ idA, (∀ s, xfty q.1 s = 3 → xsr q.1 q.2 s ∈ idA) ∧ (xaty q.1 = 5 ∨ xaty q.1 = 6 → ∀ j, j < xalen q.1 → xar q.1 q.2 j ∈ idA) := fun q hq => ⟨hA.2.2.1 q hq, fun h5 j hj => hA.2.2.2 q hq j h5 hj⟩
  have hsb := xcw_sub h hAc
  have hkey : ∀ q ∈ idA, q ∈ xkeys [((X, i), [])] idA := fun q hq => List.mem_append_right _ hq
  have hsb2 : xcw D cA A adS [((X, i), [])] idA ad σX H := by
    refine xcw_ad hsb (fun _ _ => rfl) ⟨fun o ho => ?_, hσA⟩ (fun q hq s' hs' => ?_) hsb.2.2.2
    · have e : o = ((X, i), []) := by simpa using ho
      rw [e]
      exact Or.inl rfl
    · rcases List.mem_append.mp hq with hq | hq
      · have e : q = (X, i) := by simpa using hq
        subst e
        exact h4 s' hs'
      · rw [hσA q hq]
        exact (hsb.2.2.1.2.2 q (hkey q hq)).2 s' hs'
  have hG : GoodIn xw (xws x) := by
    intro w hw
    rcases List.mem_cons.mp hw with rfl | hw
    · exact xw_good _ (xcv_all n1)
    · exact xw_good _ hw
  have hFA : ∀ q, xkA cA X i idA ad σX H.size q → A q := by
    intro q hq
    rcases hq with ⟨n, e, hn⟩ | hq
    · exact hsb2.2.1.2 n _ hn
    · exact hAn q (Nat.le_trans hS.1 hq)
  have hp : PreS s H (va_Pc (.ref (ad (X, i)) :: av ad) (fun U => xenv D cA adS S0 U ∧ (S0 ≤ U.heap.size ∧ U.heap.size = H.size) ∧ xcw D cA (fun q => S0 ≤ q) adS [((X, i), [])] idA ad σX U.heap)) (.ref (ad (X, i)) :: av ad) := by
    refine ⟨fun a U g mk q => ?_, fun U hU hWm => ?_⟩
    · obtain ⟨q0, ⟨q1, q2, q3⟩, q4, q5⟩ := q
      exact ⟨q0, ⟨xen_same (u := U) (U := U.calling g mk a) rfl rfl q1, va_AO.moved (u := U) (U := U.calling g mk a) (Vm.Alike.refl U.vm) q2, va_AO.moved (u := U) (U := U.calling g mk a) (Vm.Alike.refl U.vm) q3⟩, q4, q5⟩
    · refine ⟨rfl, ⟨xen_warm hWm hU (va_S_wide hS hAS) hen, va_AO.moved hWm.alike hO1, va_AO.moved hWm.alike hO2⟩, ⟨by rw [hU]; exact Nat.le_trans h0 hS.1, by rw [hU]⟩, ?_⟩
      rw [hU]
      obtain ⟨a1, a2, a3, a4⟩ := hsb2
      exact ⟨a1, a2.weaken (fun n q hq hAq => hAS _ (a2.2 n q hq)), a3, a4⟩
  have fin : ∀ (ad1 : Nat × Nat → Nat) (t : State) (H1 : Heap) (locs1 : List Loc), t.heap = H1 → s.vm.Alike t.vm → (∀ q ∈ (X, i) :: idA, ad1 q = ad q) → xcw D cA (xkA cA X i idA ad σX H.size) adS [] idU ad1 σF t.heap → H.size ≤ H1.size → (∀ q : Nat, q < H.size → ¬ xkA cA X i idA ad σX H.size q → H1[q]? = H[q]?) → va_S A s.heap H1 locs1 → W p l e room_1 s m args below meth c H1 locs1 (cells + mc) (slots + ms) Q (F0 m (pc + 3) ls rest) := by
    intro ad1 t H1 locs1 ht hvm hpost hB hz hk hS1
    rw [ht] at hB
    obtain ⟨ad2, e1, e2, hw⟩ := xcw_join (wc := xwo cA [((X, i), [])] idA ad σX) h xwo_addr hB hk hFA hs hpost hsub hdis
    exact kk ad2 H1 locs1 e1 hw hS1
  rcases n5 with n5 | n5
  · exact va_callv (va_runI (As := av ad) (rest := rest) ⟨hx, hb, hml, hown, hts⟩ (hM D cA adS S0 H.size ad) (cwI (av ad).length hts hG (by show xws x = _; unfold xws; rw [n2]) rfl rfl (hts _ n4) (hts _ n5) (hts _ n6) n3 n7 ⟨r1, r2⟩)
      hp rfl rfl hsz rfl (lv_room hrest) hdg hr) hS (fun q _ hq => hFA q hq) hFA fin
  · exact va_callv (va_runIN (host := "SofaStair") (As := av ad) (rest := rest) ⟨hx, hb, hml, hown, hts⟩ (hM D cA adS S0 H.size ad) ⟨va_cnB (av ad).length hts hG (by show xws x = _; unfold xws; rw [n2]) rfl rfl (hen.2.1 _ n5) (hts _ n4) n7 ⟨r1, r2⟩, n3, hts _ n6⟩
      hp rfl rfl hsz rfl (lv_room hrest) hdg hr) hS (fun q _ hq => hFA q hq) hFA fin
end ZL
