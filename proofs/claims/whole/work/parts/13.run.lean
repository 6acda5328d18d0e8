/-! the machine follows the abstract machine: calls, returns, runs -/
section XRUN
variable {p : Program} {l : Launch} {e : Env} {R : Room} {s : State} {m : MethodId} {args : Array Value} {below : List Frame} {meth : Method} {c : Code} {H : Heap} {locs : List Loc} {cells slots : Nat} {ls : Array Slot} {Q : State → Prop}
variable {D : va_G} {cA : Nat → ClassId} {tyl : List Nat} {ids : List (Nat × Nat)} {ad : Nat × Nat → Nat} {A : Nat → Prop} {k pc nL : Nat} {L L' : xa_L} {S S' : List xa_V} {σ σ' : xa_H} {q : xa_C}
def xen (D : va_G) (cA : Nat → ClassId) (tyl : List Nat) (ad : Nat × Nat → Nat) (A : Nat → Prop) (U : State) : Prop := va_K D vwCl (xtys cA tyl) U ∧ (∀ w ∈ xnw, va_Nw w U) ∧ xstr ad A U U.heap
def xPc (D : va_G) (cA : Nat → ClassId) (tyl : List Nat) (ids : List (Nat × Nat)) (ad : Nat × Nat → Nat) (A : Nat → Prop) (as : List xa_V) (σ : xa_H) : Array Value → State → Prop :=
  va_Pc (as.map (xcv ad)) (fun U => xen D cA tyl ad A U ∧ va_P D vwCl (xwl cA ids ad σ) U.heap ∧ va_D A (xwl cA ids ad σ))
def xQc (D : va_G) (cA : Nat → ClassId) (ids : List (Nat × Nat)) (ad : Nat × Nat → Nat) (A : Nat → Prop) (r : Option xa_V) (σ' : xa_H) : Array Value → State → Outcome → State → Prop := fun _ st o t =>
  o = .returned (r.map (xcv ad)) ∧ va_P D vwCl (xwl cA ids ad σ') t.heap ∧ va_F A st t ∧ xhok ids σ' ∧ ∀ v, r = some v → xok ids v
theorem xstr_move {U u : State} {H H1 : Heap} (hv : u.vm.Alike U.vm) (hR : ∀ own k tx a, vk_R own k tx a u → vk_R own k tx a U) (hq : ∀ a : Nat, a < H.size → ¬ A a → H1[a]? = H[a]?) (h : xstr ad A u H) : xstr ad A U H1 := by
  obtain ⟨h1, h2, ⟨adV, h3⟩, h4, h5, h6⟩ := h
  refine ⟨hR _ _ _ _ h1, hR _ _ _ _ h2, ⟨adV, (h3.moved hv).kept hq⟩, h4, (h5.moved hv).kept hq, ?_⟩
  rcases h6 with h6 | ⟨t, h6⟩
  · exact Or.inl ((h6.moved hv).kept hq)
  · exact Or.inr ⟨t, (h6.moved hv).kept hq⟩
theorem xnw_warm {U : State} (hW : s.WarmedH U.vm) (h : ∀ w ∈ xnw, va_Nw w s) : ∀ w ∈ xnw, va_Nw w U := by
  intro w hw
  have h1 := h w hw
  have h2 := (List.mem_filter.mp hw).2
  cases w <;> first | exact va_Nw.warmF hW h1 | exact va_Nw.warmM hW h1 | (exact absurd h2 (by simp [xisN]))
theorem xnw_tab : ∀ w ∈ xnw, w.onTables = true := by
  intro w hw
  have h2 := (List.mem_filter.mp hw).2
  cases w <;> first | rfl | (exact absurd h2 (by simp [xisN]))
theorem xen_warm {U : State} (hW : s.WarmedH U.vm) (hU : U.heap = H) (hS : va_S A s.heap H locs) (h : va_K D vwCl (xtys cA tyl) s ∧ (∀ w ∈ xnw, va_Nw w s) ∧ xstr ad A s s.heap) : xen D cA tyl ad A U :=
  ⟨va_K.moved hW.alike h.1, xnw_warm hW h.2.1, xstr_move hW.alike (fun _ _ _ _ h => h.warm hW) (by rw [hU]; exact hS.2.1) h.2.2⟩
theorem xen_same {u U : State} (hv : U.vm = u.vm) (hh : U.heap = u.heap) (h : xen D cA tyl ad A u) : xen D cA tyl ad A U :=
  ⟨va_K.moved (by rw [hv]; exact Vm.Alike.refl u.vm) h.1, fun w hw => va_Nw.same (xnw_tab w hw) hv.symm (h.2.1 w hw), xstr_move (by rw [hv]; exact Vm.Alike.refl u.vm) (fun _ _ _ _ h => vk_R.same hv h) (by rw [hh]; exact fun _ _ _ => rfl) h.2.2⟩
theorem xD_of (h : va_D A (xwl cA ids ad σ)) : va_D A (xwl cA ids ad σ') := by
  have key : ∀ (k : Nat) (q : Nat × va_E), (xwl cA ids ad σ')[k]? = some q → ∃ q0, (xwl cA ids ad σ)[k]? = some q0 ∧ q0.1 = q.1 := by
    intro k q hq
    unfold xwl at hq ⊢
    rw [List.getElem?_map] at hq ⊢
    cases hi : ids[k]? with
    | none => rw [hi] at hq; cases hq
    | some x =>
      rw [hi] at hq
      cases hq
      exact ⟨_, rfl, rfl⟩
  refine ⟨fun i j a b ha hb hab => ?_, fun k q hq => ?_⟩
  · obtain ⟨a0, h1, h2⟩ := key i a ha
    obtain ⟨b0, h3, h4⟩ := key j b hb
    exact h.1 i j a0 b0 h1 h3 (by rw [h2, h4]; exact hab)
  · obtain ⟨q0, h1, h2⟩ := key k q hq
    rw [← h2]
    exact h.2 k q0 h1
theorem xW_zret {cc : ByteArray} {Qc : Array Value → State → Outcome → State → Prop} {free : Addr → Prop} {v w : Int32} (hexec : p.tables.exec = Jvm.exec) (hb : c.code = cc) (hr : meth.sig.returnType = some .boolean) (hn : narrow .boolean (.int v) = .int w)
    (hq : ∀ t : State, t.heap = H → s.WarmedH t.vm → Qc args s (.returned (some (.int w))) t) (hf : ∀ q ∈ locs, free q.base)
    {pc : Nat} {ls : Array Slot} (hdg : decode cc pc = .ok (.ireturn, 1)) (hlocks : meth.locks = false) : W p l e R s m args below meth c H locs cells slots (MQ below Qc args s cells slots free) (F0 m pc ls [.int v]) := by
  intro T hT X
  obtain ⟨fs, hret, hrun, hended, hW, hframe⟩ := X.leave (v := some (.int w)) (fun h => by rw [hr] at h; cases h)
  have hmeth' : T.vm.method? m = some meth := X.method'
  refine ⟨T.setFrames fs, ?_, .returned (some (.int w)), hrun, hended, hq _ hT hW, locs, ⟨⟨_, rfl⟩, hW, hframe⟩, hf⟩
  jvm_step X.here [X.here.top, hexec, hb, hdg, hmeth', hr, hn]
  (try refine ⟨rfl, ?_⟩); (try refine ⟨rfl, ?_⟩)
  first | (intro acts; rw [hret _ acts rfl rfl rfl]) | rw [hret _ _ rfl rfl rfl]
  exact Steps.refl _
theorem xwt_cat (as : List xa_V) : (as.map (fun v => (xcv ad v).category)).sum = xwt as := by
  induction as with
  | nil => rfl
  | cons v r ih =>
    rw [List.map_cons, List.sum_cons, ih]
    show _ = cond (xlong v) 2 1 + xwt r
    rcases v with a | a | _ | q <;> rfl
theorem xargs_map (as : List xa_V) : ∀ i, (xargs i as).map (fun q => (q.1, xcv ad q.2)) = lv_args i (as.map (xcv ad)) := by
  induction as with
  | nil => intro i; rfl
  | cons v r ih =>
    intro i
    unfold xargs
    rw [List.map_cons, List.map_cons, ih]
    show _ = (i, xcv ad v) :: lv_args (if (xcv ad v).category = 2 then i + 2 else i + 1) (r.map (xcv ad))
    congr 2
    rcases v with a | a | _ | q <;> rfl
theorem xargs_ok (as : List xa_V) (h : ∀ v ∈ as, xok ids v) : ∀ i, ∀ q ∈ xargs i as, xok ids q.2 := by
  induction as with
  | nil => intro i q hq; cases hq
  | cons v r ih =>
    intro i q hq
    rcases List.mem_cons.mp hq with rfl | hq
    · exact h v List.mem_cons_self
    · exact ih (fun w hw => h w (List.mem_cons_of_mem _ hw)) _ q hq
theorem xsl_len (as : List xa_V) : (lg_sl (as.map (xcv ad))).length = xwt as := by
  induction as with
  | nil => rfl
  | cons v r ih =>
    unfold lg_sl at ih ⊢
    rw [List.map_cons, List.flatMap_cons, List.length_append, ih]
    show _ = cond (xlong v) 2 1 + xwt r
    rcases v with a | a | _ | q <;> rfl
/-- what is claimed of a run of n steps -/
def xSim (l : Launch) (D : va_G) (cA : Nat → ClassId) (tyl : List Nat) (ids : List (Nat × Nat)) (ad : Nat × Nat → Nat) (A : Nat → Prop) (n : Nat) : Prop :=
  ∀ (k pc : Nat) (L : xa_L) (S : List xa_V) (σ : xa_H) (r : Option xa_V) (σ' : xa_H), xrun n k pc L S σ = some (r, σ') →
    ∀ (p : Program) (e : Env) (R : Room) (s : State) (m : MethodId) (args : Array Value) (below : List Frame) (meth : Method) (c : Code) (H : Heap) (locs : List Loc) (ls : Array Slot) (cells slots : Nat), (cells ≤ R.cells ∧ slots ≤ R.slots) →
      xcx D cA tyl ids ad A p R s m args meth c k → xdy D cA ids ad A s H locs ls (xmL k) L S σ →
      W p l e R s m args below meth c H locs cells slots (MQ below (xQc D cA ids ad A r σ') args s cells slots A) (F0 m pc ls (S.map (xcv ad)))
noncomputable def xrm (k : Nat) : Room := { frames := xmF k, cells := 0, slots := 0, locals := xmW k }
noncomputable def xws (k : Nat) : List Jvm.Cond := Cond.code (xmY k) (xmB k) (xmL k) (xmR k) :: xw
def xgo (x : Nat) : Prop := (x < 137 ∨ (200 ≤ x ∧ x < 272)) ∧ ¬ xmS x = 0
theorem xce_spec {x : Nat} (hg : xgo x) : plainName (xmY x).cls = true ∧ Cond.code (xmY x) (xmB x) (xmL x) (xmR x) ∈ xw ∧ Cond.initialized (xmY x).cls ∈ xw ∧ ((xmY x).cls ≠ "java/lang/invoke/MethodHandle" ∧ (xmY x).cls ≠ "java/lang/invoke/VarHandle") ∧ xmO x = (xmY x).cls ∧
    (xmS x = 1 → Cond.static (xmY x) ∈ xw) ∧ (xmS x = 2 → Cond.instanceMethod (xmY x) ∈ xw ∧ Cond.selects (xmY x).cls (xmY x) (xmY x) ∈ xw ∧ (xcl (xmK x)).1 = (xmY x).cls ∧ xmK x < 10) := by
  have h := xce_of hg.1
  unfold xce at h
  have h0 : Nat.beq (xmS x) 0 = false := by
    cases hb : Nat.beq (xmS x) 0 with
    | false => rfl
    | true => exact absurd (Nat.eq_of_beq_eq_true hb) hg.2
  rw [h0, Bool.false_or] at h
  simp only [Bool.and_eq_true, decide_eq_true_eq] at h
  obtain ⟨⟨⟨⟨h1, h3⟩, h4⟩, h5⟩, h6⟩ := h
  refine ⟨h1, xcv_all hg.1, xw_in h3 rfl, h4, h5, fun hS => ?_, fun hS => ?_⟩
  · rw [hS] at h6
    exact xw_in (of_decide_eq_true h6) rfl
  · rw [hS] at h6
    simp only [Bool.and_eq_true, decide_eq_true_eq] at h6
    exact ⟨xw_in h6.1.1.1 rfl, xw_in h6.1.1.2 rfl, h6.1.2, Nat.blt_eq.mp h6.2⟩
theorem xmet {n x : Nat} {as : List xa_V} {r : Option xa_V} (hsim : xSim l D cA tyl ids ad A n) (hx : xgo x) (hI : xids ids tyl) (hh : xhok ids σ) (ho : ∀ v ∈ as, xok ids v) (hw : xwt as ≤ xmL x)
    (hrun : xrun n x 0 (xargs 0 as) [] σ = some (r, σ')) : Met l (xmY x) (xws x) (xrm x) (xPc D cA tyl ids ad A as σ) (xQc D cA ids ad A r σ') 0 0 A := by
  obtain ⟨c1, c2, c3, c4, c5, -, -⟩ := xce_spec hx
  refine Met.ofW (cc := xmB x) (maxL := xmL x) (ret := xmR x) c1 rfl ?_
  intro p e s m args below meth c s₁ B hml hv
  obtain ⟨rfl, hen, hP, hD⟩ := hv
  have hts : ∀ w ∈ xw, w.before ((as.map (xcv ad)).toArray) s = true := fun w hw => atoms_spec (ws := xws x) B.pre w (List.mem_cons_of_mem _ hw)
  have hown : s.vm.findClass (xmO x) = some m.cls := by rw [c5]; exact findClass_of_methodNamed B.named
  rw [lg_entry_eq]
  have hl := lv_entry (as.map (xcv ad)) (n := xmL x) (by rw [xsl_len]; exact hw)
  exact hsim x 0 (xargs 0 as) [] σ r σ' hrun p e _ s m _ below meth c s.heap [] _ 0 0 ⟨Nat.zero_le _, Nat.zero_le _⟩
    ⟨⟨B.exec, B.bytes, hml, hown⟩, hts, hen, hI, ⟨B.returns, B.notSynchronized⟩, Nat.le_refl _, Nat.le_refl _⟩
    ⟨⟨hP, hD, va_S.rf⟩, hh, xargs_ok as ho 0, (fun v hv => by cases hv), (by rw [xargs_map]; exact hl)⟩
/-- behind a call -/
theorem xW_call {rest st0 : List Value} {a : Array Value} {r : Option xa_V} {σ1 : xa_H} (hr : va_Run p l e R s m args below meth c H locs cells slots 0 0 (F0 m pc ls st0) rest (xQc D cA ids ad A r σ1 a) A) (hS : va_S A s.heap H locs) (hD : va_D A (xwl cA ids ad σ))
    (kk : ∀ (H1 : Heap) (locs1 : List Loc), va_P D vwCl (xwl cA ids ad σ1) H1 → va_D A (xwl cA ids ad σ1) → va_S A s.heap H1 locs1 → xhok ids σ1 → (∀ v, r = some v → xok ids v) → W p l e R s m args below meth c H1 locs1 cells slots Q (F0 m (pc + 3) ls ((r.map (xcv ad)).toList ++ rest))) : W p l e R s m args below meth c H locs cells slots Q (F0 m pc ls st0) := by
  intro T hT X
  obtain ⟨v, st₀, t, T', L, h0, X', hL, e1, e2, ⟨hv, hP, hF, hho, hxo⟩, st⟩ := hr T hT X
  cases hv
  have hz := hF.1
  have hk := hF.2
  rw [h0] at hz hk
  obtain ⟨t2, a1, b1⟩ := kk T'.heap (locs ++ L) (by rw [e1]; exact hP) (xD_of hD) ⟨Nat.le_trans hS.1 (by rw [e1]; exact hz), fun q h1 h2 => by rw [e1, hk q (Nat.lt_of_lt_of_le h1 hS.1) h2]; exact hS.2.1 q h1 h2, fun q hq => by
      rcases List.mem_append.mp hq with h | h
      · exact hS.2.2 q h
      · exact hL q h⟩ hho hxo T' rfl X'
  exact ⟨t2, st t2 a1, b1⟩
theorem xGood (x : Nat) (hx : xgo x) : GoodIn xw (xws x) := by
  obtain ⟨-, c2, -⟩ := xce_spec hx
  intro w hw
  rcases List.mem_cons.mp hw with rfl | hw
  · exact xw_good _ c2
  · exact xw_good _ hw
theorem xblind {as : List xa_V} : FrameBlind (xPc D cA tyl ids ad A as σ) := fun a U g mk h => ⟨h.1, xen_same (u := U) (U := U.calling g mk a) rfl rfl h.2.1, h.2.2⟩
theorem xck_r_of {x : Nat} (h : xck_r k x = true) : xmF x + 1 ≤ xmF k ∧ 8 + (xmL x + 11) + xmW x ≤ xmW k := by
  unfold xck_r at h
  rw [Bool.and_eq_true] at h
  exact ⟨Nat.ble_eq.mp h.1, Nat.ble_eq.mp h.2⟩
theorem xck_m_of {ix x z : Nat} (h : xck_m k ix x z = true) : lw_tbl[z]? = some (Cond.methodLink (xmO k) ix (xmY x)) ∨ lw_tbl[z]? = some (Cond.methodLinkNest (xmO k) ix (xmY x) "SofaStair") := by
  unfold xck_m at h
  rw [Bool.or_eq_true, decide_eq_true_eq, decide_eq_true_eq] at h
  exact h
theorem xrest {rest : List xa_V} (h : xwt rest ≤ 8) {m : MethodId} {st : List Value} : 2 * (F0 m pc ls st).monitorRoom + ((rest.map (xcv ad)).map fun v => v.category).sum ≤ 8 := by
  refine lv_room ?_
  rw [List.map_map]
  have := xwt_cat (ad := ad) rest
  show ((rest.map (fun v => (xcv ad v).category))).sum ≤ 8
  omega
theorem xrunV {x n ix z i : Nat} {as rest : List xa_V} {r : Option xa_V} {σ1 : xa_H} (hcs : cells ≤ R.cells ∧ slots ≤ R.slots) (hsim : xSim l D cA tyl ids ad A n) (C : xcx D cA tyl ids ad A p R s m args meth c k) (hx : xgo x) (hS2 : xmS x = 2) (hlk : xck_m k ix x z = true) (hrk : xck_r k x = true) (hnn : xck_n (xmY x) as.length = true)
    (hdg : decode (xmB k) pc = .ok (.invokevirtual ix, 3)) (Y : xdy D cA ids ad A s H locs ls (xmL k) L (as.reverse ++ xr (xmK x) i :: rest) σ) (hw1 : xwt rest ≤ 8) (hw2 : xwt (xr (xmK x) i :: as) ≤ xmL x)
    (hrun : xrun n x 0 (xargs 0 (xr (xmK x) i :: as)) [] σ = some (r, σ1))
    (kk : ∀ (H1 : Heap) (locs1 : List Loc), va_P D vwCl (xwl cA ids ad σ1) H1 → va_D A (xwl cA ids ad σ1) → va_S A s.heap H1 locs1 → xhok ids σ1 → (∀ v, r = some v → xok ids v) → W p l e R s m args below meth c H1 locs1 cells slots Q (F0 m (pc + 3) ls ((r.map (xcv ad)).toList ++ rest.map (xcv ad)))) :
    W p l e R s m args below meth c H locs cells slots Q (F0 m pc ls ((as.reverse ++ xr (xmK x) i :: rest).map (xcv ad))) := by
  obtain ⟨⟨hxe, hb, hml, hown⟩, hts, hen, hI, -, hFr, hLr⟩ := C
  obtain ⟨c1, c2, c3, c4, c5, -, c7⟩ := xce_spec hx
  obtain ⟨c8, c9, c10, c11⟩ := c7 hS2
  have ho : ∀ v ∈ xr (xmK x) i :: as, xok ids v := by
    intro v hv
    refine Y.2.2.2.1 v ?_
    rcases List.mem_cons.mp hv with rfl | hv
    · simp
    · simp [hv]
  have hq : (xmK x, i) ∈ ids := xid_of (ho _ List.mem_cons_self) (by omega)
  have hM := xmet hsim hx hI Y.2.1 ho hw2 hrun
  obtain ⟨hr1, hr2⟩ := xck_r_of hrk
  obtain ⟨nn, hnn1, he⟩ := xwl_get (cA := cA) (ad := ad) (σ := σ) hq
  rw [xent_obj (q := (xmK x, i)) (xaty_obj _ c11)] at he
  have hrc := va_recv hen.1 Y.1.1 (xcl_at _ c11) he
  rw [c10] at hrc
  have hpre : PreV s H (xmY x).cls (ad (xmK x, i)) (xPc D cA tyl ids ad A (xr (xmK x) i :: as) σ) (as.map (xcv ad)) :=
    ⟨xblind, hrc, fun U hU hW => ⟨rfl, xen_warm hW hU Y.1.2.2 hen, by rw [hU]; exact Y.1.1, Y.1.2.1⟩⟩
  have hd : (parseMethodDescriptor (xmY x).desc).map (fun d => d.parameters.length) = some as.length := of_decide_eq_true hnn
  have hR : (xrm x).frames + 1 ≤ R.frames ∧ 8 + (xmL x + 11) + (xrm x).locals ≤ R.locals := ⟨Nat.le_trans hr1 hFr, Nat.le_trans hr2 hLr⟩
  have hst : (F0 m pc ls ((as.reverse ++ xr (xmK x) i :: rest).map (xcv ad))).stack = (as.map (xcv ad)).reverse ++ .ref (ad (xmK x, i)) :: rest.map (xcv ad) := by
    show (as.reverse ++ xr (xmK x) i :: rest).map (xcv ad) = _
    rw [List.map_append, List.map_cons, List.map_reverse]
    rfl
  have hsz : ls.size = xmL k := Y.2.2.2.2.1
  rcases xck_m_of hlk with hl | hl
  · refine xW_call (va_runV ⟨hxe, hb, hml, hown, hts⟩ hM (cwV (C := (xmY x).cls) as.length hts ?_ rfl rfl rfl ⟨rfl, c4.1, c4.2, hd⟩ hR) hpre rfl (by simp) hsz hst (xrest hw1) hdg hcs) Y.1.2.2 Y.1.2.1 kk
    intro w hw
    unfold wsV at hw
    rcases List.mem_append.mp hw with hw | hw
    · simp only [List.mem_cons, List.not_mem_nil, or_false] at hw
      rcases hw with rfl | rfl | rfl | rfl
      · exact xw_good _ (xw_in hl rfl)
      · exact xw_good _ c8
      · exact xw_good _ c9
      · exact xw_good _ c3
    · exact xGood x hx w hw
  · exact xW_call (va_runVN (host := "SofaStair") ⟨hxe, hb, hml, hown, hts⟩ hM ⟨va_cnB as.length hts (xGood x hx) rfl rfl rfl (hen.2.1 _ (xw_nest hl rfl)) (hts _ c3) ⟨c4.1, c4.2, hd⟩ hR, hts _ c8, hts _ c9⟩ hpre rfl (by simp) hsz hst (xrest hw1) hdg hcs) Y.1.2.2 Y.1.2.1 kk
theorem xrunS {x n ix z : Nat} {as rest : List xa_V} {r : Option xa_V} {σ1 : xa_H} (hcs : cells ≤ R.cells ∧ slots ≤ R.slots) (hsim : xSim l D cA tyl ids ad A n) (C : xcx D cA tyl ids ad A p R s m args meth c k) (hx : xgo x) (hS1 : xmS x = 1) (hlk : xck_m k ix x z = true) (hrk : xck_r k x = true) (hnn : xck_n (xmY x) as.length = true)
    (hdg : decode (xmB k) pc = .ok (.invokestatic ix, 3)) (Y : xdy D cA ids ad A s H locs ls (xmL k) L (as.reverse ++ rest) σ) (hw1 : xwt rest ≤ 8) (hw2 : xwt as ≤ xmL x)
    (hrun : xrun n x 0 (xargs 0 as) [] σ = some (r, σ1))
    (kk : ∀ (H1 : Heap) (locs1 : List Loc), va_P D vwCl (xwl cA ids ad σ1) H1 → va_D A (xwl cA ids ad σ1) → va_S A s.heap H1 locs1 → xhok ids σ1 → (∀ v, r = some v → xok ids v) → W p l e R s m args below meth c H1 locs1 cells slots Q (F0 m (pc + 3) ls ((r.map (xcv ad)).toList ++ rest.map (xcv ad)))) :
    W p l e R s m args below meth c H locs cells slots Q (F0 m pc ls ((as.reverse ++ rest).map (xcv ad))) := by
  obtain ⟨⟨hxe, hb, hml, hown⟩, hts, hen, hI, -, hFr, hLr⟩ := C
  obtain ⟨c1, c2, c3, c4, c5, c6, -⟩ := xce_spec hx
  have c8 := c6 hS1
  have ho : ∀ v ∈ as, xok ids v := fun v hv => Y.2.2.2.1 v (by simp [hv])
  have hM := xmet hsim hx hI Y.2.1 ho hw2 hrun
  obtain ⟨hr1, hr2⟩ := xck_r_of hrk
  have hpre : PreS s H (xPc D cA tyl ids ad A as σ) (as.map (xcv ad)) :=
    ⟨xblind, fun U hU hW => ⟨rfl, xen_warm hW hU Y.1.2.2 hen, by rw [hU]; exact Y.1.1, Y.1.2.1⟩⟩
  have hd : (parseMethodDescriptor (xmY x).desc).map (fun d => d.parameters.length) = some as.length := of_decide_eq_true hnn
  have hR : (xrm x).frames + 1 ≤ R.frames ∧ 8 + (xmL x + 11) + (xrm x).locals ≤ R.locals := ⟨Nat.le_trans hr1 hFr, Nat.le_trans hr2 hLr⟩
  have hst : (F0 m pc ls ((as.reverse ++ rest).map (xcv ad))).stack = (as.map (xcv ad)).reverse ++ rest.map (xcv ad) := by
    show (as.reverse ++ rest).map (xcv ad) = _
    rw [List.map_append, List.map_reverse]
  have hsz : ls.size = xmL k := Y.2.2.2.2.1
  rcases xck_m_of hlk with hl | hl
  · refine xW_call (va_runS ⟨hxe, hb, hml, hown, hts⟩ hM ⟨callB_of as.length hts (xGood x hx) rfl rfl rfl (hts _ c3) (hts _ (xw_in hl rfl)) ⟨c4.1, c4.2, hd⟩ hR, hts _ c8⟩ hpre rfl (by simp) hsz hst (xrest hw1) hdg hcs) Y.1.2.2 Y.1.2.1 kk
  · exact xW_call (va_runSN (host := "SofaStair") ⟨hxe, hb, hml, hown, hts⟩ hM ⟨va_cnB as.length hts (xGood x hx) rfl rfl rfl (hen.2.1 _ (xw_nest hl rfl)) (hts _ c3) ⟨c4.1, c4.2, hd⟩ hR, hts _ c8, trivial⟩ hpre rfl (by simp) hsz hst (xrest hw1) hdg hcs) Y.1.2.2 Y.1.2.1 kk

theorem xM_init : Cond.initialized "java/lang/Math" ∈ xw := by decide +kernel
set_option maxRecDepth 100000 in
theorem xM_abs : Cond.static Lib.Math.abs.name ∈ xw ∧ Cond.code Lib.Math.abs.name Lib.Math.abs.code 1 (some .int) ∈ xw := by decide +kernel
set_option maxRecDepth 100000 in
theorem xM_max : Cond.static Lib.Math.max.name ∈ xw ∧ Cond.code Lib.Math.max.name Lib.Math.max.code 2 (some .int) ∈ xw := by decide +kernel
set_option maxRecDepth 100000 in
theorem xM_min : Cond.static Lib.Math.min.name ∈ xw ∧ Cond.code Lib.Math.min.name Lib.Math.min.code 2 (some .int) ∈ xw := by decide +kernel
theorem xprim_no {x K j : Nat} {r : List xa_V} {v : xa_V} (h : 5003 ≤ x) (hp : xprim x (.inr (.inr (some (K, j))) :: r) = some v) : False := by
  have e0 : Nat.beq x 5000 = false := by
    cases hb : Nat.beq x 5000 with
    | false => rfl
    | true => have := Nat.eq_of_beq_eq_true hb; omega
  have e1 : Nat.beq x 5001 = false := by
    cases hb : Nat.beq x 5001 with
    | false => rfl
    | true => have := Nat.eq_of_beq_eq_true hb; omega
  have e2 : Nat.beq x 5002 = false := by
    cases hb : Nat.beq x 5002 with
    | false => rfl
    | true => have := Nat.eq_of_beq_eq_true hb; omega
  match r, hp with
  | [], hp =>
    have hp : (if K = 99 then (cond (Nat.beq x 5002) (some (.inl 12)) none) else none) = some v := hp
    rw [e2] at hp
    split at hp <;> cases hp
  | [.inl c], hp =>
    have hp : (if K = 99 then (cond (Nat.beq x 5000) (if 0 ≤ c ∧ c < 65536 then some (.inl (xixo xmoves c 0)) else none) (cond (Nat.beq x 5001) (if 0 ≤ c ∧ c < 12 then some (.inl (xmoves.getD c.toNat 0)) else none) none)) else none) = some v := hp
    rw [e0, e1] at hp
    split at hp <;> cases hp
  | [.inr _], hp => cases hp
  | .inl _ :: _ :: _, hp => cases hp
  | .inr _ :: _ :: _, hp => cases hp
/-- Math.abs, max, min -/
theorem xprim_M {x y z ix : Nat} {v : xa_V} (hcs : cells ≤ R.cells ∧ slots ≤ R.slots) (C : xcx D cA tyl ids ad A p R s m args meth c k) (hS : S = (S.take y).reverse.reverse ++ S.drop y) (hp : xprim x (S.take y).reverse = some v)
    (hck : (decide (lw_tbl[z]? = some (Cond.methodLink (xmO k) ix (xck_p x))) && Nat.ble 2 (xmF k) && Nat.ble 34 (xmW k) && Nat.ble 5003 x && Nat.blt x 5006) = true) (hdg : decode (xmB k) pc = .ok (.invokestatic ix, 3))
    (Y : xdy D cA ids ad A s H locs ls (xmL k) L S σ) (hw8 : xwt (S.drop y) ≤ 8)
    (kk : xok ids v → W p l e R s m args below meth c H locs cells slots Q (F0 m (pc + 3) ls ((v :: S.drop y).map (xcv ad)))) : W p l e R s m args below meth c H locs cells slots Q (F0 m pc ls (S.map (xcv ad))) := by
  obtain ⟨⟨hx, hb, hml, hown⟩, hts, -, -, -, hFr, hLr⟩ := C
  simp only [Bool.and_eq_true, decide_eq_true_eq] at hck
  obtain ⟨⟨⟨⟨h1, h2⟩, h3⟩, h4⟩, h5⟩ := hck
  have h2 := Nat.ble_eq.mp h2
  have h3 := Nat.ble_eq.mp h3
  have h4 := Nat.ble_eq.mp h4
  have h5 := Nat.blt_eq.mp h5
  have hsz : c.maxLocals = ls.size := by rw [hml]; exact Y.2.2.2.2.1.symm
  have hro : ((S.drop y).map (xcv ad) |>.map fun v => v.category).sum + 13 ≤ R.locals := by
    rw [List.map_map]
    have := xwt_cat (ad := ad) (S.drop y)
    have e : ((S.drop y).map (fun v => (xcv ad v).category)).sum + 13 ≤ R.locals := by omega
    exact e
  have hfr : 1 ≤ R.frames := by omega
  have hargs : ∀ w ∈ (S.take y).reverse, xok ids w := fun w hw => Y.2.2.2.1 w (List.mem_of_mem_take (List.mem_reverse.mp hw))
  have link := hts _ (xw_in h1 rfl)
  have wini : Cond.initialized "java/lang/Math" ∈ xw := xM_init
  rw [hS]
  generalize (S.take y).reverse = as at hp hargs
  generalize S.drop y = rest at kk hro
  match as, hp, hargs with
  | [], hp, _ => exact xno hp
  | [.inl a], hp, hargs =>
    cases hb3 : Nat.beq x 5003 with
    | false =>
      have hp : cond (Nat.beq x 5003) (some (.inl (if 0 ≤ a then a else w32 (0 - a)))) none = some v := hp
      rw [hb3] at hp; exact xno hp
    | true =>
      have hp : cond (Nat.beq x 5003) (some (.inl (if 0 ≤ a then a else w32 (0 - a)) : xa_V)) none = some v := hp
      rw [hb3] at hp
      have hx3 := Nat.eq_of_beq_eq_true hb3
      subst hx3
      cases hp
      have ha : xr32 a := hargs (.inl a) (by simp)
      refine va_mabs (x := Int32.ofInt a) hx hb hsz hown link (hts _ xM_abs.1) (hts _ wini) (hts _ xM_abs.2) hfr hro hcs.1 hcs.2 hdg ?_
      have e : (if 0 ≤ Int32.ofInt a then Int32.ofInt a else 0 - Int32.ofInt a) = Int32.ofInt (if 0 ≤ a then a else w32 (0 - a)) := by
        by_cases h : 0 ≤ a
        · rw [if_pos h, if_pos ((xle0 ha).mpr h)]
        · rw [if_neg h, if_neg (fun q => h ((xle0 ha).mp q)), xsub]; rfl
      rw [e]
      refine kk ?_
      show xr32 _
      split
      · exact ha
      · exact w32_r _
  | [.inl a, .inl b], hp, hargs =>
    have ha : xr32 a := hargs (.inl a) (by simp)
    have hb0 : xr32 b := hargs (.inl b) (by simp)
    have hp : cond (Nat.beq x 5004) (some (.inl (if a < b then b else a) : xa_V)) (cond (Nat.beq x 5005) (some (.inl (if b < a then b else a))) none) = some v := hp
    cases hb4 : Nat.beq x 5004 with
    | true =>
      rw [hb4] at hp
      have hx3 := Nat.eq_of_beq_eq_true hb4
      subst hx3
      cases hp
      refine va_mmax (x := Int32.ofInt a) (y := Int32.ofInt b) hx hb hsz hown link (hts _ xM_max.1) (hts _ wini) (hts _ xM_max.2) hfr hro hcs.1 hcs.2 hdg ?_
      have e : (if Int32.ofInt a < Int32.ofInt b then Int32.ofInt b else Int32.ofInt a) = Int32.ofInt (if a < b then b else a) := by
        by_cases h : a < b
        · rw [if_pos h, if_pos ((xlt32 ha hb0).mpr h)]
        · rw [if_neg h, if_neg (fun q => h ((xlt32 ha hb0).mp q))]
      rw [e]
      refine kk ?_
      show xr32 _
      split
      · exact hb0
      · exact ha
    | false =>
      rw [hb4] at hp
      cases hb5 : Nat.beq x 5005 with
      | false => rw [hb5] at hp; exact xno hp
      | true =>
        rw [hb5] at hp
        have hx3 := Nat.eq_of_beq_eq_true hb5
        subst hx3
        cases hp
        refine va_mmin (x := Int32.ofInt a) (y := Int32.ofInt b) hx hb hsz hown link (hts _ xM_min.1) (hts _ wini) (hts _ xM_min.2) hfr hro hcs.1 hcs.2 hdg ?_
        have e : (if Int32.ofInt b < Int32.ofInt a then Int32.ofInt b else Int32.ofInt a) = Int32.ofInt (if b < a then b else a) := by
          by_cases h : b < a
          · rw [if_pos h, if_pos ((xlt32 hb0 ha).mpr h)]
          · rw [if_neg h, if_neg (fun q => h ((xlt32 hb0 ha).mp q))]
        rw [e]
        refine kk ?_
        show xr32 _
        split
        · exact hb0
        · exact ha
  | .inr (.inr (some (K, j))) :: r, hp, _ => exact absurd (xprim_no h4 hp) (by simp)
  | .inr (.inr none) :: r, hp, _ => exact xno hp
  | .inr (.inl _) :: r, hp, _ => exact xno hp
  | [.inl _, .inr _], hp, _ => exact xno hp
  | .inl _ :: .inl _ :: _ :: _, hp, _ => exact xno hp
  | .inl _ :: .inr _ :: _ :: _, hp, _ => exact xno hp
end XRUN
