/-! what constructors do, instruction by instruction -/
section XCT
variable {p : Program} {l : Launch} {e : Env} {R : Room} {s : State} {m : MethodId} {args : Array Value} {below : List Frame} {meth : Method} {c : Code} {H : Heap} {locs : List Loc} {cells slots : Nat} {ls : Array Slot} {Q : State → Prop}
variable {D : va_G} {cA : Nat → ClassId} {adS S0 : Nat} {os o1 o2 : List ((Nat × Nat) × List Nat)} {ids idA idR idU : List (Nat × Nat)} {ad : Nat × Nat → Nat} {A : Nat → Prop} {k pc nL N : Nat} {σ : xa_H} {rest : List Value} {key own : Nat × Nat} {dn : List Nat}
def xtl5 : List Nat := [0, 1, 2, 5, 6]
def xenv (D : va_G) (cA : Nat → ClassId) (adS S0 : Nat) (U : State) : Prop :=
  (va_K D vwCl (xtys cA xtl5) U ∧ (∀ w ∈ xnw, va_Nw w U) ∧ xstr (fun _ => adS) (fun q => S0 ≤ q) U U.heap) ∧ va_AO "SofaStair$Thing" U ∧ va_AO "SofaStair$Stair" U
def xkx (D : va_G) (cA : Nat → ClassId) (adS S0 : Nat) (A : Nat → Prop) (p : Program) (R : Room) (s : State) (m : MethodId) (args : Array Value) (meth : Method) (c : Code) (k : Nat) : Prop :=
  (p.tables.exec = Jvm.exec ∧ c.code = xmB k ∧ c.maxLocals = xmL k ∧ s.vm.findClass (xmO k) = some m.cls) ∧ (∀ w ∈ xw, w.before args s = true) ∧ xenv D cA adS S0 s ∧ (meth.name = "<init>" ∧ (∀ q : Nat, s.heap.size ≤ q → A q) ∧ ∀ q : Nat, A q → S0 ≤ q) ∧ (meth.sig.returnType = xmR k ∧ meth.locks = false) ∧ xmF k ≤ R.frames ∧ xmW k ≤ R.locals
theorem xra_eq {U : State} {c1 c2 : ClassId} {ty : FieldType} (h1 : va_RA U c1 ty) (h2 : va_RA U c2 ty) : c1 = c2 := by
  cases ty with
  | object C =>
    obtain ⟨_, _, _, _, _, e1⟩ := h1
    obtain ⟨_, _, _, _, _, e2⟩ := h2
    exact Option.some.inj (e1.symm.trans e2)
  | _ => exact Option.some.inj (Eq.trans (Eq.symm h1) h2)
theorem xra_ty {U : State} {t : Nat} {c2 : ClassId} (ht : t ∈ xtl5) (hK : va_K D vwCl (xtys cA xtl5 ++ [(c2, xtyp t)]) U) : c2 = cA t := by
  obtain ⟨n, hn⟩ := xtys_get (cA := cA) ht
  have hl : n < (xtys cA xtl5).length := (List.getElem?_eq_some_iff.mp hn).1
  have h1 := (hK.2 n (cA t, xtyp t) (by rw [List.getElem?_append_left hl]; exact hn)).2
  have h2 := (hK.2 (xtys cA xtl5).length (c2, xtyp t) (by rw [List.getElem?_append_right (Nat.le_refl _), Nat.sub_self]; rfl)).2
  exact xra_eq h2 h1
theorem ct_newa (C : xkx D cA adS S0 A p R s m args meth c k) (h : xcw D cA A adS os ids ad σ H) (hS : va_S A s.heap H locs) {t : Nat} {att : ArrayType} (ht : newarray.typeOf att = xtyp t ∧ (t = 0 ∨ t = 1 ∨ t = 2)) (hk : key ∉ xkeys os ids)
    (hk9 : key.1 < 99 ∧ 10 ≤ key.1 ∧ xaty key.1 = t ∧ xalen key.1 = N) (hz : ∀ j, σ key.1 key.2 j = 0) (hdg : decode (xmB k) pc = .ok (.newarray att, 2)) {v : Int32} (hv : ¬ v < 0 ∧ v.toNatClampNeg = N ∧ N < 60000000) (hr : cells + 1 ≤ R.cells ∧ slots + N ≤ R.slots)
    (kk : ∀ ad2 H1, (∀ x, x ≠ key → ad2 x = ad x) → xcw D cA A adS os (ids ++ [key]) ad2 σ H1 → va_S A s.heap H1 locs → W p l e R s m args below meth c H1 locs (cells + 1) (slots + N) Q (F0 m (pc + 2) ls (.ref (ad2 key) :: rest))) :
    W p l e R s m args below meth c H locs cells slots Q (F0 m pc ls (.int v :: rest)) := by
  obtain ⟨⟨hx, hb, -, -⟩, hts, ⟨⟨hK, -, -⟩, -⟩, ⟨-, hA, -⟩, -, -, -⟩ := C
  have hz0 : σ key.1 key.2 = fun _ => 0 := funext hz
  have hn3 : ∀ s', ¬ xfty key.1 s' = 3 ∧ ¬ xfty key.1 s' = 4 := by
    intro s'
    have : xftl key.1 = [] := by
      unfold xftl
      rw [List.getD_eq_getElem?_getD, List.getElem?_eq_none (by simp; omega)]
      rfl
    unfold xfty
    rw [this]
    exact ⟨by simp, by simp⟩
  have fin : ∀ (a0 : vp_A), (∀ ad2 : Nat × Nat → Nat, xent cA ad2 key (σ key.1 key.2) = .inl (cA t, a0)) → ∀ (q : Nat) (cA' : ClassId) (H1 : Heap), va_K D vwCl (xtys cA xtl5 ++ [(cA', xtyp t)]) s → va_P D vwCl (xwo cA os ids ad σ ++ [(q, .inl (cA', a0))]) H1 → va_D A (xwo cA os ids ad σ ++ [(q, .inl (cA', a0))]) → va_S A s.heap H1 locs → W p l e R s m args below meth c H1 locs (cells + 1) (slots + N) Q (F0 m (pc + 2) ls (.ref q :: rest)) := by
    intro a0 ha0 q cA' H1 hK1 hP hD hS1
    have hc := xra_ty (by rcases ht.2 with rfl | rfl | rfl <;> decide) hK1
    subst hc
    obtain ⟨ad2, e1, e2, h2⟩ := xcw_new h hP hD hk hk9.1 (by rw [hk9.2.2.1]; exact ht.2) hn3 ha0
    rw [← e2]
    exact kk ad2 H1 e1 h2 hS1
  have hby : ∀ ty : FieldType, N * componentBytes ty ≤ 536870912 := by
    intro ty
    have : componentBytes ty ≤ 8 := by cases ty <;> exact Nat.le_of_ble_eq_true rfl
    have := Nat.mul_le_mul_left N this
    omega
  rcases ht.2 with rfl | rfl | rfl
  · refine va_newa (a0 := (N, .inl (fun _ => 0))) hx hb (hts _ (by rw [ht.1]; exact xw_in (i := 118) rfl rfl)) ht.1 hK h.1 h.2.1 hS hA (fun _ => rfl) hv.1 hv.2.1 (hby _) hr.1 hr.2 hdg (fin _ (fun ad2 => ?_))
    rw [xent_arr (Or.inl hk9.2.2.1), hz0, hk9.2.2.1, hk9.2.2.2]
    rfl
  · refine va_newa (a0 := (N, .inl (fun _ => 0))) hx hb (hts _ (by rw [ht.1]; exact (by decide +kernel : Cond.arrayClass .boolean ∈ xw))) ht.1 hK h.1 h.2.1 hS hA (fun _ => rfl) hv.1 hv.2.1 (hby _) hr.1 hr.2 hdg (fin _ (fun ad2 => ?_))
    rw [xent_arr (Or.inr hk9.2.2.1), hz0, hk9.2.2.1, hk9.2.2.2]
    rfl
  · refine va_newa (a0 := (N, .inr (.inl (fun _ => 0)))) hx hb (hts _ (by rw [ht.1]; exact (by decide +kernel : Cond.arrayClass .long ∈ xw))) ht.1 hK h.1 h.2.1 hS hA (fun _ => rfl) hv.1 hv.2.1 (hby _) hr.1 hr.2 hdg (fin _ (fun ad2 => ?_))
    rw [xent_long hk9.2.2.1, hz0, hk9.2.2.1, hk9.2.2.2]
    rfl
theorem ct_newq (C : xkx D cA adS S0 A p R s m args meth c k) (h : xcw D cA A adS os ids ad σ H) (hS : va_S A s.heap H locs) {t ix : Nat} {Cn : String} (ht : (t = 5 ∧ Cn = "SofaStair$Thing") ∨ (t = 6 ∧ Cn = "SofaStair$Stair")) (hcl : Cond.classLink (xmO k) ix Cn ∈ xw) (hk : key ∉ xkeys os ids)
    (hk9 : key.1 < 99 ∧ 10 ≤ key.1 ∧ xaty key.1 = t ∧ xalen key.1 = N) (hdg : decode (xmB k) pc = .ok (.anewarray ix, 3)) {v : Int32} (hv : ¬ v < 0 ∧ v.toNatClampNeg = N ∧ N < 60000000) (hr : cells + 1 ≤ R.cells ∧ slots + N ≤ R.slots)
    (kk : ∀ ad2 H1, (∀ x, x ≠ key → ad2 x = ad x) → xcw D cA A adS (os ++ [(key, [])]) ids ad2 σ H1 → va_S A s.heap H1 locs → W p l e R s m args below meth c H1 locs (cells + 1) (slots + N) Q (F0 m (pc + 3) ls (.ref (ad2 key) :: rest))) :
    W p l e R s m args below meth c H locs cells slots Q (F0 m pc ls (.int v :: rest)) := by
  obtain ⟨⟨hx, hb, -, hown⟩, hts, ⟨⟨hK, -, -⟩, hO1, hO2⟩, ⟨-, hA, -⟩, -, -, -⟩ := C
  have h9 : ¬ xaty key.1 = 9 := by omega
  have ht5 : t ∈ xtl5 ∧ xtyp t = .object Cn := by
    rcases ht with ⟨rfl, rfl⟩ | ⟨rfl, rfl⟩
    · exact ⟨by decide, rfl⟩
    · exact ⟨by decide, rfl⟩
  have hO : va_AO Cn s := by
    rcases ht with ⟨-, rfl⟩ | ⟨-, rfl⟩
    · exact hO1
    · exact hO2
  refine va_newq hx hb hown (hts _ hcl) hO hK h.1 h.2.1 hS hA hv.1 hv.2.1 (by omega) hr.1 hr.2 hdg (fun q cA' H1 hK1 hP hD hS1 => ?_)
  rw [← ht5.2] at hK1
  have hc := xra_ty ht5.1 hK1
  subst hc
  have hn4 : ∀ s', xfty key.1 s' = 4 → σ key.1 key.2 s' < 0 := by
    intro s' h4
    have : xftl key.1 = [] := by
      unfold xftl
      rw [List.getD_eq_getElem?_getD, List.getElem?_eq_none (by simp; omega)]
      rfl
    unfold xfty at h4
    rw [this] at h4
    exact absurd h4 (by simp)
  obtain ⟨ad2, e1, e2, h2⟩ := xcw_newo h hP hD hk hk9.1 hn4 (fun ad2 => by
    unfold xoe
    rw [if_neg h9]
    show (_ : va_E) = _
    rw [hk9.2.2.1, hk9.2.2.2]
    simp)
  rw [← e2]
  exact kk ad2 H1 e1 h2 hS1
theorem ct_new (C : xkx D cA adS S0 A p R s m args meth c k) (h : xcw D cA A adS os ids ad σ H) (hS : va_S A s.heap H locs) {X i ix : Nat} (hX : X < 10) (hcl : Cond.classLink (xmO k) ix (xcl X).1 ∈ xw) (hin : Cond.instantiable (xcl X).1 (xcl X).2.2 ∈ xw ∧ Cond.initialized (xcl X).1 ∈ xw) (hk : (X, i) ∉ xkeys os ids) (h4 : ∀ s', xfty X s' = 4 → σ X i s' < 0)
    (hdg : decode (xmB k) pc = .ok (.new ix, 3)) (hr : cells + 1 ≤ R.cells ∧ slots + (xcl X).2.2 ≤ R.slots)
    (kk : ∀ ad2 H1, (∀ x, x ≠ (X, i) → ad2 x = ad x) → xcw D cA A adS (os ++ [((X, i), [])]) ids ad2 σ H1 → va_S A s.heap H1 locs → W p l e R s m args below meth c H1 locs (cells + 1) (slots + (xcl X).2.2) Q (F0 m (pc + 3) ls (.ref (ad2 (X, i)) :: rest))) :
    W p l e R s m args below meth c H locs cells slots Q (F0 m pc ls rest) := by
  obtain ⟨⟨hx, hb, -, hown⟩, hts, ⟨⟨hK, -, -⟩, -⟩, ⟨-, hA, -⟩, -, -, -⟩ := C
  refine va_new (ci := X) (fs := (List.range (xcl X).2.2).map (xdf X)) hx hb hts (xu_mem hX) _ (xu_ty X hX) hown (hts _ hcl) (hts _ hin.1) (hts _ hin.2) hK h.1 h.2.1 hS hA (xcl_at X hX) (fun j hj => ?_) hr.1 hr.2 hdg (fun q H1 hP hD hS1 => ?_)
  · unfold vp_V
    rw [List.getD_eq_getElem?_getD, List.getElem?_map, List.getElem?_range hj]
    rfl
  · obtain ⟨ad2, e1, e2, h2⟩ := xcw_newo h hP hD hk (by show X < 99; omega) h4 (fun ad2 => by
      unfold xoe
      rw [if_pos (xaty_obj X hX)]
      simp)
    rw [← e2]
    exact kk ad2 H1 e1 h2 hS1
theorem ct_obj {ix : Nat} (C : xkx D cA adS S0 A p R s m args meth c k) (hls : ls.size = xmL k) (hl : Cond.methodLink (xmO k) ix Lib.objectInit ∈ xw) (hroom : 1 ≤ xmF k ∧ 12 ≤ xmW k) {a : Nat} (hdg : decode (xmB k) pc = .ok (.invokespecial ix, 3))
    (kk : W p l e R s m args below meth c H locs cells slots Q (F0 m (pc + 3) ls [])) : W p l e R s m args below meth c H locs cells slots Q (F0 m pc ls [.ref a]) := by
  obtain ⟨⟨hx, hb, hml, hown⟩, hts, -, -, -, hF, hW⟩ := C
  exact W.objInit hx hb hown (hts _ hl) (hts _ (by decide +kernel)) (hts _ (xw_in (i := 102) rfl rfl)) rfl (by rw [hml]; exact hls) rfl hdg (by omega) (by show 2 * 0 + 0 + 12 ≤ R.locals; omega) kk
theorem xrset {n y : Nat} {g : Nat → Value} {v : Value} : ((List.range n).map g).set y v = (List.range n).map (fun s => if s = y then v else g s) := by
  apply List.ext_getElem (by simp)
  intro i h1 h2
  rw [List.getElem_set, List.getElem_map, List.getElem_map, List.getElem_range]
  by_cases h : y = i
  · rw [if_pos h, if_pos h.symm]
  · rw [if_neg h, if_neg (fun e => h e.symm)]
theorem xwo_at {o : (Nat × Nat) × List Nat} : (xwo cA (o1 ++ o :: o2) ids ad σ)[o1.length]? = some (ad o.1, xoe cA ad σ o) := by
  unfold xwo
  rw [List.map_append, List.append_assoc, List.getElem?_append_right (by simp)]
  simp
theorem xoe_o {K i : Nat} (h : K < 10) : xoe cA ad σ ((K, i), dn) = .inr (K, (List.range (xcl K).2.2).map (fun s => if s ∈ dn then xfv ad (K, i) (σ K i) s else xdf K s)) := by
  unfold xoe
  rw [if_pos (xaty_obj K h)]
theorem ct_put (C : xkx D cA adS S0 A p R s m args meth c k) {K i : Nat} (h : xcw D cA A adS (o1 ++ ((K, i), dn) :: o2) ids ad σ H) (hS : va_S A s.heap H locs) {y ix : Nat} (hK : K < 10 ∧ (xcl K).1 = xmO k ∧ y < (xcl K).2.2) (hlk : Cond.fieldLink (xmO k) ix (xcl K).1 ((xcl K).2.1 y).2.1 ((xcl K).2.1 y).2.2.1 ∈ xw)
    (hdg : decode (xmB k) pc = .ok (.putfield ix, 3)) {v : Value} (hv : v = xfv ad (K, i) (σ K i) y) (hnr : narrow (xuty ((xcl K).2.1 y).2.2.1) v = v) (hfi : fits (xuty ((xcl K).2.1 y).2.2.1) v = true) (h3 : xfty K y = 3 → xsr K i y ∈ xkeys (o1 ++ ((K, i), dn) :: o2) ids)
    (kk : ∀ H1 locs1, xcw D cA A adS (o1 ++ ((K, i), y :: dn) :: o2) ids ad σ H1 → va_S A s.heap H1 locs1 → W p l e R s m args below meth c H1 locs1 cells slots Q (F0 m (pc + 3) ls rest)) :
    W p l e R s m args below meth c H locs cells slots Q (F0 m pc ls (v :: .ref (ad (K, i)) :: rest)) := by
  obtain ⟨⟨hx, hb, -, hown⟩, hts, ⟨⟨hKK, -, -⟩, -⟩, ⟨hin, -⟩, -, -, -⟩ := C
  have he := xwo_at (cA := cA) (ad := ad) (σ := σ) (o1 := o1) (o2 := o2) (ids := ids) (o := ((K, i), dn))
  rw [xoe_o hK.1] at he
  have hfun : xoe cA ad σ ((K, i), y :: dn) = .inr (K, ((List.range (xcl K).2.2).map (fun s => if s ∈ dn then xfv ad (K, i) (σ K i) s else xdf K s)).set y v) := by
    rw [xoe_o hK.1, xrset]
    congr 2
    apply List.map_congr_left
    intro s' _
    by_cases h1 : s' = y
    · rw [if_pos h1, if_pos (by simp [h1]), h1, hv]
    · rw [if_neg h1]
      by_cases h2 : s' ∈ dn
      · rw [if_pos h2, if_pos (by simp [h2])]
      · rw [if_neg h2, if_neg (by simp [h1, h2])]
  have fin : ∀ (H1 : Heap) (locs1 : List Loc), va_P D vwCl ((xwo cA (o1 ++ ((K, i), dn) :: o2) ids ad σ).set o1.length (ad (K, i), .inr (K, ((List.range (xcl K).2.2).map (fun s => if s ∈ dn then xfv ad (K, i) (σ K i) s else xdf K s)).set y v))) H1 → va_D A ((xwo cA (o1 ++ ((K, i), dn) :: o2) ids ad σ).set o1.length (ad (K, i), .inr (K, ((List.range (xcl K).2.2).map (fun s => if s ∈ dn then xfv ad (K, i) (σ K i) s else xdf K s)).set y v))) → va_S A s.heap H1 locs1 → W p l e R s m args below meth c H1 locs1 cells slots Q (F0 m (pc + 3) ls rest) := by
    intro H1 locs1 hP hD hS1
    exact kk H1 locs1 (xcw_give h rfl hP hfun (fun _ => h3) (fun h9 => absurd (xaty_obj K hK.1) h9)) hS1
  cases hf : ((xcl K).2.1 y).2.2.2 with
  | false => exact va_put (D := D) (ci := K) (C := (xcl K).1) (T := (xcl K).2.1) (N := (xcl K).2.2) (own := xmO k) (ref := (xcl K).1) hx hb hts (xu_mem hK.1) _ (xu_ty K hK.1) (xu_nm K hK.1) hown hKK h.1 h.2.1 hS o1.length he (xcl_at K hK.1) y hK.2.2 (hts _ hlk) (fun x h => by rw [xu_own K hK.1 y hK.2.2] at h; exact h) hf (xu_ty K hK.1 y hK.2.2) hnr hfi (by simpa using hK.2.2) hdg fin
  | true => exact va_putF (D := D) (ci := K) (C := (xcl K).1) (T := (xcl K).2.1) (N := (xcl K).2.2) (own := xmO k) (ref := (xcl K).1) hx hb hts (xu_mem hK.1) _ (xu_ty K hK.1) (xu_nm K hK.1) hown hKK h.1 h.2.1 hS o1.length he (xcl_at K hK.1) y hK.2.2 (hts _ hlk) (fun x h => by rw [xu_own K hK.1 y hK.2.2] at h; exact h) hf hin (by rw [xu_own K hK.1 y hK.2.2]; exact hK.2.1) (xu_ty K hK.1 y hK.2.2) hnr hfi (by simpa using hK.2.2) hdg fin
theorem xrefs : ∀ K, K < 10 → ∀ y, y < (xcl K).2.2 → xfty K y = 3 → xisref (some (xuty ((xcl K).2.1 y).2.2.1)) = true := by decide +kernel
theorem xref_nf {ty : FieldType} (h : xisref (some ty) = true) (a : Nat) : narrow ty (.ref a) = .ref a ∧ fits ty (.ref a) = true := by
  cases ty with
  | object C => exact ⟨rfl, rfl⟩
  | array t => exact ⟨rfl, rfl⟩
  | _ => exact absurd h (by decide)
/-- a cell is given to a field -/
theorem ct_putr (C : xkx D cA adS S0 A p R s m args meth c k) {K i : Nat} (h : xcw D cA A adS (o1 ++ ((K, i), dn) :: o2) ids ad σ H) (hS : va_S A s.heap H locs) {y ix : Nat} (hK : K < 10 ∧ (xcl K).1 = xmO k ∧ y < (xcl K).2.2) (hlk : Cond.fieldLink (xmO k) ix (xcl K).1 ((xcl K).2.1 y).2.1 ((xcl K).2.1 y).2.2.1 ∈ xw)
    (hdg : decode (xmB k) pc = .ok (.putfield ix, 3)) (h3 : xfty K y = 3) {q : Nat × Nat} (hq : xsr K i y = q) (hm : q ∈ xkeys (o1 ++ ((K, i), dn) :: o2) ids)
    (kk : ∀ H1 locs1, xcw D cA A adS (o1 ++ ((K, i), y :: dn) :: o2) ids ad σ H1 → va_S A s.heap H1 locs1 → W p l e R s m args below meth c H1 locs1 cells slots Q (F0 m (pc + 3) ls rest)) :
    W p l e R s m args below meth c H locs cells slots Q (F0 m pc ls (.ref (ad q) :: .ref (ad (K, i)) :: rest)) := by
  obtain ⟨h1, h2⟩ := xref_nf (xrefs K hK.1 y hK.2.2 h3) (ad q)
  exact ct_put C h hS hK hlk hdg (by unfold xfv; rw [if_pos h3]; show _ = Value.ref (ad (xsr K i y)); rw [hq]) h1 h2 (fun _ => by rw [hq]; exact hm) kk
/-- a number is given to a field -/
theorem ct_puti (C : xkx D cA adS S0 A p R s m args meth c k) {K i : Nat} (h : xcw D cA A adS (o1 ++ ((K, i), dn) :: o2) ids ad σ H) (hS : va_S A s.heap H locs) {y ix : Nat} (hK : K < 10 ∧ (xcl K).1 = xmO k ∧ y < (xcl K).2.2) (hlk : Cond.fieldLink (xmO k) ix (xcl K).1 ((xcl K).2.1 y).2.1 ((xcl K).2.1 y).2.2.1 ∈ xw)
    (hdg : decode (xmB k) pc = .ok (.putfield ix, 3)) (h0 : xfty K y = 0) {v : Int32} (hq : Int32.ofInt (σ K i y) = v)
    (kk : ∀ H1 locs1, xcw D cA A adS (o1 ++ ((K, i), y :: dn) :: o2) ids ad σ H1 → va_S A s.heap H1 locs1 → W p l e R s m args below meth c H1 locs1 cells slots Q (F0 m (pc + 3) ls rest)) :
    W p l e R s m args below meth c H locs cells slots Q (F0 m pc ls (.int v :: .ref (ad (K, i)) :: rest)) := by
  refine ct_put C h hS hK hlk hdg ?_ ?_ ?_ (fun h3 => absurd (h0.symm.trans h3) (by decide)) kk
  · unfold xfv
    rw [if_neg (by show ¬ xfty K y = 3; omega), if_neg (by show ¬ xfty K y = 4; omega), hq]
  · rw [xu_0 K hK.1 y hK.2.2 h0]; rfl
  · rw [xu_0 K hK.1 y hK.2.2 h0]; rfl
theorem ct_get (C : xkx D cA adS S0 A p R s m args meth c k) {K i : Nat} (h : xcw D cA A adS (o1 ++ ((K, i), dn) :: o2) ids ad σ H) {y ix : Nat} (hK : K < 10 ∧ y < (xcl K).2.2) (hlk : Cond.fieldLink (xmO k) ix (xcl K).1 ((xcl K).2.1 y).2.1 ((xcl K).2.1 y).2.2.1 ∈ xw)
    (hdg : decode (xmB k) pc = .ok (.getfield ix, 3)) (h3 : xfty K y = 3) (hy : y ∈ dn) {q : Nat × Nat} (hq : xsr K i y = q)
    (kk : W p l e R s m args below meth c H locs cells slots Q (F0 m (pc + 3) ls (.ref (ad q) :: rest))) :
    W p l e R s m args below meth c H locs cells slots Q (F0 m pc ls (.ref (ad (K, i)) :: rest)) := by
  obtain ⟨⟨hx, hb, -, hown⟩, hts, ⟨⟨hKK, -, -⟩, -⟩, -, -, -, -⟩ := C
  have he := xwo_at (cA := cA) (ad := ad) (σ := σ) (o1 := o1) (o2 := o2) (ids := ids) (o := ((K, i), dn))
  rw [xoe_o hK.1] at he
  refine va_get (D := D) (ci := K) (C := (xcl K).1) (T := (xcl K).2.1) (N := (xcl K).2.2) (own := xmO k) (ref := (xcl K).1) hx hb hts (xu_mem hK.1) hown hKK h.1 o1.length he (xcl_at K hK.1) y hK.2 (hts _ hlk) (fun x h => by rw [xu_own K hK.1 y hK.2] at h; exact h) ?_ hdg kk
  rw [List.getElem?_map, List.getElem?_range hK.2]
  show some (if y ∈ dn then xfv ad (K, i) (σ K i) y else xdf K y) = some (Value.ref (ad q))
  rw [if_pos hy]
  unfold xfv
  rw [if_pos h3]
  show some (Value.ref (ad (xsr K i y))) = _
  rw [hq]
theorem ct_getc (C : xkx D cA adS S0 A p R s m args meth c k) {K i : Nat} (h : xcw D cA A adS os ids ad σ H) (hm : (K, i) ∈ ids) {y ix : Nat} (hK : K < 10 ∧ y < (xcl K).2.2) (hlk : Cond.fieldLink (xmO k) ix (xcl K).1 ((xcl K).2.1 y).2.1 ((xcl K).2.1 y).2.2.1 ∈ xw ∨ Cond.fieldLinkNest (xmO k) ix (xcl K).1 ((xcl K).2.1 y).2.1 ((xcl K).2.1 y).2.2.1 "SofaStair" ∈ xnw)
    (hdg : decode (xmB k) pc = .ok (.getfield ix, 3)) (h3 : xfty K y = 3) {q : Nat × Nat} (hq : xsr K i y = q)
    (kk : W p l e R s m args below meth c H locs cells slots Q (F0 m (pc + 3) ls (.ref (ad q) :: rest))) :
    W p l e R s m args below meth c H locs cells slots Q (F0 m pc ls (.ref (ad (K, i)) :: rest)) := by
  obtain ⟨⟨hx, hb, -, hown⟩, hts, ⟨⟨hKK, hN, -⟩, -⟩, -, -, -, -⟩ := C
  obtain ⟨n, -, he⟩ := xwl_get (cA := cA) (ad := ad) (σ := σ) hm
  have he2 : (xwo cA os ids ad σ)[os.length + n]? = some (ad (K, i), .inr (K, (List.range (xcl K).2.2).map (xfv ad (K, i) (σ K i)))) := by
    unfold xwo
    rw [List.getElem?_append_right (by simp), List.length_map, Nat.add_sub_cancel_left, he, xent_obj (q := (K, i)) (xaty_obj K hK.1)]
  have hv : ((List.range (xcl K).2.2).map (xfv ad (K, i) (σ K i)))[y]? = some (Value.ref (ad q)) := by
    rw [List.getElem?_map, List.getElem?_range hK.2]
    show some (xfv ad (K, i) (σ K i) y) = _
    unfold xfv
    rw [if_pos h3]
    show some (Value.ref (ad (xsr K i y))) = _
    rw [hq]
  rcases hlk with hlk | hlk
  · exact va_get (D := D) (ci := K) (C := (xcl K).1) (T := (xcl K).2.1) (N := (xcl K).2.2) (own := xmO k) (ref := (xcl K).1) hx hb hts (xu_mem hK.1) hown hKK h.1 _ he2 (xcl_at K hK.1) y hK.2 (hts _ hlk) (fun x h => by rw [xu_own K hK.1 y hK.2] at h; exact h) hv hdg kk
  · exact va_getN (D := D) (ci := K) (C := (xcl K).1) (T := (xcl K).2.1) (N := (xcl K).2.2) (own := xmO k) (ref := (xcl K).1) (host := "SofaStair") hx hb hts (xu_mem hK.1) hown hKK h.1 _ he2 (xcl_at K hK.1) y hK.2 (va_Nw.use rfl (hN _ hlk)) (fun x h => by rw [xu_own K hK.1 y hK.2] at h; exact h) hv hdg kk
/-- a cell is given to a place -/
theorem ct_ast (C : xkx D cA adS S0 A p R s m args meth c k) {arr q : Nat × Nat} {dj : List Nat} (h : xcw D cA A adS (o1 ++ (arr, dj) :: o2) ids ad σ H) (hS : va_S A s.heap H locs) (harr : (xaty arr.1 = 5 ∧ q.1 = 5) ∨ (xaty arr.1 = 6 ∧ q.1 = 4)) (hm : q ∈ ids) {j : Nat} {iv : Int32} (hj : vp_in iv (xalen arr.1)) (hij : iv.toNatClampNeg = j) (hX : xar arr.1 arr.2 j = q) (hdg : decode (xmB k) pc = .ok (.aastore, 1))
    (kk : ∀ H1 locs1, xcw D cA A adS (o1 ++ (arr, j :: dj) :: o2) ids ad σ H1 → va_S A s.heap H1 locs1 → W p l e R s m args below meth c H1 locs1 cells slots Q (F0 m (pc + 1) ls rest)) :
    W p l e R s m args below meth c H locs cells slots Q (F0 m pc ls (.ref (ad q) :: .int iv :: .ref (ad arr) :: rest)) := by
  obtain ⟨⟨hx, hb, -, hown⟩, hts, ⟨⟨hKK, hN, -⟩, -⟩, -, -, -, -⟩ := C
  obtain ⟨n, -, hen⟩ := xwl_get (cA := cA) (ad := ad) (σ := σ) hm
  have h9 : ¬ xaty arr.1 = 9 := by omega
  have hq10 : q.1 < 10 := by omega
  have he2 : (xwo cA (o1 ++ (arr, dj) :: o2) ids ad σ)[(o1 ++ (arr, dj) :: o2).length + n]? = some (ad q, .inr (q.1, (List.range (xcl q.1).2.2).map (xfv ad q (σ q.1 q.2)))) := by
    unfold xwo
    rw [List.getElem?_append_right (by simp), List.length_map, Nat.add_sub_cancel_left, hen, xent_obj (xaty_obj q.1 hq10)]
  have he := xwo_at (cA := cA) (ad := ad) (σ := σ) (o1 := o1) (o2 := o2) (ids := ids) (o := (arr, dj))
  have hxo : ∀ dd, xoe cA ad σ (arr, dd) = .inl (cA (xaty arr.1), xalen arr.1, .inr (.inr (.inr (.inr (fun j => if j ∈ dd then some (ad (xar arr.1 arr.2 j)) else none))))) := fun dd => by
    unfold xoe
    rw [if_neg h9]
  rw [hxo] at he
  obtain ⟨t0, ht0⟩ : ∃ t0 : Nat, (xtys cA xtl5)[t0]? = some (cA (xaty arr.1), .object (xcl q.1).1) := by
    rcases harr with ⟨h1, h2⟩ | ⟨h1, h2⟩
    · obtain ⟨t0, h⟩ := xtys_get (cA := cA) (t := 5) (tyl := xtl5) (by decide)
      exact ⟨t0, by rw [h1, h2, h]; rfl⟩
    · obtain ⟨t0, h⟩ := xtys_get (cA := cA) (t := 6) (tyl := xtl5) (by decide)
      exact ⟨t0, by rw [h1, h2, h]; rfl⟩
  refine va_astq hx hb hKK h.1 h.2.1 hS o1.length t0 _ q.1 he ht0 he2 (xcl_at _ hq10) hj hdg (fun H1 locs1 hP hD hS1 => ?_)
  refine kk H1 locs1 (xcw_give h rfl hP ?_ (fun h => absurd h h9) (fun _ => by rw [hX]; exact List.mem_append_right _ hm)) hS1
  rw [hxo, hij]
  have e : (fun j' => if j' ∈ j :: dj then some (ad (xar arr.1 arr.2 j')) else none) = va_up (fun j => if j ∈ dj then some (ad (xar arr.1 arr.2 j)) else none) j (some (ad q)) := by
    funext j'
    unfold va_up
    by_cases h1 : j' = j
    · rw [if_pos h1, if_pos (by simp [h1]), h1, hX]
    · rw [if_neg h1]
      show _ = if j' ∈ dj then some (ad (xar arr.1 arr.2 j')) else none
      by_cases h2 : j' ∈ dj
      · rw [if_pos h2, if_pos (by simp [h2])]
      · rw [if_neg h2, if_neg (by simp [h1, h2])]
  rw [e]
end XCT
