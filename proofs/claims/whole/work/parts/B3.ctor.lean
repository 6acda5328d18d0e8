/-! constructors: rows of arrays -/
def xatt (t : Nat) : ArrayType := if t = 0 then .int else if t = 1 then .boolean else .long
noncomputable def xpsb (k pc L N : Nat) : Bool :=
  (decide (decode (xmB k) pc = .ok (.iconst (N : Int), 1)) && decide (L = 1)) || (decide (decode (xmB k) pc = .ok (.bipush (N : Int), 2)) && decide (L = 2) && decide ((Int8.ofInt (N : Int)).toInt32 = Int32.ofInt (N : Int))) ||
    (decide (decode (xmB k) pc = .ok (.sipush (N : Int), 3)) && decide (L = 3) && decide ((Int16.ofInt (N : Int)).toInt32 = Int32.ofInt (N : Int)))
/-- a row: the length of the push, the array's length, the field's number in the pool, its slot, its kind -/
noncomputable def xrwb (k K : Nat) (r : Nat × Nat × Nat × Nat × Nat) (pc : Nat) : Bool :=
  decide (decode (xmB k) pc = .ok (.aload_n 0, 1)) && xpsb k (pc + 1) r.1 r.2.1 && decide (decode (xmB k) (pc + 1 + r.1) = .ok (.newarray (xatt r.2.2.2.2), 2)) && decide (decode (xmB k) (pc + 3 + r.1) = .ok (.putfield r.2.2.1, 3)) &&
  decide (r.2.2.2.1 < (xcl K).2.2) && decide (xfty K r.2.2.2.1 = 3) && decide (Cond.fieldLink (xmO k) r.2.2.1 (xcl K).1 ((xcl K).2.1 r.2.2.2.1).2.1 ((xcl K).2.1 r.2.2.2.1).2.2.1 ∈ xw) &&
  decide ((xsr K 0 r.2.2.2.1).1 < 99 ∧ 10 ≤ (xsr K 0 r.2.2.2.1).1 ∧ xaty (xsr K 0 r.2.2.2.1).1 = r.2.2.2.2 ∧ xalen (xsr K 0 r.2.2.2.1).1 = r.2.1) && decide (r.2.2.2.2 < 3 ∧ r.2.1 < 60000000) &&
  decide (¬ Int32.ofInt (r.2.1 : Int) < 0) && decide ((Int32.ofInt (r.2.1 : Int)).toNatClampNeg = r.2.1)
noncomputable def xrws (k K : Nat) : List (Nat × Nat × Nat × Nat × Nat) → Nat → Nat → Bool
  | [], pc, pcE => decide (pc = pcE)
  | r :: rs, pc, pcE => xrwb k K r pc && xrws k K rs (pc + 6 + r.1) pcE
section XCV
variable {p : Program} {l : Launch} {e : Env} {R : Room} {s : State} {m : MethodId} {args : Array Value} {below : List Frame} {meth : Method} {c : Code} {H : Heap} {locs : List Loc} {cells slots : Nat} {ls : Array Slot} {Q : State → Prop}
variable {D : va_G} {cA : Nat → ClassId} {adS S0 : Nat} {os o1 o2 : List ((Nat × Nat) × List Nat)} {ids idA idR idU : List (Nat × Nat)} {ad : Nat × Nat → Nat} {A : Nat → Prop} {k pc nL N : Nat} {σ σX σF : xa_H} {rest : List Value} {key own : Nat × Nat} {dn : List Nat}
theorem ct_push {L : Nat} (C : xkx D cA adS S0 A p R s m args meth c k) (hp : xpsb k pc L N = true)
    (kk : W p l e R s m args below meth c H locs cells slots Q (F0 m (pc + L) ls (.int (Int32.ofInt (N : Int)) :: rest))) : W p l e R s m args below meth c H locs cells slots Q (F0 m pc ls rest) := by
  obtain ⟨⟨hx, hb, -, -⟩, -⟩ := C
  unfold xpsb at hp
  simp only [Bool.or_eq_true, Bool.and_eq_true, decide_eq_true_eq] at hp
  rcases hp with (⟨h1, rfl⟩ | ⟨⟨h1, rfl⟩, h2⟩) | ⟨⟨h1, rfl⟩, h2⟩
  · exact lv_iconst hx hb h1 rfl kk
  · exact lv_bipush hx hb h1 h2 kk
  · exact lv_sipush hx hb h1 h2 kk
theorem ct_load (C : xkx D cA adS S0 A p R s m args meth c k) (hdg : decode (xmB k) pc = .ok (.aload_n 0, 1)) {a : Nat} (hl : ls[0]? = some (.val (.ref a)))
    (kk : W p l e R s m args below meth c H locs cells slots Q (F0 m (pc + 1) ls (.ref a :: rest))) : W p l e R s m args below meth c H locs cells slots Q (F0 m pc ls rest) := by
  obtain ⟨⟨hx, hb, -, -⟩, -⟩ := C
  exact lv_aload_n hx hb hdg rfl hl kk
theorem ct_arr {K i : Nat} {r : Nat × Nat × Nat × Nat × Nat} (C : xkx D cA adS S0 A p R s m args meth c k) (hK : K < 10 ∧ (xcl K).1 = xmO k) (h : xcw D cA A adS (((K, i), dn) :: o2) ids ad σ H) (hS : va_S A s.heap H locs) (hl : ls[0]? = some (.val (.ref (ad (K, i))))) (hr : xrwb k K r pc = true)
    (hf : xsr K i r.2.2.2.1 ∉ xkeys (((K, i), dn) :: o2) ids) (hz : ∀ j, σ (xsr K i r.2.2.2.1).1 (xsr K i r.2.2.2.1).2 j = 0) (hroom : cells + 1 ≤ R.cells ∧ slots + r.2.1 ≤ R.slots)
    (kk : ∀ ad2 H1 locs1, (∀ x, x ≠ xsr K i r.2.2.2.1 → ad2 x = ad x) → xcw D cA A adS (((K, i), r.2.2.2.1 :: dn) :: o2) (ids ++ [xsr K i r.2.2.2.1]) ad2 σ H1 → va_S A s.heap H1 locs1 → W p l e R s m args below meth c H1 locs1 (cells + 1) (slots + r.2.1) Q (F0 m (pc + 6 + r.1) ls rest)) :
    W p l e R s m args below meth c H locs cells slots Q (F0 m pc ls rest) := by
  obtain ⟨L, N, ix, y, t⟩ := r
  unfold xrwb at hr
  simp only [Bool.and_eq_true, decide_eq_true_eq] at hr
  obtain ⟨⟨⟨⟨⟨⟨⟨⟨⟨⟨d1, d2⟩, d3⟩, d4⟩, e1⟩, e2⟩, e3⟩, e4⟩, e5⟩, e6⟩, e7⟩ := hr
  have hatt : newarray.typeOf (xatt t) = xtyp t ∧ (t = 0 ∨ t = 1 ∨ t = 2) := by
    have h3 := e5.1
    have : t = 0 ∨ t = 1 ∨ t = 2 := by omega
    refine ⟨?_, this⟩
    rcases this with rfl | rfl | rfl <;> rfl
  refine ct_load C d1 hl ?_
  refine ct_push C d2 ?_
  refine ct_newa (key := xsr K i y) (N := N) C h hS hatt hf e4 hz (by exact d3) ⟨e6, e7, e5.2⟩ hroom (fun ad2 H1 ha h1 hS1 => ?_)
  have hK10 : (K, i) ≠ xsr K i y := by
    intro e
    have : K = (xsr K i y).1 := by rw [← e]
    have h2 : 10 ≤ (xsr K i y).1 := e4.2.1
    omega
  rw [show pc + 1 + L + 2 = pc + 3 + L by omega, show (Value.ref (ad (K, i))) = .ref (ad2 (K, i)) by rw [ha _ hK10]]
  refine ct_putr (o1 := []) (o2 := o2) C h1 hS1 ⟨hK.1, hK.2, e1⟩ e3 d4 e2 rfl ?_ (fun H2 locs2 h2 hS2 => ?_)
  · exact List.mem_append_right _ (List.mem_append_right _ (by simp))
  · rw [show pc + 3 + L + 3 = pc + 6 + L by omega]
    exact kk ad2 H2 locs2 ha h2 hS2
theorem ct_arrs {K i : Nat} {pcE : Nat} : ∀ (rows : List (Nat × Nat × Nat × Nat × Nat)) (pc cells slots : Nat) (dn : List Nat) (ids : List (Nat × Nat)) (ad : Nat × Nat → Nat) (H : Heap) (locs : List Loc), xkx D cA adS S0 A p R s m args meth c k → (K < 10 ∧ (xcl K).1 = xmO k) → xcw D cA A adS (((K, i), dn) :: o2) ids ad σ H → va_S A s.heap H locs → ls[0]? = some (.val (.ref (ad (K, i)))) → xrws k K rows pc pcE = true →
    (rows.map (fun r => (xsr K 0 r.2.2.2.1).1)).Nodup → (∀ q ∈ xkeys (((K, i), dn) :: o2) ids, ∀ r ∈ rows, q.1 ≠ (xsr K 0 r.2.2.2.1).1) → (∀ r ∈ rows, ∀ j, σ (xsr K i r.2.2.2.1).1 (xsr K i r.2.2.2.1).2 j = 0) → (cells + rows.length ≤ R.cells ∧ slots + (rows.map fun r => r.2.1).sum ≤ R.slots) →
    (∀ ad2 H1 locs1, (∀ x ∈ xkeys (((K, i), dn) :: o2) ids, ad2 x = ad x) → xcw D cA A adS (((K, i), (rows.map fun r => r.2.2.2.1).reverse ++ dn) :: o2) (ids ++ rows.map (fun r => xsr K i r.2.2.2.1)) ad2 σ H1 → va_S A s.heap H1 locs1 → W p l e R s m args below meth c H1 locs1 (cells + rows.length) (slots + (rows.map fun r => r.2.1).sum) Q (F0 m pcE ls rest)) →
    W p l e R s m args below meth c H locs cells slots Q (F0 m pc ls rest) := by
  intro rows
  induction rows with
  | nil =>
    intro pc cells slots dn ids ad H locs C hK h hS hl hr hn hf hz hroom kk
    have e : pc = pcE := of_decide_eq_true hr
    subst e
    have := kk ad H locs (fun _ _ => rfl) (by simpa using h) hS
    simpa using this
  | cons r rs ih =>
    intro pc cells slots dn ids ad H locs C hK h hS hl hr hn hf hz hroom kk
    unfold xrws at hr
    rw [Bool.and_eq_true] at hr
    rw [List.map_cons, List.nodup_cons] at hn
    simp only [List.length_cons, List.map_cons, List.sum_cons] at hroom kk
    have hfr : xsr K i r.2.2.2.1 ∉ xkeys (((K, i), dn) :: o2) ids := fun hm => hf _ hm r List.mem_cons_self rfl
    refine ct_arr C hK h hS hl hr.1 hfr (hz r List.mem_cons_self) (by omega) (fun ad2 H1 locs1 ha h1 hS1 => ?_)
    have hown : ad2 (K, i) = ad (K, i) := ha _ (fun e => hfr (by rw [← e]; exact List.mem_append_left _ (by simp)))
    refine ih (pc + 6 + r.1) (cells + 1) (slots + r.2.1) _ _ ad2 H1 locs1 C hK h1 hS1 (by rw [hown]; exact hl) hr.2 hn.2 (fun q hq r' hr' => ?_) (fun r' hr' => hz r' (List.mem_cons_of_mem _ hr')) (by omega) (fun ad3 H2 locs2 hb h2 hS2 => ?_)
    · have hq2 : q ∈ xkeys (((K, i), dn) :: o2) ids ∨ q = xsr K i r.2.2.2.1 := by
        unfold xkeys at hq ⊢
        simp only [List.map_cons, List.mem_append, List.mem_cons, List.not_mem_nil, or_false] at hq ⊢
        rcases hq with h | h | h
        · exact Or.inl (Or.inl h)
        · exact Or.inl (Or.inr h)
        · exact Or.inr h
      rcases hq2 with hq2 | rfl
      · exact hf q hq2 r' (List.mem_cons_of_mem _ hr')
      · intro e
        exact hn.1 (List.mem_map.mpr ⟨r', hr', e.symm⟩)
    · have := kk ad3 H2 locs2 (fun x hx => ?_) ?_ hS2
      · rw [show cells + (rs.length + 1) = cells + 1 + rs.length by omega, show slots + (r.2.1 + (rs.map fun r => r.2.1).sum) = slots + r.2.1 + (rs.map fun r => r.2.1).sum by omega] at this
        exact this
      · rw [hb x (by
          unfold xkeys at hx ⊢
          simp only [List.map_cons, List.mem_append, List.mem_cons] at hx ⊢
          rcases hx with h | h
          · exact Or.inl h
          · exact Or.inr (Or.inl h))]
        exact ha x (fun e => hfr (e ▸ hx))
      · have e : (List.map (fun r => r.2.2.2.1) rs).reverse ++ r.2.2.2.1 :: dn = (r.2.2.2.1 :: List.map (fun r => r.2.2.2.1) rs).reverse ++ dn := by
          rw [List.reverse_cons, List.append_assoc]; rfl
        rw [← e]
        rw [List.append_assoc] at h2
        exact h2
/-- a constructor's first two instructions -/
theorem ct_start {ix a : Nat} (C : xkx D cA adS S0 A p R s m args meth c k) (hls : ls.size = xmL k) (hl : ls[0]? = some (.val (.ref a))) (h : decode (xmB k) 0 = .ok (.aload_n 0, 1) ∧ decode (xmB k) 1 = .ok (.invokespecial ix, 3) ∧ Cond.methodLink (xmO k) ix Lib.objectInit ∈ xw ∧ 1 ≤ xmF k ∧ 12 ≤ xmW k)
    (kk : W p l e R s m args below meth c H locs cells slots Q (F0 m 4 ls [])) : W p l e R s m args below meth c H locs cells slots Q (F0 m 0 ls []) :=
  ct_load C h.1 hl (ct_obj C hls h.2.2.1 ⟨h.2.2.2.1, h.2.2.2.2⟩ h.2.1 kk)
end XCV
