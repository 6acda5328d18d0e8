/-! the machine follows the abstract machine: fields and rows -/
set_option maxRecDepth 100000 in
theorem xu_in : ∀ K, K < 10 → (u_ws (xcl K).1 (xcl K).2.1 (xcl K).2.2).all (fun w => decide (w ∈ xw)) = true := by decide +kernel
theorem xu_mem {K : Nat} (h : K < 10) : ∀ w ∈ u_ws (xcl K).1 (xcl K).2.1 (xcl K).2.2, w ∈ xw := fun w hw => of_decide_eq_true (List.all_eq_true.mp (xu_in K h) w hw)
theorem xu_own : ∀ K, K < 10 → ∀ y, y < (xcl K).2.2 → ((xcl K).2.1 y).1 = (xcl K).1 := by decide +kernel
def xuty (d : String) : FieldType := (parseFieldDescriptor d).getD .int
theorem xu_ty : ∀ K, K < 10 → ∀ y, y < (xcl K).2.2 → parseFieldDescriptor ((xcl K).2.1 y).2.2.1 = some (xuty ((xcl K).2.1 y).2.2.1) := by decide +kernel
theorem xu_nm : ∀ K, K < 10 → ∀ a, a < (xcl K).2.2 → ∀ b, b < (xcl K).2.2 → a ≠ b → ((xcl K).2.1 a).2.1 ≠ ((xcl K).2.1 b).2.1 := by decide +kernel
theorem xu_0 : ∀ K, K < 10 → ∀ y, y < (xcl K).2.2 → xfty K y = 0 → xuty ((xcl K).2.1 y).2.2.1 = .int := by decide +kernel
theorem xu_1 : ∀ K, K < 10 → ∀ y, y < (xcl K).2.2 → xfty K y = 1 → xuty ((xcl K).2.1 y).2.2.1 = .boolean := by decide +kernel
theorem xu_4 : ∀ K, K < 10 → ∀ y, y < (xcl K).2.2 → xfty K y = 4 → xuty ((xcl K).2.1 y).2.2.1 = .object "SofaStair$Thing" := by decide +kernel
theorem xaty_obj : ∀ K, K < 10 → xaty K = 9 := by decide +kernel
theorem xw_nest {i : Nat} {w : Jvm.Cond} (h : lw_tbl[i]? = some w) (g : xisN w = true) : w ∈ xnw := List.mem_filter.mpr ⟨List.mem_of_getElem? h, g⟩
theorem xfv_v {ad : Nat × Nat → Nat} {q : Nat × Nat} {f : Nat → Int} {y : Nat} {a : Int} : xfv ad q (fun j => if j = y then a else f j) y = xfv ad q (fun _ => a) y := by
  unfold xfv
  simp
section XSIM3
variable {p : Program} {l : Launch} {e : Env} {R : Room} {s : State} {m : MethodId} {args : Array Value} {below : List Frame} {meth : Method} {c : Code} {H : Heap} {locs : List Loc} {cells slots : Nat} {ls : Array Slot} {Q : State → Prop}
variable {D : va_G} {cA : Nat → ClassId} {tyl : List Nat} {ids : List (Nat × Nat)} {ad : Nat × Nat → Nat} {A : Nat → Prop} {k pc nL x y z ix : Nat} {L L' : xa_L} {S S' : List xa_V} {σ σ' : xa_H} {q : xa_C}
theorem xck_f_of (h : xck_f k ix x y z = true) : x < 10 ∧ y < (xcl x).2.2 ∧ (lw_tbl[z]? = some (Cond.fieldLink (xmO k) ix (xcl x).1 ((xcl x).2.1 y).2.1 ((xcl x).2.1 y).2.2.1) ∨ lw_tbl[z]? = some (Cond.fieldLinkNest (xmO k) ix (xcl x).1 ((xcl x).2.1 y).2.1 ((xcl x).2.1 y).2.2.1 "SofaStair")) := by
  unfold xck_f at h
  rw [Bool.and_eq_true, Bool.and_eq_true, Bool.or_eq_true, decide_eq_true_eq, decide_eq_true_eq] at h
  exact ⟨Nat.blt_eq.mp h.1.2, Nat.blt_eq.mp h.2, h.1.1⟩
theorem xsg_get (C : xcx D cA tyl ids ad A p R s m args meth c k) (hlk : xck_f k ix x y z = true) (hdg : decode (xmB k) pc = .ok (.getfield ix, 3))
    (Y : xdy D cA ids ad A s H locs ls nL L S σ) (hst : xs_getf x y pc L S σ = some q)
    (kk : ∀ H' locs' ls', xdy D cA ids ad A s H' locs' ls' nL q.2.1 q.2.2.1 q.2.2.2 → W p l e R s m args below meth c H' locs' cells slots Q (F0 m q.1 ls' (q.2.2.1.map (xcv ad)))) : W p l e R s m args below meth c H locs cells slots Q (F0 m pc ls (S.map (xcv ad))) := by
  obtain ⟨⟨hx, hb, hml, hown⟩, hts, ⟨hK, hN, -⟩, hI, -, -, -⟩ := C
  obtain ⟨hx10, hy, hlw⟩ := xck_f_of hlk
  match S, Y, hst with
  | [], _, hst => exact xno hst
  | .inl _ :: _, _, hst => exact xno hst
  | .inr (.inl _) :: _, _, hst => exact xno hst
  | .inr (.inr none) :: _, _, hst => exact xno hst
  | .inr (.inr (some (K, i))) :: S', Y, hst =>
    unfold xs_getf at hst
    cases hKx : Nat.beq K x with
    | false => simp only [hKx, cond_false] at hst; exact xno hst
    | true =>
      have hKe : K = x := Nat.eq_of_beq_eq_true hKx
      subst hKe
      simp only [hKx, cond_true] at hst
      have hq : (K, i) ∈ ids := by
        rcases Y.2.2.2.1 (.inr (.inr (some (K, i)))) (by simp) with h | h
        · exact h
        · have : K = 99 := h; omega
      obtain ⟨n, hn, he⟩ := xwl_get (cA := cA) (ad := ad) (σ := σ) hq
      have h9 := xaty_obj K hx10
      rw [xent_obj (q := (K, i)) h9] at he
      have core : ∀ v : Value, v = xfv ad (K, i) (σ K i) y → W p l e R s m args below meth c H locs cells slots Q (F0 m (pc + 3) ls (v :: S'.map (xcv ad))) → W p l e R s m args below meth c H locs cells slots Q (F0 m pc ls (.ref (ad (K, i)) :: S'.map (xcv ad))) := by
        intro v hv kk
        subst hv
        rcases hlw with hlw | hlw
        · exact va_get (D := D) (ci := K) (C := (xcl K).1) (T := (xcl K).2.1) (N := (xcl K).2.2) (own := xmO k) (ref := (xcl K).1) hx hb hts (xu_mem hx10) hown hK Y.1.1 n he (xcl_at K hx10) y hy (hts _ (xw_in hlw rfl)) (fun x h => by rw [xu_own K hx10 y hy] at h; exact h) (xfv_get hy) hdg kk
        · exact va_getN (D := D) (ci := K) (C := (xcl K).1) (T := (xcl K).2.1) (N := (xcl K).2.2) (own := xmO k) (ref := (xcl K).1) (host := "SofaStair") hx hb hts (xu_mem hx10) hown hK Y.1.1 n he (xcl_at K hx10) y hy (va_Nw.use rfl (hN _ (xw_nest hlw rfl))) (fun x h => by rw [xu_own K hx10 y hy] at h; exact h) (xfv_get hy) hdg kk
      have hok := Y.2.1 _ hq y
      split at hst
      · rename_i h0
        cases hst
        exact core _ (by unfold xfv; rw [if_neg (by show ¬ xfty K y = 3; omega), if_neg (by show ¬ xfty K y = 4; omega)]; rfl) (kk H locs ls (xdy_push (v := .inl (σ K i y)) Y (fun w hw => by simp [hw]) ((hok.1 h9).1 (Or.inl h0))))
      · rename_i h0
        cases hst
        exact core _ (by unfold xfv; rw [if_neg (by show ¬ xfty K y = 3; omega), if_neg (by show ¬ xfty K y = 4; omega)]; rfl) (kk H locs ls (xdy_push (v := .inl (σ K i y)) Y (fun w hw => by simp [hw]) ((hok.1 h9).1 (Or.inr h0))))
      · rename_i h0
        cases hst
        exact core _ (by unfold xfv; rw [if_pos (show xfty K y = 3 from h0)]; rfl) (kk H locs ls (xdy_push (v := .inr (.inr (some (xsr K i y)))) Y (fun w hw => by simp [hw]) (Or.inl (hI.2.2.1 (K, i) hq y h0))))
      · rename_i h0
        cases hst
        have h4 := (hok.1 h9).2 h0
        by_cases hneg : σ K i y < 0
        · refine core .null (by unfold xfv; rw [if_neg (by show ¬ xfty K y = 3; omega), if_pos (show xfty K y = 4 from h0), if_pos hneg]) ?_
          have := kk H locs ls (xdy_push (v := .inr (.inr (if σ K i y < 0 then none else some (5, (σ K i y).toNat)))) Y (fun w hw => by simp [hw]) (by rw [if_pos hneg]; trivial))
          simp only [if_pos hneg] at this
          exact this
        · refine core (.ref (ad (5, (σ K i y).toNat))) (by unfold xfv; rw [if_neg (by show ¬ xfty K y = 3; omega), if_pos (show xfty K y = 4 from h0), if_neg hneg]) ?_
          have := kk H locs ls (xdy_push (v := .inr (.inr (if σ K i y < 0 then none else some (5, (σ K i y).toNat)))) Y (fun w hw => by simp [hw]) (by rw [if_neg hneg]; exact Or.inl (h4.resolve_left hneg)))
          simp only [if_neg hneg] at this
          exact this
      · exact xno hst
theorem xsg_put (C : xcx D cA tyl ids ad A p R s m args meth c k) (hlk : xck_f k ix x y z = true) (hfin : ((xcl x).2.1 y).2.2.2 = false) (hdg : decode (xmB k) pc = .ok (.putfield ix, 3))
    (Y : xdy D cA ids ad A s H locs ls nL L S σ) (hst : xs_putf k x y pc L S σ = some q)
    (kk : ∀ H' locs' ls', xdy D cA ids ad A s H' locs' ls' nL q.2.1 q.2.2.1 q.2.2.2 → W p l e R s m args below meth c H' locs' cells slots Q (F0 m q.1 ls' (q.2.2.1.map (xcv ad)))) : W p l e R s m args below meth c H locs cells slots Q (F0 m pc ls (S.map (xcv ad))) := by
  obtain ⟨⟨hx, hb, hml, hown⟩, hts, ⟨hK, hN, -⟩, hI, -, -, -⟩ := C
  obtain ⟨hx10, hy, hlw⟩ := xck_f_of hlk
  match S, Y, hst with
  | [], _, hst => exact xno hst
  | [_], _, hst => exact xno hst
  | _ :: .inl _ :: _, _, hst => exact xno hst
  | _ :: .inr (.inl _) :: _, _, hst => exact xno hst
  | _ :: .inr (.inr none) :: _, _, hst => exact xno hst
  | v :: .inr (.inr (some (K, i))) :: S', Y, hst =>
    unfold xs_putf at hst
    cases hKx : Nat.beq K x && Nat.beq (xkg K) (xmg k) with
    | false => simp only [hKx, cond_false] at hst; exact xno hst
    | true =>
      have hKe : K = x := Nat.eq_of_beq_eq_true (Bool.and_eq_true _ _ ▸ hKx).1
      subst hKe
      simp only [hKx, cond_true] at hst
      have hq : (K, i) ∈ ids := by
        rcases Y.2.2.2.1 (.inr (.inr (some (K, i)))) (by simp) with h | h
        · exact h
        · have : K = 99 := h; omega
      obtain ⟨n, hn, he⟩ := xwl_get (cA := cA) (ad := ad) (σ := σ) hq
      have h9 := xaty_obj K hx10
      have he' := he
      rw [xent_obj (q := (K, i)) h9] at he
      have core : ∀ (a : Int) (w : Value), w = xfv ad (K, i) (fun j => if j = y then a else σ K i j) y → narrow (xuty ((xcl K).2.1 y).2.2.1) w = w → fits (xuty ((xcl K).2.1 y).2.2.1) w = true → xhok ids (xup σ K i y a) →
          (∀ H' locs' ls', xdy D cA ids ad A s H' locs' ls' nL L S' (xup σ K i y a) → W p l e R s m args below meth c H' locs' cells slots Q (F0 m (pc + 3) ls' (S'.map (xcv ad)))) →
          W p l e R s m args below meth c H locs cells slots Q (F0 m pc ls (w :: .ref (ad (K, i)) :: S'.map (xcv ad))) := by
        intro a w hw hna hfi hho kk
        subst hw
        have fin : ∀ (H1 : Heap) (locs1 : List Loc), va_P D vwCl ((xwl cA ids ad σ).set n (ad (K, i), .inr (K, ((List.range (xcl K).2.2).map (xfv ad (K, i) (σ K i))).set y (xfv ad (K, i) (fun j => if j = y then a else σ K i j) y)))) H1 → va_D A ((xwl cA ids ad σ).set n (ad (K, i), .inr (K, ((List.range (xcl K).2.2).map (xfv ad (K, i) (σ K i))).set y (xfv ad (K, i) (fun j => if j = y then a else σ K i j) y)))) → va_S A s.heap H1 locs1 → W p l e R s m args below meth c H1 locs1 cells slots Q (F0 m (pc + 3) ls (S'.map (xcv ad))) := by
          intro H1 locs1 hP hD hS
          have e1 : (ad (K, i), (.inr (K, ((List.range (xcl K).2.2).map (xfv ad (K, i) (σ K i))).set y (xfv ad (K, i) (fun j => if j = y then a else σ K i j) y)) : va_E)) = (ad (K, i), xent cA ad (K, i) (xup σ K i y a K i)) := by
            rw [xent_obj (q := (K, i)) h9, xup_eq, xfv_set hy]
          rw [e1, xwl_set hI.1 hn] at hP hD
          exact kk H1 locs1 ls ⟨⟨hP, hD, hS⟩, hho, Y.2.2.1, fun w hw => Y.2.2.2.1 w (by simp [hw]), Y.2.2.2.2⟩
        rcases hlw with hlw | hlw
        · exact va_put (D := D) (ci := K) (C := (xcl K).1) (T := (xcl K).2.1) (N := (xcl K).2.2) (own := xmO k) (ref := (xcl K).1) hx hb hts (xu_mem hx10) _ (xu_ty K hx10) (xu_nm K hx10) hown hK Y.1.1 Y.1.2.1 Y.1.2.2 n he (xcl_at K hx10) y hy (hts _ (xw_in hlw rfl)) (fun x h => by rw [xu_own K hx10 y hy] at h; exact h) hfin (xu_ty K hx10 y hy) hna hfi (by simpa using hy) hdg fin
        · exact va_putN (D := D) (ci := K) (C := (xcl K).1) (T := (xcl K).2.1) (N := (xcl K).2.2) (own := xmO k) (ref := (xcl K).1) (host := "SofaStair") hx hb hts (xu_mem hx10) _ (xu_ty K hx10) (xu_nm K hx10) hown hK Y.1.1 Y.1.2.1 Y.1.2.2 n he (xcl_at K hx10) y hy (va_Nw.use rfl (hN _ (xw_nest hlw rfl))) (fun x h => by rw [xu_own K hx10 y hy] at h; exact h) hfin (xu_ty K hx10 y hy) hna hfi (by simpa using hy) hdg fin
      have hv0 : xok ids v := Y.2.2.2.1 v (by simp)
      split at hst
      · rename_i a h0
        cases hst
        have ha : xr32 a := hv0
        refine core a (.int (Int32.ofInt a)) ?_ ?_ ?_ (xhok_int Y.2.1 (by omega) (by omega) ha) kk
        · rw [xfv_v]
          unfold xfv
          rw [if_neg (by show ¬ xfty K y = 3; omega), if_neg (by show ¬ xfty K y = 4; omega)]
        · rw [xu_0 K hx10 y hy h0]; rfl
        · rw [xu_0 K hx10 y hy h0]; rfl
      · rename_i a h0
        split at hst
        · rename_i h01
          cases hst
          have ha : xr32 a := hv0
          refine core a (.int (Int32.ofInt a)) ?_ ?_ ?_ (xhok_int Y.2.1 (by omega) (by omega) ha) kk
          · rw [xfv_v]
            unfold xfv
            rw [if_neg (by show ¬ xfty K y = 3; omega), if_neg (by show ¬ xfty K y = 4; omega)]
          · rw [xu_1 K hx10 y hy h0]
            rcases h01 with rfl | rfl <;> rfl
          · rw [xu_1 K hx10 y hy h0]
            rcases h01 with rfl | rfl <;> rfl
        · exact xno hst
      · rename_i h0
        cases hst
        refine core (-1) .null ?_ ?_ ?_ (xhok_dyn Y.2.1 h9 h0 (Or.inl (by decide))) kk
        · rw [xfv_v]
          unfold xfv
          rw [if_neg (by show ¬ xfty K y = 3; omega), if_pos (show xfty K y = 4 from h0)]
          rfl
        · rw [xu_4 K hx10 y hy h0]; rfl
        · rw [xu_4 K hx10 y hy h0]; rfl
      · rename_i K2 j h0
        cases hK2 : Nat.beq K2 5 with
        | false => rw [hK2] at hst; exact xno hst
        | true =>
          rw [hK2] at hst
          have hK2e : K2 = 5 := Nat.eq_of_beq_eq_true hK2
          subst hK2e
          cases hst
          have hj : (5, j) ∈ ids := by
            rcases hv0 with h | h
            · exact h
            · cases h
          refine core (j : Int) (.ref (ad (5, j))) ?_ ?_ ?_ (xhok_dyn Y.2.1 h9 h0 (Or.inr hj)) kk
          · rw [xfv_v]
            unfold xfv
            rw [if_neg (by show ¬ xfty K y = 3; omega), if_pos (show xfty K y = 4 from h0), if_neg (show ¬ ((j : Int) < 0) by omega)]
            rfl
          · rw [xu_4 K hx10 y hy h0]; rfl
          · rw [xu_4 K hx10 y hy h0]; rfl
      · exact xno hst
end XSIM3
