/-! the machine follows the abstract machine: whole runs -/
section XMAIN
variable {p : Program} {l : Launch} {e : Env} {R : Room} {s : State} {m : MethodId} {args : Array Value} {below : List Frame} {meth : Method} {c : Code} {H : Heap} {locs : List Loc} {cells slots : Nat} {ls : Array Slot} {Q : State → Prop}
variable {D : va_G} {cA : Nat → ClassId} {tyl : List Nat} {ids : List (Nat × Nat)} {ad : Nat × Nat → Nat} {A : Nat → Prop} {k pc nL : Nat} {L L' : xa_L} {S S' : List xa_V} {σ σ' : xa_H} {q : xa_C}
theorem xstk {rest : List xa_V} {σ1 : xa_H} {r : Option xa_V} {H1 : Heap} {locs1 : List Loc} (Y : xdy D cA ids ad A s H locs ls nL L S σ) (hr : ∀ w ∈ rest, w ∈ S) (hP : va_P D vwCl (xwl cA ids ad σ1) H1) (hD : va_D A (xwl cA ids ad σ1)) (hS : va_S A s.heap H1 locs1) (hh : xhok ids σ1) (hx : ∀ v, r = some v → xok ids v) :
    xdy D cA ids ad A s H1 locs1 ls nL L (r.toList ++ rest) σ1 := by
  refine ⟨⟨hP, hD, hS⟩, hh, Y.2.2.1, fun v hv => ?_, Y.2.2.2.2⟩
  rcases List.mem_append.mp hv with h | h
  · exact hx v (by simpa using h)
  · exact Y.2.2.2.1 v (hr v h)
theorem xtoL {rest : List xa_V} {r : Option xa_V} : (r.map (xcv ad)).toList ++ rest.map (xcv ad) = (r.toList ++ rest).map (xcv ad) := by
  rcases r with _ | r <;> rfl
theorem xgo_of {x d : Nat} (hd : ¬ d = 0) (h : Nat.beq (xmS x) d = true) (h2 : (Nat.blt x 137 || (Nat.ble 200 x && Nat.blt x 272)) = true) : xgo x ∧ xmS x = d := by
  have e := Nat.eq_of_beq_eq_true h
  rw [Bool.or_eq_true, Bool.and_eq_true] at h2
  refine ⟨⟨?_, by omega⟩, e⟩
  rcases h2 with h2 | h2
  · exact Or.inl (Nat.blt_eq.mp h2)
  · exact Or.inr ⟨Nat.ble_eq.mp h2.1, Nat.blt_eq.mp h2.2⟩
theorem xsim_ret {n : Nat} {en : xa_I} {r : Option xa_V} (he : xcd k pc = some en) (h : xret k en.1 S σ = some (r, σ')) (C : xcx D cA tyl ids ad A p R s m args meth c k) (Y : xdy D cA ids ad A s H locs ls (xmL k) L S σ) :
    W p l e R s m args below meth c H locs cells slots (MQ below (xQc D cA ids ad A r σ') args s cells slots A) (F0 m pc ls (S.map (xcv ad))) := by
  obtain ⟨hdg, hck, hck2⟩ := xdec he
  have hk3 := xdec3 he
  obtain ⟨⟨hx, hb, hml, hown⟩, hts, hen, hI, ⟨hr, hlk⟩, -, -⟩ := C
  obtain ⟨ins, len, x, y, z⟩ := en
  have hfree := Y.1.2.2.2.2
  have hF : ∀ t : State, t.heap = H → va_F A s t := fun t ht => Y.1.2.2.F ht
  cases ins with
  | ireturn =>
    have hl := xlen_of (n := 1) hck2 rfl rfl rfl
    subst hl
    match S, Y, h with
    | [], _, h => exact xno h
    | .inr _ :: _, _, h => exact xno h
    | .inl _ :: _ :: _, _, h => exact xno h
    | [.inl v], Y, h =>
      have h : some (some (.inl (cond (Nat.beq (xmZ k) 1) (v % 2) v) : xa_V), σ) = some (r, σ') := h
      cases h
      have hv : xr32 v := Y.2.2.2.1 (.inl v) (by simp)
      rcases of_decide_eq_true hk3 with ⟨hz, hR⟩ | ⟨hz, hR⟩
      · refine xW_zret (v := Int32.ofInt v) (w := Int32.ofInt (v % 2)) hx hb (by rw [hr]; exact hR) (by show Value.int (Int32.ofInt v &&& 1) = _; rw [xand1]) (fun t ht _ => ?_) hfree hdg hlk
        rw [hz]
        exact ⟨rfl, by rw [ht]; exact Y.1.1, hF t ht, Y.2.1, fun w hw => by cases hw; exact ⟨by show _ ≤ v % 2; omega, by show v % 2 < _; omega⟩⟩
      · refine W.iret (v := Int32.ofInt v) (hlocks := hlk) hx hb (by rw [hr]; exact hR) (fun t ht _ => ?_) hfree hdg
        rw [hz]
        exact ⟨rfl, by rw [ht]; exact Y.1.1, hF t ht, Y.2.1, fun w hw => by cases hw; exact hv⟩
  | lreturn =>
    have hl := xlen_of (n := 1) hck2 rfl rfl rfl
    subst hl
    match S, Y, h with
    | [], _, h => exact xno h
    | .inl _ :: _, _, h => exact xno h
    | .inr (.inr _) :: _, _, h => exact xno h
    | .inr (.inl _) :: _ :: _, _, h => exact xno h
    | [.inr (.inl v)], Y, h =>
      have h : some (some (.inr (.inl v) : xa_V), σ) = some (r, σ') := h
      cases h
      have hv : xr64 v := Y.2.2.2.1 (.inr (.inl v)) (by simp)
      refine W.lret (v := Int64.ofInt v) (hlocks := hlk) hx hb (by rw [hr]; exact of_decide_eq_true hk3) (fun t ht _ => ?_) hfree hdg
      exact ⟨rfl, by rw [ht]; exact Y.1.1, hF t ht, Y.2.1, fun w hw => by cases hw; exact hv⟩
  | areturn =>
    have hl := xlen_of (n := 1) hck2 rfl rfl rfl
    subst hl
    match S, Y, h with
    | [], _, h => exact xno h
    | .inl _ :: _, _, h => exact xno h
    | .inr (.inl _) :: _, _, h => exact xno h
    | .inr (.inr _) :: _ :: _, _, h => exact xno h
    | [.inr (.inr v)], Y, h =>
      have h : some (some (.inr (.inr v) : xa_V), σ) = some (r, σ') := h
      cases h
      have hv : xok ids (.inr (.inr v)) := Y.2.2.2.1 (.inr (.inr v)) (by simp)
      have hk3 : xisref (xmR k) = true := hk3
      obtain ⟨rt, hrt, hk⟩ : ∃ rt, xmR k = some rt ∧ ((∃ n, rt = .object n) ∨ ∃ t, rt = .array t) := by
        unfold xisref at hk3
        split at hk3
        · rename_i o hh
          exact ⟨_, hh, Or.inl ⟨_, rfl⟩⟩
        · rename_i o hh
          exact ⟨_, hh, Or.inr ⟨_, rfl⟩⟩
        · cases hk3
      refine W.aret (v := xcv ad (.inr (.inr v))) (rt := rt) (hlocks := hlk) hx hb (by rw [hr]; exact hrt) hk (by rcases v with _ | v; exact Or.inl rfl; exact Or.inr ⟨_, rfl⟩) (fun t ht _ => ?_) hfree hdg
      exact ⟨rfl, by rw [ht]; exact Y.1.1, hF t ht, Y.2.1, fun w hw => by cases hw; exact hv⟩
  | return_ =>
    have hl := xlen_of (n := 1) hck2 rfl rfl rfl
    subst hl
    match S, Y, h with
    | _ :: _, _, h => exact xno h
    | [], Y, h =>
      have h : some ((none : Option xa_V), σ) = some (r, σ') := h
      cases h
      refine W.vret (hlocks := hlk) hx hb (by rw [hr]; exact of_decide_eq_true hk3) (fun t ht _ => ?_) hfree hdg
      exact ⟨rfl, by rw [ht]; exact Y.1.1, hF t ht, Y.2.1, fun w hw => by cases hw⟩
  | _ => exact xno h
theorem xsim_all (l : Launch) (hI : xids ids tyl) : ∀ n : Nat, xSim l D cA tyl ids ad A n := by
  intro n
  induction n with
  | zero =>
    intro k pc L S σ r σ' h
    exact xno h
  | succ n ih =>
    intro k pc L S σ r σ' h p e R s m args below meth c H locs ls cells slots hcs C Y
    unfold xrun at h
    split at h
    · exact xno h
    · rename_i en he
      split at h
      · rename_i hkd
        obtain ⟨hdg, hck, hck2⟩ := xdec he
        have hk3 := xdec3 he
        cases h1 : Nat.ble en.2.2.2.1 S.length && Nat.ble (xwt (S.drop en.2.2.2.1)) 8 with
        | false => rw [h1] at h; exact xno h
        | true =>
          rw [h1, cond_true] at h
          rw [Bool.and_eq_true] at h1
          have hlen := Nat.ble_eq.mp h1.1
          have hw8 := Nat.ble_eq.mp h1.2
          have hS : S = (S.take en.2.2.2.1).reverse.reverse ++ S.drop en.2.2.2.1 := by rw [List.reverse_reverse, List.take_append_drop]
          obtain ⟨ins, len, x, y, z⟩ := en
          dsimp only at h hlen hw8 hS hkd hck hck2 hk3 hdg
          have hdrop : ∀ w ∈ S.drop y, w ∈ S := fun w hw => List.mem_of_mem_drop hw
          cases h2 : Nat.ble 5000 x with
          | true =>
            rw [h2, cond_true] at h
            split at h
            · rename_i v hp
              cases ins with
              | invokevirtual ix =>
                have hl := xlen_of (n := 3) hck2 rfl rfl rfl
                subst hl
                have hck : cond (Nat.ble 5000 x) (decide (lw_tbl[z]? = some (Cond.methodLink (xmO k) ix (xck_p x))) && Nat.ble 5 (xmF k) && Nat.ble 141 (xmW k) && Nat.blt x 5003) _ = true := hck
                rw [h2, cond_true] at hck
                exact xprim_S hcs C hS hp hck (Nat.ble_eq.mp h2) hdg Y hw8 (fun hv H1 locs1 Y1 => ih _ _ _ _ _ _ _ h p e R s m args below meth c H1 locs1 ls cells slots hcs C (xdy_push (v := v) (S' := S.drop y) Y1 (fun w hw => hw) hv))
              | invokestatic ix =>
                have hl := xlen_of (n := 3) hck2 rfl rfl rfl
                subst hl
                have hck : cond (Nat.ble 5000 x) (decide (lw_tbl[z]? = some (Cond.methodLink (xmO k) ix (xck_p x))) && Nat.ble 2 (xmF k) && Nat.ble 34 (xmW k) && Nat.ble 5003 x && Nat.blt x 5006) _ = true := hck
                rw [h2, cond_true] at hck
                exact xprim_M hcs C hS hp hck hdg Y hw8 (fun hv => ih _ _ _ _ _ _ _ h p e R s m args below meth c H locs ls cells slots hcs C (xdy_push (v := v) (S' := S.drop y) Y hdrop hv))
              | _ => exact absurd hkd (by intro h; cases h)
            · exact xno h
          | false =>
            rw [h2, cond_false] at h
            cases h3 : Nat.ble (xwt (S.take y).reverse) (xmL x) && (xstat ins || xrcv x (S.take y).reverse) with
            | false => rw [h3] at h; exact xno h
            | true =>
              rw [h3, cond_true] at h
              rw [Bool.and_eq_true] at h3
              have hw2 := Nat.ble_eq.mp h3.1
              split at h
              · rename_i v σ1 hrun
                have hlt : (S.take y).reverse.length = y := by rw [List.length_reverse, List.length_take]; omega
                have hrec := h3.2
                generalize (S.take y).reverse = as at hS hrun hw2 hrec hlt
                cases ins with
                | invokevirtual ix =>
                  have hl := xlen_of (n := 3) hck2 rfl rfl rfl
                  subst hl
                  have hck : cond (Nat.ble 5000 x) _ (xck_m k ix x z && xck_r k x && Nat.blt 0 y && xck_n (xmY x) (y - 1) && Nat.beq (xkg (xcl 0).2.2) 0) = true := hck
                  rw [h2, cond_false] at hck
                  simp only [Bool.and_eq_true] at hck
                  have hk3 : (Nat.ble 5000 x || (Nat.beq (xmS x) 2 && (Nat.blt x 137 || (Nat.ble 200 x && Nat.blt x 272)))) = true := hk3
                  rw [h2, Bool.false_or, Bool.and_eq_true] at hk3
                  obtain ⟨hg, hS2⟩ := xgo_of (by decide) hk3.1 hk3.2
                  have hrec : xrcv x as = true := by simpa [xstat] using hrec
                  match as, hrec, hS, hrun, hw2, hlt with
                  | .inr (.inr (some (K, i))) :: as', hrec, hS, hrun, hw2, hlt =>
                    have hK : K = xmK x := Nat.eq_of_beq_eq_true hrec
                    subst hK
                    have e9 : (xr (xmK x) i :: as').reverse ++ S.drop y = as'.reverse ++ xr (xmK x) i :: S.drop y := by simp
                    have hS' : S = as'.reverse ++ xr (xmK x) i :: S.drop y := hS.trans e9
                    have hnn : xck_n (xmY x) as'.length = true := by
                      have := hck.1.2
                      rw [show y - 1 = as'.length by simp at hlt; omega] at this
                      exact this
                    have Y' := Y
                    rw [hS'] at Y' ⊢
                    refine xrunV (n := n) hcs ih C hg hS2 hck.1.1.1.1 hck.1.1.1.2 hnn hdg Y' hw8 hw2 hrun (fun H1 locs1 hP hD hSS hh hx => ?_)
                    rw [xtoL]
                    exact ih _ _ _ _ _ _ _ h p e R s m args below meth c H1 locs1 ls cells slots hcs C (xstk Y hdrop hP hD hSS hh hx)
                  | [], hrec, _, _, _, _ => cases hrec
                  | .inl _ :: _, hrec, _, _, _, _ => cases hrec
                  | .inr (.inl _) :: _, hrec, _, _, _, _ => cases hrec
                  | .inr (.inr none) :: _, hrec, _, _, _, _ => cases hrec
                | invokestatic ix =>
                  have hl := xlen_of (n := 3) hck2 rfl rfl rfl
                  subst hl
                  have hck : cond (Nat.ble 5000 x) _ (xck_m k ix x z && xck_r k x && xck_n (xmY x) y) = true := hck
                  rw [h2, cond_false] at hck
                  simp only [Bool.and_eq_true] at hck
                  have hk3 : (Nat.ble 5000 x || Nat.beq (xmS x) 1 && (Nat.blt x 137 || (Nat.ble 200 x && Nat.blt x 272))) = true := hk3
                  rw [h2, Bool.false_or, Bool.and_eq_true] at hk3
                  obtain ⟨hg, hS2⟩ := xgo_of (by decide) hk3.1 hk3.2
                  have hS' : S = as.reverse ++ S.drop y := hS
                  have hnn : xck_n (xmY x) as.length = true := by
                    rw [hlt]
                    exact hck.2
                  have Y' := Y
                  rw [hS'] at Y' ⊢
                  refine xrunS (n := n) hcs ih C hg hS2 hck.1.1 hck.1.2 hnn hdg Y' hw8 hw2 hrun (fun H1 locs1 hP hD hSS hh hx => ?_)
                  rw [xtoL]
                  exact ih _ _ _ _ _ _ _ h p e R s m args below meth c H1 locs1 ls cells slots hcs C (xstk Y hdrop hP hD hSS hh hx)
                | _ => exact absurd hkd (by intro h; cases h)
              · exact xno h
      · exact xsim_ret (n := n) he h C Y
      · split at h
        · rename_i q hq
          exact xsim_step C he Y hq (fun H' locs' ls' Y' => ih _ _ _ _ _ _ _ h p e R s m args below meth c H' locs' ls' cells slots hcs C Y')
        · exact xno h
end XMAIN
