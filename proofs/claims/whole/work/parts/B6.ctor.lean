/-! constructors: other objects made in place; Search, Cheapest -/
section XCW
variable {p : Program} {l : Launch} {e : Env} {R : Room} {s : State} {m : MethodId} {args : Array Value} {below : List Frame} {meth : Method} {c : Code} {H : Heap} {locs : List Loc} {cells slots : Nat} {ls : Array Slot} {Q : State → Prop}
variable {D : va_G} {cA : Nat → ClassId} {adS S0 : Nat} {os o1 o2 : List ((Nat × Nat) × List Nat)} {ids idA idR idU : List (Nat × Nat)} {ad : Nat × Nat → Nat} {A : Nat → Prop} {k pc nL N : Nat} {σ σX σF : xa_H} {rest : List Value} {key own : Nat × Nat} {dn : List Nat}
def xmk (k x X ixn ixc pc : Nat) : Prop :=
  X < 10 ∧ Cond.classLink (xmO k) ixn (xcl X).1 ∈ xw ∧ (Cond.instantiable (xcl X).1 (xcl X).2.2 ∈ xw ∧ Cond.initialized (xcl X).1 ∈ xw) ∧ xcn k x ixc 0 ∧ decode (xmB k) pc = .ok (.new ixn, 3) ∧ decode (xmB k) (pc + 3) = .ok (.dup, 1) ∧ decode (xmB k) (pc + 4) = .ok (.invokespecial ixc, 3)
/-- new, dup, a constructor without arguments -/
theorem ct_mk {x X i ixn ixc mc ms : Nat} (C : xkx D cA adS S0 A p R s m args meth c k) (hM : xkn l x X i [] idU (fun _ => []) mc ms σX σF) (h : xcw D cA A adS os ids ad σ H) (hS : va_S A s.heap H locs) (hk : xmk k x X ixn ixc pc) (h0 : S0 ≤ s.heap.size) (hsz : ls.size = xmL k) (hrest : (rest.map fun v => v.category).sum ≤ 7)
    (hr : cells + (1 + mc) ≤ R.cells ∧ slots + ((xcl X).2.2 + ms) ≤ R.slots) (h4 : ∀ s', xfty X s' = 4 → σ X i s' < 0 ∧ σX X i s' < 0) (hs : ∀ q ∈ idU, σ q.1 q.2 = σF q.1 q.2) (hown : (X, i) ∈ idU) (hdis : ∀ q ∈ idU, q ∉ xkeys os ids)
    (kk : ∀ ad2 H1 locs1, (∀ q ∈ xkeys os ids, ad2 q = ad q) → xcw D cA A adS os (ids ++ idU) ad2 σ H1 → va_S A s.heap H1 locs1 → W p l e R s m args below meth c H1 locs1 (cells + (1 + mc)) (slots + ((xcl X).2.2 + ms)) Q (F0 m (pc + 7) ls (.ref (ad2 (X, i)) :: rest))) :
    W p l e R s m args below meth c H locs cells slots Q (F0 m pc ls rest) := by
  obtain ⟨k1, k2, k3, k4, k5, k6, k7⟩ := hk
  refine ct_new (i := i) C h hS k1 k2 k3 (hdis _ hown) (fun s' hs' => (h4 s' hs').1) k5 (by omega) (fun ad2 H1 ha h1 hS1 => ?_)
  refine lv_dup C.1.1 C.1.2.1 k6 rfl ?_
  refine ct_call (idA := []) (idR := ids) (av := fun _ => []) C hM h1 hS1 k4 h0 hsz (by rw [List.map_cons, List.sum_cons]; show 1 + _ ≤ 8; omega) k7 (by omega) ⟨List.nodup_nil, (fun q hq => by cases hq), (fun q hq => by cases hq), (fun q hq => by cases hq)⟩ (fun q hq => by cases hq) (fun s' hs' => (h4 s' hs').2) hs (fun q hq => by rw [show q = (X, i) by simpa using hq]; exact hown) hdis (fun ad3 H2 locs2 hb h2 hS2 => ?_)
  have e1 : ad3 (X, i) = ad2 (X, i) := hb _ (by simp [xkeys])
  rw [← e1, show cells + 1 + mc = cells + (1 + mc) by omega, show slots + (xcl X).2.2 + ms = slots + ((xcl X).2.2 + ms) by omega]
  refine kk ad3 H2 locs2 (fun q hq => ?_) h2 hS2
  rw [hb q (by
    unfold xkeys at hq ⊢
    simp only [List.map_append, List.mem_append, List.nil_append] at hq ⊢
    rcases hq with h | h
    · exact Or.inl (Or.inl h)
    · exact Or.inr h)]
  exact ha q (fun e => hdis _ hown (e ▸ hq))
/-- an object made and given to a field -/
theorem ct_mkf {x X i ixn ixc mc ms K j y ix : Nat} (C : xkx D cA adS S0 A p R s m args meth c k) (hM : xkn l x X i [] idU (fun _ => []) mc ms σX σF) (h : xcw D cA A adS (((K, j), dn) :: o2) ids ad σ H) (hS : va_S A s.heap H locs) (hd : decode (xmB k) pc = .ok (.aload_n 0, 1)) (hk : xmk k x X ixn ixc (pc + 1)) (h0 : S0 ≤ s.heap.size) (hsz : ls.size = xmL k) (hl : ls[0]? = some (.val (.ref (ad (K, j)))))
    (hr : cells + (1 + mc) ≤ R.cells ∧ slots + ((xcl X).2.2 + ms) ≤ R.slots) (h4 : ∀ s', xfty X s' = 4 → σ X i s' < 0 ∧ σX X i s' < 0) (hs : ∀ q ∈ idU, σ q.1 q.2 = σF q.1 q.2) (hown : (X, i) ∈ idU) (hdis : ∀ q ∈ idU, q ∉ xkeys (((K, j), dn) :: o2) ids)
    (hK : K < 10 ∧ (xcl K).1 = xmO k ∧ y < (xcl K).2.2) (hlk : Cond.fieldLink (xmO k) ix (xcl K).1 ((xcl K).2.1 y).2.1 ((xcl K).2.1 y).2.2.1 ∈ xw ∧ decode (xmB k) (pc + 8) = .ok (.putfield ix, 3) ∧ xfty K y = 3) (hq : xsr K j y = (X, i))
    (kk : ∀ ad2 H1 locs1, (∀ q ∈ xkeys (((K, j), dn) :: o2) ids, ad2 q = ad q) → xcw D cA A adS (((K, j), y :: dn) :: o2) (ids ++ idU) ad2 σ H1 → va_S A s.heap H1 locs1 → W p l e R s m args below meth c H1 locs1 (cells + (1 + mc)) (slots + ((xcl X).2.2 + ms)) Q (F0 m (pc + 11) ls [])) :
    W p l e R s m args below meth c H locs cells slots Q (F0 m pc ls []) := by
  refine ct_load C hd hl ?_
  refine ct_mk C hM h hS hk h0 hsz (by show 1 + 0 ≤ 7; omega) hr h4 hs hown hdis (fun ad2 H1 locs1 ha h1 hS1 => ?_)
  rw [show ad (K, j) = ad2 (K, j) from (ha _ (by simp [xkeys])).symm]
  exact ct_putr (o1 := []) C h1 hS1 hK hlk.1 hlk.2.1 hlk.2.2 hq (List.mem_append_right _ (List.mem_append_right _ hown)) (fun H2 locs2 h2 hS2 => kk ad2 H2 locs2 ha h2 hS2)
end XCW
def idSA : List (Nat × Nat) := idN ++ idW 0
def idSk : List (Nat × Nat) := idSA ++ [(18, 0), (19, 0), (20, 0), (21, 0), (22, 0), (23, 0)] ++ [(3, 0)]
def idC : List (Nat × Nat) := idSk ++ [(13, 0), (14, 0), (15, 0), (16, 0)] ++ [(1, 0)]
theorem idSk_x : xidsb idSk = true := by decide +kernel
theorem idSA_x : xidsb idSA = true := by decide +kernel
theorem k_Search (l : Launch) (σX σT σF : xa_H) (hX : ∀ K i s, (K = 3 ∨ (18 ≤ K ∧ K ≤ 23)) → σX K i s = yi0 K i s) (hf : fm_Search_init σX = some σT) (hσ : ∀ q ∈ idSk, ∀ s, s < xsz q.1 → ¬ xfty q.1 s = 3 → σF q.1 q.2 s = σT q.1 q.2 s) (hh : xhok idSk σX) (h4 : ∀ q ∈ idSk, ∀ s', xfty q.1 s' = 4 → σF q.1 q.2 s' < 0) : xkn l 33 3 0 idSA idSk (fun ad => [.ref (ad (6, 0)), .ref (ad (7, 0))]) 6 11841 σX σF := by
  refine ct_met (by decide +kernel) (fun ad => Nat.le_of_ble_eq_true rfl) (fun D cA adS S0 ad p e R s m args below meth c ls C hR h0 hw hl => ?_)
  have hl0 : ls[0]? = some (.val (.ref (ad (3, 0)))) := lv_at hl 0 rfl
  have hl1 : ls[1]? = some (.val (.ref (ad (6, 0)))) := lv_at hl 1 rfl
  have hl2 : ls[2]? = some (.val (.ref (ad (7, 0)))) := lv_at hl 2 rfl
  refine ct_start (ix := 3) C hl.1 hl0 (by decide +kernel) ?_
  refine ct_arrs (o2 := []) (pcE := 58) [(3, 1089, 11, 2, 0), (3, 144, 15, 3, 0), (3, 240, 18, 4, 0), (3, 3456, 21, 5, 0), (3, 3456, 24, 6, 0), (3, 3456, 27, 7, 0)] 4 0 0 _ _ _ _ _ C (by decide +kernel) hw va_S.rf hl0 (by decide +kernel) (by decide +kernel) (by decide +kernel) (fun r hr j => ?_) ⟨by rw [hR.1]; decide, by rw [hR.2]; decide⟩ (fun ad2 H2 locs2 ha h2 hS2 => ?_)
  · refine (hX _ _ _ (Or.inr ?_)).trans (yi0_0 ?_)
    · revert r
      decide +kernel
    · revert r
      decide +kernel
  · have e3 : ad2 (3, 0) = ad (3, 0) := ha _ (by decide)
    have e6 : ad2 (6, 0) = ad (6, 0) := ha _ (by decide)
    have e7 : ad2 (7, 0) = ad (7, 0) := ha _ (by decide)
    refine ct_load C (by decide +kernel) hl0 ?_
    refine lv_aload_n (k := 1) C.1.1 C.1.2.1 (by decide +kernel) rfl hl1 ?_
    rw [← e3, ← e6]
    refine ct_putr (o1 := []) (o2 := []) (y := 0) (ix := 30) C h2 hS2 (by decide +kernel) (by decide +kernel) (by decide +kernel) (by decide +kernel) (by decide +kernel) (by decide +kernel) (fun H3 locs3 h3 hS3 => ?_)
    refine ct_load (a := ad2 (3, 0)) C (by decide +kernel) (by rw [e3]; exact hl0) ?_
    refine lv_aload_n (k := 2) C.1.1 C.1.2.1 (by decide +kernel) rfl hl2 ?_
    rw [← e7]
    refine ct_putr (o1 := []) (o2 := []) (y := 1) (ix := 34) C h3 hS3 (by decide +kernel) (by decide +kernel) (by decide +kernel) (by decide +kernel) (by decide +kernel) (by decide +kernel) (fun H4 locs4 h4' hS4 => ?_)
    have h5 := xcw_closeO (o1 := []) (o2 := []) h4' (by decide) (by decide +kernel) (fun s' hs hd => ⟨fun h => by rw [hX 3 0 s' (Or.inl rfl)]; exact yi0_4 _ _ _ h, fun h => ?_⟩)
    · exact ct_tail (idU := idSk) (mc := 6) (ms := 11841) C h5 hS4 (fun q hq => ha q hq) (xidsb_ok idSk_x) hh (by decide) ⟨hl.1, hl.2.1, fun q hq => by rw [show q = (0, .ref (ad2 (3, 0))) by simpa using hq, e3]; exact hl0⟩ (by rw [← hf]; exact jm_Search_init σX) hσ h4 ⟨by rw [hR.1]; exact Nat.le_refl _, by rw [hR.2]; exact Nat.le_refl _⟩
    · rw [hX 3 0 s' (Or.inl rfl)]
      unfold yi0
      rw [if_neg (fun e => h (by rw [e.2]; decide +kernel)), if_neg (by omega)]
theorem k_Cheapest (l : Launch) (σX σF : xa_H) (hX : ∀ K i s, (K = 1 ∨ (13 ≤ K ∧ K ≤ 16)) → σX K i s = yi0 K i s) (hσ : ∀ q ∈ idC, σF q.1 q.2 = σX q.1 q.2) : xkn l 10 1 0 idSk idC (fun ad => [.ref (ad (3, 0))]) 4 10380 σX σF := by
  refine ct_met (by decide +kernel) (fun ad => Nat.le_of_ble_eq_true rfl) (fun D cA adS S0 ad p e R s m args below meth c ls C hR h0 hw hl => ?_)
  have hl0 : ls[0]? = some (.val (.ref (ad (1, 0)))) := lv_at hl 0 rfl
  have hl1 : ls[1]? = some (.val (.ref (ad (3, 0)))) := lv_at hl 1 rfl
  refine ct_start (ix := 3) C hl.1 hl0 (by decide +kernel) ?_
  refine ct_arrs (o2 := []) (pcE := 39) [(2, 12, 9, 1, 0), (3, 3456, 15, 2, 0), (3, 3456, 18, 3, 0), (3, 3456, 21, 4, 0)] 4 0 0 _ _ _ _ _ C (by decide +kernel) hw va_S.rf hl0 (by decide +kernel) (by decide +kernel) (by decide +kernel) (fun r hr j => ?_) ⟨by rw [hR.1]; decide, by rw [hR.2]; decide⟩ (fun ad2 H2 locs2 ha h2 hS2 => ?_)
  · refine (hX _ _ _ (Or.inr ?_)).trans (yi0_0 ?_)
    · revert r
      decide +kernel
    · revert r
      decide +kernel
  · have e3 : ad2 (3, 0) = ad (3, 0) := ha _ (by decide)
    have e1 : ad2 (1, 0) = ad (1, 0) := ha _ (by decide)
    refine ct_load C (by decide +kernel) hl0 ?_
    refine lv_aload_n (k := 1) C.1.1 C.1.2.1 (by decide +kernel) rfl hl1 ?_
    rw [← e3, ← e1]
    refine ct_putr (o1 := []) (o2 := []) (y := 0) (ix := 24) C h2 hS2 (by decide +kernel) (by decide +kernel) (by decide +kernel) (by decide +kernel) (by decide +kernel) (by decide +kernel) (fun H3 locs3 h3 hS3 => ?_)
    have h5 := xcw_closeO (o1 := []) (o2 := []) h3 (by decide) (by decide +kernel) (fun s' hs hd => ⟨fun h => absurd (xfty_4 _ _ h).1 (by decide), fun h => ?_⟩)
    · exact ct_end (idU := idC) (mc := 4) (ms := 10380) C (by decide +kernel) h5 hS3 (fun q hq => ha q hq) hσ (by decide +kernel)
    · rw [hX 1 0 s' (Or.inl rfl)]
      exact yi0_0 (by decide)
