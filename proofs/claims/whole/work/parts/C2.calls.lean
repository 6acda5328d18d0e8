/-! the law's calls -/
def zrn (k : Nat) (L : xa_L) (σ : xa_H) (v : Int) (P : xa_H → Prop) : Prop := ∃ (n : Nat) (σ' : xa_H), xrun n k 0 L [] σ = some (some (xi v), σ') ∧ P σ'
theorem zrW {k : Nat} {L : xa_L} {σ : xa_H} {v : Int} {P : xa_H → Prop} {t : Option (Int × xa_H)} (hJ : J k 0 L [] σ jqW t) (hW : xW t fun r => r.1 = v ∧ P r.2) : zrn k L σ v (fun σ' => P σ' ∧ ∀ K, ¬ xkg K = xmg k → σ' K = σ K) := by
  obtain ⟨⟨v', σ'⟩, e, rfl, hp⟩ := hW
  have hs := jside_W hJ e
  obtain ⟨n, r, s', e1, e2, e3⟩ := hJ _ e
  have e2 : r = some (xi v') := e2
  have e3 : s' = σ' := e3
  subst e2 e3
  exact ⟨n, s', e1, hp, hs⟩
theorem zrP {k : Nat} {L : xa_L} {σ : xa_H} {v : Int} {P : xa_H → Prop} {t : Option Int} (hJ : J k 0 L [] σ (jqP σ) t) (h : t = some v) (hp : P σ) : zrn k L σ v (fun σ' => P σ' ∧ ∀ K, ¬ xkg K = xmg k → σ' K = σ K) := by
  obtain ⟨n, r, s', e1, e2, e3⟩ := hJ _ h
  have e2 : r = some (xi v) := e2
  have e3 : s' = σ := e3
  subst e2 e3
  exact ⟨n, s', e1, hp, fun _ _ => rfl⟩
/-- both sides answer alike -/
def zpair (kS kM : Nat) (as : List Int) (f : xa_H) : Prop := ∃ (v : Int) (f' : xa_H), yv f' ∧ (∀ σ, yc σ f → ym σ f → zrn kS (xargs 0 (xr 8 0 :: as.map xi)) σ v (fun σ1 => yc σ1 f' ∧ ym σ1 f)) ∧ ∀ σ, yc σ f' → ym σ f → zrn kM (xargs 0 (xr 9 0 :: as.map xi)) σ v (fun σ2 => yc σ2 f' ∧ ym σ2 f')
theorem zrn_mono {k : Nat} {L : xa_L} {σ : xa_H} {v : Int} {P P' : xa_H → Prop} (h : zrn k L σ v P) (hp : ∀ σ', P σ' → P' σ') : zrn k L σ v P' := by
  obtain ⟨n, σ', e, hP⟩ := h
  exact ⟨n, σ', e, hp _ hP⟩
theorem zpair_of {kS kM : Nat} {as : List Int} {f f' : xa_H} {v : Int} (hk : xmg kS = 0 ∧ xmg kM = 1) (hv : yv f') (hS : ∀ σ, yc σ f → zrn kS (xargs 0 (xr 8 0 :: as.map xi)) σ v (fun σ' => yc σ' f' ∧ ∀ K, ¬ xkg K = xmg kS → σ' K = σ K)) (hM : ∀ σ, ym σ f → zrn kM (xargs 0 (xr 9 0 :: as.map xi)) σ v (fun σ' => ym σ' f' ∧ ∀ K, ¬ xkg K = xmg kM → σ' K = σ K)) : zpair kS kM as f :=
  ⟨v, f', hv, fun σ h1 h2 => zrn_mono (hS σ h1) (fun σ' h => ⟨h.1, ym_side (fun K hK => h.2 K (by rw [hk.1, hK]; decide)) h2⟩), fun σ h1 h2 => zrn_mono (hM σ h2) (fun σ' h => ⟨yc_side (fun K hK => h.2 K (by rw [hk.2, hK]; decide)) h1, h.1⟩)⟩
section ZP
variable {f : xa_H}
theorem zp0 (hv : yv f) (x y z : Int) : zpair 82 211 [x, y, z] f := zpair_of ⟨rfl, rfl⟩ (V_size hv x y z) (fun σ h => zrW (jm_S_size x y z σ) (K_size h hv x y z)) (fun σ h => zrW (jm_M_size x y z σ) (M_size h hv x y z))
theorem zp1 (hv : yv f) (x y z : Int) : zpair 83 212 [x, y, z] f := zpair_of ⟨rfl, rfl⟩ (V_fill hv x y z) (fun σ h => zrW (jm_S_fill x y z σ) (K_fill h hv x y z)) (fun σ h => zrW (jm_M_fill x y z σ) (M_fill h hv x y z))
theorem zp2 (hv : yv f) (x : Int) : zpair 84 213 [x] f := zpair_of ⟨rfl, rfl⟩ hv (fun σ h => zrP (P := fun s => yc s f) (jm_S_cell x σ) (K_cell h.1 hv x) h) (fun σ h => zrP (P := fun s => ym s f) (jm_M_cell x σ) (M_cell h hv x) h)
theorem zp3 (hv : yv f) (x : Int) : zpair 85 214 [x] f := zpair_of ⟨rfl, rfl⟩ (V_say hv x) (fun σ h => zrW (jm_S_say x σ) (K_say h hv x)) (fun σ h => zrW (jm_M_say x σ) (M_say h hv x))
theorem zp4 (hv : yv f) : zpair 86 215 [] f := zpair_of ⟨rfl, rfl⟩ (V_clr hv) (fun σ h => zrW (jm_S_wipe σ) (K_wipe h hv)) (fun σ h => zrW (jm_M_wipe σ) (M_wipe h hv))
theorem zp5 (hv : yv f) (x : Int) : zpair 87 221 [x] f := zpair_of ⟨rfl, rfl⟩ hv (fun σ h => zrP (P := fun s => yc s f) (jm_S_fault x σ) (K_fault h.1 hv x) h) (fun σ h => zrP (P := fun s => ym s f) (jm_M_fault x σ) (M_fault h (ypg_v hv) hv x) h)
theorem zp6 (hv : yv f) (x : Int) : zpair 88 222 [x] f := zpair_of ⟨rfl, rfl⟩ (V_thing hv x) (fun σ h => zrW (jm_S_thing x σ) (K_thing h hv x)) (fun σ h => zrW (jm_M_thing x σ) (M_thing h hv x))
theorem zp7 (hv : yv f) (x y z : Int) : zpair 89 225 [x, y, z] f := zpair_of ⟨rfl, rfl⟩ hv (fun σ h => zrP (P := fun s => yc s f) (jm_S_cube x y z σ) (K_cube h.1 hv x y z) h) (fun σ h => zrW (P := fun s => ym s f) (jm_M_cube x y z σ) (M_cube h hv x y z))
theorem zp8 (hv : yv f) (x y z : Int) : zpair 90 226 [x, y, z] f := zpair_of ⟨rfl, rfl⟩ (V_cost hv x y z) (fun σ h => zrW (jm_S_cost x y z σ) (K_cost h hv x y z)) (fun σ h => zrW (jm_M_cost x y z σ) (M_cost h hv x y z))
theorem zp9 (hv : yv f) (x y : Int) : zpair 91 233 [x, y] f := zpair_of ⟨rfl, rfl⟩ (V_lay hv x y) (fun σ h => zrW (jm_S_lay x y σ) (K_lay h hv x y)) (fun σ h => zrW (jm_M_lay x y σ) (M_lay h hv x y))
theorem zp10 (hv : yv f) (x y : Int) : zpair 92 234 [x, y] f := zpair_of ⟨rfl, rfl⟩ (V_goal hv x y) (fun σ h => zrW (jm_S_goal x y σ) (K_goal h hv x y)) (fun σ h => zrW (jm_M_goal x y σ) (M_goal h hv x y))
theorem zp11 (hv : yv f) (x y : Int) : zpair 93 237 [x, y] f := zpair_of ⟨rfl, rfl⟩ hv (fun σ h => zrW (P := fun s => yc s f) (jm_S_judge x y σ) (K_judge h hv x y)) (fun σ h => zrW (P := fun s => ym s f) (jm_M_judge x y σ) (M_judge h hv x y))
theorem zp12 (hv : yv f) (x : Int) : zpair 94 238 [x] f := zpair_of ⟨rfl, rfl⟩ (V_mov hv x) (fun σ h => zrW (jm_S_move x σ) (K_move h hv x)) (fun σ h => zrW (jm_M_move x σ) (M_move h hv x))
theorem zp13 (hv : yv f) (x y z : Int) {i : Int} (hi : -2147483648 ≤ i ∧ i ≤ 2147483647) : zpair 95 249 [x, y, z, i] f := zpair_of ⟨rfl, rfl⟩ hv (fun σ h => zrW (P := fun s => yc s f) (jm_S_goes x y z i σ) (K_goes h hv x y z i)) (fun σ h => zrW (P := fun s => ym s f) (jm_M_goes x y z i σ) (M_goes h hv x y z hi))
theorem zp14 (hv : yv f) (x y z : Int) {i : Int} (hi : -2147483648 ≤ i ∧ i ≤ 2147483647) : zpair 96 250 [x, y, z, i] f := zpair_of ⟨rfl, rfl⟩ hv (fun σ h => zrW (P := fun s => yc s f) (jm_S_effort x y z i σ) (K_effort h hv x y z i)) (fun σ h => zrW (P := fun s => ym s f) (jm_M_effort x y z i σ) (M_effort h hv x y z hi))
theorem zp15 (hv : yv f) (x y : Int) : zpair 97 256 [x, y] f := zpair_of ⟨rfl, rfl⟩ hv (fun σ h => zrW (P := fun s => yc s f) (jm_S_room x y σ) (K_room h hv x y)) (fun σ h => zrW (P := fun s => ym s f) (jm_M_room x y σ) (M_room h hv x y))
theorem zp16 (hv : yv f) (x y : Int) : zpair 98 259 [x, y] f := zpair_of ⟨rfl, rfl⟩ hv (fun σ h => zrW (P := fun s => yc s f) (jm_S_least x y σ) (K_least h hv x y)) (fun σ h => zrW (P := fun s => ym s f) (jm_M_least x y σ) (M_least h hv x y))
theorem zp17 (hv : yv f) (x : Int) : zpair 99 262 [x] f := zpair_of ⟨rfl, rfl⟩ hv (fun σ h => zrW (P := fun s => yc s f) (jm_S_bar x σ) (K_bar h hv x)) (fun σ h => zrW (P := fun s => ym s f) (jm_M_bar x σ) (M_bar h hv x))
theorem zp18 (hv : yv f) (x : Int) {i : Int} (hi : -2147483648 ≤ i ∧ i ≤ 2147483647) : zpair 100 265 [x, i] f := zpair_of ⟨rfl, rfl⟩ hv (fun σ h => zrW (P := fun s => yc s f) (jm_S_order x i σ) (K_order h hv x i)) (fun σ h => zrW (P := fun s => ym s f) (jm_M_order x i σ) (M_order h hv x hi))
theorem zp19 (hv : yv f) (x y : Int) : zpair 101 266 [x, y] f := zpair_of ⟨rfl, rfl⟩ hv (fun σ h => zrW (P := fun s => yc s f) (jm_S_came x y σ) (K_came h hv x y)) (fun σ h => zrW (P := fun s => ym s f) (jm_M_came x y σ) (M_came h hv x y))
theorem zp20 (hv : yv f) (x : Int) : zpair 102 269 [x] f := zpair_of ⟨rfl, rfl⟩ (V_image hv x) (fun σ h => zrW (jm_S_image x σ) (K_image h hv x)) (fun σ h => zrW (jm_M_image x σ) (M_image h hv x))
theorem zp21 (hv : yv f) (x : Int) : zpair 103 270 [x] f := zpair_of ⟨rfl, rfl⟩ (V_rest hv x) (fun σ h => zrW (jm_S_restore x σ) (K_rest h hv x)) (fun σ h => zrW (jm_M_restore x σ) (M_rest h hv x))
theorem zp22 (hv : yv f) (x : Int) : zpair 104 271 [x] f := zpair_of ⟨rfl, rfl⟩ hv (fun σ h => zrP (P := fun s => yc s f) (jm_S_told x σ) (K_told h.1 hv x) h) (fun σ h => zrP (P := fun s => ym s f) (jm_M_told x σ) (M_told h hv x) h)
end ZP
section ZM
variable {p : Program} {l : Launch} {e : Env} {s : State} {m : MethodId} {args : Array Value} {below : List Frame} {meth : Method} {c : Code} {H : Heap} {locs : List Loc} {cells slots : Nat} {ls : Array Slot} {Q : State → Prop}
variable {D : va_G} {cA : Nat → ClassId} {adS S0 : Nat} {ids : List (Nat × Nat)} {ad : Nat × Nat → Nat} {A : Nat → Prop} {pc : Nat} {σ : xa_H} {rest : List Value}
noncomputable def zck (x ix n : Nat) : Bool := (Nat.blt x 137 || (Nat.ble 200 x && Nat.blt x 272)) && Nat.beq (xmS x) 2 && xck_n (xmY x) n && decide (Cond.methodLink R_law ix (xmY x) ∈ xw) && (Nat.ble (xmF x + 1) 12 && Nat.ble (8 + (xmL x + 11) + xmW x) 460) && Nat.ble (1 + n) (xmL x) && Nat.ble n 4
theorem xwt_ints (as : List Int) : xwt (as.map xi) = as.length := by
  induction as with
  | nil => rfl
  | cons a r ih =>
    show 1 + xwt (r.map xi) = _
    rw [ih, List.length_cons, Nat.add_comm]
theorem lt_op {x ix : Nat} {as : List Int} {v : Int} {P : xa_H → Prop} (C : zkx D cA adS S0 A p s m args c) (hck : zck x ix as.length = true) (hi : (xmK x, 0) ∈ ids) (hI : xids ids xtl5) (h99 : ∀ j, ad (99, j) = adS) (hP : va_P D vwCl (xwl cA ids ad σ) H) (hD : va_D A (xwl cA ids ad σ)) (hS : va_S A s.heap H locs) (hh : xhok ids σ) (has : ∀ a ∈ as, xr32 a)
    (hrun : zrn x (xargs 0 (xr (xmK x) 0 :: as.map xi)) σ v P) (hls : ls.size = 4) (hrest : (rest.map fun v => v.category).sum ≤ 8) (hroom : cells ≤ 600000 ∧ slots ≤ 7302250) (hdg : decode code pc = .ok (.invokevirtual ix, 3))
    (kk : ∀ (σ' : xa_H) (H1 : Heap) (locs1 : List Loc), P σ' → va_P D vwCl (xwl cA ids ad σ') H1 → va_D A (xwl cA ids ad σ') → va_S A s.heap H1 locs1 → xhok ids σ' → W p l e room_1 s m args below meth c H1 locs1 cells slots Q (F0 m (pc + 3) ls (.int (Int32.ofInt v) :: rest))) :
    W p l e room_1 s m args below meth c H locs cells slots Q (F0 m pc ls ((as.map (fun a => Value.int (Int32.ofInt a))).reverse ++ .ref (ad (xmK x, 0)) :: rest)) := by
  obtain ⟨⟨hxe, hb, hml, hown⟩, hts, ⟨⟨hK, hN, hst⟩, -, -⟩, hAn, hAS⟩ := C
  unfold zck at hck
  simp only [Bool.and_eq_true] at hck
  obtain ⟨⟨⟨⟨⟨⟨k1, k2⟩, k3⟩, k4⟩, k5⟩, k6⟩, k7⟩ := hck
  obtain ⟨hx, hS2⟩ := xgo_of (x := x) (d := 2) (by decide) k2 k1
  obtain ⟨n, σ', hrun, hPσ⟩ := hrun
  obtain ⟨c1, c2, c3, c4, c5, -, c7⟩ := xce_spec hx
  obtain ⟨c8, c9, c10, c11⟩ := c7 hS2
  have hen : va_K D vwCl (xtys cA xtl5) s ∧ (∀ w ∈ xnw, va_Nw w s) ∧ xstr ad A s s.heap := ⟨hK, hN, xstr_at (xstr_narrow hst hAS) h99⟩
  have ho : ∀ w ∈ xr (xmK x) 0 :: as.map xi, xok ids w := by
    intro w hw
    rcases List.mem_cons.mp hw with rfl | hw
    · exact Or.inl hi
    · obtain ⟨a, ha, rfl⟩ := List.mem_map.mp hw
      exact has a ha
  have hM := xmet (xsim_all (D := D) (cA := cA) (ad := ad) (A := A) l hI n) hx hI hh ho (by show 1 + xwt (as.map xi) ≤ xmL x; rw [xwt_ints]; exact Nat.ble_eq.mp k6) hrun
  obtain ⟨nn, hnn1, he⟩ := xwl_get (cA := cA) (ad := ad) (σ := σ) hi
  rw [xent_obj (q := (xmK x, 0)) (xaty_obj _ c11)] at he
  have hrc := va_recv hK hP (xcl_at _ c11) he
  rw [c10] at hrc
  have hpre : PreV s H (xmY x).cls (ad (xmK x, 0)) (xPc D cA xtl5 ids ad A (xr (xmK x) 0 :: as.map xi) σ) ((as.map xi).map (xcv ad)) :=
    ⟨xblind, hrc, fun U hU hW => ⟨rfl, xen_warm hW hU hS hen, by rw [hU]; exact hP, hD⟩⟩
  have hd : (parseMethodDescriptor (xmY x).desc).map (fun d => d.parameters.length) = some (as.map xi).length := by rw [List.length_map]; exact of_decide_eq_true k3
  have hR : (xrm x).frames + 1 ≤ room_1.frames ∧ 8 + (xmL x + 11) + (xrm x).locals ≤ room_1.locals := ⟨Nat.ble_eq.mp k5.1, Nat.ble_eq.mp k5.2⟩
  have hmap : (as.map xi).map (xcv ad) = as.map (fun a => Value.int (Int32.ofInt a)) := by rw [List.map_map]; rfl
  have hst2 : (F0 m pc ls ((as.map (fun a => Value.int (Int32.ofInt a))).reverse ++ .ref (ad (xmK x, 0)) :: rest)).stack = ((as.map xi).map (xcv ad)).reverse ++ .ref (ad (xmK x, 0)) :: rest := by rw [hmap]
  refine xW_call (va_runV ⟨hxe, hb, hml, hown, hts⟩ hM (cwV (C := (xmY x).cls) (as.map xi).length hts ?_ rfl rfl rfl ⟨rfl, c4.1, c4.2, hd⟩ hR) hpre rfl (by simp) hls hst2 (lv_room hrest) hdg ⟨hroom.1, hroom.2⟩) hS hD (fun H1 locs1 a1 a2 a3 a4 _ => kk σ' H1 locs1 hPσ a1 a2 a3 a4)
  intro w hw
  unfold wsV at hw
  rcases List.mem_append.mp hw with hw | hw
  · simp only [List.mem_cons, List.not_mem_nil, or_false] at hw
    rcases hw with rfl | rfl | rfl | rfl
    · exact xw_good _ (of_decide_eq_true k4)
    · exact xw_good _ c8
    · exact xw_good _ c9
    · exact xw_good _ c3
  · exact xGood x hx w hw
end ZM
