/-! a side writes its own cells alone -/
set_option maxRecDepth 100000 in
theorem xmg_a : ∀ j, j < 137 → (xcode j).all (fun q => match q.2.1 with | .invokevirtual _ => Nat.ble 5000 q.2.2.2.1 || Nat.blt q.2.2.2.1 200 | .invokestatic _ => Nat.ble 5000 q.2.2.2.1 || Nat.blt q.2.2.2.1 200 | _ => true) = true := by decide +kernel
set_option maxRecDepth 100000 in
theorem xmg_b : ∀ j, j < 72 → (xcode (200 + j)).all (fun q => match q.2.1 with | .invokevirtual _ => Nat.ble 5000 q.2.2.2.1 || Nat.ble 200 q.2.2.2.1 | .invokestatic _ => Nat.ble 5000 q.2.2.2.1 || Nat.ble 200 q.2.2.2.1 | _ => true) = true := by decide +kernel
section XSIDE
variable {k pc : Nat} {L : xa_L} {S : List xa_V} {σ : xa_H} {q : xa_C} {en : xa_I} {K : Nat}
theorem xsS {p : Nat} {L' : xa_L} {S' : List xa_V} (h : some (p, L', S', σ) = some q) : q.2.2.2 K = σ K := by
  cases h
  rfl
theorem xsSi {p : Nat} {L' : xa_L} {S' : List xa_V} {c : Prop} [Decidable c] (h : (if c then some (p, L', S', σ) else none) = some q) : q.2.2.2 K = σ K := by
  by_cases hc : c
  · rw [if_pos hc] at h; exact xsS h
  · rw [if_neg hc] at h; exact xno h
theorem xsSj {p : Nat} {L' : xa_L} {S' : List xa_V} {c : Prop} [Decidable c] (h : (if c then none else some (p, L', S', σ)) = some q) : q.2.2.2 K = σ K := by
  by_cases hc : c
  · rw [if_pos hc] at h; exact xno h
  · rw [if_neg hc] at h; exact xsS h
theorem xsSc {p : Nat} {L' : xa_L} {S' : List xa_V} {c : Bool} (h : cond c (some (p, L', S', σ)) none = some q) : q.2.2.2 K = σ K := by
  cases c
  · exact xno h
  · exact xsS h
theorem xsSd {p : Nat} {L' : xa_L} {S' : List xa_V} {c : Bool} (h : cond c none (some (p, L', S', σ)) = some q) : q.2.2.2 K = σ K := by
  cases c
  · exact xsS h
  · exact xno h
theorem xb_S {f : Int → Int → Int} (h : xs_b f pc L S σ = some q) : q.2.2.2 K = σ K := by
  unfold xs_b at h
  split at h
  · exact xsS h
  · exact xno h
theorem xd_S {f : Int → Int → Int} (h : xs_d f pc L S σ = some q) : q.2.2.2 K = σ K := by
  unfold xs_d at h
  split at h
  · exact xsSi h
  · exact xno h
theorem xbl_S {f : Int → Int → Int} (h : xs_bl f pc L S σ = some q) : q.2.2.2 K = σ K := by
  unfold xs_bl at h
  split at h
  · exact xsS h
  · exact xno h
theorem xag_S {t : Nat} (h : xs_aget t pc L S σ = some q) : q.2.2.2 K = σ K := by
  unfold xs_aget at h
  split at h
  · exact xsSi h
  · exact xno h
theorem xup_S {K2 i s : Nat} {v : Int} (h : ¬ K = K2) : xup σ K2 i s v K = σ K := by
  funext i' s'
  unfold xup
  rw [if_neg (fun q => h q.1)]
theorem xap_S {t : Nat} (hK : ¬ xkg K = xmg k) (h : xs_aput k t pc L S σ = some q) : q.2.2.2 K = σ K := by
  unfold xs_aput at h
  split at h
  · split at h
    · rename_i hc
      cases h
      exact xup_S (fun e => hK (by rw [e]; exact hc.2.2.2))
    · exact xno h
  · split at h
    · rename_i hc
      cases h
      exact xup_S (fun e => hK (by rw [e]; exact hc.2.2.2))
    · exact xno h
  · exact xno h
theorem xgf_S {x y : Nat} (h : xs_getf x y pc L S σ = some q) : q.2.2.2 K = σ K := by
  unfold xs_getf at h
  split at h
  · rename_i K2 i S'
    cases hb : Nat.beq K2 x with
    | false => rw [hb] at h; exact xno h
    | true =>
      simp only [hb, cond_true] at h
      split at h <;> first | exact xsS h | exact xno h
  · exact xno h
theorem xpf_S {x y : Nat} (hK : ¬ xkg K = xmg k) (h : xs_putf k x y pc L S σ = some q) : q.2.2.2 K = σ K := by
  unfold xs_putf at h
  split at h
  · rename_i v K2 i S'
    cases hb : Nat.beq K2 x && Nat.beq (xkg K2) (xmg k) with
    | false => rw [hb] at h; exact xno h
    | true =>
      have hg : xkg K2 = xmg k := Nat.eq_of_beq_eq_true (Bool.and_eq_true _ _ ▸ hb).2
      have hne : ¬ K = K2 := fun e => hK (by rw [e]; exact hg)
      simp only [hb, cond_true] at h
      split at h
      · cases h; exact xup_S hne
      · split at h
        · cases h; exact xup_S hne
        · exact xno h
      · cases h; exact xup_S hne
      · rename_i K3 j _
        cases hb2 : Nat.beq K3 5 with
        | false => rw [hb2] at h; exact xno h
        | true =>
          rw [hb2] at h
          cases h
          exact xup_S hne
      · exact xno h
  · exact xno h
theorem xld_S {i len t : Nat} (h : xs_ld i len pc L S σ t = some q) : q.2.2.2 K = σ K := by
  unfold xs_ld at h
  split at h
  · exact xsSc h
  · exact xsSc h
  · exact xsSc h
  · exact xno h
theorem xst_S {i len t mx : Nat} (h : xs_st i len pc L S σ t mx = some q) : q.2.2.2 K = σ K := by
  unfold xs_st at h
  split at h
  · exact xsSc h
  · exact xsSc h
  · exact xsSc h
  · exact xno h
theorem xinc_S {i : Nat} {n : Int} {len x y z : Nat} (h : xstp k (.iinc i n, len, x, y, z) pc L S σ = some q) : q.2.2.2 K = σ K := by
  have h : (match xget L i with
    | some (.inl v) => cond (Nat.blt i (xmL k)) (some (pc + 3, xset L i (.inl (w32 (v + n))), S, σ)) none
    | _ => none) = some q := h
  split at h
  · exact xsSc h
  · exact xno h
theorem xtab_S {d lo hi v : Int} {offs : Array Int} {S' : List xa_V} (h : (if v < lo ∨ hi < v then some (xtgt pc d, L, S', σ) else match offs[(v - lo).toNat]? with
      | some off => some (xtgt pc off, L, S', σ)
      | none => none) = some q) : q.2.2.2 K = σ K := by
  by_cases hc : v < lo ∨ hi < v
  · rw [if_pos hc] at h
    exact xsS h
  · rw [if_neg hc] at h
    cases ho : offs[(v - lo).toNat]? with
    | none => rw [ho] at h; exact xno h
    | some off => rw [ho] at h; exact xsS h
theorem xstp_S (hK : ¬ xkg K = xmg k) (h : xstp k en pc L S σ = some q) : q.2.2.2 K = σ K := by
  obtain ⟨ins, len, x, y, z⟩ := en
  cases ins with
  | iadd => exact xb_S h
  | isub => exact xb_S h
  | imul => exact xb_S h
  | iand => exact xb_S h
  | ior => exact xb_S h
  | ixor => exact xb_S h
  | ishl => exact xb_S h
  | ishr => exact xb_S h
  | idiv => exact xd_S h
  | irem => exact xd_S h
  | ladd => exact xbl_S h
  | lmul => exact xbl_S h
  | iaload => exact xag_S h
  | baload => exact xag_S h
  | laload => exact xag_S h
  | iastore => exact xap_S hK h
  | bastore => exact xap_S hK h
  | lastore => exact xap_S hK h
  | getfield ix => exact xgf_S h
  | putfield ix => exact xpf_S hK h
  | iconst v => exact xsS h
  | bipush v => exact xsS h
  | sipush v => exact xsS h
  | lconst v => exact xsS h
  | ldc v => exact xsS h
  | ldc2_w v => exact xsS h
  | aconst_null => exact xsS h
  | goto v => exact xsS h
  | ineg =>
    rcases S with _ | ⟨a | a, S⟩
    · exact xno h
    · exact xsS h
    · exact xno h
  | i2l =>
    rcases S with _ | ⟨a | a, S⟩
    · exact xno h
    · exact xsS h
    · exact xno h
  | i2c =>
    rcases S with _ | ⟨a | a, S⟩
    · exact xno h
    · exact xsS h
    · exact xno h
  | ifCond c off =>
    rcases S with _ | ⟨a | a, S⟩
    · exact xno h
    · exact xsS h
    · exact xno h
  | l2i =>
    rcases S with _ | ⟨a | a | a, S⟩
    · exact xno h
    · exact xno h
    · exact xsS h
    · exact xno h
  | ifnull off =>
    rcases S with _ | ⟨a | a | a, S⟩
    · exact xno h
    · exact xno h
    · exact xno h
    · exact xsS h
  | ifnonnull off =>
    rcases S with _ | ⟨a | a | a, S⟩
    · exact xno h
    · exact xno h
    · exact xno h
    · exact xsS h
  | lcmp =>
    rcases S with _ | ⟨a | a | a, _ | ⟨b | b | b, S⟩⟩
    · exact xno h
    · exact xno h
    · exact xno h
    · exact xno h
    · exact xno h
    · exact xno h
    · exact xno h
    · exact xsS h
    · exact xno h
    · exact xno h
    · exact xno h
    · exact xno h
    · exact xno h
  | ldiv =>
    rcases S with _ | ⟨a | a | a, _ | ⟨b | b | b, S⟩⟩
    · exact xno h
    · exact xno h
    · exact xno h
    · exact xno h
    · exact xno h
    · exact xno h
    · exact xno h
    · exact xsSi h
    · exact xno h
    · exact xno h
    · exact xno h
    · exact xno h
    · exact xno h
  | if_icmp c off =>
    rcases S with _ | ⟨a | a, _ | ⟨b | b, S⟩⟩
    · exact xno h
    · exact xno h
    · exact xsS h
    · exact xno h
    · exact xno h
    · exact xno h
    · exact xno h
  | if_acmp c off =>
    cases c
    · rcases S with _ | ⟨a | a | a, _ | ⟨b | b | b, S⟩⟩ <;> exact xno h
    · rcases S with _ | ⟨a | a | a, _ | ⟨b | b | b, S⟩⟩
      · exact xno h
      · exact xno h
      · exact xno h
      · exact xno h
      · exact xno h
      · exact xno h
      · exact xno h
      · exact xno h
      · exact xno h
      · exact xno h
      · exact xno h
      · exact xno h
      · exact xsSc h
  | tableswitch d lo hi offs =>
    rcases S with _ | ⟨a | a, S⟩
    · exact xno h
    · exact xtab_S h
    · exact xno h
  | dup =>
    rcases S with _ | ⟨a, S⟩
    · exact xno h
    · exact xsSd h
  | pop =>
    rcases S with _ | ⟨a, S⟩
    · exact xno h
    · exact xsSd h
  | dup2 =>
    rcases S with _ | ⟨a, _ | ⟨b, S⟩⟩
    · exact xno h
    · exact xno h
    · exact xsSd h
  | arraylength =>
    rcases S with _ | ⟨a | a | _ | a, S⟩
    · exact xno h
    · exact xno h
    · exact xno h
    · exact xno h
    · exact xsSj h
  | aaload =>
    rcases S with _ | ⟨a | a, _ | ⟨b | b | _ | b, S⟩⟩
    · exact xno h
    · exact xno h
    · exact xno h
    · exact xno h
    · exact xno h
    · exact xsSi h
    · exact xno h
    · exact xno h
    · exact xno h
    · exact xno h
    · exact xno h
  | iload i => exact xld_S h
  | iload_n i => exact xld_S h
  | lload i => exact xld_S h
  | lload_n i => exact xld_S h
  | aload i => exact xld_S h
  | aload_n i => exact xld_S h
  | istore i => exact xst_S h
  | istore_n i => exact xst_S h
  | lstore i => exact xst_S h
  | lstore_n i => exact xst_S h
  | astore i => exact xst_S h
  | astore_n i => exact xst_S h
  | iinc i n => exact xinc_S h
  | _ => exact xno h
end XSIDE
theorem xmg_of {k pc x : Nat} {e : xa_I} (he : xcd k pc = some e) (hk : xkd e.1 = 2) (hx : e.2.2.1 = x) (h5 : Nat.ble 5000 x = false) : xmg x = xmg k := by
  subst hx
  have hm := xlk_mem he
  obtain ⟨ins, len, x, y, z⟩ := e
  dsimp only at hk h5 ⊢
  have hout : ¬ ((137 ≤ k ∧ k < 200) ∨ 272 ≤ k) := fun h => by rw [xcode_out h] at hm; cases hm
  by_cases h1 : k < 137
  · have h2 := List.all_eq_true.mp (xmg_a k h1) _ hm
    have h3 : (Nat.ble 5000 x || Nat.blt x 200) = true := by cases ins <;> first | exact h2 | cases hk
    rw [h5, Bool.false_or] at h3
    have h4 := Nat.blt_eq.mp h3
    unfold xmg
    have e1 : Nat.ble 200 x = false := by
      cases hb : Nat.ble 200 x with
      | false => rfl
      | true => have := Nat.ble_eq.mp hb; omega
    have e2 : Nat.ble 200 k = false := by
      cases hb : Nat.ble 200 k with
      | false => rfl
      | true => have := Nat.ble_eq.mp hb; omega
    rw [e1, e2]
  · have h2 := xmg_b (k - 200) (by omega)
    rw [show 200 + (k - 200) = k by omega] at h2
    have h2 := List.all_eq_true.mp h2 _ hm
    have h3 : (Nat.ble 5000 x || Nat.ble 200 x) = true := by cases ins <;> first | exact h2 | cases hk
    rw [h5, Bool.false_or] at h3
    unfold xmg
    rw [h3, Nat.ble_eq.mpr (show 200 ≤ k by omega)]
/-- a run leaves the cells of the other side as they were -/
theorem xrun_side : ∀ (n k pc : Nat) (L : xa_L) (S : List xa_V) (σ : xa_H) (r : Option xa_V) (σ' : xa_H), xrun n k pc L S σ = some (r, σ') → ∀ K : Nat, ¬ xkg K = xmg k → σ' K = σ K := by
  intro n
  induction n with
  | zero => intro k pc L S σ r σ' h; exact xno h
  | succ n ih =>
    intro k pc L S σ r σ' h K hK
    unfold xrun at h
    split at h
    · exact xno h
    · rename_i e he
      split at h
      · rename_i hk
        cases h1 : Nat.ble e.2.2.2.1 S.length && Nat.ble (xwt (S.drop e.2.2.2.1)) 8 with
        | false => rw [h1] at h; exact xno h
        | true =>
          rw [h1] at h
          simp only [cond_true] at h
          cases h2 : Nat.ble 5000 e.2.2.1 with
          | true =>
            rw [h2] at h
            simp only [cond_true] at h
            split at h
            · exact ih _ _ _ _ _ _ _ h K hK
            · exact xno h
          | false =>
            rw [h2] at h
            simp only [cond_false] at h
            cases h3 : Nat.ble (xwt (S.take e.2.2.2.1).reverse) (xmL e.2.2.1) && (xstat e.1 || xrcv e.2.2.1 (S.take e.2.2.2.1).reverse) with
            | false => rw [h3] at h; exact xno h
            | true =>
              rw [h3] at h
              simp only [cond_true] at h
              split at h
              · rename_i v σ1 hc
                rw [ih _ _ _ _ _ _ _ h K hK]
                exact ih _ _ _ _ _ _ _ hc K (by rw [xmg_of he hk rfl h2]; exact hK)
              · exact xno h
      · unfold xret at h
        split at h <;> first | (cases h; rfl) | exact xno h
      · split at h
        · rename_i q hq
          rw [ih _ _ _ _ _ _ _ h K hK]
          exact xstp_S hK hq
        · exact xno h
