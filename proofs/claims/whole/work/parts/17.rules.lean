/-! fewer locals do not harm -/
section XSUB2
variable {k pc : Nat} {L L' : xa_L} {S : List xa_V} {σ : xa_H} {q : xa_C} {en : xa_I}
theorem xsL {p : Nat} {S' : List xa_V} {σ' : xa_H} {x : Option xa_C} (h : some (p, L', S', σ') = some q) (h2 : x = some (p, L, S', σ')) : q.2.1 = L' ∧ x = some (q.1, L, q.2.2) := by
  cases h
  exact ⟨rfl, h2⟩
theorem xsLi {p : Nat} {S' : List xa_V} {σ' : xa_H} {x : Option xa_C} {c : Prop} [Decidable c] (h : (if c then some (p, L', S', σ') else none) = some q) (h2 : x = if c then some (p, L, S', σ') else none) : q.2.1 = L' ∧ x = some (q.1, L, q.2.2) := by
  by_cases hc : c
  · rw [if_pos hc] at h h2
    exact xsL h h2
  · rw [if_neg hc] at h
    exact xno h
theorem xsLj {p : Nat} {S' : List xa_V} {σ' : xa_H} {x : Option xa_C} {c : Prop} [Decidable c] (h : (if c then none else some (p, L', S', σ')) = some q) (h2 : x = if c then none else some (p, L, S', σ')) : q.2.1 = L' ∧ x = some (q.1, L, q.2.2) := by
  by_cases hc : c
  · rw [if_pos hc] at h
    exact xno h
  · rw [if_neg hc] at h h2
    exact xsL h h2
theorem xsLc {p : Nat} {S' : List xa_V} {σ' : xa_H} {x : Option xa_C} {c : Bool} (h : cond c (some (p, L', S', σ')) none = some q) (h2 : x = cond c (some (p, L, S', σ')) none) : q.2.1 = L' ∧ x = some (q.1, L, q.2.2) := by
  cases c
  · exact xno h
  · exact xsL h h2
theorem xsLd {p : Nat} {S' : List xa_V} {σ' : xa_H} {x : Option xa_C} {c : Bool} (h : cond c none (some (p, L', S', σ')) = some q) (h2 : x = cond c none (some (p, L, S', σ'))) : q.2.1 = L' ∧ x = some (q.1, L, q.2.2) := by
  cases c
  · exact xsL h h2
  · exact xno h
theorem xtab_L {d lo hi v : Int} {offs : Array Int} {S' : List xa_V} (h : (if v < lo ∨ hi < v then some (xtgt pc d, L', S', σ) else match offs[(v - lo).toNat]? with
      | some off => some (xtgt pc off, L', S', σ)
      | none => none) = some q) : q.2.1 = L' ∧ (if v < lo ∨ hi < v then some (xtgt pc d, L, S', σ) else match offs[(v - lo).toNat]? with
      | some off => some (xtgt pc off, L, S', σ)
      | none => none) = some (q.1, L, q.2.2) := by
  by_cases hc : v < lo ∨ hi < v
  · rw [if_pos hc] at h ⊢
    cases h
    exact ⟨rfl, rfl⟩
  · rw [if_neg hc] at h ⊢
    cases ho : offs[(v - lo).toNat]? with
    | none => rw [ho] at h; exact xno h
    | some off =>
      rw [ho] at h
      cases h
      exact ⟨rfl, rfl⟩
theorem xstp_L (ht : xtl en.1 = false) (h : xstp k en pc L' S σ = some q) : q.2.1 = L' ∧ xstp k en pc L S σ = some (q.1, L, q.2.2) := by
  obtain ⟨ins, len, x, y, z⟩ := en
  cases ins with
  | iadd => exact xb_L h
  | isub => exact xb_L h
  | imul => exact xb_L h
  | iand => exact xb_L h
  | ior => exact xb_L h
  | ixor => exact xb_L h
  | ishl => exact xb_L h
  | ishr => exact xb_L h
  | idiv => exact xd_L h
  | irem => exact xd_L h
  | ladd => exact xbl_L h
  | lmul => exact xbl_L h
  | iaload => exact xag_L h
  | baload => exact xag_L h
  | laload => exact xag_L h
  | iastore => exact xap_L h
  | bastore => exact xap_L h
  | lastore => exact xap_L h
  | getfield ix => exact xgf_L h
  | putfield ix => exact xpf_L h
  | iconst v => exact xsL h rfl
  | bipush v => exact xsL h rfl
  | sipush v => exact xsL h rfl
  | lconst v => exact xsL h rfl
  | ldc v => exact xsL h rfl
  | ldc2_w v => exact xsL h rfl
  | aconst_null => exact xsL h rfl
  | goto v => exact xsL h rfl
  | ineg =>
    rcases S with _ | ⟨a | a, S⟩
    · exact xno h
    · exact xsL h rfl
    · exact xno h
  | i2l =>
    rcases S with _ | ⟨a | a, S⟩
    · exact xno h
    · exact xsL h rfl
    · exact xno h
  | i2c =>
    rcases S with _ | ⟨a | a, S⟩
    · exact xno h
    · exact xsL h rfl
    · exact xno h
  | ifCond c off =>
    rcases S with _ | ⟨a | a, S⟩
    · exact xno h
    · exact xsL h rfl
    · exact xno h
  | l2i =>
    rcases S with _ | ⟨a | a | a, S⟩
    · exact xno h
    · exact xno h
    · exact xsL h rfl
    · exact xno h
  | ifnull off =>
    rcases S with _ | ⟨a | a | a, S⟩
    · exact xno h
    · exact xno h
    · exact xno h
    · exact xsL h rfl
  | ifnonnull off =>
    rcases S with _ | ⟨a | a | a, S⟩
    · exact xno h
    · exact xno h
    · exact xno h
    · exact xsL h rfl
  | lcmp =>
    rcases S with _ | ⟨a | a | a, _ | ⟨b | b | b, S⟩⟩
    · exact xno h
    · exact xno h
    · exact xno h
    · exact xno h
    · exact xno h
    · exact xno h
    · exact xno h
    · exact xsL h rfl
    · exact xno h
    · exact xno h
    · exact xno h
    · exact xno h
    · exact xno h
  | ldiv =>
    rcases S with _ | ⟨a | a | a, _ | ⟨b | b | b, S⟩⟩
    · exact xno h
    · exact xno h
    · exact xno h
    · exact xno h
    · exact xno h
    · exact xno h
    · exact xno h
    · exact xsLi h rfl
    · exact xno h
    · exact xno h
    · exact xno h
    · exact xno h
    · exact xno h
  | if_icmp c off =>
    rcases S with _ | ⟨a | a, _ | ⟨b | b, S⟩⟩
    · exact xno h
    · exact xno h
    · exact xsL h rfl
    · exact xno h
    · exact xno h
    · exact xno h
    · exact xno h
  | if_acmp c off =>
    cases c
    · rcases S with _ | ⟨a | a | a, _ | ⟨b | b | b, S⟩⟩ <;> exact xno h
    · rcases S with _ | ⟨a | a | a, _ | ⟨b | b | b, S⟩⟩
      · exact xno h
      · exact xno h
      · exact xno h
      · exact xno h
      · exact xno h
      · exact xno h
      · exact xno h
      · exact xno h
      · exact xno h
      · exact xno h
      · exact xno h
      · exact xno h
      · exact xsLc h rfl
  | tableswitch d lo hi offs =>
    rcases S with _ | ⟨a | a, S⟩
    · exact xno h
    · exact xtab_L h
    · exact xno h
  | dup =>
    rcases S with _ | ⟨a, S⟩
    · exact xno h
    · exact xsLd h rfl
  | pop =>
    rcases S with _ | ⟨a, S⟩
    · exact xno h
    · exact xsLd h rfl
  | dup2 =>
    rcases S with _ | ⟨a, _ | ⟨b, S⟩⟩
    · exact xno h
    · exact xno h
    · exact xsLd h rfl
  | arraylength =>
    rcases S with _ | ⟨a | a | _ | a, S⟩
    · exact xno h
    · exact xno h
    · exact xno h
    · exact xno h
    · exact xsLj h rfl
  | aaload =>
    rcases S with _ | ⟨a | a, _ | ⟨b | b | _ | b, S⟩⟩
    · exact xno h
    · exact xno h
    · exact xno h
    · exact xno h
    · exact xno h
    · exact xsLi h rfl
    · exact xno h
    · exact xno h
    · exact xno h
    · exact xno h
    · exact xno h
  | iload i => exact absurd ht (by intro h; cases h)
  | iload_n i => exact absurd ht (by intro h; cases h)
  | lload i => exact absurd ht (by intro h; cases h)
  | lload_n i => exact absurd ht (by intro h; cases h)
  | aload i => exact absurd ht (by intro h; cases h)
  | aload_n i => exact absurd ht (by intro h; cases h)
  | istore i => exact absurd ht (by intro h; cases h)
  | istore_n i => exact absurd ht (by intro h; cases h)
  | lstore i => exact absurd ht (by intro h; cases h)
  | lstore_n i => exact absurd ht (by intro h; cases h)
  | astore i => exact absurd ht (by intro h; cases h)
  | astore_n i => exact absurd ht (by intro h; cases h)
  | iinc i n => exact absurd ht (by intro h; cases h)
  | _ => exact xno h
end XSUB2
