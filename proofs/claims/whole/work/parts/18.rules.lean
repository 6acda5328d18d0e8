/-! fewer locals; calls; returns; branches (second half) -/
section XSUB2
variable {k pc : Nat} {L L' : xa_L} {S : List xa_V} {σ : xa_H} {q : xa_C} {en : xa_I}
theorem xget_sb {i : Nat} {v : xa_V} (hn : xnd L) (hs : xsb L' L) (h : xget L' i = some v) : xget L i = some v := xget_in hn (hs _ (xget_mem h))
theorem xld_sb {i len t : Nat} (hn : xnd L) (hs : xsb L' L) (h : xs_ld i len pc L' S σ t = some q) : ∃ q2 : xa_C, xs_ld i len pc L S σ t = some q2 ∧ q2.1 = q.1 ∧ q2.2.2 = q.2.2 ∧ xnd q2.2.1 ∧ xsb q.2.1 q2.2.1 := by
  unfold xs_ld at h ⊢
  cases hg : xget L' i with
  | none => rw [hg] at h; exact xno h
  | some v =>
    rw [hg] at h
    rw [xget_sb hn hs hg]
    rcases v with a | a | r
    · dsimp only at h ⊢
      cases hb : Nat.beq t 0 with
      | false => rw [hb] at h; exact xno h
      | true => rw [hb] at h; cases h; exact ⟨_, rfl, rfl, rfl, hn, hs⟩
    · dsimp only at h ⊢
      cases hb : Nat.beq t 1 with
      | false => rw [hb] at h; exact xno h
      | true => rw [hb] at h; cases h; exact ⟨_, rfl, rfl, rfl, hn, hs⟩
    · dsimp only at h ⊢
      cases hb : Nat.beq t 2 with
      | false => rw [hb] at h; exact xno h
      | true => rw [hb] at h; cases h; exact ⟨_, rfl, rfl, rfl, hn, hs⟩
theorem xst_sb {i len t mx : Nat} (hn : xnd L) (hs : xsb L' L) (h : xs_st i len pc L' S σ t mx = some q) : ∃ q2 : xa_C, xs_st i len pc L S σ t mx = some q2 ∧ q2.1 = q.1 ∧ q2.2.2 = q.2.2 ∧ xnd q2.2.1 ∧ xsb q.2.1 q2.2.1 := by
  unfold xs_st at h ⊢
  split at h
  · rename_i v S'
    cases hb : Nat.beq t 0 && Nat.blt i mx with
    | false => rw [hb] at h; exact xno h
    | true => rw [hb] at h; cases h; exact ⟨_, rfl, rfl, rfl, xnd_set hn, xsb_cons hs⟩
  · rename_i v S'
    cases hb : Nat.beq t 1 && Nat.blt (i + 1) mx with
    | false => rw [hb] at h; exact xno h
    | true => rw [hb] at h; cases h; exact ⟨_, rfl, rfl, rfl, xnd_setl hn, xsb_cons hs⟩
  · rename_i v S'
    cases hb : Nat.beq t 2 && Nat.blt i mx with
    | false => rw [hb] at h; exact xno h
    | true => rw [hb] at h; cases h; exact ⟨_, rfl, rfl, rfl, xnd_set hn, xsb_cons hs⟩
  · exact xno h
theorem xstp_sb (hn : xnd L) (hs : xsb L' L) (h : xstp k en pc L' S σ = some q) : ∃ q2 : xa_C, xstp k en pc L S σ = some q2 ∧ q2.1 = q.1 ∧ q2.2.2 = q.2.2 ∧ xnd q2.2.1 ∧ xsb q.2.1 q2.2.1 := by
  cases ht : xtl en.1 with
  | false =>
    obtain ⟨h1, h2⟩ := xstp_L (L := L) ht h
    exact ⟨_, h2, rfl, rfl, hn, by rw [h1]; exact hs⟩
  | true =>
    obtain ⟨ins, len, x, y, z⟩ := en
    cases ins with
    | iload i => exact xld_sb hn hs h
    | iload_n i => exact xld_sb hn hs h
    | lload i => exact xld_sb hn hs h
    | lload_n i => exact xld_sb hn hs h
    | aload i => exact xld_sb hn hs h
    | aload_n i => exact xld_sb hn hs h
    | istore i => exact xst_sb hn hs h
    | istore_n i => exact xst_sb hn hs h
    | lstore i => exact xst_sb hn hs h
    | lstore_n i => exact xst_sb hn hs h
    | astore i => exact xst_sb hn hs h
    | astore_n i => exact xst_sb hn hs h
    | iinc i n =>
      have h : (match xget L' i with
        | some (.inl v) => cond (Nat.blt i (xmL k)) (some (pc + 3, xset L' i (.inl (w32 (v + n))), S, σ)) none
        | _ => none) = some q := h
      cases hg : xget L' i with
      | none => rw [hg] at h; exact xno h
      | some v =>
        rw [hg] at h
        rcases v with a | a
        · have h : cond (Nat.blt i (xmL k)) (some (pc + 3, xset L' i (.inl (w32 (a + n))), S, σ)) none = some q := h
          cases hb : Nat.blt i (xmL k) with
          | false => rw [hb] at h; exact xno h
          | true =>
            rw [hb] at h
            cases h
            refine ⟨(pc + 3, xset L i (.inl (w32 (a + n))), S, σ), ?_, rfl, rfl, xnd_set hn, xsb_cons hs⟩
            show (match xget L i with
              | some (.inl v) => cond (Nat.blt i (xmL k)) (some (pc + 3, xset L i (.inl (w32 (v + n))), S, σ)) none
              | _ => none) = _
            rw [xget_sb hn hs hg]
            show cond (Nat.blt i (xmL k)) _ none = _
            rw [hb]
            rfl
        · exact xno h
    | _ => exact absurd ht (by intro h; cases h)
end XSUB2
