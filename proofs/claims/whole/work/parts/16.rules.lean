/-! fewer locals; calls; returns; branches -/
def xnd (L : xa_L) : Prop := (L.map Prod.fst).Nodup
theorem xget_in {i : Nat} {v : xa_V} : ∀ {L : xa_L}, xnd L → (i, v) ∈ L → xget L i = some v := by
  intro L
  induction L with
  | nil => intro _ h; cases h
  | cons q r ih =>
    intro hn h
    unfold xnd at hn
    rw [List.map_cons, List.nodup_cons] at hn
    unfold xget
    rcases List.mem_cons.mp h with h | h
    · subst h
      rw [Nat.beq_refl, cond_true]
    · have hne : Nat.beq q.1 i = false := by
        cases hb : Nat.beq q.1 i with
        | false => rfl
        | true =>
          have e := Nat.eq_of_beq_eq_true hb
          exact absurd (List.mem_map.mpr ⟨(i, v), h, rfl⟩) (by rw [← e]; exact hn.1)
      rw [hne, cond_false]
      exact ih hn.2 h
theorem xnd_filter {L : xa_L} {f : Nat × xa_V → Bool} (h : xnd L) : xnd (L.filter f) := by
  unfold xnd at h ⊢
  exact List.Nodup.sublist (List.Sublist.map _ List.filter_sublist) h
theorem xnd_set {L : xa_L} {i : Nat} {v : xa_V} (h : xnd L) : xnd (xset L i v) := by
  unfold xset
  show ((_ :: _ : xa_L).map Prod.fst).Nodup
  rw [List.map_cons, List.nodup_cons]
  refine ⟨fun hm => ?_, xnd_filter h⟩
  obtain ⟨q, hq, e⟩ := List.mem_map.mp hm
  have h2 := (List.mem_filter.mp hq).2
  rw [Bool.and_eq_true] at h2
  have h3 := h2.1
  rw [show q.1 = i from e] at h3
  simp at h3
theorem xnd_setl {L : xa_L} {i : Nat} {v : xa_V} (h : xnd L) : xnd (xsetl L i v) := by
  unfold xsetl
  show ((_ :: _ : xa_L).map Prod.fst).Nodup
  rw [List.map_cons, List.nodup_cons]
  refine ⟨fun hm => ?_, xnd_filter h⟩
  obtain ⟨q, hq, e⟩ := List.mem_map.mp hm
  have h2 := (List.mem_filter.mp hq).2
  rw [Bool.and_eq_true] at h2
  have h3 := h2.1
  rw [show q.1 = i from e] at h3
  simp at h3
def xsb (L' L : xa_L) : Prop := ∀ q ∈ L', q ∈ L
theorem xsb_cons {q : Nat × xa_V} {L' L : xa_L} {f : Nat × xa_V → Bool} (h : xsb L' L) : xsb (q :: L'.filter f) (q :: L.filter f) := by
  intro x hx
  rcases List.mem_cons.mp hx with rfl | hx
  · exact List.mem_cons_self
  · have := List.mem_filter.mp hx
    exact List.mem_cons_of_mem _ (List.mem_filter.mpr ⟨h x this.1, this.2⟩)
def xtl : Instr → Bool
  | .iload _ => true
  | .iload_n _ => true
  | .lload _ => true
  | .lload_n _ => true
  | .aload _ => true
  | .aload_n _ => true
  | .istore _ => true
  | .istore_n _ => true
  | .lstore _ => true
  | .lstore_n _ => true
  | .astore _ => true
  | .astore_n _ => true
  | .iinc _ _ => true
  | _ => false
section XSUB
variable {k pc : Nat} {L L' : xa_L} {S : List xa_V} {σ : xa_H} {q : xa_C} {en : xa_I}
theorem xb_L {f : Int → Int → Int} (h : xs_b f pc L' S σ = some q) : q.2.1 = L' ∧ xs_b f pc L S σ = some (q.1, L, q.2.2) := by
  unfold xs_b at h ⊢
  split at h
  · cases h; exact ⟨rfl, rfl⟩
  · exact xno h
theorem xd_L {f : Int → Int → Int} (h : xs_d f pc L' S σ = some q) : q.2.1 = L' ∧ xs_d f pc L S σ = some (q.1, L, q.2.2) := by
  unfold xs_d at h ⊢
  split at h
  · split at h
    · rename_i hc
      cases h
      exact ⟨rfl, if_pos hc⟩
    · exact xno h
  · exact xno h
theorem xbl_L {f : Int → Int → Int} (h : xs_bl f pc L' S σ = some q) : q.2.1 = L' ∧ xs_bl f pc L S σ = some (q.1, L, q.2.2) := by
  unfold xs_bl at h ⊢
  split at h
  · cases h; exact ⟨rfl, rfl⟩
  · exact xno h
theorem xag_L {t : Nat} (h : xs_aget t pc L' S σ = some q) : q.2.1 = L' ∧ xs_aget t pc L S σ = some (q.1, L, q.2.2) := by
  unfold xs_aget at h ⊢
  split at h
  · split at h
    · rename_i hc
      cases h
      exact ⟨rfl, if_pos hc⟩
    · exact xno h
  · exact xno h
theorem xap_L {t : Nat} (h : xs_aput k t pc L' S σ = some q) : q.2.1 = L' ∧ xs_aput k t pc L S σ = some (q.1, L, q.2.2) := by
  unfold xs_aput at h ⊢
  split at h
  · split at h
    · rename_i hc
      cases h
      exact ⟨rfl, if_pos hc⟩
    · exact xno h
  · split at h
    · rename_i hc
      cases h
      exact ⟨rfl, if_pos hc⟩
    · exact xno h
  · exact xno h
theorem xgf_L {x y : Nat} (h : xs_getf x y pc L' S σ = some q) : q.2.1 = L' ∧ xs_getf x y pc L S σ = some (q.1, L, q.2.2) := by
  unfold xs_getf at h ⊢
  split at h
  · rename_i K i S'
    cases hb : Nat.beq K x with
    | false => rw [hb] at h; exact xno h
    | true =>
      simp only [hb, cond_true] at h ⊢
      split at h <;> first | (cases h; exact ⟨rfl, rfl⟩) | exact xno h
  · exact xno h
theorem xpf_L {x y : Nat} (h : xs_putf k x y pc L' S σ = some q) : q.2.1 = L' ∧ xs_putf k x y pc L S σ = some (q.1, L, q.2.2) := by
  unfold xs_putf at h ⊢
  split at h
  · rename_i v K i S'
    cases hb : Nat.beq K x && Nat.beq (xkg K) (xmg k) with
    | false => rw [hb] at h; exact xno h
    | true =>
      simp only [hb, cond_true] at h ⊢
      split at h
      · cases h; exact ⟨rfl, rfl⟩
      · split at h
        · rename_i hc
          cases h
          exact ⟨rfl, if_pos hc⟩
        · exact xno h
      · cases h; exact ⟨rfl, rfl⟩
      · rename_i K2 j _
        cases hb2 : Nat.beq K2 5 with
        | false => rw [hb2] at h; exact xno h
        | true =>
          rw [hb2] at h
          cases h
          exact ⟨rfl, by rfl⟩
      · exact xno h
  · exact xno h
end XSUB
