/-! fewer locals, whole runs -/
theorem xrun_sub : ∀ (n k pc : Nat) (L' L : xa_L) (S : List xa_V) (σ : xa_H) (r : Option xa_V × xa_H), xnd L → xsb L' L → xrun n k pc L' S σ = some r → xrun n k pc L S σ = some r := by
  intro n
  induction n with
  | zero => intro k pc L' L S σ r _ _ h; exact xno h
  | succ n ih =>
    intro k pc L' L S σ r hn hs h
    unfold xrun at h ⊢
    split at h
    · exact xno h
    · rename_i e he
      split at h
      · rename_i hk
        cases h1 : Nat.ble e.2.2.2.1 S.length && Nat.ble (xwt (S.drop e.2.2.2.1)) 8 with
        | false => rw [h1] at h; cases h
        | true =>
          rw [h1] at h
          simp only [cond_true] at h ⊢
          cases h2 : Nat.ble 5000 e.2.2.1 with
          | true =>
            rw [h2] at h
            simp only [cond_true] at h ⊢
            split at h
            · exact ih _ _ _ _ _ _ _ hn hs h
            · cases h
          | false =>
            rw [h2] at h
            simp only [cond_false] at h ⊢
            cases h3 : Nat.ble (xwt (S.take e.2.2.2.1).reverse) (xmL e.2.2.1) && (xstat e.1 || xrcv e.2.2.1 (S.take e.2.2.2.1).reverse) with
            | false => rw [h3] at h; cases h
            | true =>
              rw [h3] at h
              simp only [cond_true] at h ⊢
              split at h
              · exact ih _ _ _ _ _ _ _ hn hs h
              · cases h
      · exact h
      · split at h
        · rename_i q hq
          obtain ⟨q2, g1, g2, g3, g4, g5⟩ := xstp_sb hn hs hq
          rw [g1]
          dsimp only
          rw [g2, g3]
          exact ih _ _ _ _ _ _ _ g4 g5 h
        · cases h
