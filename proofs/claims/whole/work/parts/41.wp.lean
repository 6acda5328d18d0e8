/-! what comes out of a function, and of what kind it is -/
def xW {α : Type} (t : Option α) (Q : α → Prop) : Prop := ∃ x, t = some x ∧ Q x
section WP
variable {α β γ : Type}
theorem xW_some {x : α} {Q : α → Prop} (h : Q x) : xW (some x) Q := ⟨x, rfl, h⟩
theorem xW_eq {t : Option α} {x : α} {Q : α → Prop} (e : t = some x) (h : Q x) : xW t Q := ⟨x, e, h⟩
theorem xW_mono {t : Option α} {P Q : α → Prop} (h : xW t P) (hq : ∀ x, P x → Q x) : xW t Q := by
  obtain ⟨x, e, hx⟩ := h
  exact ⟨x, e, hq x hx⟩
theorem xW_bind {t : Option α} {f : α → Option β} {P : α → Prop} {Q : β → Prop} (h : xW t P) (hf : ∀ x, P x → xW (f x) Q) : xW (t.bind f) Q := by
  obtain ⟨x, e, hx⟩ := h
  rw [e]
  exact hf x hx
theorem xW_be {t : Option α} {f : α → Option β} {x : α} {Q : β → Prop} (e : t = some x) (hf : xW (f x) Q) : xW (t.bind f) Q := by
  rw [e]
  exact hf
theorem xW_nm {e : α} {K : α → Option β} {Q : β → Prop} (h : xW (K e) Q) : xW (xnm e K) Q := h
theorem xW_nmg {e : α} {K : α → Option β} {Q : β → Prop} (h : ∀ x, x = e → xW (K x) Q) : xW (xnm e K) Q := h e rfl
theorem xW_b2 {t : Option (Int × xa_H)} {K : Int → xa_H → Option β} {P : Int × xa_H → Prop} {Q : β → Prop} (h : xW t P) (hf : ∀ v s, P (v, s) → xW (K v s) Q) : xW (xb2 t K) Q := by
  obtain ⟨x, e, hx⟩ := h
  unfold xb2
  rw [e]
  exact hf x.1 x.2 hx
theorem xW_be2 {t : Option (Int × xa_H)} {K : Int → xa_H → Option β} {v : Int} {s : xa_H} {Q : β → Prop} (e : t = some (v, s)) (hf : xW (K v s) Q) : xW (xb2 t K) Q := by
  unfold xb2
  rw [e]
  exact hf
theorem xW_j {K : α} {F : α → Option β} {Q : β → Prop} (h : xW (F K) Q) : xW (xj K F) Q := h
theorem xW_if {c : Prop} [Decidable c] {a b : Option β} {Q : β → Prop} (h1 : c → xW a Q) (h2 : ¬ c → xW b Q) : xW (if c then a else b) Q := by
  by_cases h : c
  · rw [if_pos h]; exact h1 h
  · rw [if_neg h]; exact h2 h
theorem xW_t {c : Prop} [Decidable c] {a b : Option β} {Q : β → Prop} (h : c) (h1 : xW a Q) : xW (if c then a else b) Q := by
  rw [if_pos h]; exact h1
theorem xW_f {c : Prop} [Decidable c] {a b : Option β} {Q : β → Prop} (h : ¬ c) (h1 : xW b Q) : xW (if c then a else b) Q := by
  rw [if_neg h]; exact h1
theorem xW_and {t : Option α} {P Q : α → Prop} (h : xW t P) (hq : xW t Q) : xW t (fun x => P x ∧ Q x) := by
  obtain ⟨x, e, hx⟩ := h
  obtain ⟨y, e2, hy⟩ := hq
  have : x = y := Option.some.inj (e.symm.trans e2)
  subst this
  exact ⟨x, e, hx, hy⟩
/-- a loop that counts up -/
theorem xfor (f : Nat → Int → γ → Option β) (N : Nat) (I : Nat → γ → Prop) (Q : β → Prop)
    (step : ∀ (n j : Nat) (g : γ), j < N → I j g → (∀ g', I (j + 1) g' → xW (f n ((j + 1 : Nat) : Int) g') Q) → xW (f (n + 1) (j : Int) g) Q)
    (fin : ∀ (n : Nat) (g : γ), I N g → xW (f (n + 1) (N : Int) g) Q) : ∀ (d j n : Nat) (g : γ), j + d = N → d < n → I j g → xW (f n (j : Int) g) Q := by
  intro d
  induction d with
  | zero =>
    intro j n g hj hn hI
    obtain ⟨m, rfl⟩ : ∃ m, n = m + 1 := ⟨n - 1, by omega⟩
    have e : j = N := by omega
    subst e
    exact fin m g hI
  | succ d ih =>
    intro j n g hj hn hI
    obtain ⟨m, rfl⟩ : ∃ m, n = m + 1 := ⟨n - 1, by omega⟩
    exact step m j g (by omega) hI (fun g' hg' => ih (j + 1) m g' (by omega) (by omega) hg')
theorem xfor0 (f : Nat → Int → γ → Option β) (N : Nat) (I : Nat → γ → Prop) (Q : β → Prop) (hN : N < xFU)
    (step : ∀ (n j : Nat) (g : γ), j < N → I j g → (∀ g', I (j + 1) g' → xW (f n ((j + 1 : Nat) : Int) g') Q) → xW (f (n + 1) (j : Int) g) Q)
    (fin : ∀ (n : Nat) (g : γ), I N g → xW (f (n + 1) (N : Int) g) Q) (g : γ) (h : I 0 g) : xW (f xFU 0 g) Q :=
  xfor f N I Q step fin N 0 xFU g (by omega) hN h
/-- a loop with a measure -/
theorem xwhile (f : Nat → γ → Option β) (I : γ → Prop) (μ : γ → Nat) (Q : β → Prop)
    (step : ∀ (n : Nat) (g : γ), I g → (∀ g', I g' → μ g' < μ g → xW (f n g') Q) → xW (f (n + 1) g) Q) : ∀ (n : Nat) (g : γ), μ g < n → I g → xW (f n g) Q := by
  intro n
  induction n with
  | zero => intro g h _; omega
  | succ n ih =>
    intro g h hI
    exact step n g hI (fun g' hg' hm => ih g' (by omega) hg')
end WP
theorem xfu_b {n : Nat} (h : n ≤ 9999999999999999999) : n < xFU := by unfold xFU; omega
theorem w32_n {x : Int} (h : -2147483648 ≤ x) (h2 : x < 2147483648) : w32 x = x := w32_id ⟨h, h2⟩
theorem w64_n {x : Int} (h : -9223372036854775808 ≤ x) (h2 : x < 9223372036854775808) : w64 x = x := w64_id ⟨h, h2⟩
/-- what is left as it was -/
def xfr (L : List Nat) (σ σ' : xa_H) : Prop := ∀ K : Nat, K ∉ L → σ' K = σ K
theorem xfr_r (L : List Nat) (σ : xa_H) : xfr L σ σ := fun _ _ => rfl
theorem xfr_t {L : List Nat} {σ σ1 σ2 : xa_H} (h : xfr L σ σ1) (h2 : xfr L σ1 σ2) : xfr L σ σ2 := fun K hK => (h2 K hK).trans (h K hK)
theorem xfr_m {L L' : List Nat} {σ σ' : xa_H} (h : xfr L σ σ') (hl : ∀ K ∈ L, K ∈ L') : xfr L' σ σ' := fun K hK => h K (fun q => hK (hl K q))
theorem xfr_up {L : List Nat} {σ : xa_H} {K i s : Nat} {v : Int} (h : K ∈ L) : xfr L σ (xup σ K i s v) := by
  intro K' hK'
  funext i' s'
  unfold xup
  rw [if_neg]
  rintro ⟨e, -⟩
  subst e
  exact hK' h
theorem xup_at {σ : xa_H} {K i s : Nat} {v : Int} : xup σ K i s v K i s = v := by
  unfold xup
  rw [if_pos ⟨rfl, rfl, rfl⟩]
theorem xup_o {σ : xa_H} {K i s K' i' s' : Nat} {v : Int} (h : ¬ (K' = K ∧ i' = i ∧ s' = s)) : xup σ K i s v K' i' s' = σ K' i' s' := by
  unfold xup
  rw [if_neg h]
theorem xup_v (σ : xa_H) (K i s K' i' s' : Nat) (v : Int) : xup σ K i s v K' i' s' = if K' = K ∧ i' = i ∧ s' = s then v else σ K' i' s' := rfl
theorem q_rd {K i : Nat} {a : Int} {σ : xa_H} (h : 0 ≤ a) (h2 : a < (xalen K : Int)) : fm_S_read K i a σ = some (σ K i a.toNat) := by rw [q_read, if_pos ⟨h, h2⟩]
theorem q_wr {K i : Nat} {a v : Int} {σ : xa_H} (h : 0 ≤ a) (h2 : a < (xalen K : Int)) : fm_S_write K i a v σ = some (xup σ K i a.toNat v) := by rw [q_write, if_pos ⟨h, h2⟩]
theorem xl_11 : (xalen 11 : Int) = 256 := rfl
theorem xl_12 : (xalen 12 : Int) = 3456 := rfl
theorem xl_13 : (xalen 13 : Int) = 12 := rfl
theorem xl_14 : (xalen 14 : Int) = 3456 := rfl
theorem xl_15 : (xalen 15 : Int) = 3456 := rfl
theorem xl_16 : (xalen 16 : Int) = 3456 := rfl
theorem xl_17 : (xalen 17 : Int) = 60 := rfl
theorem xl_18 : (xalen 18 : Int) = 1089 := rfl
theorem xl_19 : (xalen 19 : Int) = 144 := rfl
theorem xl_20 : (xalen 20 : Int) = 240 := rfl
theorem xl_21 : (xalen 21 : Int) = 3456 := rfl
theorem xl_22 : (xalen 22 : Int) = 3456 := rfl
theorem xl_23 : (xalen 23 : Int) = 3456 := rfl
theorem xl_25 : (xalen 25 : Int) = 4 := rfl
theorem xl_26 : (xalen 26 : Int) = 4 := rfl
theorem xl_27 : (xalen 27 : Int) = 30 := rfl
theorem xl_28 : (xalen 28 : Int) = 10 := rfl
theorem xl_29 : (xalen 29 : Int) = 3 := rfl
theorem xl_30 : (xalen 30 : Int) = 4 := rfl
theorem xl_31 : (xalen 31 : Int) = 72 := rfl
theorem xl_32 : (xalen 32 : Int) = 144 := rfl
theorem xl_33 : (xalen 33 : Int) = 144 := rfl
theorem xl_34 : (xalen 34 : Int) = 864 := rfl
