/-! the key of the answer stays, whatever is searched -/
def xPr {α : Type} (v : Int) (p : α → xa_H) (t : Option α) : Prop := ∀ x, t = some x → p x 0 0 1 = v
section XP
variable {α : Type} {v : Int} {p : α → xa_H}
theorem xPr_n : xPr v p none := fun _ h => by cases h
theorem xPr_s {x : α} (h : p x 0 0 1 = v) : xPr v p (some x) := fun y hy => by cases hy; exact h
theorem xPr_bi {t : Option Int} {f : Int → Option α} (h : ∀ x, xPr v p (f x)) : xPr v p (t.bind f) := by
  cases t with
  | none => exact xPr_n
  | some x => exact h x
theorem xPr_bs {t : Option xa_H} {f : xa_H → Option α} (h : xPr v (fun s => s) t) (hf : ∀ s : xa_H, s 0 0 1 = v → xPr v p (f s)) : xPr v p (t.bind f) := by
  cases t with
  | none => exact xPr_n
  | some x => exact hf x (h x rfl)
theorem xPr_b2 {t : Option (Int × xa_H)} {K : Int → xa_H → Option α} (h : xPr v (fun r => r.2) t) (hf : ∀ (x : Int) (s : xa_H), s 0 0 1 = v → xPr v p (K x s)) : xPr v p (xb2 t K) := by
  cases t with
  | none => exact xPr_n
  | some x => exact hf x.1 x.2 (h x rfl)
theorem xPr_if {c : Prop} [Decidable c] {a b : Option α} (h1 : xPr v p a) (h2 : xPr v p b) : xPr v p (if c then a else b) := by
  by_cases hc : c
  · rw [if_pos hc]; exact h1
  · rw [if_neg hc]; exact h2
theorem xPr_mi {e : Int} {K : Int → Option α} (h : ∀ x, xPr v p (K x)) : xPr v p (xnm e K) := h e
theorem xPr_ms {e : xa_H} {K : xa_H → Option α} (h : e 0 0 1 = v) (hf : ∀ s : xa_H, s 0 0 1 = v → xPr v p (K s)) : xPr v p (xnm e K) := hf e h
theorem xPr_j {β : Type} {K : β} {F : β → Option α} (h : xPr v p (F K)) : xPr v p (xj K F) := h
theorem xPr_w {K i : Nat} {a w : Int} {s : xa_H} (hK : ¬ K = 0) (h : s 0 0 1 = v) : xPr v (fun s => s) (fm_S_write K i a w s) := by
  unfold fm_S_write
  refine xPr_if (xPr_s h) (xPr_if (xPr_s h) (xPr_if ?_ xPr_n))
  exact xPr_s (by show xup s K i a.toNat w 0 0 1 = v; rw [xup_o (by omega)]; exact h)
theorem k_fits {a : Int} {s : xa_H} (h : s 0 0 1 = v) : xPr v (fun r => r.2) (fm_Search_fits a s) := by
  unfold fm_Search_fits
  repeat' (first | with_reducible exact xPr_n | with_reducible assumption | with_reducible refine xPr_w (by decide) ?_ | with_reducible refine xPr_if ?_ ?_ | with_reducible refine xPr_j ?_ | with_reducible refine xPr_bi ?_ | with_reducible refine xPr_bs ?_ ?_ | with_reducible refine xPr_b2 ?_ ?_ | with_reducible refine xPr_mi ?_ | with_reducible refine xPr_ms ?_ ?_ | with_reducible refine xPr_s ?_ | rw [xup_o (by omega)] | intro _)
theorem k_put {a b : Int} {s : xa_H} (h : s 0 0 1 = v) : xPr v (fun s => s) (fm_Cheapest_put a b s) := by
  unfold fm_Cheapest_put
  repeat' (first | with_reducible exact xPr_n | with_reducible assumption | with_reducible refine xPr_w (by decide) ?_ | with_reducible refine xPr_if ?_ ?_ | with_reducible refine xPr_j ?_ | with_reducible refine xPr_bi ?_ | with_reducible refine xPr_bs ?_ ?_ | with_reducible refine xPr_b2 ?_ ?_ | with_reducible refine xPr_mi ?_ | with_reducible refine xPr_ms ?_ ?_ | with_reducible refine xPr_s ?_ | rw [xup_o (by omega)] | intro _)
theorem k_rise9 {f1 : Int} {K : Int → xa_H → Option xa_H} (hK : ∀ (x : Int) (s : xa_H), s 0 0 1 = v → xPr v (fun s => s) (K x s)) : ∀ (n : Nat) (x2 : Int) (s : xa_H), s 0 0 1 = v → xPr v (fun s => s) (fm_Cheapest_rise_9 f1 K n x2 s) := by
  intro n
  induction n with
  | zero => intro x2 s h; exact xPr_n
  | succ n ih =>
    intro x2 s h
    rw [fm_Cheapest_rise_9]
    repeat' (first | with_reducible exact xPr_n | with_reducible assumption | with_reducible (apply ih <;> assumption) | with_reducible (apply hK <;> assumption) | with_reducible refine k_put ?_ | with_reducible refine xPr_w (by decide) ?_ | with_reducible refine xPr_if ?_ ?_ | with_reducible refine xPr_j ?_ | with_reducible refine xPr_bi ?_ | with_reducible refine xPr_bs ?_ ?_ | with_reducible refine xPr_b2 ?_ ?_ | with_reducible refine xPr_mi ?_ | with_reducible refine xPr_ms ?_ ?_ | with_reducible refine xPr_s ?_ | rw [xup_o (by omega)] | intro _)
theorem k_rise {a : Int} {s : xa_H} (h : s 0 0 1 = v) : xPr v (fun s => s) (fm_Cheapest_rise a s) := by
  unfold fm_Cheapest_rise
  refine xPr_bi (fun x => k_rise9 (fun x s h => xPr_bs (k_put h) (fun s h => xPr_s h)) _ _ _ h)
theorem k_come {a b : Int} {s : xa_H} (h : s 0 0 1 = v) : xPr v (fun s => s) (fm_Cheapest_come a b s) := by
  unfold fm_Cheapest_come
  repeat' (first | with_reducible exact xPr_n | with_reducible assumption | with_reducible refine k_fits ?_ | with_reducible refine k_rise ?_ | with_reducible refine xPr_w (by decide) ?_ | with_reducible refine xPr_if ?_ ?_ | with_reducible refine xPr_j ?_ | with_reducible refine xPr_bi ?_ | with_reducible refine xPr_bs ?_ ?_ | with_reducible refine xPr_b2 ?_ ?_ | with_reducible refine xPr_mi ?_ | with_reducible refine xPr_ms ?_ ?_ | with_reducible refine xPr_s ?_ | rw [xup_o (by omega)] | intro _)
theorem k_back2 {f1 : Int} {K : xa_H → Option xa_H} (hK : ∀ s : xa_H, s 0 0 1 = v → xPr v (fun s => s) (K s)) : ∀ (n : Nat) (x2 : Int) (s : xa_H), s 0 0 1 = v → xPr v (fun s => s) (fm_Cheapest_comeBackFrom_2 f1 K n x2 s) := by
  intro n
  induction n with
  | zero => intro x2 s h; exact xPr_n
  | succ n ih =>
    intro x2 s h
    rw [fm_Cheapest_comeBackFrom_2]
    repeat' (first | with_reducible exact xPr_n | with_reducible assumption | with_reducible (apply ih <;> assumption) | with_reducible (apply hK <;> assumption) | with_reducible refine k_come ?_ | with_reducible refine xPr_w (by decide) ?_ | with_reducible refine xPr_if ?_ ?_ | with_reducible refine xPr_j ?_ | with_reducible refine xPr_bi ?_ | with_reducible refine xPr_bs ?_ ?_ | with_reducible refine xPr_b2 ?_ ?_ | with_reducible refine xPr_mi ?_ | with_reducible refine xPr_ms ?_ ?_ | with_reducible refine xPr_s ?_ | rw [xup_o (by omega)] | intro _)
theorem k_back {a : Int} {s : xa_H} (h : s 0 0 1 = v) : xPr v (fun s => s) (fm_Cheapest_comeBackFrom a s) := k_back2 (fun _ h => xPr_s h) _ _ _ h
theorem k_add {a : Int} {s : xa_H} (h : s 0 0 1 = v) : xPr v (fun s => s) (fm_Answer_add a s) := by
  unfold fm_Answer_add
  refine xPr_bs (xPr_w (by decide) h) (fun s h => xPr_ms (by rw [xup_o (by omega)]; exact h) (fun s h => xPr_s h))
theorem k_walk5 {K : xa_H → Option xa_H} (hK : ∀ s : xa_H, s 0 0 1 = v → xPr v (fun s => s) (K s)) : ∀ (n : Nat) (x3 x4 : Int) (s : xa_H), s 0 0 1 = v → xPr v (fun s => s) (fm_Cheapest_walk_5 K n x3 x4 s) := by
  intro n
  induction n with
  | zero => intro x3 x4 s h; exact xPr_n
  | succ n ih =>
    intro x3 x4 s h
    rw [fm_Cheapest_walk_5]
    repeat' (first | with_reducible exact xPr_n | with_reducible assumption | with_reducible (apply ih <;> assumption) | with_reducible (apply hK <;> assumption) | with_reducible refine k_add ?_ | with_reducible refine xPr_w (by decide) ?_ | with_reducible refine xPr_if ?_ ?_ | with_reducible refine xPr_j ?_ | with_reducible refine xPr_bi ?_ | with_reducible refine xPr_bs ?_ ?_ | with_reducible refine xPr_b2 ?_ ?_ | with_reducible refine xPr_mi ?_ | with_reducible refine xPr_ms ?_ ?_ | with_reducible refine xPr_s ?_ | rw [xup_o (by omega)] | intro _)
theorem k_walk {a : Int} {s : xa_H} (h : s 0 0 1 = v) : xPr v (fun s => s) (fm_Cheapest_walk a s) := k_walk5 (fun _ h => xPr_s h) _ _ _ _ h
theorem k_sink4 {f1 : Int} {K : Int → xa_H → Option xa_H} (hK : ∀ (x : Int) (s : xa_H), s 0 0 1 = v → xPr v (fun s => s) (K x s)) : ∀ (n : Nat) (x2 x3 : Int) (s : xa_H), s 0 0 1 = v → xPr v (fun s => s) (fm_Cheapest_sink_4 f1 K n x2 x3 s) := by
  intro n
  induction n with
  | zero => intro x2 x3 s h; exact xPr_n
  | succ n ih =>
    intro x2 x3 s h
    rw [fm_Cheapest_sink_4]
    repeat' (first | with_reducible exact xPr_n | with_reducible assumption | with_reducible (apply ih <;> assumption) | with_reducible (apply hK <;> assumption) | with_reducible refine k_put ?_ | with_reducible refine xPr_w (by decide) ?_ | with_reducible refine xPr_if ?_ ?_ | with_reducible refine xPr_j ?_ | with_reducible refine xPr_bi ?_ | with_reducible refine xPr_bs ?_ ?_ | with_reducible refine xPr_b2 ?_ ?_ | with_reducible refine xPr_mi ?_ | with_reducible refine xPr_ms ?_ ?_ | with_reducible refine xPr_s ?_ | rw [xup_o (by omega)] | intro _)
theorem k_sink {a : Int} {s : xa_H} (h : s 0 0 1 = v) : xPr v (fun s => s) (fm_Cheapest_sink a s) := by
  unfold fm_Cheapest_sink
  exact k_sink4 (fun x s h => xPr_bs (k_put h) (fun s h => xPr_s h)) _ _ _ _ h
theorem k_take {s : xa_H} (h : s 0 0 1 = v) : xPr v (fun r => r.2) (fm_Cheapest_takeNearest s) := by
  unfold fm_Cheapest_takeNearest
  repeat' (first | with_reducible exact xPr_n | with_reducible assumption | with_reducible refine k_sink ?_ | with_reducible refine xPr_w (by decide) ?_ | with_reducible refine xPr_if ?_ ?_ | with_reducible refine xPr_j ?_ | with_reducible refine xPr_bi ?_ | with_reducible refine xPr_bs ?_ ?_ | with_reducible refine xPr_b2 ?_ ?_ | with_reducible refine xPr_mi ?_ | with_reducible refine xPr_ms ?_ ?_ | with_reducible refine xPr_s ?_ | rw [xup_o (by omega)] | intro _)
theorem k_find33 {f1 f2 : Int} {K : xa_H → Option xa_H} (hK : ∀ s : xa_H, s 0 0 1 = v → xPr v (fun s => s) (K s)) : ∀ (n : Nat) (x4 : Int) (s : xa_H), s 0 0 1 = v → xPr v (fun s => s) (fm_Cheapest_find_33 f1 f2 K n x4 s) := by
  intro n
  induction n with
  | zero => intro x4 s h; exact xPr_n
  | succ n ih =>
    intro x4 s h
    rw [fm_Cheapest_find_33]
    repeat' (first | with_reducible exact xPr_n | with_reducible assumption | with_reducible (apply ih <;> assumption) | with_reducible (apply hK <;> assumption) | with_reducible refine k_come ?_ | with_reducible refine xPr_w (by decide) ?_ | with_reducible refine xPr_if ?_ ?_ | with_reducible refine xPr_j ?_ | with_reducible refine xPr_bi ?_ | with_reducible refine xPr_bs ?_ ?_ | with_reducible refine xPr_b2 ?_ ?_ | with_reducible refine xPr_mi ?_ | with_reducible refine xPr_ms ?_ ?_ | with_reducible refine xPr_s ?_ | rw [xup_o (by omega)] | intro _)
theorem k_find61 {f1 : Int} {K : xa_H → Option xa_H} (hK : ∀ s : xa_H, s 0 0 1 = v → xPr v (fun s => s) (K s)) : ∀ (n : Nat) (x4 : Int) (s : xa_H), s 0 0 1 = v → xPr v (fun s => s) (fm_Cheapest_find_61 f1 K n x4 s) := by
  intro n
  induction n with
  | zero => intro x4 s h; exact xPr_n
  | succ n ih =>
    intro x4 s h
    rw [fm_Cheapest_find_61]
    repeat' (first | with_reducible exact xPr_n | with_reducible assumption | with_reducible (apply ih <;> assumption) | with_reducible (apply hK <;> assumption) | with_reducible refine k_take ?_ | with_reducible refine k_walk ?_ | with_reducible refine k_back ?_ | with_reducible refine xPr_w (by decide) ?_ | with_reducible refine xPr_if ?_ ?_ | with_reducible refine xPr_j ?_ | with_reducible refine xPr_bi ?_ | with_reducible refine xPr_bs ?_ ?_ | with_reducible refine xPr_b2 ?_ ?_ | with_reducible refine xPr_mi ?_ | with_reducible refine xPr_ms ?_ ?_ | with_reducible refine xPr_s ?_ | rw [xup_o (by omega)] | intro _)
theorem k_find {a b : Int} {s : xa_H} (h : s 0 0 1 = v) : xPr v (fun s => s) (fm_Cheapest_find a b s) := by
  unfold fm_Cheapest_find
  have hn : xPr v (fun s => s) (fm_Answer_none s) := by
    unfold fm_Answer_none
    refine xPr_ms (by rw [xup_o (by omega)]; exact h) (fun s h => xPr_ms (by rw [xup_o (by omega)]; exact h) (fun s h => xPr_s h))
  refine xPr_bs hn (fun s h => xPr_b2 (k_fits h) (fun x s h => xPr_if (xPr_s h) ?_))
  refine xPr_bs ?_ (fun s h => xPr_ms (by rw [xup_o (by omega)]; exact h) (fun s h => k_find33 (fun s h => k_find61 (fun s h => xPr_s h) _ _ _ h) _ _ _ h))
  intro x hx
  obtain ⟨y, e1, e2, e3⟩ := q_fill (K := 14) (i := 0) (n := 3456) rfl (by decide) 2147483647 s
  rw [e1] at hx
  cases hx
  show x 0 0 1 = v
  rw [e2 0 0 1 (by decide)]
  exact h
theorem k_trace69 {K : xa_H → Option xa_H} (hK : ∀ s : xa_H, s 0 0 1 = v → xPr v (fun s => s) (K s)) : ∀ (n : Nat) (x4 x5 : Int) (s : xa_H), s 0 0 1 = v → xPr v (fun s => s) (fm_Search_trace_69 K n x4 x5 s) := by
  intro n
  induction n with
  | zero => intro x4 x5 s h; exact xPr_n
  | succ n ih =>
    intro x4 x5 s h
    rw [fm_Search_trace_69]
    repeat' (first | with_reducible exact xPr_n | with_reducible assumption | with_reducible (apply ih <;> assumption) | with_reducible (apply hK <;> assumption) | with_reducible refine xPr_w (by decide) ?_ | with_reducible refine xPr_if ?_ ?_ | with_reducible refine xPr_j ?_ | with_reducible refine xPr_bi ?_ | with_reducible refine xPr_bs ?_ ?_ | with_reducible refine xPr_b2 ?_ ?_ | with_reducible refine xPr_mi ?_ | with_reducible refine xPr_ms ?_ ?_ | with_reducible refine xPr_s ?_ | rw [xup_o (by omega)] | intro _)
theorem k_trace5 {f1 : Int} {s : xa_H} {K : Int → Option xa_H} (hK : ∀ x, xPr v (fun s => s) (K x)) : ∀ (n : Nat) (x y : Int), xPr v (fun s => s) (fm_Search_trace_5 f1 s K n x y) := by
  intro n
  induction n with
  | zero => intro x y; exact xPr_n
  | succ n ih =>
    intro x y
    rw [fm_Search_trace_5]
    exact xPr_if (hK _) (xPr_bi (fun _ => xPr_if (hK _) (xPr_bi (fun _ => xPr_bi (fun _ => xPr_bi (fun _ => ih _ _))))))
theorem k_trace {a : Int} {s : xa_H} (h : s 0 0 1 = v) : xPr v (fun s => s) (fm_Search_trace a s) := by
  unfold fm_Search_trace
  have hn : xPr v (fun s => s) (fm_Answer_none s) := by
    unfold fm_Answer_none
    refine xPr_ms (by rw [xup_o (by omega)]; exact h) (fun s h => xPr_ms (by rw [xup_o (by omega)]; exact h) (fun s h => xPr_s h))
  refine k_trace5 (fun x => xPr_bs hn (fun s h => xPr_ms (by rw [xup_o (by omega)]; exact h) (fun s h => k_trace69 (fun s h => xPr_s h) _ _ _ _ h))) _ _ _
end XP
theorem xPr_W {v : Int} {t : Option xa_H} {Q : xa_H → Prop} (h : xPr v (fun s => s) t) (hw : xW t Q) : xW t fun s => Q s ∧ s 0 0 1 = v := by
  obtain ⟨x, e, q⟩ := hw
  exact ⟨x, e, q, h x e⟩
