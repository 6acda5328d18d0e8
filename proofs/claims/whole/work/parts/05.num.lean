/-! numbers of the abstract machine and the machine's -/
def xr32 (a : Int) : Prop := -2147483648 ≤ a ∧ a < 2147483648
def xr64 (a : Int) : Prop := -9223372036854775808 ≤ a ∧ a < 9223372036854775808
theorem w32_r (a : Int) : xr32 (w32 a) := by unfold xr32; rw [w32_d]; omega
theorem w64_r (a : Int) : xr64 (w64 a) := by unfold xr64; rw [w64_d]; omega
theorem w32_id {a : Int} (h : xr32 a) : w32 a = a := by unfold xr32 at h; rw [w32_d]; omega
theorem w64_id {a : Int} (h : xr64 a) : w64 a = a := by unfold xr64 at h; rw [w64_d]; omega
theorem xo32 {a : Int} (h : xr32 a) : (Int32.ofInt a).toInt = a := Int32.toInt_ofInt_of_le (by have := h.1; omega) (by have := h.2; omega)
theorem xo64 {a : Int} (h : xr64 a) : (Int64.ofInt a).toInt = a := Int64.toInt_ofInt_of_le (by have := h.1; omega) (by have := h.2; omega)
theorem w32_o (a : Int) : Int32.ofInt (w32 a) = Int32.ofInt a := by
  apply Int32.toInt_inj.mp
  rw [xo32 (w32_r a), Int32.toInt_ofInt]
  show w32 a = a.bmod 4294967296
  rw [w32_d]
  unfold Int.bmod
  dsimp only
  split <;> omega
theorem w64_o (a : Int) : Int64.ofInt (w64 a) = Int64.ofInt a := by
  apply Int64.toInt_inj.mp
  rw [xo64 (w64_r a), Int64.toInt_ofInt]
  show w64 a = a.bmod 18446744073709551616
  rw [w64_d]
  unfold Int.bmod
  dsimp only
  split <;> omega
theorem xt32 (x : Int32) : xr32 x.toInt := ⟨x.le_toInt, x.toInt_lt⟩
theorem xt64 (x : Int64) : xr64 x.toInt := ⟨x.le_toInt, x.toInt_lt⟩
theorem xlt32 {a b : Int} (ha : xr32 a) (hb : xr32 b) : Int32.ofInt a < Int32.ofInt b ↔ a < b := by rw [Int32.lt_iff_toInt_lt, xo32 ha, xo32 hb]
theorem xle32 {a b : Int} (ha : xr32 a) (hb : xr32 b) : Int32.ofInt a ≤ Int32.ofInt b ↔ a ≤ b := by rw [Int32.le_iff_toInt_le, xo32 ha, xo32 hb]
theorem xeq32 {a b : Int} (ha : xr32 a) (hb : xr32 b) : Int32.ofInt a = Int32.ofInt b ↔ a = b := by rw [← Int32.toInt_inj, xo32 ha, xo32 hb]
theorem xlt64 {a b : Int} (ha : xr64 a) (hb : xr64 b) : Int64.ofInt a < Int64.ofInt b ↔ a < b := by rw [Int64.lt_iff_toInt_lt, xo64 ha, xo64 hb]
theorem xeq64 {a b : Int} (ha : xr64 a) (hb : xr64 b) : Int64.ofInt a = Int64.ofInt b ↔ a = b := by rw [← Int64.toInt_inj, xo64 ha, xo64 hb]
theorem xz32 : Int32.ofInt 0 = 0 := rfl
theorem xlt0 {a : Int} (ha : xr32 a) : Int32.ofInt a < 0 ↔ a < 0 := by rw [← xz32]; exact xlt32 ha ⟨by decide, by decide⟩
theorem xle0 {a : Int} (ha : xr32 a) : 0 ≤ Int32.ofInt a ↔ 0 ≤ a := by rw [← xz32]; exact xle32 ⟨by decide, by decide⟩ ha
theorem xeq0 {a : Int} (ha : xr32 a) : Int32.ofInt a = 0 ↔ a = 0 := by rw [← xz32]; exact xeq32 ha ⟨by decide, by decide⟩
theorem xcl32 {a : Int} (ha : xr32 a) : (Int32.ofInt a).toNatClampNeg = a.toNat := by
  show (Int32.ofInt a).toInt.toNat = a.toNat
  rw [xo32 ha]
theorem xvin {a : Int} {n : Nat} (ha : xr32 a) (h0 : 0 ≤ a) (h1 : a < n) : vp_in (Int32.ofInt a) n := by
  rintro (h | h)
  · rw [xlt0 ha] at h; omega
  · rw [xcl32 ha] at h; omega
theorem xadd (a b : Int) : Int32.ofInt (w32 (a + b)) = Int32.ofInt a + Int32.ofInt b := by rw [w32_o, Int32.ofInt_add]
theorem xsub (a b : Int) : Int32.ofInt (w32 (a - b)) = Int32.ofInt a - Int32.ofInt b := by rw [w32_o, Int32.ofInt_sub]
theorem xmul (a b : Int) : Int32.ofInt (w32 (a * b)) = Int32.ofInt a * Int32.ofInt b := by rw [w32_o, Int32.ofInt_mul]
theorem xneg (a : Int) : Int32.ofInt (w32 (-a)) = -Int32.ofInt a := by rw [w32_o, Int32.ofInt_neg]
theorem xladd (a b : Int) : Int64.ofInt (w64 (a + b)) = Int64.ofInt a + Int64.ofInt b := by rw [w64_o, Int64.ofInt_add]
theorem xlmul (a b : Int) : Int64.ofInt (w64 (a * b)) = Int64.ofInt a * Int64.ofInt b := by rw [w64_o, Int64.ofInt_mul]
theorem xdiv_t {a b : Int} (hb : 0 < b) : xdiv a b = a.tdiv b := by
  unfold xdiv
  split
  · rename_i h
    rw [Int.tdiv_eq_ediv_of_nonneg h]
  · rename_i h
    have e : a = -(-a) := by omega
    conv => rhs; rw [e]
    rw [Int.neg_tdiv, Int.tdiv_eq_ediv_of_nonneg (by omega)]
theorem xrem_t {a b : Int} (hb : 0 < b) : xrem a b = a.tmod b := by
  unfold xrem
  split
  · rename_i h
    rw [Int.tmod_eq_emod_of_nonneg h]
  · rename_i h
    have e : a = -(-a) := by omega
    conv => rhs; rw [e]
    rw [Int.neg_tmod, Int.tmod_eq_emod_of_nonneg (by omega)]
theorem xdiv_b {a b : Int} (hb : 0 < b) : (0 ≤ a → 0 ≤ xdiv a b ∧ xdiv a b ≤ a) ∧ (a < 0 → a ≤ xdiv a b ∧ xdiv a b ≤ 0) := by
  unfold xdiv
  refine ⟨fun h => ?_, fun h => ?_⟩
  · rw [if_pos h]
    exact ⟨Int.ediv_nonneg h (by omega), Int.ediv_le_self b h⟩
  · rw [if_neg (by omega)]
    have h1 : 0 ≤ (-a) / b := Int.ediv_nonneg (by omega) (by omega)
    have h2 : (-a) / b ≤ -a := Int.ediv_le_self b (by omega)
    omega
theorem xdiv_r {a b : Int} (ha : xr32 a) (hb : 0 < b) : xr32 (xdiv a b) := by
  have h := xdiv_b (a := a) hb
  unfold xr32 at ha ⊢
  rcases Int.lt_or_le a 0 with q | q
  · have := h.2 q; omega
  · have := h.1 q; omega
theorem xdiv_r64 {a b : Int} (ha : xr64 a) (hb : 0 < b) : xr64 (xdiv a b) := by
  have h := xdiv_b (a := a) hb
  unfold xr64 at ha ⊢
  rcases Int.lt_or_le a 0 with q | q
  · have := h.2 q; omega
  · have := h.1 q; omega
theorem xdiv_o {a b : Int} (ha : xr32 a) (hb0 : xr32 b) (hb : 0 < b) : Int32.ofInt (xdiv a b) = Int32.ofInt a / Int32.ofInt b := by
  apply Int32.toInt_inj.mp
  rw [xo32 (xdiv_r ha hb), Int32.toInt_div_of_ne_right _ _ (fun h => ?_), xo32 ha, xo32 hb0, xdiv_t hb]
  have h1 : (Int32.ofInt b).toInt = (-1 : Int32).toInt := by rw [h]
  rw [xo32 hb0] at h1
  have h2 : (-1 : Int32).toInt = -1 := by decide
  omega
theorem xdiv_o64 {a b : Int} (ha : xr64 a) (hb0 : xr64 b) (hb : 0 < b) : Int64.ofInt (xdiv a b) = Int64.ofInt a / Int64.ofInt b := by
  apply Int64.toInt_inj.mp
  rw [xo64 (xdiv_r64 ha hb), Int64.toInt_div_of_ne_right _ _ (fun h => ?_), xo64 ha, xo64 hb0, xdiv_t hb]
  have h1 : (Int64.ofInt b).toInt = (-1 : Int64).toInt := by rw [h]
  rw [xo64 hb0] at h1
  have h2 : (-1 : Int64).toInt = -1 := by decide
  omega
theorem xrem_e {a b : Int} : xrem a b = a - xdiv a b * b := by
  unfold xrem xdiv
  have h1 := Int.emod_def a b
  have h2 := Int.emod_def (-a) b
  have e1 := Int.mul_comm b (a / b)
  have e2 := Int.mul_comm b ((-a) / b)
  have e3 := Int.neg_mul ((-a) / b) b
  split <;> omega
theorem xrem_r {a b : Int} (ha : xr32 a) (hb : 0 < b) : xr32 (xrem a b) := by
  unfold xrem
  unfold xr32 at ha ⊢
  have f1 : ∀ c : Int, 0 ≤ c → 0 ≤ c % b ∧ c % b ≤ c := fun c hc => ⟨Int.emod_nonneg c (by omega), by
    have h := Int.emod_def c b
    have g : 0 ≤ b * (c / b) := Int.mul_nonneg (by omega) (Int.ediv_nonneg hc (by omega))
    omega⟩
  split
  · have := f1 a (by omega); omega
  · have := f1 (-a) (by omega); omega
theorem xrem_o {a b : Int} (ha : xr32 a) (hb0 : xr32 b) (hb : 0 < b) : Int32.ofInt (xrem a b) = Int32.ofInt a - Int32.ofInt a / Int32.ofInt b * Int32.ofInt b := by
  rw [xrem_e, Int32.ofInt_sub, Int32.ofInt_mul, xdiv_o ha hb0 hb]
theorem xne0 {b : Int} (hb0 : xr32 b) (hb : 0 < b) : ¬ Int32.ofInt b = 0 := by rw [xeq0 hb0]; omega
theorem xne064 {b : Int} (hb0 : xr64 b) (hb : 0 < b) : ¬ Int64.ofInt b = 0 := by
  intro h
  have h1 : (Int64.ofInt b).toInt = (0 : Int64).toInt := by rw [h]
  rw [xo64 hb0] at h1
  have h2 : (0 : Int64).toInt = 0 := by decide
  omega
theorem xti (x : Int32) : Int32.ofInt x.toInt = x := Int32.ofInt_toInt x
theorem xi2l {a : Int} (h : xr32 a) : (Int32.ofInt a).toInt64 = Int64.ofInt a := by
  apply Int64.toInt_inj.mp
  rw [Int32.toInt_toInt64, xo32 h, xo64 ⟨by have := h.1; omega, by have := h.2; omega⟩]
theorem xl2i (a : Int) : (Int64.ofInt a).toInt32 = Int32.ofInt (w32 a) := by rw [w32_o, Int64.toInt32_ofInt]
theorem xi2c {a : Int} (h : xr32 a) : ((Int32.ofInt a).toUInt32 % 65536).toInt32 = Int32.ofInt (a % 65536) := by
  apply Int32.toInt_inj.mp
  have hr : xr32 (a % 65536) := by unfold xr32; omega
  rw [xo32 hr]
  have e1 : ((Int32.ofInt a).toUInt32 % 65536).toNat = (a % 65536).toNat := by
    rw [UInt32.toNat_mod]
    show (Int32.ofInt a).toBitVec.toNat % 65536 = _
    have e2 : ((Int32.ofInt a).toBitVec.toNat : Int) = a % 4294967296 := by
      show ((BitVec.ofInt 32 a).toNat : Int) = _
      rw [BitVec.toNat_ofInt]
      omega
    omega
  have e3 : (((Int32.ofInt a).toUInt32 % 65536).toInt32).toInt = (((Int32.ofInt a).toUInt32 % 65536).toNat : Int) := by
    show ((Int32.ofInt a).toUInt32 % 65536).toBitVec.toInt = _
    rw [BitVec.toInt_eq_toNat_of_lt]
    · rfl
    · show 2 * ((Int32.ofInt a).toUInt32 % 65536).toNat < 2 ^ 32
      omega
  rw [e3, e1]
  omega
theorem xcmp_o {a b : Int} (ha : xr64 a) (hb : xr64 b) : Int32.ofInt (xcmp a b) = lg_cmp (Int64.ofInt a) (Int64.ofInt b) := by
  unfold xcmp lg_cmp
  have h1 := xlt64 ha hb
  have h2 := xlt64 hb ha
  have h3 := xeq64 ha hb
  by_cases q : a < b
  · have q2 : ¬ Int64.ofInt b < Int64.ofInt a := fun z => by have := h2.mp z; omega
    have q3 : ¬ Int64.ofInt a = Int64.ofInt b := fun z => by have := h3.mp z; omega
    simp [q, q2, q3]
  · by_cases q4 : a = b
    · subst q4
      simp
    · have q5 : Int64.ofInt b < Int64.ofInt a := h2.mpr (by omega)
      simp [q, q4, q5]
theorem xcmp_r (a b : Int) : xr32 (xcmp a b) := by
  unfold xcmp xr32
  split
  · omega
  · split <;> omega
theorem xand_o (a b : Int) : Int32.ofInt (xand a b) = Int32.ofInt a &&& Int32.ofInt b := by rw [xand_d]; exact xti _
theorem xand_r (a b : Int) : xr32 (xand a b) := by rw [xand_d]; exact xt32 _
theorem xor2_o (a b : Int) : Int32.ofInt (xor2 a b) = Int32.ofInt a ||| Int32.ofInt b := by rw [xor2_d]; exact xti _
theorem xor2_r (a b : Int) : xr32 (xor2 a b) := by rw [xor2_d]; exact xt32 _
theorem xxor_o (a b : Int) : Int32.ofInt (xxor a b) = Int32.ofInt a ^^^ Int32.ofInt b := by rw [xxor_d]; exact xti _
theorem xxor_r (a b : Int) : xr32 (xxor a b) := by rw [xxor_d]; exact xt32 _
theorem xshl_o (a b : Int) : Int32.ofInt (xshl a b) = Int32.ofInt a <<< (Int32.ofInt b &&& 31) := by rw [xshl_d]; exact xti _
theorem xshl_r (a b : Int) : xr32 (xshl a b) := by rw [xshl_d]; exact xt32 _
theorem xshr_o (a b : Int) : Int32.ofInt (xshr a b) = Int32.ofInt a >>> (Int32.ofInt b &&& 31) := by rw [xshr_d]; exact xti _
theorem xshr_r (a b : Int) : xr32 (xshr a b) := by rw [xshr_d]; exact xt32 _
