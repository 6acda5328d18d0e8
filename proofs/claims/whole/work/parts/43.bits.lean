/-! bits of small numbers -/
theorem i32_n (a : Nat) : (Int32.ofInt (a : Int)).toBitVec = BitVec.ofNat 32 a := BitVec.ofInt_natCast 32 a
theorem bv_i {x : BitVec 32} (h : x.toNat < 2147483648) : x.toInt = (x.toNat : Int) := BitVec.toInt_eq_toNat_of_lt (by omega)
theorem and_lt {a b : Nat} (hb : b < 2147483648) : a &&& b < 2147483648 := Nat.and_lt_two_pow (n := 31) a hb
theorem or_lt {a b : Nat} (ha : a < 2147483648) (hb : b < 2147483648) : a ||| b < 2147483648 := Nat.or_lt_two_pow (n := 31) ha hb
theorem xand_n {a b : Nat} (ha : a < 2147483648) (hb : b < 2147483648) : xand (a : Int) (b : Int) = ((a &&& b : Nat) : Int) := by
  rw [xand_d]
  have e : ((Int32.ofInt (a : Int) &&& Int32.ofInt (b : Int)).toBitVec).toNat = a &&& b := by
    rw [Int32.toBitVec_and, i32_n, i32_n, BitVec.toNat_and, BitVec.toNat_ofNat, BitVec.toNat_ofNat, Nat.mod_eq_of_lt (by omega), Nat.mod_eq_of_lt (by omega)]
  have h : ((Int32.ofInt (a : Int) &&& Int32.ofInt (b : Int)).toBitVec).toNat < 2147483648 := by rw [e]; exact and_lt hb
  show ((Int32.ofInt (a : Int) &&& Int32.ofInt (b : Int)).toBitVec).toInt = _
  rw [bv_i h, e]
theorem xor2_n {a b : Nat} (ha : a < 2147483648) (hb : b < 2147483648) : xor2 (a : Int) (b : Int) = ((a ||| b : Nat) : Int) := by
  rw [xor2_d]
  have e : ((Int32.ofInt (a : Int) ||| Int32.ofInt (b : Int)).toBitVec).toNat = a ||| b := by
    rw [Int32.toBitVec_or, i32_n, i32_n, BitVec.toNat_or, BitVec.toNat_ofNat, BitVec.toNat_ofNat, Nat.mod_eq_of_lt (by omega), Nat.mod_eq_of_lt (by omega)]
  have h : ((Int32.ofInt (a : Int) ||| Int32.ofInt (b : Int)).toBitVec).toNat < 2147483648 := by rw [e]; exact or_lt ha hb
  show ((Int32.ofInt (a : Int) ||| Int32.ofInt (b : Int)).toBitVec).toInt = _
  rw [bv_i h, e]
theorem sh_amt : ∀ b : Nat, b < 32 → ((Int32.ofInt (b : Int) &&& 31).toBitVec.smod 32).toNat = b := by decide +kernel
theorem xshl_n {a b : Nat} (hb : b < 32) (h : a <<< b < 2147483648) (ha : a < 2147483648) : xshl (a : Int) (b : Int) = ((a <<< b : Nat) : Int) := by
  rw [xshl_d]
  have e : ((Int32.ofInt (a : Int) <<< (Int32.ofInt (b : Int) &&& 31)).toBitVec).toNat = a <<< b := by
    rw [Int32.toBitVec_shiftLeft, BitVec.shiftLeft_eq', sh_amt b hb, i32_n, BitVec.toNat_shiftLeft, BitVec.toNat_ofNat, Nat.mod_eq_of_lt (a := a) (by omega), Nat.mod_eq_of_lt (by omega)]
  have h2 : ((Int32.ofInt (a : Int) <<< (Int32.ofInt (b : Int) &&& 31)).toBitVec).toNat < 2147483648 := by rw [e]; exact h
  show ((Int32.ofInt (a : Int) <<< (Int32.ofInt (b : Int) &&& 31)).toBitVec).toInt = _
  rw [bv_i h2, e]
theorem xshr_n {a b : Nat} (hb : b < 32) (ha : a < 2147483648) : xshr (a : Int) (b : Int) = ((a >>> b : Nat) : Int) := by
  rw [xshr_d]
  have hm : (BitVec.ofNat 32 a).msb = false := by
    rw [BitVec.msb_eq_decide, BitVec.toNat_ofNat, Nat.mod_eq_of_lt (by omega)]
    exact decide_eq_false (by omega)
  have e : ((Int32.ofInt (a : Int) >>> (Int32.ofInt (b : Int) &&& 31)).toBitVec).toNat = a >>> b := by
    rw [Int32.toBitVec_shiftRight, i32_n, BitVec.toNat_sshiftRight'_of_msb_false hm, sh_amt b hb, BitVec.toNat_ofNat, Nat.mod_eq_of_lt (by omega)]
  have h2 : ((Int32.ofInt (a : Int) >>> (Int32.ofInt (b : Int) &&& 31)).toBitVec).toNat < 2147483648 := by
    rw [e, Nat.shiftRight_eq_div_pow]
    exact Nat.lt_of_le_of_lt (Nat.div_le_self _ _) ha
  show ((Int32.ofInt (a : Int) >>> (Int32.ofInt (b : Int) &&& 31)).toBitVec).toInt = _
  rw [bv_i h2, e]
/-- what is left of a set without another -/
theorem xandn_n {a b : Nat} (ha : a < 2147483648) (hb : b < 2147483648) : xand (a : Int) (xxor (b : Int) (-1)) = ((a ^^^ (a &&& b) : Nat) : Int) := by
  rw [xand_d, xxor_d]
  have hx : ∀ x y : BitVec 32, x &&& (y ^^^ (BitVec.ofInt 32 (-1))) = x ^^^ (x &&& y) := by
    intro x y
    apply BitVec.eq_of_getLsbD_eq
    intro i hi
    have h1 : (BitVec.ofInt 32 (-1)).getLsbD i = true := by
      have : BitVec.ofInt 32 (-1) = BitVec.allOnes 32 := by decide
      rw [this, BitVec.getLsbD_allOnes]
      exact decide_eq_true hi
    rw [BitVec.getLsbD_and, BitVec.getLsbD_xor, BitVec.getLsbD_xor, BitVec.getLsbD_and, h1]
    cases x.getLsbD i <;> cases y.getLsbD i <;> rfl
  have e0 : (Int32.ofInt (Int32.ofInt (b : Int) ^^^ Int32.ofInt (-1)).toInt) = Int32.ofInt (b : Int) ^^^ Int32.ofInt (-1) := xti _
  have e : ((Int32.ofInt (a : Int) &&& Int32.ofInt (Int32.ofInt (b : Int) ^^^ Int32.ofInt (-1)).toInt).toBitVec).toNat = a ^^^ (a &&& b) := by
    rw [e0, Int32.toBitVec_and, Int32.toBitVec_xor]
    show ((Int32.ofInt (a : Int)).toBitVec &&& ((Int32.ofInt (b : Int)).toBitVec ^^^ (BitVec.ofInt 32 (-1)))).toNat = _
    rw [hx, i32_n, i32_n, BitVec.toNat_xor, BitVec.toNat_and, BitVec.toNat_ofNat, BitVec.toNat_ofNat, Nat.mod_eq_of_lt (by omega), Nat.mod_eq_of_lt (by omega)]
  have h2 : ((Int32.ofInt (a : Int) &&& Int32.ofInt (Int32.ofInt (b : Int) ^^^ Int32.ofInt (-1)).toInt).toBitVec).toNat < 2147483648 := by
    rw [e]
    exact Nat.xor_lt_two_pow (n := 31) ha (and_lt hb)
  show ((Int32.ofInt (a : Int) &&& Int32.ofInt (Int32.ofInt (b : Int) ^^^ Int32.ofInt (-1)).toInt).toBitVec).toInt = _
  rw [bv_i h2, e]
/-- a bit of a set -/
theorem q_has {s b : Nat} (hs : s < 2147483648) (hb : b < 32) : fm_S_has (s : Int) (b : Int) = some (if s.testBit b = true then 1 else 0) := by
  unfold fm_S_has
  have e : xand (xshr (s : Int) (b : Int)) 1 = ((s >>> b % 2 : Nat) : Int) := by
    rw [xshr_n hb hs]
    have h2 : s >>> b < 2147483648 := by
      rw [Nat.shiftRight_eq_div_pow]
      exact Nat.lt_of_le_of_lt (Nat.div_le_self _ _) hs
    have := xand_n (a := s >>> b) (b := 1) h2 (by decide)
    rw [Nat.and_one_is_mod] at this
    exact this
  rw [e]
  have e2 : s.testBit b = decide (s >>> b % 2 = 1) := by
    rw [Nat.testBit_eq_decide_div_mod_eq, Nat.shiftRight_eq_div_pow]
  rw [e2]
  by_cases h : s >>> b % 2 = 1
  · rw [if_neg (by omega), if_pos (decide_eq_true h)]
  · rw [if_pos (by omega), if_neg (by rw [decide_eq_false h]; decide)]
/-- sets below 16 and 256: by trying all -/
theorem set_del {l t : Nat} (i : Nat) : (l ^^^ (l &&& 1 <<< t)).testBit i = (l.testBit i && !decide (t = i)) := by
  rw [Nat.testBit_xor, Nat.testBit_and, Nat.one_shiftLeft, Nat.testBit_two_pow]
  cases l.testBit i <;> cases decide (t = i) <;> rfl
theorem andn_bit {a b : Nat} (i : Nat) : (a ^^^ (a &&& b)).testBit i = (a.testBit i && !b.testBit i) := by
  rw [Nat.testBit_xor, Nat.testBit_and]
  cases a.testBit i <;> cases b.testBit i <;> rfl
theorem andn_0 {a b : Nat} : a ^^^ (a &&& b) = 0 ↔ ∀ i, a.testBit i = true → b.testBit i = true := by
  constructor
  · intro h i ha
    have := andn_bit (a := a) (b := b) i
    rw [h, Nat.zero_testBit, ha] at this
    cases hb : b.testBit i with
    | true => rfl
    | false => rw [hb] at this; cases this
  · intro h
    apply Nat.eq_of_testBit_eq
    intro i
    rw [andn_bit, Nat.zero_testBit]
    cases ha : a.testBit i with
    | false => rfl
    | true => rw [h i ha]; rfl
theorem and_0 {a b : Nat} : a &&& b = 0 ↔ ∀ i, a.testBit i = true → b.testBit i = false := by
  constructor
  · intro h i ha
    have : (a &&& b).testBit i = (a.testBit i && b.testBit i) := Nat.testBit_and a b i
    rw [h, Nat.zero_testBit, ha] at this
    cases hb : b.testBit i with
    | false => rfl
    | true => rw [hb] at this; cases this
  · intro h
    apply Nat.eq_of_testBit_eq
    intro i
    rw [Nat.testBit_and, Nat.zero_testBit]
    cases ha : a.testBit i with
    | false => rfl
    | true => rw [h i ha]; rfl
theorem w32_s {j : Nat} (h : j < 2147483647) : w32 ((j : Int) + 1) = ((j + 1 : Nat) : Int) := by
  rw [w32_n (by omega) (by omega)]; omega
theorem w32_z : w32 0 = 0 := w32_n (by decide) (by decide)
