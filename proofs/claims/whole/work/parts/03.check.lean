/-! the tables against the code and the words, by counting -/
noncomputable def xcl (K : Nat) : vw_C := vwCl.getD K ("", TX0, 0)
noncomputable def xck_f (k ix x y z : Nat) : Bool := (decide (lw_tbl[z]? = some (Cond.fieldLink (xmO k) ix (xcl x).1 ((xcl x).2.1 y).2.1 ((xcl x).2.1 y).2.2.1)) || decide (lw_tbl[z]? = some (Cond.fieldLinkNest (xmO k) ix (xcl x).1 ((xcl x).2.1 y).2.1 ((xcl x).2.1 y).2.2.1 "SofaStair"))) && Nat.blt x 10 && Nat.blt y (xcl x).2.2
noncomputable def xck_m (k ix x z : Nat) : Bool := decide (lw_tbl[z]? = some (Cond.methodLink (xmO k) ix (xmY x))) || decide (lw_tbl[z]? = some (Cond.methodLinkNest (xmO k) ix (xmY x) "SofaStair"))
def xck_p (x : Nat) : MethodName := cond (Nat.ble 5003 x) (cond (Nat.beq x 5003) Lib.Math.abs.name (cond (Nat.beq x 5004) Lib.Math.max.name Lib.Math.min.name)) <| cond (Nat.beq x 5000) ⟨"java/lang/String", "indexOf", "(I)I"⟩ (cond (Nat.beq x 5001) ⟨"java/lang/String", "charAt", "(I)C"⟩ ⟨"java/lang/String", "length", "()I"⟩)
noncomputable def xck_r (k x : Nat) : Bool := Nat.ble (xmF x + 1) (xmF k) && Nat.ble (8 + (xmL x + 11) + xmW x) (xmW k)
def xck_n (y : MethodName) (n : Nat) : Bool := decide ((parseMethodDescriptor y.desc).map (fun d => d.parameters.length) = some n)
def xck_t (pc : Nat) (off : Int) : Bool := decide (0 ≤ (pc : Int) + off)
noncomputable def xck_i (k pc : Nat) (e : xa_I) : Bool := match e.1 with
  | .getfield ix => xck_f k ix e.2.2.1 e.2.2.2.1 e.2.2.2.2
  | .putfield ix => Nat.beq (xfty e.2.2.1 e.2.2.2.1) 3 || (xck_f k ix e.2.2.1 e.2.2.2.1 e.2.2.2.2 && !((xcl e.2.2.1).2.1 e.2.2.2.1).2.2.2)
  | .invokevirtual ix => cond (Nat.ble 5000 e.2.2.1)
      (decide (lw_tbl[e.2.2.2.2]? = some (Cond.methodLink (xmO k) ix (xck_p e.2.2.1))) && Nat.ble 5 (xmF k) && Nat.ble 141 (xmW k) && Nat.blt e.2.2.1 5003)
      (xck_m k ix e.2.2.1 e.2.2.2.2 && xck_r k e.2.2.1 && Nat.blt 0 e.2.2.2.1 && xck_n (xmY e.2.2.1) (e.2.2.2.1 - 1) && Nat.beq (xkg (xcl 0).2.2) 0)
  | .invokestatic ix => cond (Nat.ble 5000 e.2.2.1)
      (decide (lw_tbl[e.2.2.2.2]? = some (Cond.methodLink (xmO k) ix (xck_p e.2.2.1))) && Nat.ble 2 (xmF k) && Nat.ble 34 (xmW k) && Nat.ble 5003 e.2.2.1 && Nat.blt e.2.2.1 5006)
      (xck_m k ix e.2.2.1 e.2.2.2.2 && xck_r k e.2.2.1 && xck_n (xmY e.2.2.1) e.2.2.2.1)
  | .iconst v => decide (-32768 ≤ v ∧ v < 32768)
  | .bipush v => decide (-32768 ≤ v ∧ v < 32768) && decide ((Int8.ofInt v).toInt32 = Int32.ofInt v)
  | .sipush v => decide (-32768 ≤ v ∧ v < 32768) && decide ((Int16.ofInt v).toInt32 = Int32.ofInt v)
  | .iinc _ v => decide (-32768 ≤ v ∧ v < 32768)
  | .ldc ix => cond (Nat.beq e.2.2.2.1 0) (decide (lw_tbl[e.2.2.2.2]? = some (Cond.constant (xmO k) ix (Int32.ofInt (e.2.2.1 : Int)))) && Nat.blt e.2.2.1 2147483648)
      (decide (xmO k = cond (Nat.beq e.2.2.1 0) "SofaStair$Pad" "SofaStair$Search") && decide (ix = cond (Nat.beq e.2.2.1 0) 27 142) && Nat.blt e.2.2.1 2)
  | .ldc2_w ix => decide (lw_tbl[e.2.2.2.2]? = some (Cond.constantLong (xmO k) ix (Int64.ofInt (cond (Nat.beq e.2.2.2.1 0) (e.2.2.1 : Int) (-(e.2.2.1 : Int)))))) && Nat.blt e.2.2.1 1000000000000000000
  | .goto off => xck_t pc off
  | .if_icmp _ off => xck_t pc off
  | .ifCond _ off => xck_t pc off
  | .ifnull off => xck_t pc off
  | .ifnonnull off => xck_t pc off
  | .if_acmp _ off => xck_t pc off
  | .tableswitch d _ _ offs => xck_t pc d && offs.toList.all (xck_t pc)
  | _ => true
noncomputable def xck (k : Nat) (q : Nat × xa_I) : Bool := decide (decode (xmB k) q.1 = .ok (q.2.1, q.2.2.1)) && xck_i k q.1 q.2
set_option maxRecDepth 100000 in
theorem xck_0 : ∀ j, j < 30 → (xcode (0 + j)).all (xck (0 + j)) = true := by decide +kernel
set_option maxRecDepth 100000 in
theorem xck_30 : ∀ j, j < 30 → (xcode (30 + j)).all (xck (30 + j)) = true := by decide +kernel
set_option maxRecDepth 100000 in
theorem xck_60 : ∀ j, j < 30 → (xcode (60 + j)).all (xck (60 + j)) = true := by decide +kernel
set_option maxRecDepth 100000 in
theorem xck_90 : ∀ j, j < 25 → (xcode (90 + j)).all (xck (90 + j)) = true := by decide +kernel
set_option maxRecDepth 100000 in
theorem xck_115 : ∀ j, j < 22 → (xcode (115 + j)).all (xck (115 + j)) = true := by decide +kernel
set_option maxRecDepth 100000 in
theorem xck_200 : ∀ j, j < 15 → (xcode (200 + j)).all (xck (200 + j)) = true := by decide +kernel
set_option maxRecDepth 100000 in
theorem xck_215 : ∀ j, j < 15 → (xcode (215 + j)).all (xck (215 + j)) = true := by decide +kernel
set_option maxRecDepth 100000 in
theorem xck_230 : ∀ j, j < 15 → (xcode (230 + j)).all (xck (230 + j)) = true := by decide +kernel
set_option maxRecDepth 100000 in
theorem xck_245 : ∀ j, j < 15 → (xcode (245 + j)).all (xck (245 + j)) = true := by decide +kernel
set_option maxRecDepth 100000 in
theorem xck_260 : ∀ j, j < 12 → (xcode (260 + j)).all (xck (260 + j)) = true := by decide +kernel
