/-! the abstract machine: whole numbers, cells by kind and number, contents as one function -/
abbrev xi (x : Int) : xa_V := .inl x
abbrev xl (x : Int) : xa_V := .inr (.inl x)
abbrev xr (K i : Nat) : xa_V := .inr (.inr (some (K, i)))
abbrev xn : xa_V := .inr (.inr none)
noncomputable def w32 : Int → Int := (Classical.choice ⟨⟨fun x => (x + 2147483648) % 4294967296 - 2147483648, rfl⟩⟩ : { f : Int → Int // f = fun x => (x + 2147483648) % 4294967296 - 2147483648 }).1
theorem w32_d (x : Int) : w32 x = (x + 2147483648) % 4294967296 - 2147483648 := congrFun (Classical.choice ⟨⟨fun x => (x + 2147483648) % 4294967296 - 2147483648, rfl⟩⟩ : { f : Int → Int // f = fun x => (x + 2147483648) % 4294967296 - 2147483648 }).2 x
noncomputable def w64 : Int → Int := (Classical.choice ⟨⟨fun x => (x + 9223372036854775808) % 18446744073709551616 - 9223372036854775808, rfl⟩⟩ : { f : Int → Int // f = fun x => (x + 9223372036854775808) % 18446744073709551616 - 9223372036854775808 }).1
theorem w64_d (x : Int) : w64 x = (x + 9223372036854775808) % 18446744073709551616 - 9223372036854775808 := congrFun (Classical.choice ⟨⟨fun x => (x + 9223372036854775808) % 18446744073709551616 - 9223372036854775808, rfl⟩⟩ : { f : Int → Int // f = fun x => (x + 9223372036854775808) % 18446744073709551616 - 9223372036854775808 }).2 x
noncomputable def xand : Int → Int → Int := (Classical.choice ⟨⟨fun a b => (Int32.ofInt a &&& Int32.ofInt b).toInt, rfl⟩⟩ : { f : Int → Int → Int // f = fun a b => (Int32.ofInt a &&& Int32.ofInt b).toInt }).1
theorem xand_d (a b : Int) : xand a b = (Int32.ofInt a &&& Int32.ofInt b).toInt := congrFun (congrFun (Classical.choice ⟨⟨fun a b => (Int32.ofInt a &&& Int32.ofInt b).toInt, rfl⟩⟩ : { f : Int → Int → Int // f = fun a b => (Int32.ofInt a &&& Int32.ofInt b).toInt }).2 a) b
noncomputable def xor2 : Int → Int → Int := (Classical.choice ⟨⟨fun a b => (Int32.ofInt a ||| Int32.ofInt b).toInt, rfl⟩⟩ : { f : Int → Int → Int // f = fun a b => (Int32.ofInt a ||| Int32.ofInt b).toInt }).1
theorem xor2_d (a b : Int) : xor2 a b = (Int32.ofInt a ||| Int32.ofInt b).toInt := congrFun (congrFun (Classical.choice ⟨⟨fun a b => (Int32.ofInt a ||| Int32.ofInt b).toInt, rfl⟩⟩ : { f : Int → Int → Int // f = fun a b => (Int32.ofInt a ||| Int32.ofInt b).toInt }).2 a) b
noncomputable def xxor : Int → Int → Int := (Classical.choice ⟨⟨fun a b => (Int32.ofInt a ^^^ Int32.ofInt b).toInt, rfl⟩⟩ : { f : Int → Int → Int // f = fun a b => (Int32.ofInt a ^^^ Int32.ofInt b).toInt }).1
theorem xxor_d (a b : Int) : xxor a b = (Int32.ofInt a ^^^ Int32.ofInt b).toInt := congrFun (congrFun (Classical.choice ⟨⟨fun a b => (Int32.ofInt a ^^^ Int32.ofInt b).toInt, rfl⟩⟩ : { f : Int → Int → Int // f = fun a b => (Int32.ofInt a ^^^ Int32.ofInt b).toInt }).2 a) b
noncomputable def xshl : Int → Int → Int := (Classical.choice ⟨⟨fun a b => (Int32.ofInt a <<< (Int32.ofInt b &&& 31)).toInt, rfl⟩⟩ : { f : Int → Int → Int // f = fun a b => (Int32.ofInt a <<< (Int32.ofInt b &&& 31)).toInt }).1
theorem xshl_d (a b : Int) : xshl a b = (Int32.ofInt a <<< (Int32.ofInt b &&& 31)).toInt := congrFun (congrFun (Classical.choice ⟨⟨fun a b => (Int32.ofInt a <<< (Int32.ofInt b &&& 31)).toInt, rfl⟩⟩ : { f : Int → Int → Int // f = fun a b => (Int32.ofInt a <<< (Int32.ofInt b &&& 31)).toInt }).2 a) b
noncomputable def xshr : Int → Int → Int := (Classical.choice ⟨⟨fun a b => (Int32.ofInt a >>> (Int32.ofInt b &&& 31)).toInt, rfl⟩⟩ : { f : Int → Int → Int // f = fun a b => (Int32.ofInt a >>> (Int32.ofInt b &&& 31)).toInt }).1
theorem xshr_d (a b : Int) : xshr a b = (Int32.ofInt a >>> (Int32.ofInt b &&& 31)).toInt := congrFun (congrFun (Classical.choice ⟨⟨fun a b => (Int32.ofInt a >>> (Int32.ofInt b &&& 31)).toInt, rfl⟩⟩ : { f : Int → Int → Int // f = fun a b => (Int32.ofInt a >>> (Int32.ofInt b &&& 31)).toInt }).2 a) b
noncomputable def xdiv (a b : Int) : Int := if 0 ≤ a then a / b else -((-a) / b)
noncomputable def xrem (a b : Int) : Int := if 0 ≤ a then a % b else -((-a) % b)
noncomputable def xcmp (a b : Int) : Int := if a < b then -1 else if a = b then 0 else 1
noncomputable def xup (σ : xa_H) (K i s : Nat) (v : Int) : xa_H := fun K' i' s' => if K' = K ∧ i' = i ∧ s' = s then v else σ K' i' s'
noncomputable def xlong : xa_V → Bool
  | .inr (.inl _) => true
  | _ => false
noncomputable def xget : xa_L → Nat → Option xa_V
  | [], _ => none
  | q :: r, i => cond (Nat.beq q.1 i) (some q.2) (xget r i)
noncomputable def xset (L : xa_L) (i : Nat) (v : xa_V) : xa_L := (i, v) :: L.filter (fun q => !(q.1 == i) && !(q.1 + 1 == i && xlong q.2))
noncomputable def xsetl (L : xa_L) (i : Nat) (v : xa_V) : xa_L := (i, v) :: L.filter (fun q => !(q.1 == i) && (!(q.1 == i + 1) && !(q.1 + 1 == i && xlong q.2)))
noncomputable def xargs : Nat → List xa_V → xa_L
  | _, [] => []
  | i, v :: vs => (i, v) :: xargs (cond (xlong v) (i + 2) (i + 1)) vs
noncomputable def xrel : ClassFile.Cond → Int → Int → Bool
  | .eq, a, b => decide (a = b)
  | .ne, a, b => decide (¬ a = b)
  | .lt, a, b => decide (a < b)
  | .ge, a, b => decide (b ≤ a)
  | .gt, a, b => decide (b < a)
  | .le, a, b => decide (a ≤ b)
noncomputable def xtgt (pc : Nat) (off : Int) : Nat := ((pc : Int) + off).toNat
abbrev xa_C : Type := Nat × xa_L × List xa_V × xa_H
noncomputable def xs_ld (i len pc : Nat) (L : xa_L) (S : List xa_V) (σ : xa_H) (t : Nat) : Option xa_C := match xget L i with
  | some (.inl v) => cond (Nat.beq t 0) (some (pc + len, L, .inl v :: S, σ)) none
  | some (.inr (.inl v)) => cond (Nat.beq t 1) (some (pc + len, L, .inr (.inl v) :: S, σ)) none
  | some (.inr (.inr r)) => cond (Nat.beq t 2) (some (pc + len, L, .inr (.inr r) :: S, σ)) none
  | none => none
noncomputable def xs_st (i len pc : Nat) (L : xa_L) (S : List xa_V) (σ : xa_H) (t : Nat) (mx : Nat) : Option xa_C := match S with
  | .inl v :: S' => cond (Nat.beq t 0 && Nat.blt i mx) (some (pc + len, xset L i (.inl v), S', σ)) none
  | .inr (.inl v) :: S' => cond (Nat.beq t 1 && Nat.blt (i + 1) mx) (some (pc + len, xsetl L i (.inr (.inl v)), S', σ)) none
  | .inr (.inr r) :: S' => cond (Nat.beq t 2 && Nat.blt i mx) (some (pc + len, xset L i (.inr (.inr r)), S', σ)) none
  | [] => none
noncomputable def xs_b (f : Int → Int → Int) (pc : Nat) (L : xa_L) (S : List xa_V) (σ : xa_H) : Option xa_C := match S with
  | .inl b :: .inl a :: S' => some (pc + 1, L, .inl (f a b) :: S', σ)
  | _ => none
noncomputable def xs_d (f : Int → Int → Int) (pc : Nat) (L : xa_L) (S : List xa_V) (σ : xa_H) : Option xa_C := match S with
  | .inl b :: .inl a :: S' => if 0 < b then some (pc + 1, L, .inl (f a b) :: S', σ) else none
  | _ => none
noncomputable def xs_bl (f : Int → Int → Int) (pc : Nat) (L : xa_L) (S : List xa_V) (σ : xa_H) : Option xa_C := match S with
  | .inr (.inl b) :: .inr (.inl a) :: S' => some (pc + 1, L, .inr (.inl (f a b)) :: S', σ)
  | _ => none
noncomputable def xs_aget (t : Nat) (pc : Nat) (L : xa_L) (S : List xa_V) (σ : xa_H) : Option xa_C := match S with
  | .inl j :: .inr (.inr (some (K, i))) :: S' =>
    if xaty K = t ∧ 0 ≤ j ∧ j < xalen K then some (pc + 1, L, (cond (Nat.beq t 2) (.inr (.inl (σ K i j.toNat))) (.inl (σ K i j.toNat))) :: S', σ) else none
  | _ => none
noncomputable def xs_aput (k t : Nat) (pc : Nat) (L : xa_L) (S : List xa_V) (σ : xa_H) : Option xa_C := match S with
  | .inl v :: .inl j :: .inr (.inr (some (K, i))) :: S' =>
    if (t = 0 ∨ t = 1) ∧ xaty K = t ∧ (0 ≤ j ∧ j < xalen K) ∧ xkg K = xmg k then some (pc + 1, L, S', xup σ K i j.toNat (cond (Nat.beq t 1) (v % 2) v)) else none
  | .inr (.inl v) :: .inl j :: .inr (.inr (some (K, i))) :: S' =>
    if t = 2 ∧ xaty K = t ∧ (0 ≤ j ∧ j < xalen K) ∧ xkg K = xmg k then some (pc + 1, L, S', xup σ K i j.toNat v) else none
  | _ => none
noncomputable def xs_getf (x y pc : Nat) (L : xa_L) (S : List xa_V) (σ : xa_H) : Option xa_C := match S with
  | .inr (.inr (some (K, i))) :: S' => cond (Nat.beq K x)
    (match xfty K y with
      | 0 => some (pc + 3, L, .inl (σ K i y) :: S', σ)
      | 1 => some (pc + 3, L, .inl (σ K i y) :: S', σ)
      | 3 => some (pc + 3, L, .inr (.inr (some (xsr K i y))) :: S', σ)
      | 4 => some (pc + 3, L, .inr (.inr (if σ K i y < 0 then none else some (5, (σ K i y).toNat))) :: S', σ)
      | _ => none) none
  | _ => none
noncomputable def xs_putf (k x y pc : Nat) (L : xa_L) (S : List xa_V) (σ : xa_H) : Option xa_C := match S with
  | v :: .inr (.inr (some (K, i))) :: S' => cond (Nat.beq K x && Nat.beq (xkg K) (xmg k))
    (match xfty K y, v with
      | 0, .inl a => some (pc + 3, L, S', xup σ K i y a)
      | 1, .inl a => if a = 0 ∨ a = 1 then some (pc + 3, L, S', xup σ K i y a) else none
      | 4, .inr (.inr none) => some (pc + 3, L, S', xup σ K i y (-1))
      | 4, .inr (.inr (some (K2, j))) => cond (Nat.beq K2 5) (some (pc + 3, L, S', xup σ K i y (j : Int))) none
      | _, _ => none) none
  | _ => none
noncomputable def xnst : Option (Nat × Nat) → Bool
  | none => true
  | some q => !Nat.beq q.1 99
/-- one instruction that is no call and no return -/
noncomputable def xstp (k : Nat) (e : xa_I) (pc : Nat) (L : xa_L) (S : List xa_V) (σ : xa_H) : Option xa_C :=
  match e.1 with
  | .iconst v => some (pc + 1, L, .inl v :: S, σ)
  | .bipush v => some (pc + 2, L, .inl v :: S, σ)
  | .sipush v => some (pc + 3, L, .inl v :: S, σ)
  | .lconst n => some (pc + 1, L, .inr (.inl ((n : Nat) : Int)) :: S, σ)
  | .ldc _ => some (pc + 2, L, cond (Nat.beq e.2.2.2.1 0) (.inl (e.2.2.1 : Int)) (.inr (.inr (some (99, e.2.2.1)))) :: S, σ)
  | .ldc2_w _ => some (pc + 3, L, .inr (.inl (cond (Nat.beq e.2.2.2.1 0) (e.2.2.1 : Int) (-(e.2.2.1 : Int)))) :: S, σ)
  | .aconst_null => some (pc + 1, L, .inr (.inr none) :: S, σ)
  | .iload i => xs_ld i 2 pc L S σ 0
  | .iload_n i => xs_ld i 1 pc L S σ 0
  | .lload i => xs_ld i 2 pc L S σ 1
  | .lload_n i => xs_ld i 1 pc L S σ 1
  | .aload i => xs_ld i 2 pc L S σ 2
  | .aload_n i => xs_ld i 1 pc L S σ 2
  | .istore i => xs_st i 2 pc L S σ 0 (xmL k)
  | .istore_n i => xs_st i 1 pc L S σ 0 (xmL k)
  | .lstore i => xs_st i 2 pc L S σ 1 (xmL k)
  | .lstore_n i => xs_st i 1 pc L S σ 1 (xmL k)
  | .astore i => xs_st i 2 pc L S σ 2 (xmL k)
  | .astore_n i => xs_st i 1 pc L S σ 2 (xmL k)
  | .iinc i n => match xget L i with
    | some (.inl v) => cond (Nat.blt i (xmL k)) (some (pc + 3, xset L i (.inl (w32 (v + n))), S, σ)) none
    | _ => none
  | .iadd => xs_b (fun a b => w32 (a + b)) pc L S σ
  | .isub => xs_b (fun a b => w32 (a - b)) pc L S σ
  | .imul => xs_b (fun a b => w32 (a * b)) pc L S σ
  | .iand => xs_b xand pc L S σ
  | .ior => xs_b xor2 pc L S σ
  | .ixor => xs_b xxor pc L S σ
  | .ishl => xs_b xshl pc L S σ
  | .ishr => xs_b xshr pc L S σ
  | .idiv => xs_d xdiv pc L S σ
  | .irem => xs_d xrem pc L S σ
  | .ineg => match S with
    | .inl a :: S' => some (pc + 1, L, .inl (w32 (-a)) :: S', σ)
    | _ => none
  | .ladd => xs_bl (fun a b => w64 (a + b)) pc L S σ
  | .lmul => xs_bl (fun a b => w64 (a * b)) pc L S σ
  | .ldiv => match S with
    | .inr (.inl b) :: .inr (.inl a) :: S' => if 0 < b then some (pc + 1, L, .inr (.inl (xdiv a b)) :: S', σ) else none
    | _ => none
  | .lcmp => match S with
    | .inr (.inl b) :: .inr (.inl a) :: S' => some (pc + 1, L, .inl (xcmp a b) :: S', σ)
    | _ => none
  | .i2l => match S with
    | .inl a :: S' => some (pc + 1, L, .inr (.inl a) :: S', σ)
    | _ => none
  | .l2i => match S with
    | .inr (.inl a) :: S' => some (pc + 1, L, .inl (w32 a) :: S', σ)
    | _ => none
  | .i2c => match S with
    | .inl a :: S' => some (pc + 1, L, .inl (a % 65536) :: S', σ)
    | _ => none
  | .if_icmp c off => match S with
    | .inl b :: .inl a :: S' => some (cond (xrel c a b) (xtgt pc off) (pc + 3), L, S', σ)
    | _ => none
  | .ifCond c off => match S with
    | .inl a :: S' => some (cond (xrel c a 0) (xtgt pc off) (pc + 3), L, S', σ)
    | _ => none
  | .ifnull off => match S with
    | .inr (.inr r) :: S' => some (cond r.isNone (xtgt pc off) (pc + 3), L, S', σ)
    | _ => none
  | .ifnonnull off => match S with
    | .inr (.inr r) :: S' => some (cond r.isSome (xtgt pc off) (pc + 3), L, S', σ)
    | _ => none
  | .if_acmp c off => match c, S with
    | .ne, .inr (.inr r2) :: .inr (.inr r1) :: S' => cond (xnst r1 && xnst r2) (some (cond (decide (r1 = r2)) (pc + 3) (xtgt pc off), L, S', σ)) none
    | _, _ => none
  | .goto off => some (xtgt pc off, L, S, σ)
  | .tableswitch d lo hi offs => match S with
    | .inl v :: S' => if v < lo ∨ hi < v then some (xtgt pc d, L, S', σ) else match offs[(v - lo).toNat]? with
      | some off => some (xtgt pc off, L, S', σ)
      | none => none
    | _ => none
  | .dup => match S with
    | a :: S' => cond (xlong a) none (some (pc + 1, L, a :: a :: S', σ))
    | _ => none
  | .dup2 => match S with
    | a :: b :: S' => cond (xlong a || xlong b) none (some (pc + 1, L, a :: b :: a :: b :: S', σ))
    | _ => none
  | .pop => match S with
    | a :: S' => cond (xlong a) none (some (pc + 1, L, S', σ))
    | _ => none
  | .arraylength => match S with
    | .inr (.inr (some (K, i))) :: S' => if xaty K = 9 ∨ K = 99 then none else some (pc + 1, L, .inl (xalen K : Int) :: S', σ)
    | _ => none
  | .iaload => xs_aget 0 pc L S σ
  | .baload => xs_aget 1 pc L S σ
  | .laload => xs_aget 2 pc L S σ
  | .aaload => match S with
    | .inl j :: .inr (.inr (some (K, i))) :: S' =>
      if (xaty K = 5 ∨ xaty K = 6) ∧ 0 ≤ j ∧ j < xalen K then some (pc + 1, L, .inr (.inr (some (xar K i j.toNat))) :: S', σ) else none
    | _ => none
  | .iastore => xs_aput k 0 pc L S σ
  | .bastore => xs_aput k 1 pc L S σ
  | .lastore => xs_aput k 2 pc L S σ
  | .getfield _ => xs_getf e.2.2.1 e.2.2.2.1 pc L S σ
  | .putfield _ => xs_putf k e.2.2.1 e.2.2.2.1 pc L S σ
  | _ => none
/-- what an instruction is: 1 a return, 2 a call, 0 another -/
noncomputable def xkd : Instr → Nat
  | .ireturn => 1
  | .lreturn => 1
  | .areturn => 1
  | .return_ => 1
  | .invokevirtual _ => 2
  | .invokestatic _ => 2
  | _ => 0
noncomputable def xret (k : Nat) (ins : Instr) (S : List xa_V) (σ : xa_H) : Option (Option xa_V × xa_H) := match ins, S with
  | .ireturn, [.inl v] => some (some (.inl (cond (Nat.beq (xmZ k) 1) (v % 2) v)), σ)
  | .lreturn, [.inr (.inl v)] => some (some (.inr (.inl v)), σ)
  | .areturn, [.inr (.inr r)] => some (some (.inr (.inr r)), σ)
  | .return_, [] => some (none, σ)
  | _, _ => none
noncomputable def xmoves : List Int := [110, 115, 119, 101, 117, 118, 120, 121, 122, 88, 89, 90]
noncomputable def xixo : List Int → Int → Int → Int
  | [], _, _ => -1
  | a :: r, c, n => if c = a then n else xixo r c (n + 1)
/-- the three calls on the text of the moves -/
noncomputable def xprim (x : Nat) (as : List xa_V) : Option xa_V := match as with
  | [.inr (.inr (some (K, _))), .inl c] => if K = 99 then (cond (Nat.beq x 5000) (if 0 ≤ c ∧ c < 65536 then some (.inl (xixo xmoves c 0)) else none) (cond (Nat.beq x 5001) (if 0 ≤ c ∧ c < 12 then some (.inl (xmoves.getD c.toNat 0)) else none) none)) else none
  | [.inr (.inr (some (K, _)))] => if K = 99 then (cond (Nat.beq x 5002) (some (.inl 12)) none) else none
  | [.inl a] => cond (Nat.beq x 5003) (some (.inl (if 0 ≤ a then a else w32 (0 - a)))) none
  | [.inl a, .inl b] => cond (Nat.beq x 5004) (some (.inl (if a < b then b else a))) (cond (Nat.beq x 5005) (some (.inl (if b < a then b else a))) none)
  | _ => none
/-- how many words a stack has -/
noncomputable def xwt : List xa_V → Nat
  | [] => 0
  | v :: r => cond (xlong v) 2 1 + xwt r
/-- the cell that a call is made on is of the method's class (a static method: 99) -/
noncomputable def xrcv (x : Nat) (as : List xa_V) : Bool := match as with
  | .inr (.inr (some (K, _))) :: _ => Nat.beq K (xmK x)
  | _ => false
def xstat : Instr → Bool
  | .invokestatic _ => true
  | _ => false
noncomputable def xrun : Nat → Nat → Nat → xa_L → List xa_V → xa_H → Option (Option xa_V × xa_H)
  | 0, _, _, _, _, _ => none
  | n + 1, k, pc, L, S, σ => match xcd k pc with
    | none => none
    | some e => match xkd e.1 with
      | 2 => cond (Nat.ble e.2.2.2.1 S.length && Nat.ble (xwt (S.drop e.2.2.2.1)) 8)
        (cond (Nat.ble 5000 e.2.2.1)
          (match xprim e.2.2.1 (S.take e.2.2.2.1).reverse with
            | some v => xrun n k (pc + 3) L (v :: S.drop e.2.2.2.1) σ
            | none => none)
          (cond (Nat.ble (xwt (S.take e.2.2.2.1).reverse) (xmL e.2.2.1) && (xstat e.1 || xrcv e.2.2.1 (S.take e.2.2.2.1).reverse))
            (match xrun n e.2.2.1 0 (xargs 0 (S.take e.2.2.2.1).reverse) [] σ with
              | some (v, σ') => xrun n k (pc + 3) L (v.toList ++ S.drop e.2.2.2.1) σ'
              | none => none) none)) none
      | 1 => xret k e.1 S σ
      | _ => match xstp k e pc L S σ with
        | some q => xrun n k q.1 q.2.1 q.2.2.1 q.2.2.2
        | none => none
theorem xrun_mono1 : ∀ (n k pc : Nat) (L : xa_L) (S : List xa_V) (σ : xa_H) (r : Option xa_V × xa_H), xrun n k pc L S σ = some r → xrun (n + 1) k pc L S σ = some r := by
  intro n
  induction n with
  | zero => intro k pc L S σ r h; cases h
  | succ n ih =>
    intro k pc L S σ r h
    unfold xrun at h ⊢
    split at h
    · cases h
    · rename_i e he
      split at h
      · rename_i hk
        cases h1 : Nat.ble e.2.2.2.1 S.length && Nat.ble (xwt (S.drop e.2.2.2.1)) 8 with
        | false => rw [h1] at h; cases h
        | true =>
          rw [h1] at h
          simp only [cond_true] at h ⊢
          cases h2 : Nat.ble 5000 e.2.2.1 with
          | true =>
            rw [h2] at h
            simp only [cond_true] at h ⊢
            split at h
            · exact ih _ _ _ _ _ _ h
            · cases h
          | false =>
            rw [h2] at h
            simp only [cond_false] at h ⊢
            cases h3 : Nat.ble (xwt (S.take e.2.2.2.1).reverse) (xmL e.2.2.1) && (xstat e.1 || xrcv e.2.2.1 (S.take e.2.2.2.1).reverse) with
            | false => rw [h3] at h; cases h
            | true =>
              rw [h3] at h
              simp only [cond_true] at h ⊢
              split at h
              · rename_i v σ' hc
                rw [ih _ _ _ _ _ _ hc]
                exact ih _ _ _ _ _ _ h
              · cases h
      · exact h
      · split at h
        · rename_i q hq
          exact ih _ _ _ _ _ _ h
        · cases h
theorem xrun_mono {n k pc : Nat} {L : xa_L} {S : List xa_V} {σ : xa_H} {r : Option xa_V × xa_H} (h : xrun n k pc L S σ = some r) : ∀ d : Nat, xrun (n + d) k pc L S σ = some r := by
  intro d
  induction d with
  | zero => exact h
  | succ d ih => exact xrun_mono1 _ _ _ _ _ _ _ ih
