/-! THE MACHINE IN SMALL: a step function over a frame, cells by number, references apart from whole numbers -/
abbrev am_T : Type := List (Nat ⊕ (Nat × Nat))
abbrev am_L : Type := List (Option Value)
/-- an instruction: pc, itself, length, next pc, two numbers, a constant, targets -/
abbrev am_I : Type := Nat × Instr × Nat × Nat × Nat × Nat × Int32 × List Nat
/-- pc, locals, stack, kinds of the cells, references, whole numbers -/
abbrev am_S : Type := Nat × am_L × List Value × am_T × (Nat → Nat → Value) × (Nat → Nat → Int32)
def am_us (σ : Nat → Nat → Int32) (c k : Nat) (x : Int32) : Nat → Nat → Int32 := fun c' k' => if c' = c ∧ k' = k then x else σ c' k'
def am_ur (ρ : Nat → Nat → Value) (c k : Nat) (x : Value) : Nat → Nat → Value := fun c' k' => if c' = c ∧ k' = k then x else ρ c' k'
def am_zs (σ : Nat → Nat → Int32) (c : Nat) : Nat → Nat → Int32 := fun c' k' => if c' = c then 0 else σ c' k'
def am_zr (ρ : Nat → Nat → Value) (c : Nat) : Nat → Nat → Value := fun c' k' => if c' = c then .null else ρ c' k'
def am_isI (ty : FieldType) : Bool := match ty with
  | .int => true
  | .boolean => true
  | _ => false
def am_isB (ty : FieldType) : Bool := match ty with
  | .boolean => true
  | _ => false
def am_isL (v : Option (Option Value)) : Bool := match v with
  | some (some (.long _)) => true
  | some (some (.double _)) => true
  | _ => false
def am_st1 (L : am_L) (i : Nat) (v : Value) : Option am_L := if i < L.length then (if (i != 0 && am_isL L[i - 1]?) = true then none else some (L.set i (some v))) else none
def am_st2 (L : am_L) (i : Nat) (v : Value) : Option am_L := if i + 1 < L.length then (if (i != 0 && am_isL L[i - 1]?) = true then none else some ((L.set i (some v)).set (i + 1) none)) else none
def am_c1 (v : Value) : Bool := match v with
  | .long _ => false
  | .double _ => false
  | _ => true
/-- a load from the locals -/
def am_ldI (L : am_L) (i nx : Nat) (S : List Value) (X : am_T × (Nat → Nat → Value) × (Nat → Nat → Int32)) : Option am_S := match L[i]? with
  | some (some (.int x)) => some (nx, L, .int x :: S, X)
  | _ => none
def am_ldL (L : am_L) (i nx : Nat) (S : List Value) (X : am_T × (Nat → Nat → Value) × (Nat → Nat → Int32)) : Option am_S := match L[i]? with
  | some (some (.long x)) => some (nx, L, .long x :: S, X)
  | _ => none
def am_ldA (L : am_L) (i nx : Nat) (S : List Value) (X : am_T × (Nat → Nat → Value) × (Nat → Nat → Int32)) : Option am_S := match L[i]? with
  | some (some (.ref x)) => some (nx, L, .ref x :: S, X)
  | some (some .null) => some (nx, L, .null :: S, X)
  | _ => none
def am_stI (L : am_L) (i nx : Nat) (S : List Value) (X : am_T × (Nat → Nat → Value) × (Nat → Nat → Int32)) : Option am_S := match S with
  | .int x :: S => (match am_st1 L i (.int x) with
    | some L' => some (nx, L', S, X)
    | none => none)
  | _ => none
def am_stL (L : am_L) (i nx : Nat) (S : List Value) (X : am_T × (Nat → Nat → Value) × (Nat → Nat → Int32)) : Option am_S := match S with
  | .long x :: S => (match am_st2 L i (.long x) with
    | some L' => some (nx, L', S, X)
    | none => none)
  | _ => none
def am_stA (L : am_L) (i nx : Nat) (S : List Value) (X : am_T × (Nat → Nat → Value) × (Nat → Nat → Int32)) : Option am_S := match S with
  | .ref x :: S => (match am_st1 L i (.ref x) with
    | some L' => some (nx, L', S, X)
    | none => none)
  | .null :: S => (match am_st1 L i .null with
    | some L' => some (nx, L', S, X)
    | none => none)
  | _ => none
def am_op2 (f : Int32 → Int32 → Int32) (L : am_L) (nx : Nat) (S : List Value) (X : am_T × (Nat → Nat → Value) × (Nat → Nat → Int32)) : Option am_S := match S with
  | .int y :: .int x :: S => some (nx, L, .int (f x y) :: S, X)
  | _ => none
def am_opL (f : Int64 → Int64 → Int64) (L : am_L) (nx : Nat) (S : List Value) (X : am_T × (Nat → Nat → Value) × (Nat → Nat → Int32)) : Option am_S := match S with
  | .long y :: .long x :: S => some (nx, L, .long (f x y) :: S, X)
  | _ => none
/-- one instruction that is no call, no branch and touches no cell -/
def am_ex1 (i : Instr) (nx n : Nat) (v : Int32) (L : am_L) (S : List Value) (X : am_T × (Nat → Nat → Value) × (Nat → Nat → Int32)) : Option am_S := match i with
  | .iconst _ => some (nx, L, .int v :: S, X)
  | .bipush _ => some (nx, L, .int v :: S, X)
  | .sipush _ => some (nx, L, .int v :: S, X)
  | .ldc _ => some (nx, L, .int v :: S, X)
  | .ldc_w _ => some (nx, L, .int v :: S, X)
  | .ldc2_w _ => some (nx, L, .long (Int64.ofNat n) :: S, X)
  | .lconst k => some (nx, L, .long (Int64.ofNat k) :: S, X)
  | .aconst_null => some (nx, L, .null :: S, X)
  | .iload_n k => am_ldI L k nx S X
  | .iload k => am_ldI L k nx S X
  | .lload_n k => am_ldL L k nx S X
  | .lload k => am_ldL L k nx S X
  | .aload_n k => am_ldA L k nx S X
  | .aload k => am_ldA L k nx S X
  | .istore_n k => am_stI L k nx S X
  | .istore k => am_stI L k nx S X
  | .lstore_n k => am_stL L k nx S X
  | .lstore k => am_stL L k nx S X
  | .astore_n k => am_stA L k nx S X
  | .astore k => am_stA L k nx S X
  | .iinc k _ => (match L[k]? with
    | some (some (.int x)) => (match am_st1 L k (.int (x + v)) with
      | some L' => some (nx, L', S, X)
      | none => none)
    | _ => none)
  | .iadd => am_op2 (fun x y => x + y) L nx S X
  | .isub => am_op2 (fun x y => x - y) L nx S X
  | .imul => am_op2 (fun x y => x * y) L nx S X
  | .iand => am_op2 (fun x y => x &&& y) L nx S X
  | .ior => am_op2 (fun x y => x ||| y) L nx S X
  | .ixor => am_op2 (fun x y => x ^^^ y) L nx S X
  | .ishl => am_op2 (fun x y => x <<< (y &&& 31)) L nx S X
  | .ishr => am_op2 (fun x y => x >>> (y &&& 31)) L nx S X
  | .iushr => am_op2 (fun x y => (x.toUInt32 >>> (y.toUInt32 &&& Int32.toUInt32 31)).toInt32) L nx S X
  | .idiv => (match S with
    | .int y :: .int x :: S => if y = 0 then none else some (nx, L, .int (x / y) :: S, X)
    | _ => none)
  | .irem => (match S with
    | .int y :: .int x :: S => if y = 0 then none else some (nx, L, .int (x - x / y * y) :: S, X)
    | _ => none)
  | .ineg => (match S with
    | .int x :: S => some (nx, L, .int (-x) :: S, X)
    | _ => none)
  | .lmul => am_opL (fun x y => x * y) L nx S X
  | .land => am_opL (fun x y => x &&& y) L nx S X
  | .lor => am_opL (fun x y => x ||| y) L nx S X
  | .ldiv => (match S with
    | .long y :: .long x :: S => if y = 0 then none else some (nx, L, .long (x / y) :: S, X)
    | _ => none)
  | .lshl => (match S with
    | .int y :: .long x :: S => some (nx, L, .long (x <<< (y.toInt64 &&& 63)) :: S, X)
    | _ => none)
  | .lshr => (match S with
    | .int y :: .long x :: S => some (nx, L, .long (x >>> (y.toInt64 &&& 63)) :: S, X)
    | _ => none)
  | .lcmp => (match S with
    | .long y :: .long x :: S => some (nx, L, .int (lg_cmp x y) :: S, X)
    | _ => none)
  | .i2l => (match S with
    | .int x :: S => some (nx, L, .long x.toInt64 :: S, X)
    | _ => none)
  | .l2i => (match S with
    | .long x :: S => some (nx, L, .int x.toInt32 :: S, X)
    | _ => none)
  | .dup => (match S with
    | a :: S => if am_c1 a = true then some (nx, L, a :: a :: S, X) else none
    | _ => none)
  | .dup2 => (match S with
    | a :: c :: S => if (am_c1 a && am_c1 c) = true then some (nx, L, a :: c :: a :: c :: S, X) else none
    | _ => none)
  | .pop => (match S with
    | a :: S => if am_c1 a = true then some (nx, L, S, X) else none
    | _ => none)
  | _ => none
/-- a jump -/
def am_ex2 (i : Instr) (nx n : Nat) (w : List Nat) (L : am_L) (S : List Value) (X : am_T × (Nat → Nat → Value) × (Nat → Nat → Int32)) : Option am_S := match i with
  | .goto _ => some (n, L, S, X)
  | .ifCond .eq _ => (match S with
    | .int x :: S => some (if x = 0 then n else nx, L, S, X)
    | _ => none)
  | .ifCond .ne _ => (match S with
    | .int x :: S => some (if x = 0 then nx else n, L, S, X)
    | _ => none)
  | .ifCond .lt _ => (match S with
    | .int x :: S => some (if x < 0 then n else nx, L, S, X)
    | _ => none)
  | .ifCond .ge _ => (match S with
    | .int x :: S => some (if 0 ≤ x then n else nx, L, S, X)
    | _ => none)
  | .ifCond .gt _ => (match S with
    | .int x :: S => some (if 0 < x then n else nx, L, S, X)
    | _ => none)
  | .ifCond .le _ => (match S with
    | .int x :: S => some (if x ≤ 0 then n else nx, L, S, X)
    | _ => none)
  | .if_icmp .eq _ => (match S with
    | .int y :: .int x :: S => some (if x = y then n else nx, L, S, X)
    | _ => none)
  | .if_icmp .ne _ => (match S with
    | .int y :: .int x :: S => some (if x = y then nx else n, L, S, X)
    | _ => none)
  | .if_icmp .lt _ => (match S with
    | .int y :: .int x :: S => some (if x < y then n else nx, L, S, X)
    | _ => none)
  | .if_icmp .ge _ => (match S with
    | .int y :: .int x :: S => some (if y ≤ x then n else nx, L, S, X)
    | _ => none)
  | .if_icmp .gt _ => (match S with
    | .int y :: .int x :: S => some (if y < x then n else nx, L, S, X)
    | _ => none)
  | .if_icmp .le _ => (match S with
    | .int y :: .int x :: S => some (if x ≤ y then n else nx, L, S, X)
    | _ => none)
  | .ifnull _ => (match S with
    | .ref _ :: S => some (nx, L, S, X)
    | .null :: S => some (n, L, S, X)
    | _ => none)
  | .ifnonnull _ => (match S with
    | .ref _ :: S => some (n, L, S, X)
    | .null :: S => some (nx, L, S, X)
    | _ => none)
  | .tableswitch _ lo hi _ => (match S with
    | .int x :: S => if x.toInt < lo ∨ hi < x.toInt then some (n, L, S, X) else (match w[(x.toInt - lo).toNat]? with
      | some g => some (g, L, S, X)
      | none => none)
    | _ => none)
  | _ => none
/-- what touches a cell -/
def am_ex3 (i : Instr) (nx n n2 : Nat) (L : am_L) (S : List Value) (T : am_T) (ρ : Nat → Nat → Value) (σ : Nat → Nat → Int32) : Option am_S := match i with
  | .getfield _ => (match S with
    | .ref c :: S => if T[c]? = some (.inl n) then (if am_isI (am_fty n n2) = true then some (nx, L, .int (σ c n2) :: S, T, ρ, σ) else some (nx, L, ρ c n2 :: S, T, ρ, σ)) else none
    | _ => none)
  | .putfield _ => (match S with
    | .int x :: .ref c :: S => if T[c]? = some (.inl n) then (if am_isI (am_fty n n2) = true then (if am_isB (am_fty n n2) = true then (if x = 0 ∨ x = 1 then some (nx, L, S, T, ρ, am_us σ c n2 x) else none) else some (nx, L, S, T, ρ, am_us σ c n2 x)) else none) else none
    | .ref x :: .ref c :: S => if T[c]? = some (.inl n) then (if am_isI (am_fty n n2) = true then none else some (nx, L, S, T, am_ur ρ c n2 (.ref x), σ)) else none
    | .null :: .ref c :: S => if T[c]? = some (.inl n) then (if am_isI (am_fty n n2) = true then none else some (nx, L, S, T, am_ur ρ c n2 .null, σ)) else none
    | _ => none)
  | .iaload => (match S with
    | .int x :: .ref c :: S => (match T[c]? with
      | some (.inr (t, m)) => if (t = 0 ∨ t = 9) ∧ ¬ (x < 0 ∨ m ≤ x.toNatClampNeg) then some (nx, L, .int (σ c x.toNatClampNeg) :: S, T, ρ, σ) else none
      | _ => none)
    | _ => none)
  | .baload => (match S with
    | .int x :: .ref c :: S => (match T[c]? with
      | some (.inr (t, m)) => if t = 1 ∧ ¬ (x < 0 ∨ m ≤ x.toNatClampNeg) then some (nx, L, .int (σ c x.toNatClampNeg) :: S, T, ρ, σ) else none
      | _ => none)
    | _ => none)
  | .aaload => (match S with
    | .int x :: .ref c :: S => (match T[c]? with
      | some (.inr (t, m)) => if t = 2 ∧ ¬ (x < 0 ∨ m ≤ x.toNatClampNeg) then some (nx, L, ρ c x.toNatClampNeg :: S, T, ρ, σ) else none
      | _ => none)
    | _ => none)
  | .iastore => (match S with
    | .int y :: .int x :: .ref c :: S => (match T[c]? with
      | some (.inr (t, m)) => if t = 0 ∧ ¬ (x < 0 ∨ m ≤ x.toNatClampNeg) then some (nx, L, S, T, ρ, am_us σ c x.toNatClampNeg y) else none
      | _ => none)
    | _ => none)
  | .bastore => (match S with
    | .int y :: .int x :: .ref c :: S => (match T[c]? with
      | some (.inr (t, m)) => if t = 1 ∧ ¬ (x < 0 ∨ m ≤ x.toNatClampNeg) ∧ (y = 0 ∨ y = 1) then some (nx, L, S, T, ρ, am_us σ c x.toNatClampNeg y) else none
      | _ => none)
    | _ => none)
  | .aastore => (match S with
    | .ref y :: .int x :: .ref c :: S => (match T[c]? with
      | some (.inr (t, m)) => if t = 2 ∧ ¬ (x < 0 ∨ m ≤ x.toNatClampNeg) ∧ T[y]? = some (.inl 2) then some (nx, L, S, T, am_ur ρ c x.toNatClampNeg (.ref y), σ) else none
      | _ => none)
    | _ => none)
  | .arraylength => (match S with
    | .ref c :: S => (match T[c]? with
      | some (.inr (_, m)) => some (nx, L, .int (Int32.ofNat m) :: S, T, ρ, σ)
      | _ => none)
    | _ => none)
  | .new _ => some (nx, L, .ref T.length :: S, T ++ [.inl n], am_zr ρ T.length, am_zs σ T.length)
  | .newarray _ => (match S with
    | .int x :: S => if ¬ x < 0 ∧ x.toNatClampNeg ≤ 100000 then some (nx, L, .ref T.length :: S, T ++ [.inr (n, x.toNatClampNeg)], am_zr ρ T.length, am_zs σ T.length) else none
    | _ => none)
  | .anewarray _ => (match S with
    | .int x :: S => if ¬ x < 0 ∧ x.toNatClampNeg ≤ 100000 then some (nx, L, .ref T.length :: S, T ++ [.inr (2, x.toNatClampNeg)], am_zr ρ T.length, am_zs σ T.length) else none
    | _ => none)
  | _ => none
def am_cat (S : List Value) : Nat := (S.map fun v => v.category).sum
/-- calls that are one step: Object's constructor, Math's three -/
def am_ex4 (i : Instr) (nx n n2 : Nat) (L : am_L) (S : List Value) (X : am_T × (Nat → Nat → Value) × (Nat → Nat → Int32)) : Option am_S := match i with
  | .invokespecial _ => (match S with
    | .ref _ :: S => if n2 = 9 ∧ am_cat S ≤ 8 then some (nx, L, S, X) else none
    | _ => none)
  | .invokestatic _ => (match S with
    | .int y :: S1 => if n2 = 9 then (if n = M_Math_abs then (if am_cat S1 ≤ 8 then some (nx, L, .int (if 0 ≤ y then y else 0 - y) :: S1, X) else none) else (match S1 with
      | .int x :: S => if am_cat S ≤ 8 then (if n = M_Math_max then some (nx, L, .int (if x < y then y else x) :: S, X) else if n = M_Math_min then some (nx, L, .int (if y < x then y else x) :: S, X) else none) else none
      | _ => none)) else none
    | _ => none)
  | _ => none
def am_grp (i : Instr) : Nat := match i with
  | .goto _ => 2
  | .ifCond _ _ => 2
  | .if_icmp _ _ => 2
  | .ifnull _ => 2
  | .ifnonnull _ => 2
  | .tableswitch _ _ _ _ => 2
  | .getfield _ => 3
  | .putfield _ => 3
  | .iaload => 3
  | .baload => 3
  | .aaload => 3
  | .iastore => 3
  | .bastore => 3
  | .aastore => 3
  | .arraylength => 3
  | .new _ => 3
  | .newarray _ => 3
  | .anewarray _ => 3
  | .invokespecial _ => 4
  | .invokestatic _ => 4
  | _ => 1
def am_ex (I : am_I) (st : am_S) : Option am_S := match I, st with
  | (_, i, _, nx, n, n2, v, w), (_, L, S, T, ρ, σ) => (match am_grp i with
    | 1 => am_ex1 i nx n v L S (T, ρ, σ)
    | 2 => am_ex2 i nx n w L S (T, ρ, σ)
    | 3 => am_ex3 i nx n n2 L S T ρ σ
    | _ => am_ex4 i nx n n2 L S (T, ρ, σ))
def am_fetch (k : List am_I) (pc : Nat) : Option am_I := match k with
  | [] => none
  | I :: k => if I.1 = pc then some I else am_fetch k pc
def am_step (k : List am_I) (st : am_S) : Option am_S := match am_fetch k st.1 with
  | some I => am_ex I st
  | none => none
def am_steps (k : List am_I) : Nat → am_S → Option am_S
  | 0, st => some st
  | n + 1, st => match am_step k st with
    | some st' => am_steps k n st'
    | none => none
def am_len (i : Instr) : Nat := match i with
  | .bipush _ => 2
  | .ldc _ => 2
  | .iload _ => 2
  | .lload _ => 2
  | .aload _ => 2
  | .istore _ => 2
  | .lstore _ => 2
  | .astore _ => 2
  | .newarray _ => 2
  | .sipush _ => 3
  | .ldc_w _ => 3
  | .ldc2_w _ => 3
  | .iinc _ _ => 3
  | .goto _ => 3
  | .ifCond _ _ => 3
  | .if_icmp _ _ => 3
  | .ifnull _ => 3
  | .ifnonnull _ => 3
  | .getfield _ => 3
  | .putfield _ => 3
  | .new _ => 3
  | .anewarray _ => 3
  | .invokespecial _ => 3
  | .invokevirtual _ => 3
  | .invokestatic _ => 3
  | _ => 1
/-- an instruction's own numbers agree with its code and with the words -/
def am_own (q : am_M) (pc : Nat) (i : Instr) (n n2 : Nat) (v : Int32) (w : List Nat) : Bool := match i with
  | .iconst x => decide (Int32.ofInt x = v)
  | .bipush x => decide ((Int8.ofInt x).toInt32 = v)
  | .sipush x => decide ((Int16.ofInt x).toInt32 = v)
  | .iinc _ x => decide (Int32.ofInt x = v)
  | .ldc idx => am_KW.any (fun z => z.1 == q.1 && (z.2.1 == idx && z.2.2 == v))
  | .ldc_w idx => am_KW.any (fun z => z.1 == q.1 && (z.2.1 == idx && z.2.2 == v))
  | .ldc2_w idx => am_LW.any (fun z => z.1 == q.1 && (z.2.1 == idx && z.2.2 == n))
  | .goto off => decide ((pc : Int) + off = (n : Int))
  | .ifCond _ off => decide ((pc : Int) + off = (n : Int))
  | .if_icmp _ off => decide ((pc : Int) + off = (n : Int))
  | .ifnull off => decide ((pc : Int) + off = (n : Int))
  | .ifnonnull off => decide ((pc : Int) + off = (n : Int))
  | .tableswitch d _ _ offs => decide ((pc : Int) + d = (n : Int)) && decide (offs.toList.map (fun o => (pc : Int) + o) = w.map (fun g : Nat => (g : Int)))
  | .getfield idx => am_FW.any (fun z => z.1 == q.1 && (z.2.1 == idx && (z.2.2.1 == n && z.2.2.2 == n2))) && (decide (n2 < am_N n) && decide (n < 10))
  | .putfield idx => am_FW.any (fun z => z.1 == q.1 && (z.2.1 == idx && (z.2.2.1 == n && z.2.2.2 == n2))) && (decide (n2 < am_N n) && (decide (n < 10) && (!(am_F n n2).2.2.2 || (q.2.2.2.2.2.2.2 && decide ((am_F n n2).1 = am_cn q.1)))))
  | .new idx => am_CW.any (fun z => z.1 == q.1 && (z.2.1 == idx && z.2.2 == n)) && decide (n < 10)
  | .anewarray idx => am_CW.any (fun z => z.1 == q.1 && (z.2.1 == idx && z.2.2 == 2))
  | .newarray t => decide (newarray.typeOf t = (if n = 0 then FieldType.int else FieldType.boolean)) && decide (n < 2)
  | .invokespecial idx => if n2 = 9 then am_OW.any (fun z => z.1 == q.1 && z.2 == idx) else if n2 = 1 then am_MN.any (fun z => z.1 == q.1 && (z.2.1 == idx && z.2.2 == n)) else am_MW.any (fun z => z.1 == q.1 && (z.2.1 == idx && z.2.2 == n))
  | .invokevirtual idx => am_MW.any (fun z => z.1 == q.1 && (z.2.1 == idx && z.2.2 == n))
  | .invokestatic idx => am_MW.any (fun z => z.1 == q.1 && (z.2.1 == idx && z.2.2 == n))
  | _ => true
def am_isSw (i : Instr) : Bool := match i with
  | .tableswitch _ _ _ _ => true
  | _ => false
def am_chk (q : am_M) (I : am_I) : Bool := match I with
  | (pc, i, len, nx, n, n2, v, w) => decide (decode q.2.2.1 pc = .ok (i, len)) && ((nx == pc + len) && ((am_isSw i || len == am_len i) && am_own q pc i n n2 v w))
