/-! masks: a set of numbers below 31 as bits -/
theorem mk_s : ∀ n, n < 32 → ((nI n &&& 31).toBitVec.smod 32).toNat = n := by decide +kernel
theorem mk_shr {M n : Nat} (hM : M < 2 ^ 31) (hn : n < 32) : (zi M >>> (zi n &&& 31 : Int32) : Int32) = zi ((M / 2 ^ n : Nat) : Int) := pk_shrN hM _ n (mk_s n hn)
theorem mk_and1 {M : Nat} (hM : M < 2 ^ 32) : zi M &&& 1 = zi ((M % 2 : Nat) : Int) := pk_andN hM 1 rfl
theorem mk_bit {M n : Nat} (hM : M < 2 ^ 31) (hn : n < 32) : (zi M >>> (zi n &&& 31 : Int32) : Int32) &&& 1 = zi ((if M.testBit n then 1 else 0 : Nat) : Int) := by
  rw [mk_shr hM hn, mk_and1 (Nat.lt_of_le_of_lt (Nat.div_le_self _ _) (by omega))]
  congr 2
  rw [Nat.testBit, Nat.shiftRight_eq_div_pow, Nat.one_and_eq_mod_two]
  have : M / 2 ^ n % 2 = 0 ∨ M / 2 ^ n % 2 = 1 := by omega
  rcases this with h | h <;> simp [h]
theorem mk_bit0 {M n : Nat} (hM : M < 2 ^ 31) (hn : n < 32) : ((zi M >>> (zi n &&& 31 : Int32) : Int32) &&& 1 = (0 : Int32)) ↔ M.testBit n = false := by
  rw [mk_bit hM hn]
  by_cases h : M.testBit n <;> simp [h]
  · exact fun z => absurd z (by decide)
  · rfl
theorem mk_bit1 {M n : Nat} (hM : M < 2 ^ 31) (hn : n < 32) : ((zi M >>> (zi n &&& 31 : Int32) : Int32) &&& 1 = (1 : Int32)) ↔ M.testBit n = true := by
  rw [mk_bit hM hn]
  by_cases h : M.testBit n <;> simp [h]
  · rfl
  · exact fun z => absurd z (by decide)
theorem mk_shl {n : Nat} (hn : n < 31) : ((1 : Int32) <<< (zi n &&& 31 : Int32) : Int32) = zi ((2 ^ n : Nat) : Int) := by
  have h1 : 1 * 2 ^ n < 2 ^ 32 := by rw [Nat.one_mul]; exact Nat.pow_lt_pow_right (by decide) (by omega)
  have h := pk_shlN (n := 1) (nI n &&& 31) n (mk_s n (by omega)) h1
  rw [Nat.one_mul] at h
  exact h
theorem mk_or (a c : Nat) : zi a ||| zi c = zi ((a ||| c : Nat) : Int) := by
  show Int32.ofNat a ||| Int32.ofNat c = Int32.ofNat (a ||| c)
  apply Int32.toBitVec_inj.mp
  simp
theorem mk_andN (a c : Nat) : zi a &&& zi c = zi ((a &&& c : Nat) : Int) := by
  show Int32.ofNat a &&& Int32.ofNat c = Int32.ofNat (a &&& c)
  apply Int32.toBitVec_inj.mp
  simp
theorem mk_set {M n k : Nat} : (M ||| 2 ^ n).testBit k = (M.testBit k || decide (n = k)) := by
  rw [Nat.testBit_or, Nat.testBit_two_pow]
theorem mk_lt {M n k : Nat} (hM : M < 2 ^ k) (hn : n < k) : M ||| 2 ^ n < 2 ^ k := Nat.or_lt_two_pow hM (Nat.pow_lt_pow_right (by decide) hn)
