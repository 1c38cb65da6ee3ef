-- need: 44
/-! how many bits: Integer.bitCount -/
def pcn (M : Nat) : Nat → Nat
  | 0 => 0
  | n + 1 => pcn M n + (if M.testBit n then 1 else 0)
theorem and_256 (u m : Nat) : u &&& m = (u % 256 &&& m % 256) + 256 * (u / 256 &&& m / 256) := by
  have h1 : (u &&& m) / 2 ^ 8 = u / 2 ^ 8 &&& m / 2 ^ 8 := Nat.and_div_two_pow
  have h2 : (u &&& m) % 2 ^ 8 = u % 2 ^ 8 &&& m % 2 ^ 8 := Nat.and_mod_two_pow
  have h3 := Nat.div_add_mod (u &&& m) 256
  rw [show (256 : Nat) = 2 ^ 8 from rfl] at *
  omega
def pS (x : Nat) : Nat := x - (x / 2 &&& 1431655765)
def pT (y : Nat) : Nat := (y &&& 858993459) + (y / 4 &&& 858993459)
def pU (z : Nat) : Nat := (z + z / 16) &&& 252645135
theorem p_a : ∀ a, a < 256 → ∀ e, e < 2 → (a / 2 + 128 * e) &&& 85 = a / 2 &&& 85 := by decide +kernel
theorem p_b : ∀ a, a < 256 → ∀ e, e < 4 → (a / 4 + 64 * e) &&& 51 = a / 4 &&& 51 := by decide +kernel
def pq1 (a : Nat) : Nat := a - (a / 2 &&& 85)
def pq2 (a : Nat) : Nat := (a &&& 51) + (a / 4 &&& 51)
def pq4 (a : Nat) : Nat := (a + a / 16) &&& 15
theorem p_1 : ∀ a, a < 256 → (a / 2 &&& 85) ≤ a ∧ pq1 a < 256 ∧ pq2 (pq1 a) < 256 ∧ pq2 (pq1 a) % 16 ≤ 4 ∧ pq2 (pq1 a) / 16 ≤ 4 ∧ pq4 (pq2 (pq1 a)) = pcn a 8 ∧ pcn a 8 ≤ 8 := by decide +kernel
theorem p_m {a c : Nat} (ha : a < 256) : (a + 256 * c) % 256 = a ∧ (a + 256 * c) / 256 = c := by omega
/-- one step, byte by byte; m: the mask's upper bytes -/
theorem p_s {a c m : Nat} (ha : a < 256) : ((a + 256 * c) / 2 &&& (85 + 256 * m)) = (a / 2 &&& 85) + 256 * (c / 2 &&& m) := by
  rw [and_256, show (85 + 256 * m) % 256 = 85 by omega, show (85 + 256 * m) / 256 = m by omega, show (a + 256 * c) / 2 / 256 = c / 2 by omega, show (a + 256 * c) / 2 % 256 = a / 2 + 128 * (c % 2) by omega, p_a a ha _ (Nat.mod_lt _ (by decide))]
theorem p_t1 {a c m : Nat} (ha : a < 256) : ((a + 256 * c) / 4 &&& (51 + 256 * m)) = (a / 4 &&& 51) + 256 * (c / 4 &&& m) := by
  rw [and_256, show (51 + 256 * m) % 256 = 51 by omega, show (51 + 256 * m) / 256 = m by omega, show (a + 256 * c) / 4 / 256 = c / 4 by omega, show (a + 256 * c) / 4 % 256 = a / 4 + 64 * (c % 4) by omega, p_b a ha _ (Nat.mod_lt _ (by decide))]
theorem p_t2 {a c m : Nat} (ha : a < 256) : ((a + 256 * c) &&& (51 + 256 * m)) = (a &&& 51) + 256 * (c &&& m) := by
  rw [and_256, show (51 + 256 * m) % 256 = 51 by omega, show (51 + 256 * m) / 256 = m by omega, (p_m ha).1, (p_m ha).2]
theorem p_u {s c m : Nat} (hs : s < 256) : ((s + 256 * c) &&& (15 + 256 * m)) = (s &&& 15) + 256 * (c &&& m) := by
  rw [and_256, show (15 + 256 * m) % 256 = 15 by omega, show (15 + 256 * m) / 256 = m by omega, (p_m hs).1, (p_m hs).2]
theorem p_and15 (x : Nat) : x &&& 15 = x % 16 := Nat.and_two_pow_sub_one_eq_mod x 4
theorem pS_3 {a c e : Nat} (ha : a < 256) (hc : c < 256) (he : e < 16) : pS (a + 256 * (c + 256 * e)) = pq1 a + 256 * (pq1 c + 256 * pq1 e) := by
  have h1 := p_1 a ha
  have h2 := p_1 c hc
  have h3 := p_1 e (by omega)
  unfold pS
  rw [show 1431655765 = 85 + 256 * (85 + 256 * (85 + 256 * 85)) from rfl, p_s ha, p_s hc, show (e / 2 &&& (85 + 256 * 85)) = (e / 2 &&& 85) from by rw [show e = e + 256 * 0 by omega, p_s (by omega)]; simp]
  unfold pq1
  omega
theorem pT_3 {a c e : Nat} (ha : a < 256) (hc : c < 256) (he : e < 256) : pT (a + 256 * (c + 256 * e)) = pq2 a + 256 * (pq2 c + 256 * pq2 e) := by
  unfold pT
  rw [show 858993459 = 51 + 256 * (51 + 256 * (51 + 256 * 51)) from rfl, p_t1 ha, p_t1 hc, p_t2 ha, p_t2 hc, show (e / 4 &&& (51 + 256 * 51)) = (e / 4 &&& 51) from by rw [show e = e + 256 * 0 by omega, p_t1 (by omega)]; simp, show (e &&& (51 + 256 * 51)) = (e &&& 51) from by rw [show e = e + 256 * 0 by omega, p_t2 (by omega)]; simp]
  unfold pq2
  omega
theorem pU_3 {a c e : Nat} (ha : a < 256 ∧ a % 16 ≤ 4 ∧ a / 16 ≤ 4) (hc : c < 256 ∧ c % 16 ≤ 4 ∧ c / 16 ≤ 4) (he : e < 256 ∧ e % 16 ≤ 4 ∧ e / 16 ≤ 4) : pU (a + 256 * (c + 256 * e)) = pq4 a + 256 * (pq4 c + 256 * pq4 e) := by
  unfold pU
  have h1 : (a + 256 * (c + 256 * e)) + (a + 256 * (c + 256 * e)) / 16 = (a + a / 16 + 16 * (c % 16)) + 256 * ((c + c / 16 + 16 * (e % 16)) + 256 * (e + e / 16)) := by omega
  rw [h1, show 252645135 = 15 + 256 * (15 + 256 * (15 + 256 * 15)) from rfl, p_u (by omega), p_u (by omega), show (e + e / 16 &&& (15 + 256 * 15)) = (e + e / 16 &&& 15) from by rw [show e + e / 16 = (e + e / 16) + 256 * 0 by omega, p_u (by omega)]; simp]
  unfold pq4
  simp only [p_and15]
  omega
theorem pcn_add (M : Nat) (k : Nat) : ∀ n, pcn M (k + n) = pcn M k + pcn (M / 2 ^ k) n
  | 0 => rfl
  | n + 1 => by
    show pcn M (k + n) + (if M.testBit (k + n) then 1 else 0) = pcn M k + (pcn (M / 2 ^ k) n + (if (M / 2 ^ k).testBit n then 1 else 0))
    rw [pcn_add M k n, Nat.testBit_div_two_pow, Nat.add_comm n k, Nat.add_assoc]
theorem pcn_mod (M k : Nat) : ∀ n, n ≤ k → pcn (M % 2 ^ k) n = pcn M n
  | 0, _ => rfl
  | n + 1, h => by
    show pcn (M % 2 ^ k) n + (if (M % 2 ^ k).testBit n then 1 else 0) = pcn M n + (if M.testBit n then 1 else 0)
    rw [pcn_mod M k n (by omega), Nat.testBit_mod_two_pow, decide_eq_true (by omega : n < k), Bool.true_and]
theorem pop_all {M : Nat} (h : M < 2 ^ 20) : ∃ z, pU (pT (pS M)) = z ∧ z < 2 ^ 24 ∧ pS M < 2 ^ 24 ∧ pT (pS M) < 2 ^ 24 ∧ (M / 2 &&& 1431655765) ≤ M ∧ (z + z / 256 + (z + z / 256) / 65536) % 64 = pcn M 20 ∧ pcn M 20 ≤ 20 := by
  have hM : M = M % 256 + 256 * (M / 256 % 256 + 256 * (M / 65536)) := by omega
  have ha : M % 256 < 256 := by omega
  have hc : M / 256 % 256 < 256 := by omega
  have he : M / 65536 < 16 := by omega
  have h1 := p_1 _ ha
  have h2 := p_1 _ hc
  have h3 := p_1 (M / 65536) (by omega)
  have e1 := pS_3 ha hc he
  rw [← hM] at e1
  have e2 := pT_3 h1.2.1 h2.2.1 h3.2.1
  have e3 := pU_3 ⟨h1.2.2.1, h1.2.2.2.1, h1.2.2.2.2.1⟩ ⟨h2.2.2.1, h2.2.2.2.1, h2.2.2.2.2.1⟩ ⟨h3.2.2.1, h3.2.2.2.1, h3.2.2.2.2.1⟩
  have q1 : pcn M 20 = pcn (M % 256) 8 + (pcn (M / 256 % 256) 8 + pcn (M / 65536) 8) := by
    have a1 : pcn M 20 = pcn M 8 + pcn (M / 2 ^ 8) 12 := pcn_add M 8 12
    have a2 : pcn (M / 2 ^ 8) 12 = pcn (M / 2 ^ 8) 8 + pcn (M / 2 ^ 8 / 2 ^ 8) 4 := pcn_add (M / 2 ^ 8) 8 4
    have a3 := pcn_mod M 8 8 (by decide)
    have a4 := pcn_mod (M / 2 ^ 8) 8 8 (by decide)
    have a5 : pcn (M / 65536) 8 = pcn (M / 65536) 4 := by
      have := pcn_add (M / 65536) 4 4
      rw [show M / 65536 / 2 ^ 4 = 0 by omega] at this
      exact this
    rw [show M / 2 ^ 8 / 2 ^ 8 = M / 65536 by omega] at a2
    rw [show (2 : Nat) ^ 8 = 256 from rfl] at *
    omega
  refine ⟨_, rfl, ?_⟩
  rw [e1, e2, e3, h1.2.2.2.2.2.1, h2.2.2.2.2.2.1, h3.2.2.2.2.2.1]
  have hle : (M / 2 &&& 1431655765) ≤ M := Nat.le_trans Nat.and_le_left (Nat.div_le_self _ _)
  have p1 := h1.2.2.2.2.2.2
  have p2 := h2.2.2.2.2.2.2
  have p3 := h3.2.2.2.2.2.2
  have p4 := h1.2.1
  have p5 := h2.2.1
  have p6 := h3.2.1
  have p7 := h1.2.2.1
  have p8 := h2.2.2.1
  have p9 := h3.2.2.1
  have p0 : pcn (M / 65536) 8 ≤ 4 := by
      have := pcn_add (M / 65536) 4 4
      rw [show M / 65536 / 2 ^ 4 = 0 by omega] at this
      have hz : ∀ x, x < 16 → pcn x 8 ≤ 4 := by decide
      exact hz _ he
  clear h1 h2 h3 e1 e2 e3 hM ha hc
  rw [q1]
  clear q1
  generalize pcn (M % 256) 8 = x1 at *
  generalize pcn (M / 256 % 256) 8 = x2 at *
  generalize pcn (M / 65536) 8 = x3 at *
  generalize pq1 (M % 256) = y1 at *
  generalize pq1 (M / 256 % 256) = y2 at *
  generalize pq1 (M / 65536) = y3 at *
  have f1 : (x1 + 256 * (x2 + 256 * x3)) / 256 = x2 + 256 * x3 := by omega
  have f2 : (x1 + 256 * (x2 + 256 * x3) + (x2 + 256 * x3)) / 65536 = x3 := by omega
  rw [f1, f2]
  refine ⟨?_, ?_, ?_, hle, ?_, ?_⟩ <;> omega
section POP
variable {l : Launch} {D : va_G} {DA : Nat → ClassId} {b sz d L : Nat} {cu : Bool} {σ : Nat → Nat → Int32}
theorem c_bitCount {M : Nat} (h : M < 2 ^ 20) : am_Go l D DA b sz d M_Integer_bitCount (0, [some (.int (zi M))], [], (am_TT cu L, am_RR cu, σ)) (some (.int (zi ((pcn M 20 : Nat) : Int)))) (am_TT cu L, am_RR cu, σ) := by
  obtain ⟨z, hz, z1, s1, t1, hle, hr, hb⟩ := pop_all h
  refine v_Integer_bitCount_0 _ ⟨?_, rfl⟩
  have ush : ∀ (n : Nat) (s : Int32) (k : Nat), n < 2 ^ 32 → ((s.toUInt32 &&& Int32.toUInt32 31).toBitVec % 32).toNat = k → ((zi n).toUInt32 >>> (s.toUInt32 &&& Int32.toUInt32 31)).toInt32 = zi ((n / 2 ^ k : Nat) : Int) := fun n s k hn hs => pk_ushrN hn s k hs
  have addN : ∀ a c : Nat, zi a + zi c = zi ((a + c : Nat) : Int) := fun a c => by rw [zi_add, Int.natCast_add]
  have u1 := ush M 1 1 (by omega) (by decide)
  have a1 : zi ((M / 2 ^ 1 : Nat) : Int) &&& 1431655765 = zi ((M / 2 &&& 1431655765 : Nat) : Int) := mk_andN _ 1431655765
  have m1 : zi (M : Int) - zi ((M / 2 &&& 1431655765 : Nat) : Int) = zi ((pS M : Nat) : Int) := by
    rw [zi_sub]; congr 1; unfold pS; omega
  have u2 := ush (pS M) 2 2 (by omega) (by decide)
  have a2 : zi ((pS M / 2 ^ 2 : Nat) : Int) &&& 858993459 = zi ((pS M / 4 &&& 858993459 : Nat) : Int) := mk_andN _ 858993459
  have a3 : zi ((pS M : Nat) : Int) &&& 858993459 = zi ((pS M &&& 858993459 : Nat) : Int) := mk_andN _ 858993459
  have m2 : zi ((pS M &&& 858993459 : Nat) : Int) + zi ((pS M / 4 &&& 858993459 : Nat) : Int) = zi ((pT (pS M) : Nat) : Int) := addN _ _
  have u3 := ush (pT (pS M)) 4 4 (by omega) (by decide)
  have m3 : zi ((pT (pS M) : Nat) : Int) + zi ((pT (pS M) / 2 ^ 4 : Nat) : Int) = zi ((pT (pS M) + pT (pS M) / 16 : Nat) : Int) := addN _ _
  have a4 : zi ((pT (pS M) + pT (pS M) / 16 : Nat) : Int) &&& 252645135 = zi (z : Int) := by rw [← hz]; exact mk_andN _ 252645135
  have u4 := ush z 8 8 (by omega) (by decide)
  have m4 : zi (z : Int) + zi ((z / 2 ^ 8 : Nat) : Int) = zi ((z + z / 256 : Nat) : Int) := addN _ _
  have u5 := ush (z + z / 256) 16 16 (by omega) (by decide)
  have m5 : zi ((z + z / 256 : Nat) : Int) + zi (((z + z / 256) / 2 ^ 16 : Nat) : Int) = zi ((z + z / 256 + (z + z / 256) / 65536 : Nat) : Int) := addN _ _
  have a5 : zi ((z + z / 256 + (z + z / 256) / 65536 : Nat) : Int) &&& 63 = zi (((z + z / 256 + (z + z / 256) / 65536) % 64 : Nat) : Int) := pk_andN (by omega) 6 rfl
  rw [u1, a1, m1, u2, a2, a3, m2, u3, m3, a4, u4, m4, u5, m5, a5, hr]
end POP
