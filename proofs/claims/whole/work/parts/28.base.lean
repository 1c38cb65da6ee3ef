/-! whole numbers: Int32 seen as Int -/
def zi (a : Int) : Int32 := Int32.ofInt a
theorem zi_add (a b : Int) : zi a + zi b = zi (a + b) := (Int32.ofInt_add a b).symm
theorem zi_sub (a b : Int) : zi a - zi b = zi (a - b) := (Int32.ofInt_sub a b).symm
theorem zi_mul (a b : Int) : zi a * zi b = zi (a * b) := (Int32.ofInt_mul a b).symm
theorem zi_neg (a : Int) : - zi a = zi (-a) := (Int32.ofInt_neg a).symm
theorem zi_toInt {a : Int} (h1 : -2147483648 ≤ a) (h2 : a < 2147483648) : (zi a).toInt = a := Int32.toInt_ofInt_of_le h1 h2
theorem zi_of (x : Int32) : x = zi x.toInt := (Int32.ofInt_toInt x).symm
theorem zi_nI (n : Nat) : nI n = zi n := rfl
theorem zi_0 : zi 0 = 0 := rfl
theorem zi_1 : zi 1 = 1 := rfl
theorem zi_le {a b : Int} (h1 : -2147483648 ≤ a) (h2 : a < 2147483648) (h3 : -2147483648 ≤ b) (h4 : b < 2147483648) : zi a ≤ zi b ↔ a ≤ b := by rw [Int32.le_iff_toInt_le, zi_toInt h1 h2, zi_toInt h3 h4]
theorem zi_lt {a b : Int} (h1 : -2147483648 ≤ a) (h2 : a < 2147483648) (h3 : -2147483648 ≤ b) (h4 : b < 2147483648) : zi a < zi b ↔ a < b := by rw [Int32.lt_iff_toInt_lt, zi_toInt h1 h2, zi_toInt h3 h4]
theorem zi_eq {a b : Int} (h1 : -2147483648 ≤ a) (h2 : a < 2147483648) (h3 : -2147483648 ≤ b) (h4 : b < 2147483648) : zi a = zi b ↔ a = b := by rw [← Int32.toInt_inj, zi_toInt h1 h2, zi_toInt h3 h4]
theorem zi_cl {n : Nat} (h : n < 2147483648) : Int32.toNatClampNeg (zi n) = n := nI_clamp h
theorem zi_in {n m : Nat} (h : n < m) (hm : m < 2147483648) : ¬ (zi n < 0 ∨ m ≤ Int32.toNatClampNeg (zi n)) := nI_in h hm
theorem zi_div {a b : Int} (h1 : -2147483648 < a) (h2 : a < 2147483648) (h3 : -2147483648 < b) (h4 : b < 2147483648) : zi a / zi b = zi (a.tdiv b) := by
  rw [← Int32.toInt_inj, Int32.toInt_div_of_ne_left _ _ (fun h => ?_), zi_toInt (by omega) h2, zi_toInt (by omega) h4]
  · rw [zi_toInt]
    · have := Int.natAbs_tdiv_le_natAbs a b
      omega
    · have := Int.natAbs_tdiv_le_natAbs a b
      omega
  · have h9 := congrArg Int32.toInt h
    rw [zi_toInt (by omega) h2] at h9
    have : (Int32.minValue).toInt = -2147483648 := rfl
    omega
/-- sums -/
def sm (f : Nat → Int) : Nat → Int
  | 0 => 0
  | n + 1 => sm f n + f n
theorem sm_congr {f g : Nat → Int} : ∀ {n : Nat}, (∀ i, i < n → f i = g i) → sm f n = sm g n
  | 0, _ => rfl
  | n + 1, h => by
    show sm f n + f n = sm g n + g n
    rw [sm_congr (fun i hi => h i (by omega)), h n (by omega)]
theorem sm_bound {f : Nat → Int} {lo hi : Int} : ∀ {n : Nat}, (∀ i, i < n → lo ≤ f i ∧ f i ≤ hi) → n * lo ≤ sm f n ∧ sm f n ≤ n * hi
  | 0, _ => by simp [sm]
  | n + 1, h => by
    have h1 := sm_bound (f := f) (lo := lo) (hi := hi) (n := n) (fun i hi => h i (by omega))
    have h2 := h n (by omega)
    show ((n + 1 : Nat) : Int) * lo ≤ sm f n + f n ∧ sm f n + f n ≤ ((n + 1 : Nat) : Int) * hi
    rw [Int.natCast_add, Int.add_mul, Int.add_mul]
    omega
/-- less room is asked -/
theorem go_mono {l : Launch} {D : va_G} {DA : Nat → ClassId} {b sz d d' mi : Nat} {st : am_S} {r : Option Value} {X' : am_X} (h : d ≤ d') (G : am_Go l D DA b sz d mi st r X') : am_Go l D DA b sz d' mi st r X' := by
  refine ⟨G.1, G.2.1, ?_⟩
  intro q hq p e R s m args below meth c Q ls H locs cells slots hA hf hl hc hs hL hO hlo kk
  exact G.2.2 q hq p e R s m args below meth c Q ls H locs cells slots hA (by omega) (by omega) hc hs hL hO hlo kk
theorem am_us_s (σ : Nat → Nat → Int32) (c k : Nat) (x : Int32) : am_us σ c k x c k = x := if_pos ⟨rfl, rfl⟩
theorem am_us_c {σ : Nat → Nat → Int32} {c c' k k' : Nat} {x : Int32} (h : c' ≠ c) : am_us σ c k x c' k' = σ c' k' := if_neg (fun z => h z.1)
theorem am_us_k {σ : Nat → Nat → Int32} {c c' k k' : Nat} {x : Int32} (h : k' ≠ k) : am_us σ c k x c' k' = σ c' k' := if_neg (fun z => h z.2)
