/-! rules for what the step function can't decide by itself -/
def am_le : am_L → am_L → Prop
  | [], [] => True
  | none :: a, _ :: c => am_le a c
  | some v :: a, some w :: c => v = w ∧ am_le a c
  | _, _ => False
section AMG
variable {l : Launch} {D : va_G} {DA : Nat → ClassId} {b sz : Nat} {q : am_M} {k : List am_I} {d mi : Nat} {L : am_L} {S : List Value} {T : am_T} {ρ : Nat → Nat → Value} {σ : Nat → Nat → Int32} {r : Option Value} {X X' : am_X} {pc len nx n n2 idx c : Nat} {v x y : Int32} {w : List Nat}
theorem am_le_spec : ∀ {a c : am_L}, am_le a c → a.length = c.length ∧ ∀ (i : Nat) (v : Value), a[i]? = some (some v) → c[i]? = some (some v)
  | [], [], _ => ⟨rfl, fun i v h => h⟩
  | none :: a, z :: c, h => by
    have h : am_le a c := h
    obtain ⟨h1, h2⟩ := am_le_spec h
    refine ⟨by simp [h1], fun i v hv => ?_⟩
    cases i with
    | zero => cases hv
    | succ i => exact h2 i v hv
  | some v :: a, some w :: c, h => by
    obtain ⟨rfl, h⟩ := h
    obtain ⟨h1, h2⟩ := am_le_spec h
    refine ⟨by simp [h1], fun i v hv => ?_⟩
    cases i with
    | zero => exact hv
    | succ i => exact h2 i v hv
  | [], _ :: _, h => absurd h (fun h => h)
  | some _ :: _, [], h => absurd h (fun h => h)
  | some _ :: _, none :: _, h => absurd h (fun h => h)
  | none :: _, [], h => absurd h (fun h => h)
/-- less may be known of the locals -/
theorem go_le {L1 : am_L} (h : am_le L1 L) (G : am_Go l D DA b sz d mi (pc, L1, S, X) r X') : am_Go l D DA b sz d mi (pc, L, S, X) r X' := by
  obtain ⟨h1, h2⟩ := am_le_spec h
  refine ⟨G.1, G.2.1, ?_⟩
  intro q' hq' p e R s m args below meth c Q ls H locs cells slots hA hf hl hc hs hL hO hlo kk
  have hL2 : am_Ls b sz ls q'.2.2.2.1 L := hL
  exact G.2.2 q' hq' p e R s m args below meth c Q ls H locs cells slots hA hf hl hc hs ⟨h1.trans hL2.1, hL2.2.1, hL2.2.2.1, fun i v hv => hL2.2.2.2 i v (h2 i v hv)⟩ hO hlo kk
theorem go_step1 {st st' : am_S} (hq : am_ms[mi]? = some q) (hk : k.all (am_chk q) = true) (h : am_step k st = some st') (G : am_Go l D DA b sz d mi st' r X') : am_Go l D DA b sz d mi st r X' := go_St hq (am_step_St hk h) G
theorem am_step_f {i : Instr} (hf : am_fetch k pc = some (pc, i, len, nx, n, n2, v, w)) : am_step k (pc, L, S, T, ρ, σ) = am_ex (pc, i, len, nx, n, n2, v, w) (pc, L, S, T, ρ, σ) := by
  show (match am_fetch k pc with | some I => am_ex I (pc, L, S, T, ρ, σ) | none => none) = _
  rw [hf]
theorem go_getI (hq : am_ms[mi]? = some q) (hk : k.all (am_chk q) = true) (hf : am_fetch k pc = some (pc, .getfield idx, len, nx, n, n2, v, w)) (hT : T[c]? = some (.inl n)) (hI : am_isI (am_fty n n2) = true) (G : am_Go l D DA b sz d mi (nx, L, .int (σ c n2) :: S, T, ρ, σ) r X') : am_Go l D DA b sz d mi (pc, L, .ref c :: S, T, ρ, σ) r X' := by
  refine go_step1 hq hk ?_ G
  rw [am_step_f hf]
  show (if T[c]? = some (.inl n) then (if am_isI (am_fty n n2) = true then some (nx, L, .int (σ c n2) :: S, T, ρ, σ) else some (nx, L, ρ c n2 :: S, T, ρ, σ)) else none) = _
  rw [if_pos hT, if_pos hI]
theorem go_putI (hq : am_ms[mi]? = some q) (hk : k.all (am_chk q) = true) (hf : am_fetch k pc = some (pc, .putfield idx, len, nx, n, n2, v, w)) (hT : T[c]? = some (.inl n)) (hI : am_fty n n2 = .int) (G : am_Go l D DA b sz d mi (nx, L, S, T, ρ, am_us σ c n2 x) r X') : am_Go l D DA b sz d mi (pc, L, .int x :: .ref c :: S, T, ρ, σ) r X' := by
  refine go_step1 hq hk ?_ G
  rw [am_step_f hf]
  show (if T[c]? = some (.inl n) then (if am_isI (am_fty n n2) = true then (if am_isB (am_fty n n2) = true then (if x = 0 ∨ x = 1 then some (nx, L, S, T, ρ, am_us σ c n2 x) else none) else some (nx, L, S, T, ρ, am_us σ c n2 x)) else none) else none) = _
  rw [if_pos hT, hI]
  rfl
theorem go_putZ (hq : am_ms[mi]? = some q) (hk : k.all (am_chk q) = true) (hf : am_fetch k pc = some (pc, .putfield idx, len, nx, n, n2, v, w)) (hT : T[c]? = some (.inl n)) (hI : am_fty n n2 = .boolean) (hx : x = 0 ∨ x = 1) (G : am_Go l D DA b sz d mi (nx, L, S, T, ρ, am_us σ c n2 x) r X') : am_Go l D DA b sz d mi (pc, L, .int x :: .ref c :: S, T, ρ, σ) r X' := by
  refine go_step1 hq hk ?_ G
  rw [am_step_f hf]
  show (if T[c]? = some (.inl n) then (if am_isI (am_fty n n2) = true then (if am_isB (am_fty n n2) = true then (if x = 0 ∨ x = 1 then some (nx, L, S, T, ρ, am_us σ c n2 x) else none) else some (nx, L, S, T, ρ, am_us σ c n2 x)) else none) else none) = _
  rw [if_pos hT, hI]
  show (if x = 0 ∨ x = 1 then some (nx, L, S, T, ρ, am_us σ c n2 x) else none) = _
  rw [if_pos hx]
theorem go_iaload {m t : Nat} (hq : am_ms[mi]? = some q) (hk : k.all (am_chk q) = true) (hf : am_fetch k pc = some (pc, .iaload, len, nx, n, n2, v, w)) (hT : T[c]? = some (.inr (t, m))) (hi : ¬ (x < 0 ∨ m ≤ x.toNatClampNeg)) (G : am_Go l D DA b sz d mi (nx, L, .int (σ c x.toNatClampNeg) :: S, T, ρ, σ) r X') (ht : t = 0 ∨ t = 9 := by decide) : am_Go l D DA b sz d mi (pc, L, .int x :: .ref c :: S, T, ρ, σ) r X' := by
  refine go_step1 hq hk ?_ G
  rw [am_step_f hf]
  show (match T[c]? with | some (.inr (t, m)) => if (t = 0 ∨ t = 9) ∧ ¬ (x < 0 ∨ m ≤ x.toNatClampNeg) then some (nx, L, Value.int (σ c x.toNatClampNeg) :: S, T, ρ, σ) else none | _ => none) = _
  rw [hT]
  exact if_pos ⟨ht, hi⟩
theorem go_baload {m : Nat} (hq : am_ms[mi]? = some q) (hk : k.all (am_chk q) = true) (hf : am_fetch k pc = some (pc, .baload, len, nx, n, n2, v, w)) (hT : T[c]? = some (.inr (1, m))) (hi : ¬ (x < 0 ∨ m ≤ x.toNatClampNeg)) (G : am_Go l D DA b sz d mi (nx, L, .int (σ c x.toNatClampNeg) :: S, T, ρ, σ) r X') : am_Go l D DA b sz d mi (pc, L, .int x :: .ref c :: S, T, ρ, σ) r X' := by
  refine go_step1 hq hk ?_ G
  rw [am_step_f hf]
  show (match T[c]? with | some (.inr (t, m)) => if t = 1 ∧ ¬ (x < 0 ∨ m ≤ x.toNatClampNeg) then some (nx, L, Value.int (σ c x.toNatClampNeg) :: S, T, ρ, σ) else none | _ => none) = _
  rw [hT]
  exact if_pos ⟨rfl, hi⟩
theorem go_iastore {m : Nat} (hq : am_ms[mi]? = some q) (hk : k.all (am_chk q) = true) (hf : am_fetch k pc = some (pc, .iastore, len, nx, n, n2, v, w)) (hT : T[c]? = some (.inr (0, m))) (hi : ¬ (x < 0 ∨ m ≤ x.toNatClampNeg)) (G : am_Go l D DA b sz d mi (nx, L, S, T, ρ, am_us σ c x.toNatClampNeg y) r X') : am_Go l D DA b sz d mi (pc, L, .int y :: .int x :: .ref c :: S, T, ρ, σ) r X' := by
  refine go_step1 hq hk ?_ G
  rw [am_step_f hf]
  show (match T[c]? with | some (.inr (t, m)) => if t = 0 ∧ ¬ (x < 0 ∨ m ≤ x.toNatClampNeg) then some (nx, L, S, T, ρ, am_us σ c x.toNatClampNeg y) else none | _ => none) = _
  rw [hT]
  exact if_pos ⟨rfl, hi⟩
theorem go_bastore {m : Nat} (hq : am_ms[mi]? = some q) (hk : k.all (am_chk q) = true) (hf : am_fetch k pc = some (pc, .bastore, len, nx, n, n2, v, w)) (hT : T[c]? = some (.inr (1, m))) (hi : ¬ (x < 0 ∨ m ≤ x.toNatClampNeg)) (hy : y = 0 ∨ y = 1) (G : am_Go l D DA b sz d mi (nx, L, S, T, ρ, am_us σ c x.toNatClampNeg y) r X') : am_Go l D DA b sz d mi (pc, L, .int y :: .int x :: .ref c :: S, T, ρ, σ) r X' := by
  refine go_step1 hq hk ?_ G
  rw [am_step_f hf]
  show (match T[c]? with | some (.inr (t, m)) => if t = 1 ∧ ¬ (x < 0 ∨ m ≤ x.toNatClampNeg) ∧ (y = 0 ∨ y = 1) then some (nx, L, S, T, ρ, am_us σ c x.toNatClampNeg y) else none | _ => none) = _
  rw [hT]
  exact if_pos ⟨rfl, hi, hy⟩
theorem go_aaload {m : Nat} {z : Value} (hq : am_ms[mi]? = some q) (hk : k.all (am_chk q) = true) (hf : am_fetch k pc = some (pc, .aaload, len, nx, n, n2, v, w)) (hT : T[c]? = some (.inr (2, m))) (hi : ¬ (x < 0 ∨ m ≤ x.toNatClampNeg)) (hz : ρ c x.toNatClampNeg = z) (G : am_Go l D DA b sz d mi (nx, L, z :: S, T, ρ, σ) r X') : am_Go l D DA b sz d mi (pc, L, .int x :: .ref c :: S, T, ρ, σ) r X' := by
  subst hz
  refine go_step1 hq hk ?_ G
  rw [am_step_f hf]
  show (match T[c]? with | some (.inr (t, m)) => if t = 2 ∧ ¬ (x < 0 ∨ m ≤ x.toNatClampNeg) then some (nx, L, ρ c x.toNatClampNeg :: S, T, ρ, σ) else none | _ => none) = _
  rw [hT]
  exact if_pos ⟨rfl, hi⟩
theorem go_idiv (hq : am_ms[mi]? = some q) (hk : k.all (am_chk q) = true) (hf : am_fetch k pc = some (pc, .idiv, len, nx, n, n2, v, w)) (hy : ¬ y = 0) (G : am_Go l D DA b sz d mi (nx, L, .int (x / y) :: S, T, ρ, σ) r X') : am_Go l D DA b sz d mi (pc, L, .int y :: .int x :: S, T, ρ, σ) r X' := by
  refine go_step1 hq hk ?_ G
  rw [am_step_f hf]
  exact if_neg hy
theorem go_irem (hq : am_ms[mi]? = some q) (hk : k.all (am_chk q) = true) (hf : am_fetch k pc = some (pc, .irem, len, nx, n, n2, v, w)) (hy : ¬ y = 0) (G : am_Go l D DA b sz d mi (nx, L, .int (x - x / y * y) :: S, T, ρ, σ) r X') : am_Go l D DA b sz d mi (pc, L, .int y :: .int x :: S, T, ρ, σ) r X' := by
  refine go_step1 hq hk ?_ G
  rw [am_step_f hf]
  exact if_neg hy
theorem go_ldiv {x y : Int64} (hq : am_ms[mi]? = some q) (hk : k.all (am_chk q) = true) (hf : am_fetch k pc = some (pc, .ldiv, len, nx, n, n2, v, w)) (hy : ¬ y = 0) (G : am_Go l D DA b sz d mi (nx, L, .long (x / y) :: S, T, ρ, σ) r X') : am_Go l D DA b sz d mi (pc, L, .long y :: .long x :: S, T, ρ, σ) r X' := by
  refine go_step1 hq hk ?_ G
  rw [am_step_f hf]
  exact if_neg hy
theorem go_sw {dd lo hi : Int} {offs : Array Int} {g : Nat} (hq : am_ms[mi]? = some q) (hk : k.all (am_chk q) = true) (hf : am_fetch k pc = some (pc, .tableswitch dd lo hi offs, len, nx, n, n2, v, w)) (hg : (if x.toInt < lo ∨ hi < x.toInt then some n else w[(x.toInt - lo).toNat]?) = some g) (G : am_Go l D DA b sz d mi (g, L, S, T, ρ, σ) r X') : am_Go l D DA b sz d mi (pc, L, .int x :: S, T, ρ, σ) r X' := by
  refine go_step1 hq hk ?_ G
  rw [am_step_f hf]
  show (if x.toInt < lo ∨ hi < x.toInt then some (n, L, S, T, ρ, σ) else (match w[(x.toInt - lo).toNat]? with | some g => some (g, L, S, T, ρ, σ) | none => none)) = _
  by_cases h : x.toInt < lo ∨ hi < x.toInt
  · rw [if_pos h] at hg ⊢
    cases hg
    rfl
  · rw [if_neg h] at hg ⊢
    rw [hg]
theorem am_sw_out {m : Nat} (hm : m < 1000) (h : ∀ j : Nat, j < m + 1 → ¬ x = nI j) : x.toInt < 0 ∨ (m : Int) < x.toInt := by
  by_cases h1 : x.toInt < 0
  · exact Or.inl h1
  · right
    by_cases h2 : (m : Int) < x.toInt
    · exact h2
    · exfalso
      have h3 : ∃ j : Nat, x.toInt = j := ⟨x.toInt.toNat, by omega⟩
      obtain ⟨j, hj⟩ := h3
      refine h j (by omega) (Int32.toInt_inj.mp ?_)
      rw [hj, nI_toInt (by omega)]
theorem am_nar (h : x = 0 ∨ x = 1) : narrow .boolean (.int x) = .int x := by rcases h with rfl | rfl <;> rfl
theorem am_inb {m : Nat} (h : ¬ (x < 0 ∨ m ≤ x.toNatClampNeg)) : x.toNatClampNeg < m := Nat.not_le.mp fun z => h (Or.inr z)
end AMG
