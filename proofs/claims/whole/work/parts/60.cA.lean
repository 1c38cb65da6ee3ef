-- need: 41 42 43 44 53
/-! THE CLASS's cells hold the same picture (N, P, Q): Hold 2 (2 told, 3 in), Truck 3, Box n in cell 19 + n (8 x, 9 y, 10 z, 11 endX, 12 endY, 13 top, 14 turned); where a box stands is told of those alone that are in -/
def hv (P : Nat → Nat → Int) (N M : Nat) : Prop := M < 2 ^ 20 ∧ ∀ n, M.testBit n = true ↔ (n < N ∧ P 8 n ≠ 0)
def bAt (σ : Nat → Nat → Int32) (P : Nat → Nat → Int) (n : Nat) : Prop :=
  σ (19 + n) 8 = zi (P 9 n) ∧ σ (19 + n) 9 = zi (P 10 n) ∧ σ (19 + n) 10 = zi (P 11 n) ∧ σ (19 + n) 11 = zi (P 9 n + lng P n) ∧ σ (19 + n) 12 = zi (P 10 n + wdt P n) ∧ σ (19 + n) 13 = zi (tp P n) ∧ σ (19 + n) 14 = zi (P 12 n)
def cOK (σ : Nat → Nat → Int32) (N : Nat) (P : Nat → Nat → Int) (Q : Nat → Int) (M : Nat) : Prop :=
  σ 2 2 = zi N ∧ σ 2 3 = zi M ∧ hv P N M ∧ (∀ j, j < 9 → σ 3 j = zi (Q j)) ∧ (∀ n, n < 20 → ∀ k, k < 8 → σ (19 + n) k = zi (P k n)) ∧ ∀ n, n < N → P 8 n ≠ 0 → bAt σ P n
def hs (P : Nat → Nat → Int) (n : Nat) : Int := if P 8 n = 0 then 0 else 1
/-- the area with which a stands on c, if c's top is its floor -/
def aon (P : Nat → Nat → Int) (a c : Nat) : Int := if tp P c = P 11 a then area P a c else 0
section CA
variable {l : Launch} {D : va_G} {DA : Nat → ClassId} {b sz d L : Nat} {cu : Bool} {σ : Nat → Nat → Int32} {N M : Nat} {P : Nat → Nat → Int} {Q : Nat → Int}
theorem cOK.row (h : cOK σ N P Q M) {n : Nat} (hn : n < 20) : σ (19 + n) 0 = zi (P 0 n) ∧ σ (19 + n) 1 = zi (P 1 n) ∧ σ (19 + n) 2 = zi (P 2 n) ∧ σ (19 + n) 3 = zi (P 3 n) ∧ σ (19 + n) 4 = zi (P 4 n) ∧ σ (19 + n) 5 = zi (P 5 n) ∧ σ (19 + n) 6 = zi (P 6 n) ∧ σ (19 + n) 7 = zi (P 7 n) :=
  have k := h.2.2.2.2.1 n hn
  ⟨k 0 (by decide), k 1 (by decide), k 2 (by decide), k 3 (by decide), k 4 (by decide), k 5 (by decide), k 6 (by decide), k 7 (by decide)⟩
theorem cOK.q (h : cOK σ N P Q M) : σ 3 0 = zi (Q 0) ∧ σ 3 1 = zi (Q 1) ∧ σ 3 2 = zi (Q 2) ∧ σ 3 3 = zi (Q 3) ∧ σ 3 4 = zi (Q 4) ∧ σ 3 5 = zi (Q 5) ∧ σ 3 6 = zi (Q 6) ∧ σ 3 7 = zi (Q 7) ∧ σ 3 8 = zi (Q 8) :=
  have k := h.2.2.2.1
  ⟨k 0 (by decide), k 1 (by decide), k 2 (by decide), k 3 (by decide), k 4 (by decide), k 5 (by decide), k 6 (by decide), k 7 (by decide), k 8 (by decide)⟩
theorem hs_01 (n : Nat) : 0 ≤ hs P n ∧ hs P n ≤ 1 := by unfold hs; split <;> omega
theorem c_within (p0 p1 p2 : Int32) : GG l D DA b sz d L cu M_B_within [some (.int p0), some (.int p1), some (.int p2)] σ (some (.int (if p1 ≤ p0 ∧ p0 ≤ p2 then 1 else 0))) σ := by
  refine v_B_within_0 p0 p1 p2 ?_
  by_cases h1 : p0 < p1
  · rw [if_pos h1, if_neg (fun z => Int32.not_le.mpr h1 z.1)]
    exact ⟨Or.inl rfl, rfl, rfl⟩
  · by_cases h2 : p2 < p0
    · rw [if_neg h1, if_pos h2, if_neg (fun z => Int32.not_le.mpr h2 z.2)]
      exact ⟨Or.inl rfl, rfl, rfl⟩
    · rw [if_neg h1, if_neg h2, if_pos ⟨Int32.not_lt.mp h1, Int32.not_lt.mp h2⟩]
      exact ⟨Or.inr rfl, rfl, rfl⟩
theorem c_knows (h : cOK σ N P Q M) (hN : N ≤ 20) (p : Int32) : GG l D DA b sz d L cu M_Hold_knows [some (.ref 2), some (.int p)] σ (some (.int (if 0 ≤ p.toInt ∧ p.toInt < N then 1 else 0))) σ := by
  refine v_Hold_knows_0 _ ?_
  have e0 : (0 : Int32).toInt = 0 := rfl
  simp (disch := omega) only [h.1, Int32.le_iff_toInt_le, Int32.lt_iff_toInt_lt, zi_toInt, e0]
  by_cases h1 : p.toInt < 0
  · rw [if_pos h1, if_neg (by omega)]; exact ⟨Or.inl rfl, (by first | exact ⟨rfl, rfl⟩ | exact ⟨trivial, trivial⟩ | exact ⟨trivial, rfl⟩ | exact ⟨rfl, trivial⟩ | trivial)⟩
  · rw [if_neg h1]
    by_cases h2 : (N : Int) ≤ p.toInt
    · rw [if_pos h2, if_neg (by omega)]; exact ⟨Or.inl rfl, (by first | exact ⟨rfl, rfl⟩ | exact ⟨trivial, trivial⟩ | exact ⟨trivial, rfl⟩ | exact ⟨rfl, trivial⟩ | trivial)⟩
    · rw [if_neg h2, if_pos (by omega)]; exact ⟨Or.inr rfl, (by first | exact ⟨rfl, rfl⟩ | exact ⟨trivial, trivial⟩ | exact ⟨trivial, rfl⟩ | exact ⟨rfl, trivial⟩ | trivial)⟩
theorem c_has (h : cOK σ N P Q M) (hN : N ≤ 20) {n : Nat} (hn : n < N) : GG l D DA b sz d L cu M_Hold_has [some (.ref 2), some (.int (zi n))] σ (some (.int (zi (hs P n)))) σ := by
  refine v_Hold_has_0 _ ?_
  have hb := mk_bit0 (M := M) (n := n) (by have := h.2.2.1.1; omega) (by omega)
  have h9 := h.2.2.1.2 n
  rw [h.2.1]
  unfold hs
  by_cases e : P 8 n = 0
  · have hf : M.testBit n = false := by
      cases hc : M.testBit n with
      | false => rfl
      | true => exact absurd e (h9.mp hc).2
    rw [if_pos (hb.mpr hf), if_pos e]; exact ⟨Or.inl rfl, rfl, rfl⟩
  · have ht : M.testBit n = true := h9.mpr ⟨hn, e⟩
    rw [if_neg (fun z => by rw [hb.mp z] at ht; cases ht), if_neg e]; exact ⟨Or.inr rfl, rfl, rfl⟩
theorem com_al {a n c m : Int} : com a n c m = if (if c + m ≤ a + n then c + m else a + n) - (if a ≤ c then c else a) ≤ 0 then 0 else (if c + m ≤ a + n then c + m else a + n) - (if a ≤ c then c else a) := by
  unfold com
  generalize (if c + m ≤ a + n then c + m else a + n) = x
  generalize (if a ≤ c then c else a) = y
  by_cases h : x ≤ y
  · rw [if_pos h, if_pos (by omega)]
  · rw [if_neg h, if_neg (by omega)]
theorem c_areaOn {n m : Nat} (hn : n < 20) (hm : m < 20) (bn : bOK P n) (bm : bOK P m) (an : bAt σ P n) (am : bAt σ P m) : GG l D DA b sz d L cu M_Box_areaOn [some (.ref (19 + n)), some (.ref (19 + m)), none, none] σ (some (.int (zi (aon P n m)))) σ := by
  obtain ⟨e8, e9, e10, e11, e12, e13, e14⟩ := an
  obtain ⟨f8, f9, f10, f11, f12, f13, f14⟩ := am
  have l1 := b_lng bn
  have l2 := b_lng bm
  have w1 := b_wdt bn
  have w2 := b_wdt bm
  have ht1 : tp P n = P 11 n + P 2 n := rfl
  have ht2 : tp P m = P 11 m + P 2 m := rfl
  unfold bOK at bn bm
  refine v_Box_areaOn_0 n m hn hm ?_
  have q1 : ∀ {x y : Int}, -1000 ≤ x → x ≤ 1000 → -1000 ≤ y → y ≤ 1000 → -1000 ≤ (if x ≤ y then x else y) ∧ (if x ≤ y then x else y) ≤ 1000 := by intros; split <;> omega
  have q2 : ∀ {x y : Int}, -1000 ≤ x → x ≤ 1000 → -1000 ≤ y → y ≤ 1000 → -1000 ≤ (if x ≤ y then y else x) ∧ (if x ≤ y then y else x) ≤ 1000 := by intros; split <;> omega
  have a1 := q1 (x := P 9 m + lng P m) (y := P 9 n + lng P n) (by omega) (by omega) (by omega) (by omega)
  have a2 := q2 (x := P 9 n) (y := P 9 m) (by omega) (by omega) (by omega) (by omega)
  have a3 := q1 (x := P 10 m + wdt P m) (y := P 10 n + wdt P n) (by omega) (by omega) (by omega) (by omega)
  have a4 := q2 (x := P 10 n) (y := P 10 m) (by omega) (by omega) (by omega) (by omega)
  unfold aon area
  rw [com_al, com_al]
  try simp (disch := omega) only [zi_cl, zi_add, zi_sub, zi_mul, zi_s1, zi_s0, zi_m1, z01, z10, zi_ite, zi_eq0, zi_lt0, zi_gt0, zi_le0, zi_ge0, zi_le, zi_lt, zi_eq, e8, e9, e10, e11, e12, e13, f8, f9, f10, f11, f12, f13]
  refine ⟨fun h0 => ?_, fun h0 => (by rw [if_neg h0]; exact (by first | exact ⟨rfl, rfl⟩ | exact ⟨trivial, trivial⟩ | exact ⟨trivial, rfl⟩ | exact ⟨rfl, trivial⟩ | trivial))⟩
  rw [if_pos h0]
  refine ⟨?_, by first | rfl | trivial⟩
  by_cases c1 : (if P 9 m + lng P m ≤ P 9 n + lng P n then P 9 m + lng P m else P 9 n + lng P n) - (if P 9 n ≤ P 9 m then P 9 m else P 9 n) ≤ 0
  · rw [if_pos c1, if_pos c1, Int.zero_mul]; rfl
  · rw [if_neg c1, if_neg c1]
    by_cases c2 : (if P 10 m + wdt P m ≤ P 10 n + wdt P n then P 10 m + wdt P m else P 10 n + wdt P n) - (if P 10 n ≤ P 10 m then P 10 m else P 10 n) ≤ 0
    · rw [if_pos c2, if_pos c2, Int.mul_zero]; rfl
    · rw [if_neg c2, if_neg c2]
theorem aon_bd {a c : Nat} (ha : bOK P a) : 0 ≤ aon P a c ∧ aon P a c ≤ 144 := by
  unfold aon
  have := area_bd (c := c) ha
  split <;> omega
theorem aon_stn {a c : Nat} (h : a ≠ c) (h8 : P 8 c ≠ 0) : aon P a c = stn P a c := by
  unfold aon stn
  rw [if_neg h, if_neg h8]
/-- a box does not stand on itself -/
theorem aon_self {a : Nat} (ha : bOK P a) : aon P a a = 0 := by
  unfold aon
  have ht : tp P a = P 11 a + P 2 a := rfl
  unfold bOK at ha
  rw [if_neg (by omega)]
theorem c_weightIn (hd : 1 ≤ d) (h : cOK σ N P Q M) (hp : pOK N P Q) : GG l D DA b sz d L cu M_Hold_weightIn [some (.ref 2), none, none] σ (some (.int (zi (wts P N 0)))) σ := by
  obtain ⟨d, rfl⟩ : ∃ d', d = d' + 1 := ⟨d - 1, by omega⟩
  have hN := hp.1
  refine v_Hold_weightIn_0 ?_
  refine fo_loop (fun i a => am_Go l D DA b sz (d + 1) M_Hold_weightIn (4, [some (.ref 2), some (.int (zi a)), some (.int (zi i))], [], (am_TT cu L, am_RR cu, σ)) (some (.int (zi (wts P N 0)))) (am_TT cu L, am_RR cu, σ)) (wtsF P 0) 0 N ?_ (fun i a hi ha ih => ?_)
  · refine v_Hold_weightIn_4 _ _ ?_
    try simp (disch := omega) only [zi_cl, zi_add, zi_sub, zi_mul, zi_s1, zi_s0, zi_m1, z01, z10, zi_ite, zi_eq0, zi_lt0, zi_gt0, zi_le0, zi_ge0, zi_le, zi_lt, zi_eq, h.1]
    exact ⟨fun _ => (by first | exact ⟨rfl, rfl⟩ | exact ⟨trivial, trivial⟩ | exact ⟨trivial, rfl⟩ | exact ⟨rfl, trivial⟩ | trivial), fun h0 => absurd h0 (by omega)⟩
  · obtain ⟨e0, e1, e2, e3, e4, e5, e6, e7⟩ := h.row (n := i) (by omega)
    have hb := hp.2.1 i hi
    unfold bOK at hb
    refine v_Hold_weightIn_4 _ _ ?_
    have hx := hs_01 (P := P) i
    try simp (disch := omega) only [zi_cl, zi_add, zi_sub, zi_mul, zi_s1, zi_s0, zi_m1, z01, z10, zi_ite, zi_eq0, zi_lt0, zi_gt0, zi_le0, zi_ge0, zi_le, zi_lt, zi_eq, h.1]
    refine ⟨fun h0 => absurd h0 (by omega), fun _ => ⟨_, _, c_has h hN hi, ?_⟩⟩
    try simp (disch := omega) only [zi_cl, zi_add, zi_sub, zi_mul, zi_s1, zi_s0, zi_m1, z01, z10, zi_ite, zi_eq0, zi_lt0, zi_gt0, zi_le0, zi_ge0, zi_le, zi_lt, zi_eq, e3]
    unfold wtsF lft at ih
    unfold hs
    refine ⟨fun h0 => ?_, fun h0 => ⟨by omega, ?_⟩⟩
    · by_cases c : P 8 i = 0
      · rw [if_pos c, if_pos rfl] at ih; exact ih
      · rw [if_neg c] at h0; exact absurd h0 (by decide)
    · by_cases c : P 8 i = 0
      · rw [if_pos c] at h0; exact absurd rfl h0
      · rw [if_neg c, if_neg (by omega)] at ih; exact ih
theorem c_reach (hd : 1 ≤ d) (h : cOK σ N P Q M) (hp : pOK N P Q) : GG l D DA b sz d L cu M_Hold_reach [some (.ref 2), none, none] σ (some (.int (zi (far P N)))) σ := by
  obtain ⟨d, rfl⟩ : ∃ d', d = d' + 1 := ⟨d - 1, by omega⟩
  have hN := hp.1
  refine v_Hold_reach_0 ?_
  refine fo_loop (fun i a => am_Go l D DA b sz (d + 1) M_Hold_reach (4, [some (.ref 2), some (.int (zi a)), some (.int (zi i))], [], (am_TT cu L, am_RR cu, σ)) (some (.int (zi (far P N)))) (am_TT cu L, am_RR cu, σ)) (farF P) 0 N ?_ (fun i a hi ha ih => ?_)
  · refine v_Hold_reach_4 _ _ ?_
    try simp (disch := omega) only [zi_cl, zi_add, zi_sub, zi_mul, zi_s1, zi_s0, zi_m1, z01, z10, zi_ite, zi_eq0, zi_lt0, zi_gt0, zi_le0, zi_ge0, zi_le, zi_lt, zi_eq, h.1]
    exact ⟨fun _ => (by first | exact ⟨rfl, rfl⟩ | exact ⟨trivial, trivial⟩ | exact ⟨trivial, rfl⟩ | exact ⟨rfl, trivial⟩ | trivial), fun h0 => absurd h0 (by omega)⟩
  · have hb := hp.2.1 i (by omega)
    have hl := b_lng hb
    have hf : 0 ≤ a ∧ a ≤ 60 := by rw [ha]; exact far_bd hp (by omega)
    unfold bOK at hb
    refine v_Hold_reach_4 _ _ ?_
    have hx := hs_01 (P := P) i
    try simp (disch := omega) only [zi_cl, zi_add, zi_sub, zi_mul, zi_s1, zi_s0, zi_m1, z01, z10, zi_ite, zi_eq0, zi_lt0, zi_gt0, zi_le0, zi_ge0, zi_le, zi_lt, zi_eq, h.1]
    refine ⟨fun h0 => absurd h0 (by omega), fun _ => ⟨_, _, c_has h hN hi, ?_⟩⟩
    unfold farF at ih
    by_cases c : P 8 i = 0
    · rw [if_pos c] at ih
      have hh : hs P i = 0 := if_pos c
      rw [hh]
      exact ⟨fun _ => ih, fun h0 => absurd rfl h0⟩
    · rw [if_neg c] at ih
      have hh : hs P i = 1 := if_neg c
      rw [hh]
      refine ⟨fun h0 => absurd h0 (by decide), fun _ => ?_⟩
      obtain ⟨f8, f9, f10, f11, f12, f13, f14⟩ := h.2.2.2.2.2 i hi c
      try simp (disch := omega) only [zi_cl, zi_add, zi_sub, zi_mul, zi_s1, zi_s0, zi_m1, z01, z10, zi_ite, zi_eq0, zi_lt0, zi_gt0, zi_le0, zi_ge0, zi_le, zi_lt, zi_eq, f11]
      refine ⟨by omega, fun h0 => ?_, fun h0 => ⟨by omega, ?_⟩⟩
      · rw [if_pos h0] at ih; exact ih
      · rw [if_neg h0] at ih; exact ih
/-- cells filled -/
def volF (P : Nat → Nat → Int) (n : Nat) (a : Int) : Int := if P 8 n = 0 then a else a + P 0 n * P 1 n * P 2 n
def vol (P : Nat → Nat → Int) (N : Nat) : Int := fo (volF P) 0 N
theorem c_volume (h : cOK σ N P Q M) {n : Nat} (hn : n < 20) : GG l D DA b sz d L cu M_Box_volume [some (.ref (19 + n))] σ (some (.int (zi (P 0 n * P 1 n * P 2 n)))) σ := by
  obtain ⟨e0, e1, e2, e3, e4, e5, e6, e7⟩ := h.row hn
  refine v_Box_volume_0 n hn ?_
  try simp (disch := omega) only [zi_cl, zi_add, zi_sub, zi_mul, zi_s1, zi_s0, zi_m1, z01, z10, zi_ite, zi_eq0, zi_lt0, zi_gt0, zi_le0, zi_ge0, zi_le, zi_lt, zi_eq, e0, e1, e2]
  exact (by first | exact ⟨rfl, rfl⟩ | exact ⟨trivial, trivial⟩ | exact ⟨trivial, rfl⟩ | exact ⟨rfl, trivial⟩ | trivial)
theorem c_cellsFilled (hd : 1 ≤ d) (h : cOK σ N P Q M) (hp : pOK N P Q) : GG l D DA b sz d L cu M_Hold_cellsFilled [some (.ref 2), none, none] σ (some (.int (zi (vol P N)))) σ := by
  obtain ⟨d, rfl⟩ : ∃ d', d = d' + 1 := ⟨d - 1, by omega⟩
  have hN := hp.1
  refine v_Hold_cellsFilled_0 ?_
  refine fo_loop (fun i a => am_Go l D DA b sz (d + 1) M_Hold_cellsFilled (4, [some (.ref 2), some (.int (zi a)), some (.int (zi i))], [], (am_TT cu L, am_RR cu, σ)) (some (.int (zi (vol P N)))) (am_TT cu L, am_RR cu, σ)) (volF P) 0 N ?_ (fun i a hi ha ih => ?_)
  · refine v_Hold_cellsFilled_4 _ _ ?_
    try simp (disch := omega) only [zi_cl, zi_add, zi_sub, zi_mul, zi_s1, zi_s0, zi_m1, z01, z10, zi_ite, zi_eq0, zi_lt0, zi_gt0, zi_le0, zi_ge0, zi_le, zi_lt, zi_eq, h.1]
    exact ⟨fun _ => (by first | exact ⟨rfl, rfl⟩ | exact ⟨trivial, trivial⟩ | exact ⟨trivial, rfl⟩ | exact ⟨rfl, trivial⟩ | trivial), fun h0 => absurd h0 (by omega)⟩
  · refine v_Hold_cellsFilled_4 _ _ ?_
    try simp (disch := omega) only [zi_cl, zi_add, zi_sub, zi_mul, zi_s1, zi_s0, zi_m1, z01, z10, zi_ite, zi_eq0, zi_lt0, zi_gt0, zi_le0, zi_ge0, zi_le, zi_lt, zi_eq, h.1]
    refine ⟨fun h0 => absurd h0 (by omega), fun _ => ⟨_, _, c_has h hN hi, ?_⟩⟩
    unfold volF at ih
    by_cases c : P 8 i = 0
    · rw [if_pos c] at ih
      have hh : hs P i = 0 := if_pos c
      rw [hh]
      exact ⟨fun _ => ih, fun h0 => absurd rfl h0⟩
    · rw [if_neg c] at ih
      have hh : hs P i = 1 := if_neg c
      rw [hh]
      refine ⟨fun h0 => absurd h0 (by decide), fun _ => ?_⟩
      try simp (disch := omega) only [zi_cl, zi_add, zi_sub, zi_mul, zi_s1, zi_s0, zi_m1, z01, z10, zi_ite, zi_eq0, zi_lt0, zi_gt0, zi_le0, zi_ge0, zi_le, zi_lt, zi_eq]
      refine ⟨by omega, _, _, c_volume h (by omega), ?_⟩
      try simp (disch := omega) only [zi_cl, zi_add, zi_sub, zi_mul, zi_s1, zi_s0, zi_m1, z01, z10, zi_ite, zi_eq0, zi_lt0, zi_gt0, zi_le0, zi_ge0, zi_le, zi_lt, zi_eq]
      exact ih
/-- the first i, from i on, m numbers more -/
def ff (p : Nat → Prop) [DecidablePred p] : Nat → Nat → Int
  | 0, _ => -1
  | m + 1, i => if p i then i else ff p m (i + 1)
/-- a cell in box n -/
abbrev fil (P : Nat → Nat → Int) (x y z : Int) (n : Nat) : Prop := P 8 n ≠ 0 ∧ (P 9 n ≤ x ∧ x < P 9 n + lng P n) ∧ (P 10 n ≤ y ∧ y < P 10 n + wdt P n) ∧ (P 11 n ≤ z ∧ z < tp P n)
theorem c_at_l (hd : 1 ≤ d) (h : cOK σ N P Q M) (hp : pOK N P Q) (x y z : Int32) : ∀ (m i : Nat), i + m = N → am_Go l D DA b sz d M_B_at (3, [some (.ref 1), some (.int x), some (.int y), some (.int z), some (.int (zi i))], [], (am_TT cu L, am_RR cu, σ)) (some (.int (zi (ff (fil P x.toInt y.toInt z.toInt) m i)))) (am_TT cu L, am_RR cu, σ)
  | 0, i, hi => by
    obtain ⟨d, rfl⟩ : ∃ d', d = d' + 1 := ⟨d - 1, by omega⟩
    have hN := hp.1
    refine v_B_at_3 _ _ _ _ ?_
    try simp (disch := omega) only [zi_cl, zi_add, zi_sub, zi_mul, zi_s1, zi_s0, zi_m1, z01, z10, zi_ite, zi_eq0, zi_lt0, zi_gt0, zi_le0, zi_ge0, zi_le, zi_lt, zi_eq, h.1]
    exact ⟨fun _ => (by first | exact ⟨rfl, rfl⟩ | exact ⟨trivial, trivial⟩ | exact ⟨trivial, rfl⟩ | exact ⟨rfl, trivial⟩ | trivial), fun h0 => absurd h0 (by omega)⟩
  | m + 1, i, hi => by
    have ih := c_at_l hd h hp x y z m (i + 1) (by omega)
    obtain ⟨d, rfl⟩ : ∃ d', d = d' + 1 := ⟨d - 1, by omega⟩
    have hN := hp.1
    have hiN : i < N := by omega
    refine v_B_at_3 _ _ _ _ ?_
    try simp (disch := omega) only [zi_cl, zi_add, zi_sub, zi_mul, zi_s1, zi_s0, zi_m1, z01, z10, zi_ite, zi_eq0, zi_lt0, zi_gt0, zi_le0, zi_ge0, zi_le, zi_lt, zi_eq, h.1]
    refine ⟨fun h0 => absurd h0 (by omega), fun _ => ⟨_, _, c_has h hN hiN, ?_⟩⟩
    by_cases c : P 8 i = 0
    · have hh : hs P i = 0 := if_pos c
      rw [hh]
      unfold ff
      rw [if_neg (fun z => z.1 c)]
      exact ⟨fun _ => ih, fun h0 => absurd rfl h0⟩
    · have hh : hs P i = 1 := if_neg c
      rw [hh]
      refine ⟨fun h0 => absurd h0 (by decide), fun _ => ?_⟩
      obtain ⟨f8, f9, f10, f11, f12, f13, f14⟩ := h.2.2.2.2.2 i hiN c
      have hb := hp.2.1 i hiN
      have l1 := b_lng hb
      have w1 := b_wdt hb
      have ht : tp P i = P 11 i + P 2 i := rfl
      unfold bOK at hb
      have fl : GG l D DA b sz d L cu M_Box_fills [some (.ref (19 + i)), some (.int x), some (.int y), some (.int z)] σ (some (.int (if fil P x.toInt y.toInt z.toInt i then 1 else 0))) σ := by
        refine v_Box_fills_0 _ _ _ i (by omega) ?_
        simp (disch := omega) only [f8, f9, f10, f11, f12, f13, Int32.le_iff_toInt_le, Int32.lt_iff_toInt_lt, zi_toInt]
        have key : ∀ r : Int32, (r = if x.toInt < P 9 i then 0 else if P 9 i + lng P i ≤ x.toInt then 0 else if y.toInt < P 10 i then 0 else if P 10 i + wdt P i ≤ y.toInt then 0 else if z.toInt < P 11 i then 0 else if tp P i ≤ z.toInt then 0 else 1) → (r = 0 ∨ r = 1) ∧ some (Value.int (if fil P x.toInt y.toInt z.toInt i then 1 else 0)) = some (.int r) := by
          intro r hr
          by_cases cf : fil P x.toInt y.toInt z.toInt i
          · have cf' := cf
            unfold fil at cf'
            rw [if_neg (by omega), if_neg (by omega), if_neg (by omega), if_neg (by omega), if_neg (by omega), if_neg (by omega)] at hr
            rw [if_pos cf, hr]; exact ⟨Or.inr rfl, rfl⟩
          · rw [if_neg cf]
            have hr0 : r = 0 := by
              rw [hr]
              repeat' split
              all_goals first | rfl | (exfalso; apply cf; unfold fil; exact ⟨c, by omega, by omega, by omega⟩)
            rw [hr0]; exact ⟨Or.inl rfl, rfl⟩
        obtain ⟨k1, k2⟩ := key _ rfl
        exact ⟨k1, k2, by first | rfl | trivial⟩
      try simp (disch := omega) only [zi_cl, zi_add, zi_sub, zi_mul, zi_s1, zi_s0, zi_m1, z01, z10, zi_ite, zi_eq0, zi_lt0, zi_gt0, zi_le0, zi_ge0, zi_le, zi_lt, zi_eq]
      refine ⟨by omega, _, _, fl, ?_⟩
      unfold ff
      by_cases cf : fil P x.toInt y.toInt z.toInt i
      · rw [if_pos cf, if_pos cf]
        exact ⟨fun h0 => absurd h0 (by decide), fun _ => (by first | exact ⟨rfl, rfl⟩ | exact ⟨trivial, trivial⟩ | exact ⟨trivial, rfl⟩ | exact ⟨rfl, trivial⟩ | trivial)⟩
      · rw [if_neg cf, if_neg cf]
        exact ⟨fun _ => ih, fun h0 => absurd rfl h0⟩
theorem c_at (hd : 1 ≤ d) (h : cOK σ N P Q M) (hp : pOK N P Q) (x y z : Int32) : GG l D DA b sz d L cu M_B_at [some (.ref 1), some (.int x), some (.int y), some (.int z), none] σ (some (.int (zi (ff (fil P x.toInt y.toInt z.toInt) N 0)))) σ := by
  have k := c_at_l (l := l) (D := D) (DA := DA) (b := b) (sz := sz) (L := L) (cu := cu) hd h hp x y z N 0 (by omega)
  obtain ⟨d, rfl⟩ : ∃ d', d = d' + 1 := ⟨d - 1, by omega⟩
  exact v_B_at_0 _ _ _ k
end CA
