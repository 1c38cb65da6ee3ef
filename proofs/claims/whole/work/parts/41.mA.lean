/-! THE PICTURE: N boxes; P k n: of box n 0 length, 1 width, 2 height, 3 weight, 4 bears, 5 drop, 6 turns, 7 worth, 8 in, 9 x, 10 y, 11 z, 12 turned; Q j: the truck's 0 length, 1 width, 2 height, 3 share, 4 first, 5 second, 6 front, 7 rear, 8 side -/
abbrev GG (l : Launch) (D : va_G) (DA : Nat → ClassId) (b sz d L : Nat) (cu : Bool) (M : Nat) (A : am_L) (σ : Nat → Nat → Int32) (r : Option Value) (σ' : Nat → Nat → Int32) : Prop := am_Go l D DA b sz d M (0, A, [], (am_TT cu L, am_RR cu, σ)) r (am_TT cu L, am_RR cu, σ')
/-- the reference's cells hold the picture -/
def mOK (σ : Nat → Nat → Int32) (N : Nat) (P : Nat → Nat → Int) (Q : Nat → Int) : Prop :=
  σ 47 0 = zi N ∧ (∀ k, k < 13 → ∀ n, n < 20 → σ (48 + k) n = zi (P k n)) ∧ ∀ j, j < 9 → σ 47 (14 + j) = zi (Q j)
def lng (P : Nat → Nat → Int) (n : Nat) : Int := if P 12 n = 0 then P 0 n else P 1 n
def wdt (P : Nat → Nat → Int) (n : Nat) : Int := if P 12 n = 0 then P 1 n else P 0 n
def tp (P : Nat → Nat → Int) (n : Nat) : Int := P 11 n + P 2 n
/-- one box's numbers -/
def bOK (P : Nat → Nat → Int) (n : Nat) : Prop :=
  (1 ≤ P 0 n ∧ P 0 n ≤ 12) ∧ (1 ≤ P 1 n ∧ P 1 n ≤ 12) ∧ (1 ≤ P 2 n ∧ P 2 n ≤ 12) ∧ (1 ≤ P 3 n ∧ P 3 n ≤ 1000) ∧ (0 ≤ P 4 n ∧ P 4 n ≤ 20000) ∧ (0 ≤ P 5 n ∧ P 5 n ≤ 5) ∧ (0 ≤ P 6 n ∧ P 6 n ≤ 1) ∧ (0 ≤ P 7 n ∧ P 7 n ≤ 1000) ∧ (0 ≤ P 8 n ∧ P 8 n ≤ 1) ∧ (0 ≤ P 9 n ∧ P 9 n ≤ 40) ∧ (0 ≤ P 10 n ∧ P 10 n ≤ 40) ∧ (0 ≤ P 11 n ∧ P 11 n ≤ 40) ∧ (0 ≤ P 12 n ∧ P 12 n ≤ 1)
def inQ (P : Nat → Nat → Int) (Q : Nat → Int) (n : Nat) : Prop := P 9 n + lng P n ≤ Q 0 ∧ P 10 n + wdt P n ≤ Q 1 ∧ P 11 n + P 2 n ≤ Q 2
def qOK (Q : Nat → Int) : Prop := (1 ≤ Q 0 ∧ Q 0 ≤ 40) ∧ (1 ≤ Q 1 ∧ Q 1 ≤ 12) ∧ (1 ≤ Q 2 ∧ Q 2 ≤ 12) ∧ (0 ≤ Q 3 ∧ Q 3 ≤ 100) ∧ (0 ≤ Q 4 ∧ Q 4 < Q 5 ∧ Q 5 ≤ 40) ∧ (0 ≤ Q 6 ∧ Q 6 ≤ 100000) ∧ (0 ≤ Q 7 ∧ Q 7 ≤ 100000) ∧ (0 ≤ Q 8 ∧ Q 8 ≤ 100)
def pOK (N : Nat) (P : Nat → Nat → Int) (Q : Nat → Int) : Prop := N ≤ 20 ∧ (∀ n, n < N → bOK P n) ∧ (∀ n, n < N → P 8 n = 1 → inQ P Q n) ∧ qOK Q
/-- what two stretches have in common -/
def com (a n c m : Int) : Int := if (if c + m ≤ a + n then c + m else a + n) ≤ (if a ≤ c then c else a) then 0 else (if c + m ≤ a + n then c + m else a + n) - (if a ≤ c then c else a)
def area (P : Nat → Nat → Int) (a c : Nat) : Int := com (P 9 a) (lng P a) (P 9 c) (lng P c) * com (P 10 a) (wdt P a) (P 10 c) (wdt P c)
def stn (P : Nat → Nat → Int) (a c : Nat) : Int := if a = c then 0 else if P 8 c = 0 then 0 else if tp P c = P 11 a then area P a c else 0
section MA
variable {l : Launch} {D : va_G} {DA : Nat → ClassId} {b sz d L : Nat} {cu : Bool} {σ : Nat → Nat → Int32} {N : Nat} {P : Nat → Nat → Int} {Q : Nat → Int}
theorem mOK.p (h : mOK σ N P Q) {k n : Nat} (hk : k < 13) (hn : n < 20) : σ (48 + k) n = zi (P k n) := h.2.1 k hk n hn
theorem zi_ite {c : Prop} [Decidable c] (a e : Int) : (if c then zi a else zi e) = zi (if c then a else e) := by split <;> rfl
theorem b_lng {n : Nat} (h : bOK P n) : 1 ≤ lng P n ∧ lng P n ≤ 12 := by
  unfold bOK at h
  unfold lng
  split <;> omega
theorem b_wdt {n : Nat} (h : bOK P n) : 1 ≤ wdt P n ∧ wdt P n ≤ 12 := by
  unfold bOK at h
  unfold wdt
  split <;> omega
theorem com_nn (a n c m : Int) : 0 ≤ com a n c m := by
  unfold com
  split <;> omega
theorem com_le {a n c m : Int} (h : 0 ≤ n) : com a n c m ≤ n := by
  unfold com
  repeat' split
  all_goals omega
theorem area_bd {a c : Nat} (ha : bOK P a) : 0 ≤ area P a c ∧ area P a c ≤ 144 := by
  unfold area
  have h1 := com_nn (P 9 a) (lng P a) (P 9 c) (lng P c)
  have h2 := com_nn (P 10 a) (wdt P a) (P 10 c) (wdt P c)
  have h3 : com (P 9 a) (lng P a) (P 9 c) (lng P c) ≤ 12 := Int.le_trans (com_le (by have := b_lng ha; omega)) (b_lng ha).2
  have h4 : com (P 10 a) (wdt P a) (P 10 c) (wdt P c) ≤ 12 := Int.le_trans (com_le (by have := b_wdt ha; omega)) (b_wdt ha).2
  refine ⟨Int.mul_nonneg h1 h2, ?_⟩
  calc com (P 9 a) (lng P a) (P 9 c) (lng P c) * com (P 10 a) (wdt P a) (P 10 c) (wdt P c) ≤ 12 * 12 := Int.mul_le_mul h3 h4 h2 (by decide)
    _ = 144 := rfl
theorem stn_bd {a c : Nat} (ha : bOK P a) : 0 ≤ stn P a c ∧ stn P a c ≤ 144 := by
  unfold stn
  have := area_bd (c := c) ha
  repeat' split
  all_goals omega
theorem zi_eq0 {a : Int} (h1 : -2147483648 ≤ a) (h2 : a < 2147483648) : zi a = 0 ↔ a = 0 := show zi a = zi 0 ↔ a = 0 from zi_eq h1 h2 (by decide) (by decide)
theorem zi_lt0 {a : Int} (h1 : -2147483648 ≤ a) (h2 : a < 2147483648) : zi a < 0 ↔ a < 0 := show zi a < zi 0 ↔ a < 0 from zi_lt h1 h2 (by decide) (by decide)
theorem zi_gt0 {a : Int} (h1 : -2147483648 ≤ a) (h2 : a < 2147483648) : 0 < zi a ↔ 0 < a := show zi 0 < zi a ↔ 0 < a from zi_lt (by decide) (by decide) h1 h2
theorem zi_le0 {a : Int} (h1 : -2147483648 ≤ a) (h2 : a < 2147483648) : zi a ≤ 0 ↔ a ≤ 0 := show zi a ≤ zi 0 ↔ a ≤ 0 from zi_le h1 h2 (by decide) (by decide)
theorem zi_ge0 {a : Int} (h1 : -2147483648 ≤ a) (h2 : a < 2147483648) : 0 ≤ zi a ↔ 0 ≤ a := show zi 0 ≤ zi a ↔ 0 ≤ a from zi_le (by decide) (by decide) h1 h2
theorem zi_s1 (a : Int) : zi a + 1 = zi (a + 1) := zi_add a 1
theorem zi_s0 (a : Int) : zi a + 0 = zi a := by rw [← zi_0, zi_add, Int.add_zero]
theorem zi_m1 (a : Int) : zi a - 1 = zi (a - 1) := zi_sub a 1
theorem z01 {c : Prop} [Decidable c] : (if c then (0 : Int32) else 1) = zi (if c then 0 else 1) := by split <;> rfl
theorem z10 {c : Prop} [Decidable c] : (if c then (1 : Int32) else 0) = zi (if c then 1 else 0) := by split <;> rfl
theorem z_b {c : Prop} [Decidable c] : (if c then (1 : Int32) else 0) = 0 ∨ (if c then (1 : Int32) else 0) = 1 := by split <;> simp
theorem z_b' {c : Prop} [Decidable c] : (if c then (0 : Int32) else 1) = 0 ∨ (if c then (0 : Int32) else 1) = 1 := by split <;> simp
theorem mOK.row (h : mOK σ N P Q) {n : Nat} (hn : n < 20) : (σ 48 n = zi (P 0 n) ∧ σ 49 n = zi (P 1 n) ∧ σ 50 n = zi (P 2 n) ∧ σ 51 n = zi (P 3 n) ∧ σ 52 n = zi (P 4 n) ∧ σ 53 n = zi (P 5 n) ∧ σ 54 n = zi (P 6 n)) ∧ (σ 55 n = zi (P 7 n) ∧ σ 56 n = zi (P 8 n) ∧ σ 57 n = zi (P 9 n) ∧ σ 58 n = zi (P 10 n) ∧ σ 59 n = zi (P 11 n) ∧ σ 60 n = zi (P 12 n)) :=
  ⟨⟨h.p (k := 0) (by decide) hn, h.p (k := 1) (by decide) hn, h.p (k := 2) (by decide) hn, h.p (k := 3) (by decide) hn, h.p (k := 4) (by decide) hn, h.p (k := 5) (by decide) hn, h.p (k := 6) (by decide) hn⟩, h.p (k := 7) (by decide) hn, h.p (k := 8) (by decide) hn, h.p (k := 9) (by decide) hn, h.p (k := 10) (by decide) hn, h.p (k := 11) (by decide) hn, h.p (k := 12) (by decide) hn⟩
/-! the reference's small methods -/
theorem c_R_in (p0 p1 p2 : Int32) : GG l D DA b sz d L cu M_R_in [some (.int p0), some (.int p1), some (.int p2)] σ (some (.int (if p1 ≤ p0 ∧ p0 ≤ p2 then 1 else 0))) σ := by
  refine v_R_in_0 p0 p1 p2 ?_
  by_cases h1 : p0 < p1
  · rw [if_pos h1, if_neg (fun z => Int32.not_le.mpr h1 z.1)]
    exact ⟨Or.inl rfl, rfl, rfl⟩
  · by_cases h2 : p2 < p0
    · rw [if_neg h1, if_pos h2, if_neg (fun z => Int32.not_le.mpr h2 z.2)]
      exact ⟨Or.inl rfl, rfl, rfl⟩
    · rw [if_neg h1, if_neg h2, if_pos ⟨Int32.not_lt.mp h1, Int32.not_lt.mp h2⟩]
      exact ⟨Or.inr rfl, rfl, rfl⟩
theorem c_R_longOf (h : mOK σ N P Q) {n : Nat} (hn : n < 20) (hb : bOK P n) : GG l D DA b sz d L cu M_R_longOf [some (.ref 47), some (.int (zi n))] σ (some (.int (zi (lng P n)))) σ := by
  obtain ⟨⟨e0, e1, e2, e3, e4, e5, e6⟩, e7, e8, e9, e10, e11, e12⟩ := h.row hn
  have hi := zi_in hn (by decide)
  have hc : Int32.toNatClampNeg (zi n) = n := zi_cl (by omega)
  unfold bOK at hb
  refine v_R_longOf_0 (zi n) ?_
  rw [hc] at hi ⊢
  rw [e0, e1, e12, zi_eq0 (by omega) (by omega)]
  exact ⟨hi, fun h0 => ⟨hi, by unfold lng; rw [if_pos h0], rfl⟩, fun h0 => ⟨hi, by unfold lng; rw [if_neg h0], rfl⟩⟩
theorem c_R_wideOf (h : mOK σ N P Q) {n : Nat} (hn : n < 20) (hb : bOK P n) : GG l D DA b sz d L cu M_R_wideOf [some (.ref 47), some (.int (zi n))] σ (some (.int (zi (wdt P n)))) σ := by
  obtain ⟨⟨e0, e1, e2, e3, e4, e5, e6⟩, e7, e8, e9, e10, e11, e12⟩ := h.row hn
  have hi := zi_in hn (by decide)
  have hc : Int32.toNatClampNeg (zi n) = n := zi_cl (by omega)
  unfold bOK at hb
  refine v_R_wideOf_0 (zi n) ?_
  rw [hc] at hi ⊢
  rw [e0, e1, e12, zi_eq0 (by omega) (by omega)]
  exact ⟨hi, fun h0 => ⟨hi, by unfold wdt; rw [if_pos h0], rfl⟩, fun h0 => ⟨hi, by unfold wdt; rw [if_neg h0], rfl⟩⟩
theorem c_R_topOf (h : mOK σ N P Q) {n : Nat} (hn : n < 20) : GG l D DA b sz d L cu M_R_topOf [some (.ref 47), some (.int (zi n))] σ (some (.int (zi (tp P n)))) σ := by
  obtain ⟨⟨e0, e1, e2, e3, e4, e5, e6⟩, e7, e8, e9, e10, e11, e12⟩ := h.row hn
  have hi := zi_in hn (by decide)
  have hc : Int32.toNatClampNeg (zi n) = n := zi_cl (by omega)
  refine v_R_topOf_0 (zi n) ?_
  rw [hc] at hi ⊢
  rw [e2, e11, zi_add]
  exact ⟨hi, hi, rfl, rfl⟩
theorem c_R_common {a n c m : Int} (h1 : -1000 ≤ a ∧ a ≤ 1000) (h2 : -1000 ≤ n ∧ n ≤ 1000) (h3 : -1000 ≤ c ∧ c ≤ 1000) (h4 : -1000 ≤ m ∧ m ≤ 1000) : GG l D DA b sz d L cu M_R_common [some (.int (zi a)), some (.int (zi n)), some (.int (zi c)), some (.int (zi m)), none, none] σ (some (.int (zi (com a n c m)))) σ := by
  refine v_R_common_0 _ _ _ _ ⟨?_, rfl⟩
  have hA : -2000 ≤ (if c + m ≤ a + n then c + m else a + n) ∧ (if c + m ≤ a + n then c + m else a + n) ≤ 2000 := by split <;> omega
  have hB : -2000 ≤ (if a ≤ c then c else a) ∧ (if a ≤ c then c else a) ≤ 2000 := by split <;> omega
  simp (disch := omega) only [zi_add, zi_le, zi_ite, zi_sub]
  rw [← zi_0]
  simp only [zi_ite]
  rfl
theorem c_R_area (hd : 1 ≤ d) (h : mOK σ N P Q) {n m : Nat} (hn : n < 20) (hm : m < 20) (hb : bOK P n) (hc : bOK P m) : GG l D DA b sz d L cu M_R_area [some (.ref 47), some (.int (zi n)), some (.int (zi m))] σ (some (.int (zi (area P n m)))) σ := by
  obtain ⟨d, rfl⟩ : ∃ d', d = d' + 1 := ⟨d - 1, by omega⟩
  obtain ⟨⟨e0, e1, e2, e3, e4, e5, e6⟩, e7, e8, e9, e10, e11, e12⟩ := h.row hn
  obtain ⟨⟨f0, f1, f2, f3, f4, f5, f6⟩, f7, f8, f9, f10, f11, f12⟩ := h.row hm
  have hi := zi_in hn (by decide)
  have hcn : Int32.toNatClampNeg (zi n) = n := zi_cl (by omega)
  have hj := zi_in hm (by decide)
  have hcm : Int32.toNatClampNeg (zi m) = m := zi_cl (by omega)
  have l1 := b_lng hb
  have l2 := b_lng hc
  have w1 := b_wdt hb
  have w2 := b_wdt hc
  have hb' := hb
  have hc' := hc
  unfold bOK at hb' hc'
  have k1 := c_R_common (l := l) (D := D) (DA := DA) (b := b) (sz := sz) (d := d) (L := L) (cu := cu) (σ := σ) (a := P 9 n) (n := lng P n) (c := P 9 m) (m := lng P m) (by omega) (by omega) (by omega) (by omega)
  have k2 := c_R_common (l := l) (D := D) (DA := DA) (b := b) (sz := sz) (d := d) (L := L) (cu := cu) (σ := σ) (a := P 10 n) (n := wdt P n) (c := P 10 m) (m := wdt P m) (by omega) (by omega) (by omega) (by omega)
  rw [← e9, ← f9] at k1
  rw [← e10, ← f10] at k2
  refine v_R_area_0 _ _ ?_
  rw [hcn] at hi ⊢
  rw [hcm] at hj ⊢
  exact ⟨hi, _, _, c_R_longOf h hn hb, hj, _, _, c_R_longOf h hm hc, _, _, k1, hi, _, _, c_R_wideOf h hn hb, hj, _, _, c_R_wideOf h hm hc, _, _, k2, by rw [zi_mul]; rfl, rfl⟩
theorem c_R_stands (hd : 2 ≤ d) (h : mOK σ N P Q) {n m : Nat} (hn : n < 20) (hm : m < 20) (hb : bOK P n) (hc : bOK P m) : GG l D DA b sz d L cu M_R_stands [some (.ref 47), some (.int (zi n)), some (.int (zi m))] σ (some (.int (zi (stn P n m)))) σ := by
  obtain ⟨d, rfl⟩ : ∃ d', d = d' + 1 := ⟨d - 1, by omega⟩
  obtain ⟨⟨e0, e1, e2, e3, e4, e5, e6⟩, e7, e8, e9, e10, e11, e12⟩ := h.row hn
  obtain ⟨⟨f0, f1, f2, f3, f4, f5, f6⟩, f7, f8, f9, f10, f11, f12⟩ := h.row hm
  have hi := zi_in hn (by decide)
  have hcn : Int32.toNatClampNeg (zi n) = n := zi_cl (by omega)
  have hj := zi_in hm (by decide)
  have hcm : Int32.toNatClampNeg (zi m) = m := zi_cl (by omega)
  have hb' := hb
  have hc' := hc
  unfold bOK at hb' hc'
  have ht : tp P m = P 11 m + P 2 m := rfl
  refine v_R_stands_0 _ _ ?_
  rw [hcn] at hi ⊢
  rw [hcm] at hj ⊢
  rw [f8, zi_eq (by omega) (by omega) (by omega) (by omega), zi_eq0 (by omega) (by omega)]
  unfold stn
  refine ⟨fun h0 => ⟨by rw [if_pos (by omega)]; rfl, rfl⟩, fun h0 => ⟨hj, fun h1 => ⟨by rw [if_neg (by omega), if_pos h1]; rfl, rfl⟩, fun h1 => ⟨_, _, c_R_topOf h hm, hi, ?_⟩⟩⟩
  rw [e11, zi_eq (by omega) (by omega) (by omega) (by omega)]
  exact ⟨fun h2 => ⟨_, _, c_R_area (by omega) h hn hm hb hc, by rw [if_neg (by omega), if_neg h1, if_pos h2], rfl⟩, fun h2 => ⟨by rw [if_neg (by omega), if_neg h1, if_neg h2]; rfl, rfl⟩⟩
/-- how many are in -/
def cnt (P : Nat → Nat → Int) (N : Nat) : Int := sm (fun n => if P 8 n = 0 then 0 else 1) N
theorem cnt_bd (n : Nat) : 0 ≤ cnt P n ∧ cnt P n ≤ n := by
  have := sm_bound (f := fun n => if P 8 n = 0 then (0 : Int) else 1) (lo := 0) (hi := 1) (n := n) (fun i _ => by split <;> omega)
  unfold cnt
  omega
theorem c_R_placed_l (h : mOK σ N P Q) (hp : pOK N P Q) : ∀ (m i : Nat), i + m = N → am_Go l D DA b sz d M_R_placed (4, [some (.ref 47), some (.int (zi (cnt P i))), some (.int (zi i))], [], (am_TT cu L, am_RR cu, σ)) (some (.int (zi (cnt P N)))) (am_TT cu L, am_RR cu, σ)
  | 0, i, hi => by
    have hN := hp.1
    refine v_R_placed_4 _ _ ?_
    rw [h.1, zi_le (by omega) (by omega) (by omega) (by omega)]
    refine ⟨fun _ => ⟨by rw [show i = N by omega], rfl⟩, fun h0 => absurd h0 (by omega)⟩
  | m + 1, i, hi => by
    have hN := hp.1
    have ih := c_R_placed_l h hp m (i + 1) (by omega)
    have hb := hp.2.1 i (by omega)
    unfold bOK at hb
    obtain ⟨⟨e0, e1, e2, e3, e4, e5, e6⟩, e7, e8, e9, e10, e11, e12⟩ := h.row (n := i) (by omega)
    have hin := zi_in (n := i) (m := 20) (by omega) (by decide)
    have hc : Int32.toNatClampNeg (zi i) = i := zi_cl (by omega)
    refine v_R_placed_4 _ _ ?_
    rw [hc] at hin ⊢
    try simp (disch := omega) only [zi_cl, zi_add, zi_sub, zi_mul, zi_s1, zi_s0, zi_m1, z01, z10, zi_ite, zi_eq0, zi_lt0, zi_gt0, zi_le0, zi_ge0, zi_le, zi_lt, zi_eq, h.1, e8]
    exact ⟨fun h0 => absurd h0 (by omega), fun _ => ⟨by omega, ih⟩⟩
theorem c_R_placed (h : mOK σ N P Q) (hp : pOK N P Q) : GG l D DA b sz d L cu M_R_placed [some (.ref 47), none, none] σ (some (.int (zi (cnt P N)))) σ := v_R_placed_0 (c_R_placed_l h hp N 0 (by omega))
theorem c_R_isBox (hd : 1 ≤ d) (h : mOK σ N P Q) (hp : pOK N P Q) (p : Int32) : GG l D DA b sz d L cu M_R_isBox [some (.ref 47), some (.int p)] σ (some (.int (if 0 ≤ p.toInt ∧ p.toInt < N then 1 else 0))) σ := by
  obtain ⟨d, rfl⟩ : ∃ d', d = d' + 1 := ⟨d - 1, by omega⟩
  have hN := hp.1
  have key : ∀ (r : Int32), (r = if (0 : Int32) ≤ p ∧ p ≤ σ 47 0 - 1 then 1 else 0) → r = if 0 ≤ p.toInt ∧ p.toInt < N then 1 else 0 := by
    intro r hr
    rw [hr]
    simp (disch := omega) only [h.1, zi_m1, Int32.le_iff_toInt_le, zi_toInt]
    have e0 : (0 : Int32).toInt = 0 := rfl
    rw [e0]
    by_cases h1 : 0 ≤ p.toInt ∧ p.toInt ≤ (N : Int) - 1
    · rw [if_pos h1, if_pos (by omega)]
    · rw [if_neg h1, if_neg (by omega)]
  refine v_R_isBox_0 _ ⟨_, _, c_R_in _ _ _, ?_, ?_, rfl⟩
  · split <;> simp
  · rw [← key _ rfl]
end MA
