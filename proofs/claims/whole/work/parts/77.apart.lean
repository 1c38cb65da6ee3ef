/-! TRUCKS: sets, which boxes fit, which are apart -/
def isS (N : Nat) (p : Int32) : Int32 := if 0 < p.toInt ∧ p.toInt < 2 ^ N then 1 else 0
theorem lg_ge (x y : Int64) : 0 ≤ lg_cmp x y ↔ y.toInt ≤ x.toInt := by
  unfold lg_cmp
  have hgt : x > y ↔ y.toInt < x.toInt := Int64.lt_iff_toInt_lt
  by_cases c : x > y
  · rw [if_pos c]
    have := hgt.mp c
    exact ⟨fun _ => by omega, fun _ => by decide⟩
  · rw [if_neg c]
    have h9 : x.toInt ≤ y.toInt := by
      by_cases e : y.toInt < x.toInt
      · exact absurd (hgt.mpr e) c
      · omega
    by_cases e : x = y
    · rw [if_pos e, e]
      exact ⟨fun _ => Int.le_refl _, fun _ => by decide⟩
    · rw [if_neg e]
      refine ⟨fun h => absurd h (by decide), fun h => absurd (Int64.toInt_inj.mp (by omega)) e⟩
abbrev f0 (P : Nat → Nat → Int) (Q : Nat → Int) (n : Nat) : Prop := P 2 n ≤ Q 2 ∧ P 0 n ≤ Q 0 ∧ P 1 n ≤ Q 1
abbrev f1 (P : Nat → Nat → Int) (Q : Nat → Int) (n : Nat) : Prop := P 2 n ≤ Q 2 ∧ P 6 n ≠ 0 ∧ P 1 n ≤ Q 0 ∧ P 0 n ≤ Q 1
/-- the least sizes -/
def ll (P : Nat → Nat → Int) (Q : Nat → Int) (n : Nat) : Int := if f0 P Q n then (if f1 P Q n then (if P 1 n < P 0 n then P 1 n else P 0 n) else P 0 n) else P 1 n
def lw (P : Nat → Nat → Int) (Q : Nat → Int) (n : Nat) : Int := if f0 P Q n then (if f1 P Q n then (if P 1 n < P 0 n then P 1 n else P 0 n) else P 1 n) else P 0 n
abbrev apr (P : Nat → Nat → Int) (Q : Nat → Int) (n m : Nat) : Prop := Q 0 < ll P Q n + ll P Q m ∧ Q 1 < lw P Q n + lw P Q m ∧ Q 2 < P 2 n + P 2 m
abbrev apk (P : Nat → Nat → Int) (Q : Nat → Int) (n m s t : Nat) : Prop := Q 0 < P s n + P t m ∧ Q 1 < P (1 - s) n + P (1 - t) m ∧ Q 2 < P 2 n + P 2 m
theorem ap_abs {A0 A1 C0 C1 : Prop} [Decidable A0] [Decidable A1] [Decidable C0] [Decidable C1] {q0 q1 q2 x y u v w : Int} (hn : A0 ∨ A1) (hm : C0 ∨ C1) :
    (q0 < (if A0 then (if A1 then (if y < x then y else x) else x) else y) + (if C0 then (if C1 then (if v < u then v else u) else u) else v) ∧ q1 < (if A0 then (if A1 then (if y < x then y else x) else y) else x) + (if C0 then (if C1 then (if v < u then v else u) else v) else u) ∧ q2 < w) ↔ ((A0 ∧ C0 → q0 < x + u ∧ q1 < y + v ∧ q2 < w) ∧ (A1 ∧ C0 → q0 < y + u ∧ q1 < x + v ∧ q2 < w) ∧ (A0 ∧ C1 → q0 < x + v ∧ q1 < y + u ∧ q2 < w) ∧ (A1 ∧ C1 → q0 < y + v ∧ q1 < x + u ∧ q2 < w)) := by
  by_cases a0 : A0 <;> by_cases a1 : A1 <;> by_cases c0 : C0 <;> by_cases c1 : C1 <;> by_cases k1 : y < x <;> by_cases k2 : v < u <;> simp only [a0, a1, c0, c1, k1, k2, if_true, if_false, and_self, and_true, true_and, and_false, false_and, true_implies, false_implies, or_self, or_true, true_or, or_false, false_or] at hn hm ⊢ <;> omega
theorem apr_iff {P : Nat → Nat → Int} {Q : Nat → Int} {n m : Nat} (hn : f0 P Q n ∨ f1 P Q n) (hm : f0 P Q m ∨ f1 P Q m) : apr P Q n m ↔ ((f0 P Q n ∧ f0 P Q m → apk P Q n m 0 0) ∧ (f1 P Q n ∧ f0 P Q m → apk P Q n m 1 0) ∧ (f0 P Q n ∧ f1 P Q m → apk P Q n m 0 1) ∧ (f1 P Q n ∧ f1 P Q m → apk P Q n m 1 1)) := by
  exact ap_abs hn hm
section TRK
variable {l : Launch} {D : va_G} {DA : Nat → ClassId} {b sz d L : Nat} {cu : Bool} {σ σ' : Nat → Nat → Int32} {N M S : Nat} {P : Nat → Nat → Int} {Q : Nat → Int}
theorem pN {p : Int32} (h : ¬ p ≤ 0) : ∃ m : Nat, m < 2 ^ 31 ∧ 0 < m ∧ p = zi m := by
  have h1 : 0 < p.toInt := by
    have h9 : ¬ p.toInt ≤ (0 : Int32).toInt := fun z => h (Int32.le_iff_toInt_le.mpr z)
    have : (0 : Int32).toInt = 0 := rfl
    omega
  have h2 : p.toInt < 2147483648 := by have h9 := zi_of p; have := p.toBitVec.toInt_lt; have e : p.toInt = p.toBitVec.toInt := rfl; rw [e]; exact Int.lt_of_lt_of_le this (by decide)
  refine ⟨p.toInt.toNat, by omega, by omega, ?_⟩
  rw [show ((p.toInt.toNat : Nat) : Int) = p.toInt by omega]
  exact zi_of p
theorem isS_neg {p : Int32} (h : p ≤ 0) : isS N p = 0 := by
  have h9 := Int32.le_iff_toInt_le.mp h
  have : (0 : Int32).toInt = 0 := rfl
  unfold isS
  rw [if_neg (by omega)]
theorem c_isSet (h : cOK σ N P Q M) (hN : N ≤ 20) (p : Int32) : GG l D DA b sz d L cu M_B_isSet [some (.ref 1), some (.int p)] σ (some (.int (isS N p))) σ := by
  refine v_B_isSet_0 _ ⟨fun c => by rw [isS_neg c]; exact (by first | exact ⟨rfl, rfl⟩ | exact ⟨trivial, trivial⟩ | exact ⟨trivial, rfl⟩ | exact ⟨rfl, trivial⟩ | trivial), fun c => ?_⟩
  obtain ⟨m, h1, h2, rfl⟩ := pN c
  have hle : m / 2 ^ N ≤ m := Nat.div_le_self _ _
  have hpow : 0 < 2 ^ N := Nat.two_pow_pos N
  have key : (if (zi (m : Int) >>> (σ 2 2 &&& 31 : Int32) : Int32) = (0 : Int32) then (1 : Int32) else 0) = isS N (zi m) := by
    have i0 : ((zi (m : Int) >>> (σ 2 2 &&& 31 : Int32) : Int32) = (0 : Int32)) ↔ m < 2 ^ N := by
      have hdz : m / 2 ^ N = 0 ↔ m < 2 ^ N := by rw [Nat.div_eq_zero_iff]; omega
      rw [h.1, mk_shr h1 (by omega)]
      generalize m / 2 ^ N = w at hle hdz ⊢
      rw [zi_eq0 (by omega) (by omega), ← hdz]
      omega
    unfold isS
    rw [zi_toInt (by omega) (by omega)]
    have e2 : ((2 : Int) ^ N) = ((2 ^ N : Nat) : Int) := by simp
    rw [e2]
    by_cases c9 : m < 2 ^ N
    · rw [if_pos (i0.mpr c9), if_pos (by omega)]
    · rw [if_neg (fun z => c9 (i0.mp z)), if_neg (by omega)]
  rw [key]
  refine ⟨?_, rfl, rfl⟩
  unfold isS
  split
  · exact Or.inr rfl
  · exact Or.inl rfl
theorem c_R_isSet (h : mOK σ N P Q) (hN : N ≤ 20) (p : Int32) : GG l D DA b sz d L cu M_R_isSet [some (.ref 47), some (.int p)] σ (some (.int (isS N p))) σ := by
  refine v_R_isSet_0 _ ⟨fun c => by rw [isS_neg c]; exact (by first | exact ⟨rfl, rfl⟩ | exact ⟨trivial, trivial⟩ | exact ⟨trivial, rfl⟩ | exact ⟨rfl, trivial⟩ | trivial), fun c => ?_⟩
  obtain ⟨m, h1, h2, rfl⟩ := pN c
  have hpow : 2 ^ N ≤ 2 ^ 20 := Nat.pow_le_pow_right (by decide) hN
  have key : (if (0 : Int32) ≤ (lg_cmp (Int32.toInt64 (zi (m : Int))) ((Int64.ofNat 1) <<< (Int32.toInt64 (σ 47 0) &&& 63))) then (0 : Int32) else 1) = isS N (zi m) := by
    have i0 : ((0 : Int32) ≤ (lg_cmp (Int32.toInt64 (zi (m : Int))) ((Int64.ofNat 1) <<< (Int32.toInt64 (σ 47 0) &&& 63)))) ↔ 2 ^ N ≤ m := by
      have e1 : Int32.toInt64 (zi (m : Int)) = lN m := nI_l h1
      have e2 : (Int64.ofNat 1) <<< (Int32.toInt64 (σ 47 0) &&& 63) = lN (1 * 2 ^ N) := by rw [h.1]; exact wb_shl 1 (by omega)
      rw [e1, e2, lg_ge, Nat.one_mul, pk_lT (by omega), pk_lT (by omega)]
      omega
    unfold isS
    rw [zi_toInt (by omega) (by omega)]
    have e2 : ((2 : Int) ^ N) = ((2 ^ N : Nat) : Int) := by simp
    rw [e2]
    by_cases c9 : m < 2 ^ N
    · rw [if_neg (fun z => absurd (i0.mp z) (by omega)), if_pos (by omega)]
    · rw [if_pos (i0.mpr (by omega)), if_neg (by omega)]
  rw [key]
  refine ⟨?_, rfl, rfl⟩
  unfold isS
  split
  · exact Or.inr rfl
  · exact Or.inl rfl
theorem c_fits0 (h : cOK σ N P Q M) (hp : pOK N P Q) {n : Nat} (hn : n < N) : GG l D DA b sz d L cu M_Hold_fitsEmpty [some (.ref 2), some (.int (zi n)), some (.int 0), none, none, none] σ (some (.int (if f0 P Q n then 1 else 0))) σ := by
  have hN := hp.1
  obtain ⟨g0, g1, g2, g3, g4, g5, g6, g7, g8⟩ := h.q
  obtain ⟨r0, r1, r2, r3, r4, r5, r6, r7⟩ := h.row (n := n) (by omega)
  have hb := hp.2.1 n hn
  have hq := hp.2.2.2
  unfold bOK at hb
  unfold qOK at hq
  have i2 : zi (Q 2) < zi (P 2 n) ↔ Q 2 < P 2 n := zi_lt (by omega) (by omega) (by omega) (by omega)
  have i0 : zi (Q 0) < zi (P 0 n) ↔ Q 0 < P 0 n := zi_lt (by omega) (by omega) (by omega) (by omega)
  have i1 : zi (Q 1) < zi (P 1 n) ↔ Q 1 < P 1 n := zi_lt (by omega) (by omega) (by omega) (by omega)
  have i6 : zi (P 6 n) = 0 ↔ P 6 n = 0 := zi_eq0 (by omega) (by omega)
  have key : (if zi (Q 0) < zi (P 0 n) then (0 : Int32) else (if zi (Q 1) < zi (P 1 n) then 0 else 1)) = if (P 0 n ≤ Q 0 ∧ P 1 n ≤ Q 1) then 1 else 0 := by
    by_cases c0 : Q 0 < P 0 n
    · rw [if_pos (i0.mpr c0), if_neg (by omega)]
    · rw [if_neg (fun z => c0 (i0.mp z))]
      by_cases c1 : Q 1 < P 1 n
      · rw [if_pos (i1.mpr c1), if_neg (by omega)]
      · rw [if_neg (fun z => c1 (i1.mp z)), if_pos (by omega)]
  refine v_Hold_fitsEmpty_0 _ _ ?_
  rw [show Int32.toNatClampNeg (zi n) = n from zi_cl (by omega), r2, r0, r1, r6, g0, g1, g2, zi_lt0 (by omega) (by omega)]
  refine ⟨by omega, fun c => ?_, fun c => ?_⟩
  · rw [if_neg (show ¬ f0 P Q n from fun z => absurd (i2.mp c) (by have := z.1; omega))]; exact (by first | exact ⟨rfl, rfl⟩ | exact ⟨trivial, trivial⟩ | exact ⟨trivial, rfl⟩ | exact ⟨rfl, trivial⟩ | trivial)
  · have c2 : P 2 n ≤ Q 2 := Int.not_lt.mp (fun z => c (i2.mpr z))
    refine ⟨fun _ => ?_, fun h0 => absurd rfl h0⟩
    rw [if_pos rfl, if_pos rfl, key]
    have e : (if f0 P Q n then (1 : Int32) else 0) = if (P 0 n ≤ Q 0 ∧ P 1 n ≤ Q 1) then 1 else 0 := by
      by_cases c9 : P 0 n ≤ Q 0 ∧ P 1 n ≤ Q 1
      · rw [if_pos (show f0 P Q n from ⟨c2, c9.1, c9.2⟩), if_pos c9]
      · rw [if_neg (show ¬ f0 P Q n from fun z => c9 z.2), if_neg c9]
    rw [e]
    refine ⟨?_, rfl, rfl⟩
    split
    · exact Or.inr rfl
    · exact Or.inl rfl
theorem c_R_fits0 (h : mOK σ N P Q) (hp : pOK N P Q) {n : Nat} (hn : n < N) : GG l D DA b sz d L cu M_R_fitsSo [some (.ref 47), some (.int (zi n)), some (.int 0), none, none] σ (some (.int (if f0 P Q n then 1 else 0))) σ := by
  have hN := hp.1
  have hn20 : n < 20 := by omega
  obtain ⟨g0, g1, g2, g3, g4, g5, g6, g7, g8⟩ := h.q
  obtain ⟨⟨e0, e1, e2, e3, e4, e5, e6⟩, e7, e8, e9, e10, e11, e12⟩ := h.row hn20
  have hb := hp.2.1 n hn
  have hq := hp.2.2.2
  unfold bOK at hb
  unfold qOK at hq
  have hcl : Int32.toNatClampNeg (zi n) = n := zi_cl (by omega)
  have nn : ¬ (zi (n : Int) < 0 ∨ 20 ≤ n) := by rw [zi_lt0 (by omega) (by omega)]; omega
  have i2 : zi (Q 2) < zi (P 2 n) ↔ Q 2 < P 2 n := zi_lt (by omega) (by omega) (by omega) (by omega)
  have i0 : zi (Q 0) < zi (P 0 n) ↔ Q 0 < P 0 n := zi_lt (by omega) (by omega) (by omega) (by omega)
  have i1 : zi (Q 1) < zi (P 1 n) ↔ Q 1 < P 1 n := zi_lt (by omega) (by omega) (by omega) (by omega)
  have i6 : zi (P 6 n) = 0 ↔ P 6 n = 0 := zi_eq0 (by omega) (by omega)
  have last : P 0 n ≤ Q 0 → P 1 n ≤ Q 1 →  ((if zi (Q 2) < zi (P 2 n) then (0 : Int32) else 1) = 0 ∨ (if zi (Q 2) < zi (P 2 n) then (0 : Int32) else 1) = 1) ∧ (some (Value.int (if f0 P Q n then 1 else 0)) = some (.int (if zi (Q 2) < zi (P 2 n) then 0 else 1)) ∧ (am_TT cu L, am_RR cu, σ) = (am_TT cu L, am_RR cu, σ)) := by
    intro a0 a1
    by_cases c2 : Q 2 < P 2 n
    · rw [if_pos (i2.mpr c2), if_neg (show ¬ f0 P Q n from fun z => absurd z.1 (by omega))]; exact ⟨Or.inl rfl, rfl, rfl⟩
    · rw [if_neg (fun z => c2 (i2.mp z)), if_pos (show f0 P Q n from ⟨by omega, a0, a1⟩)]; exact ⟨Or.inr rfl, rfl, rfl⟩
  refine v_R_fitsSo_0 _ _ ?_
  rw [hcl, e0, e1]
  refine ⟨fun _ => ⟨nn, v_R_fitsSo_19 _ _ _ ?_⟩, fun h0 => absurd rfl h0⟩
  rw [hcl, e0, e1]
  refine ⟨fun _ => ⟨nn, v_R_fitsSo_39 _ _ _ _ ?_⟩, fun h0 => absurd rfl h0⟩
  rw [hcl, e2, g0, g1, g2]
  exact ⟨fun _ => ⟨fun c => by rw [if_neg (show ¬ f0 P Q n from fun z => absurd (i0.mp c) (by have := z.2.1; omega))]; exact (by first | exact ⟨rfl, rfl⟩ | exact ⟨trivial, trivial⟩ | exact ⟨trivial, rfl⟩ | exact ⟨rfl, trivial⟩ | trivial), fun c => ⟨fun c1 => by rw [if_neg (show ¬ f0 P Q n from fun z => absurd (i1.mp c1) (by have := z.2.2; omega))]; exact (by first | exact ⟨rfl, rfl⟩ | exact ⟨trivial, trivial⟩ | exact ⟨trivial, rfl⟩ | exact ⟨rfl, trivial⟩ | trivial), fun c1 => ⟨nn, last (Int.not_lt.mp (fun z => c (i0.mpr z))) (Int.not_lt.mp (fun z => c1 (i1.mpr z)))⟩⟩⟩, fun h0 => absurd rfl h0⟩
theorem c_fits1 (h : cOK σ N P Q M) (hp : pOK N P Q) {n : Nat} (hn : n < N) : GG l D DA b sz d L cu M_Hold_fitsEmpty [some (.ref 2), some (.int (zi n)), some (.int 1), none, none, none] σ (some (.int (if f1 P Q n then 1 else 0))) σ := by
  have hN := hp.1
  obtain ⟨g0, g1, g2, g3, g4, g5, g6, g7, g8⟩ := h.q
  obtain ⟨r0, r1, r2, r3, r4, r5, r6, r7⟩ := h.row (n := n) (by omega)
  have hb := hp.2.1 n hn
  have hq := hp.2.2.2
  unfold bOK at hb
  unfold qOK at hq
  have i2 : zi (Q 2) < zi (P 2 n) ↔ Q 2 < P 2 n := zi_lt (by omega) (by omega) (by omega) (by omega)
  have i0 : zi (Q 0) < zi (P 1 n) ↔ Q 0 < P 1 n := zi_lt (by omega) (by omega) (by omega) (by omega)
  have i1 : zi (Q 1) < zi (P 0 n) ↔ Q 1 < P 0 n := zi_lt (by omega) (by omega) (by omega) (by omega)
  have i6 : zi (P 6 n) = 0 ↔ P 6 n = 0 := zi_eq0 (by omega) (by omega)
  have key : (if zi (Q 0) < zi (P 1 n) then (0 : Int32) else (if zi (Q 1) < zi (P 0 n) then 0 else 1)) = if (P 1 n ≤ Q 0 ∧ P 0 n ≤ Q 1) then 1 else 0 := by
    by_cases c0 : Q 0 < P 1 n
    · rw [if_pos (i0.mpr c0), if_neg (by omega)]
    · rw [if_neg (fun z => c0 (i0.mp z))]
      by_cases c1 : Q 1 < P 0 n
      · rw [if_pos (i1.mpr c1), if_neg (by omega)]
      · rw [if_neg (fun z => c1 (i1.mp z)), if_pos (by omega)]
  refine v_Hold_fitsEmpty_0 _ _ ?_
  rw [show Int32.toNatClampNeg (zi n) = n from zi_cl (by omega), r2, r0, r1, r6, g0, g1, g2, zi_lt0 (by omega) (by omega)]
  refine ⟨by omega, fun c => ?_, fun c => ?_⟩
  · rw [if_neg (show ¬ f1 P Q n from fun z => absurd (i2.mp c) (by have := z.1; omega))]; exact (by first | exact ⟨rfl, rfl⟩ | exact ⟨trivial, trivial⟩ | exact ⟨trivial, rfl⟩ | exact ⟨rfl, trivial⟩ | trivial)
  · have c2 : P 2 n ≤ Q 2 := Int.not_lt.mp (fun z => c (i2.mpr z))
    refine ⟨fun h0 => absurd h0 (by decide), fun _ => ⟨fun c6 => ?_, fun c6 => ?_⟩⟩
    · rw [if_neg (show ¬ f1 P Q n from fun z => z.2.1 (i6.mp c6))]; exact (by first | exact ⟨rfl, rfl⟩ | exact ⟨trivial, trivial⟩ | exact ⟨trivial, rfl⟩ | exact ⟨rfl, trivial⟩ | trivial)
    · rw [if_neg (show ¬ (1 : Int32) = 0 by decide), if_neg (show ¬ (1 : Int32) = 0 by decide), key]
      have e : (if f1 P Q n then (1 : Int32) else 0) = if (P 1 n ≤ Q 0 ∧ P 0 n ≤ Q 1) then 1 else 0 := by
        by_cases c9 : P 1 n ≤ Q 0 ∧ P 0 n ≤ Q 1
        · rw [if_pos (show f1 P Q n from ⟨c2, fun z => c6 (i6.mpr z), c9.1, c9.2⟩), if_pos c9]
        · rw [if_neg (show ¬ f1 P Q n from fun z => c9 z.2.2), if_neg c9]
      rw [e]
      refine ⟨?_, rfl, rfl⟩
      split
      · exact Or.inr rfl
      · exact Or.inl rfl
theorem c_R_fits1 (h : mOK σ N P Q) (hp : pOK N P Q) {n : Nat} (hn : n < N) : GG l D DA b sz d L cu M_R_fitsSo [some (.ref 47), some (.int (zi n)), some (.int 1), none, none] σ (some (.int (if f1 P Q n then 1 else 0))) σ := by
  have hN := hp.1
  have hn20 : n < 20 := by omega
  obtain ⟨g0, g1, g2, g3, g4, g5, g6, g7, g8⟩ := h.q
  obtain ⟨⟨e0, e1, e2, e3, e4, e5, e6⟩, e7, e8, e9, e10, e11, e12⟩ := h.row hn20
  have hb := hp.2.1 n hn
  have hq := hp.2.2.2
  unfold bOK at hb
  unfold qOK at hq
  have hcl : Int32.toNatClampNeg (zi n) = n := zi_cl (by omega)
  have nn : ¬ (zi (n : Int) < 0 ∨ 20 ≤ n) := by rw [zi_lt0 (by omega) (by omega)]; omega
  have i2 : zi (Q 2) < zi (P 2 n) ↔ Q 2 < P 2 n := zi_lt (by omega) (by omega) (by omega) (by omega)
  have i0 : zi (Q 0) < zi (P 1 n) ↔ Q 0 < P 1 n := zi_lt (by omega) (by omega) (by omega) (by omega)
  have i1 : zi (Q 1) < zi (P 0 n) ↔ Q 1 < P 0 n := zi_lt (by omega) (by omega) (by omega) (by omega)
  have i6 : zi (P 6 n) = 0 ↔ P 6 n = 0 := zi_eq0 (by omega) (by omega)
  have last : P 1 n ≤ Q 0 → P 0 n ≤ Q 1 → P 6 n ≠ 0 → ((if zi (Q 2) < zi (P 2 n) then (0 : Int32) else 1) = 0 ∨ (if zi (Q 2) < zi (P 2 n) then (0 : Int32) else 1) = 1) ∧ (some (Value.int (if f1 P Q n then 1 else 0)) = some (.int (if zi (Q 2) < zi (P 2 n) then 0 else 1)) ∧ (am_TT cu L, am_RR cu, σ) = (am_TT cu L, am_RR cu, σ)) := by
    intro a0 a1 a6
    by_cases c2 : Q 2 < P 2 n
    · rw [if_pos (i2.mpr c2), if_neg (show ¬ f1 P Q n from fun z => absurd z.1 (by omega))]; exact ⟨Or.inl rfl, rfl, rfl⟩
    · rw [if_neg (fun z => c2 (i2.mp z)), if_pos (show f1 P Q n from ⟨by omega, a6, a0, a1⟩)]; exact ⟨Or.inr rfl, rfl, rfl⟩
  refine v_R_fitsSo_0 _ _ ?_
  rw [hcl, e0, e1]
  refine ⟨fun h0 => absurd h0 (by decide), fun _ => ⟨nn, v_R_fitsSo_19 _ _ _ ?_⟩⟩
  rw [hcl, e0, e1]
  refine ⟨fun h0 => absurd h0 (by decide), fun _ => ⟨nn, v_R_fitsSo_39 _ _ _ _ ?_⟩⟩
  rw [hcl, e2, e6, g0, g1, g2]
  exact ⟨fun h0 => absurd h0 (by decide), fun _ => ⟨nn, fun c6 => by rw [if_neg (show ¬ f1 P Q n from fun z => z.2.1 (i6.mp c6))]; exact (by first | exact ⟨rfl, rfl⟩ | exact ⟨trivial, trivial⟩ | exact ⟨trivial, rfl⟩ | exact ⟨rfl, trivial⟩ | trivial), fun c6 => ⟨fun c => by rw [if_neg (show ¬ f1 P Q n from fun z => absurd (i0.mp c) (by have := z.2.2.1; omega))]; exact (by first | exact ⟨rfl, rfl⟩ | exact ⟨trivial, trivial⟩ | exact ⟨trivial, rfl⟩ | exact ⟨rfl, trivial⟩ | trivial), fun c => ⟨fun c1 => by rw [if_neg (show ¬ f1 P Q n from fun z => absurd (i1.mp c1) (by have := z.2.2.2; omega))]; exact (by first | exact ⟨rfl, rfl⟩ | exact ⟨trivial, trivial⟩ | exact ⟨trivial, rfl⟩ | exact ⟨rfl, trivial⟩ | trivial), fun c1 => ⟨nn, last (Int.not_lt.mp (fun z => c (i0.mpr z))) (Int.not_lt.mp (fun z => c1 (i1.mpr z))) (fun z => c6 (i6.mpr z))⟩⟩⟩⟩⟩
theorem ap_0 {r : Option Value} {X' : am_X} (hd : 1 ≤ d) (h : mOK σ N P Q) (hp : pOK N P Q) {n m : Nat} (hn : n < N) (hm : m < N) (G0 : f0 P Q n ∧ f0 P Q m → ¬ apk P Q n m 0 0 → r = some (.int 0) ∧ X' = (am_TT cu L, am_RR cu, σ))
    (G1 : (f0 P Q n ∧ f0 P Q m → apk P Q n m 0 0) → am_Go l D DA b sz d M_R_isApart (2, [some (.ref 47), some (.int (zi n)), some (.int (zi m)), some (.int 1), none, none, none], [], (am_TT cu L, am_RR cu, σ)) r X') :
    am_Go l D DA b sz d M_R_isApart (2, [some (.ref 47), some (.int (zi n)), some (.int (zi m)), some (.int 0), none, none, none], [], (am_TT cu L, am_RR cu, σ)) r X' := by
  obtain ⟨d, rfl⟩ : ∃ d', d = d' + 1 := ⟨d - 1, by omega⟩
  have hN := hp.1
  have hn20 : n < 20 := by omega
  have hm20 : m < 20 := by omega
  obtain ⟨g0, g1, g2, g3, g4, g5, g6, g7, g8⟩ := h.q
  obtain ⟨⟨e0, e1, e2, e3, e4, e5, e6⟩, e7, e8, e9, e10, e11, e12⟩ := h.row hn20
  obtain ⟨⟨w0, w1, w2, w3, w4, w5, w6⟩, w7, w8, w9, w10, w11, w12⟩ := h.row hm20
  have hb := hp.2.1 n hn
  have hb2 := hp.2.1 m hm
  have hq := hp.2.2.2
  unfold bOK at hb hb2
  unfold qOK at hq
  have hcl : Int32.toNatClampNeg (zi n) = n := zi_cl (by omega)
  have hcm : Int32.toNatClampNeg (zi m) = m := zi_cl (by omega)
  have nn : ¬ (zi (n : Int) < 0 ∨ 20 ≤ n) := by rw [zi_lt0 (by omega) (by omega)]; omega
  have nm : ¬ (zi (m : Int) < 0 ∨ 20 ≤ m) := by rw [zi_lt0 (by omega) (by omega)]; omega
  have x1 := c_R_fits0 (l := l) (D := D) (DA := DA) (b := b) (sz := sz) (d := d) (L := L) (cu := cu) h hp hn
  have x2 := c_R_fits0 (l := l) (D := D) (DA := DA) (b := b) (sz := sz) (d := d) (L := L) (cu := cu) h hp hm
  have on : ∀ {q : Prop}, (q → am_Go l D DA b sz (d + 1) M_R_isApart (2, [some (.ref 47), some (.int (zi n)), some (.int (zi m)), some (.int 1), none, none, none], [], (am_TT cu L, am_RR cu, σ)) r X') → q → am_Go l D DA b sz (d + 1) M_R_isApart (200, [some (.ref 47), some (.int (zi n)), some (.int (zi m)), some (.int 0), none, none, none], [], (am_TT cu L, am_RR cu, σ)) r X' := fun g q => v_R_isApart_200 _ _ _ (g q)
  have i0 : zi (P 0 n) + zi (P 0 m) ≤ zi (Q 0) ↔ P 0 n + P 0 m ≤ Q 0 := by rw [zi_add, zi_le (by omega) (by omega) (by omega) (by omega)]
  have i1 : zi (P 1 n) + zi (P 1 m) ≤ zi (Q 1) ↔ P 1 n + P 1 m ≤ Q 1 := by rw [zi_add, zi_le (by omega) (by omega) (by omega) (by omega)]
  have i2 : zi (Q 2) < zi (P 2 n) + zi (P 2 m) ↔ Q 2 < P 2 n + P 2 m := by rw [zi_add, zi_lt (by omega) (by omega) (by omega) (by omega)]
  refine v_R_isApart_2 _ _ _ ⟨fun h0 => absurd h0 (by decide), fun _ => ⟨_, _, x1, ?_⟩⟩
  by_cases c1 : f0 P Q n
  · rw [if_pos c1]
    refine ⟨fun h0 => absurd h0 (by decide), fun _ => ⟨_, _, x2, ?_⟩⟩
    by_cases c2 : f0 P Q m
    · rw [if_pos c2]
      refine ⟨fun h0 => absurd h0 (by decide), fun _ => ?_⟩
      have k173 : ∀ (p6 : Int32), (p6 = 0 → ¬ apk P Q n m 0 0) → (¬ p6 = 0 → Q 0 < P 0 n + P 0 m ∧ Q 1 < P 1 n + P 1 m) → am_Go l D DA b sz (d + 1) M_R_isApart (173, [some (.ref 47), some (.int (zi n)), some (.int (zi m)), some (.int 0), none, none, some (.int p6)], [], (am_TT cu L, am_RR cu, σ)) r X' := by
        intro p6 a1 a2
        refine v_R_isApart_173 _ _ _ _ ⟨fun c => G0 ⟨c1, c2⟩ (a1 c), fun c => ?_⟩
        rw [hcl, hcm, e2, w2, g2]
        refine ⟨nn, nm, fun c9 => on (fun q => G1 (fun _ => q)) ⟨(a2 c).1, (a2 c).2, i2.mp c9⟩, fun c9 => G0 ⟨c1, c2⟩ (fun z => c9 (i2.mpr z.2.2))⟩
      have k113 : ∀ (p6 : Int32), (p6 = 0 → ¬ apk P Q n m 0 0) → (¬ p6 = 0 → Q 0 < P 0 n + P 0 m) → am_Go l D DA b sz (d + 1) M_R_isApart (113, [some (.ref 47), some (.int (zi n)), some (.int (zi m)), some (.int 0), some (.int 0), some (.int 0), some (.int p6)], [], (am_TT cu L, am_RR cu, σ)) r X' := by
        intro p6 a1 a2
        refine v_R_isApart_113 _ _ _ _ _ _ ⟨fun c => k173 0 (fun _ => a1 c) (fun z => absurd rfl z), fun c => ?_⟩
        rw [hcl, hcm, e0, e1, w0, w1, g1]
        have kk : am_Go l D DA b sz (d + 1) M_R_isApart (173, [some (.ref 47), some (.int (zi n)), some (.int (zi m)), some (.int 0), none, none, some (.int (if zi (P 1 n) + zi (P 1 m) ≤ zi (Q 1) then 0 else 1))], [], (am_TT cu L, am_RR cu, σ)) r X' := by
          by_cases c5 : P 1 n + P 1 m ≤ Q 1
          · rw [if_pos (i1.mpr c5)]
            exact k173 0 (fun _ z => absurd z.2.1 (by show ¬ Q 1 < P 1 n + P 1 m; omega)) (fun z => absurd rfl z)
          · rw [if_neg (fun z => c5 (i1.mp z))]
            exact k173 1 (fun z => absurd z (by decide)) (fun _ => ⟨a2 c, by omega⟩)
        exact ⟨fun _ => ⟨nn, ⟨fun _ => ⟨nm, kk⟩, fun h0 => absurd rfl h0⟩⟩, fun h0 => absurd rfl h0⟩
      refine v_R_isApart_58 _ _ _ _ _ ?_
      rw [hcl, hcm, e0, e1, w0, w1, g0]
      have kk : am_Go l D DA b sz (d + 1) M_R_isApart (113, [some (.ref 47), some (.int (zi n)), some (.int (zi m)), some (.int 0), some (.int 0), some (.int 0), some (.int (if zi (P 0 n) + zi (P 0 m) ≤ zi (Q 0) then 0 else 1))], [], (am_TT cu L, am_RR cu, σ)) r X' := by
        by_cases c5 : P 0 n + P 0 m ≤ Q 0
        · rw [if_pos (i0.mpr c5)]
          exact k113 0 (fun _ z => absurd z.1 (by omega)) (fun z => absurd rfl z)
        · rw [if_neg (fun z => c5 (i0.mp z))]
          exact k113 1 (fun z => absurd z (by decide)) (fun _ => by omega)
      exact ⟨fun _ => ⟨nn, ⟨fun _ => ⟨nm, kk⟩, fun h0 => absurd rfl h0⟩⟩, fun h0 => absurd rfl h0⟩
    · rw [if_neg c2]
      exact ⟨fun _ => on G1 (fun z => absurd z.2 c2), fun h0 => absurd rfl h0⟩
  · rw [if_neg c1]
    exact ⟨fun _ => on G1 (fun z => absurd z.1 c1), fun h0 => absurd rfl h0⟩
theorem ap_1 {r : Option Value} {X' : am_X} (hd : 1 ≤ d) (h : mOK σ N P Q) (hp : pOK N P Q) {n m : Nat} (hn : n < N) (hm : m < N) (G0 : f1 P Q n ∧ f0 P Q m → ¬ apk P Q n m 1 0 → r = some (.int 0) ∧ X' = (am_TT cu L, am_RR cu, σ))
    (G1 : (f1 P Q n ∧ f0 P Q m → apk P Q n m 1 0) → am_Go l D DA b sz d M_R_isApart (2, [some (.ref 47), some (.int (zi n)), some (.int (zi m)), some (.int 2), none, none, none], [], (am_TT cu L, am_RR cu, σ)) r X') :
    am_Go l D DA b sz d M_R_isApart (2, [some (.ref 47), some (.int (zi n)), some (.int (zi m)), some (.int 1), none, none, none], [], (am_TT cu L, am_RR cu, σ)) r X' := by
  obtain ⟨d, rfl⟩ : ∃ d', d = d' + 1 := ⟨d - 1, by omega⟩
  have hN := hp.1
  have hn20 : n < 20 := by omega
  have hm20 : m < 20 := by omega
  obtain ⟨g0, g1, g2, g3, g4, g5, g6, g7, g8⟩ := h.q
  obtain ⟨⟨e0, e1, e2, e3, e4, e5, e6⟩, e7, e8, e9, e10, e11, e12⟩ := h.row hn20
  obtain ⟨⟨w0, w1, w2, w3, w4, w5, w6⟩, w7, w8, w9, w10, w11, w12⟩ := h.row hm20
  have hb := hp.2.1 n hn
  have hb2 := hp.2.1 m hm
  have hq := hp.2.2.2
  unfold bOK at hb hb2
  unfold qOK at hq
  have hcl : Int32.toNatClampNeg (zi n) = n := zi_cl (by omega)
  have hcm : Int32.toNatClampNeg (zi m) = m := zi_cl (by omega)
  have nn : ¬ (zi (n : Int) < 0 ∨ 20 ≤ n) := by rw [zi_lt0 (by omega) (by omega)]; omega
  have nm : ¬ (zi (m : Int) < 0 ∨ 20 ≤ m) := by rw [zi_lt0 (by omega) (by omega)]; omega
  have x1 := c_R_fits1 (l := l) (D := D) (DA := DA) (b := b) (sz := sz) (d := d) (L := L) (cu := cu) h hp hn
  have x2 := c_R_fits0 (l := l) (D := D) (DA := DA) (b := b) (sz := sz) (d := d) (L := L) (cu := cu) h hp hm
  have on : ∀ {q : Prop}, (q → am_Go l D DA b sz (d + 1) M_R_isApart (2, [some (.ref 47), some (.int (zi n)), some (.int (zi m)), some (.int 2), none, none, none], [], (am_TT cu L, am_RR cu, σ)) r X') → q → am_Go l D DA b sz (d + 1) M_R_isApart (200, [some (.ref 47), some (.int (zi n)), some (.int (zi m)), some (.int 1), none, none, none], [], (am_TT cu L, am_RR cu, σ)) r X' := fun g q => v_R_isApart_200 _ _ _ (g q)
  have i0 : zi (P 1 n) + zi (P 0 m) ≤ zi (Q 0) ↔ P 1 n + P 0 m ≤ Q 0 := by rw [zi_add, zi_le (by omega) (by omega) (by omega) (by omega)]
  have i1 : zi (P 0 n) + zi (P 1 m) ≤ zi (Q 1) ↔ P 0 n + P 1 m ≤ Q 1 := by rw [zi_add, zi_le (by omega) (by omega) (by omega) (by omega)]
  have i2 : zi (Q 2) < zi (P 2 n) + zi (P 2 m) ↔ Q 2 < P 2 n + P 2 m := by rw [zi_add, zi_lt (by omega) (by omega) (by omega) (by omega)]
  refine v_R_isApart_2 _ _ _ ⟨fun h0 => absurd h0 (by decide), fun _ => ⟨_, _, x1, ?_⟩⟩
  by_cases c1 : f1 P Q n
  · rw [if_pos c1]
    refine ⟨fun h0 => absurd h0 (by decide), fun _ => ⟨_, _, x2, ?_⟩⟩
    by_cases c2 : f0 P Q m
    · rw [if_pos c2]
      refine ⟨fun h0 => absurd h0 (by decide), fun _ => ?_⟩
      have k173 : ∀ (p6 : Int32), (p6 = 0 → ¬ apk P Q n m 1 0) → (¬ p6 = 0 → Q 0 < P 1 n + P 0 m ∧ Q 1 < P 0 n + P 1 m) → am_Go l D DA b sz (d + 1) M_R_isApart (173, [some (.ref 47), some (.int (zi n)), some (.int (zi m)), some (.int 1), none, none, some (.int p6)], [], (am_TT cu L, am_RR cu, σ)) r X' := by
        intro p6 a1 a2
        refine v_R_isApart_173 _ _ _ _ ⟨fun c => G0 ⟨c1, c2⟩ (a1 c), fun c => ?_⟩
        rw [hcl, hcm, e2, w2, g2]
        refine ⟨nn, nm, fun c9 => on (fun q => G1 (fun _ => q)) ⟨(a2 c).1, (a2 c).2, i2.mp c9⟩, fun c9 => G0 ⟨c1, c2⟩ (fun z => c9 (i2.mpr z.2.2))⟩
      have k113 : ∀ (p6 : Int32), (p6 = 0 → ¬ apk P Q n m 1 0) → (¬ p6 = 0 → Q 0 < P 1 n + P 0 m) → am_Go l D DA b sz (d + 1) M_R_isApart (113, [some (.ref 47), some (.int (zi n)), some (.int (zi m)), some (.int 1), some (.int 1), some (.int 0), some (.int p6)], [], (am_TT cu L, am_RR cu, σ)) r X' := by
        intro p6 a1 a2
        refine v_R_isApart_113 _ _ _ _ _ _ ⟨fun c => k173 0 (fun _ => a1 c) (fun z => absurd rfl z), fun c => ?_⟩
        rw [hcl, hcm, e0, e1, w0, w1, g1]
        have kk : am_Go l D DA b sz (d + 1) M_R_isApart (173, [some (.ref 47), some (.int (zi n)), some (.int (zi m)), some (.int 1), none, none, some (.int (if zi (P 0 n) + zi (P 1 m) ≤ zi (Q 1) then 0 else 1))], [], (am_TT cu L, am_RR cu, σ)) r X' := by
          by_cases c5 : P 0 n + P 1 m ≤ Q 1
          · rw [if_pos (i1.mpr c5)]
            exact k173 0 (fun _ z => absurd z.2.1 (by show ¬ Q 1 < P 0 n + P 1 m; omega)) (fun z => absurd rfl z)
          · rw [if_neg (fun z => c5 (i1.mp z))]
            exact k173 1 (fun z => absurd z (by decide)) (fun _ => ⟨a2 c, by omega⟩)
        exact ⟨fun h0 => absurd h0 (by decide), fun _ => ⟨nn, ⟨fun _ => ⟨nm, kk⟩, fun h0 => absurd rfl h0⟩⟩⟩
      refine v_R_isApart_58 _ _ _ _ _ ?_
      rw [hcl, hcm, e0, e1, w0, w1, g0]
      have kk : am_Go l D DA b sz (d + 1) M_R_isApart (113, [some (.ref 47), some (.int (zi n)), some (.int (zi m)), some (.int 1), some (.int 1), some (.int 0), some (.int (if zi (P 1 n) + zi (P 0 m) ≤ zi (Q 0) then 0 else 1))], [], (am_TT cu L, am_RR cu, σ)) r X' := by
        by_cases c5 : P 1 n + P 0 m ≤ Q 0
        · rw [if_pos (i0.mpr c5)]
          exact k113 0 (fun _ z => absurd z.1 (by omega)) (fun z => absurd rfl z)
        · rw [if_neg (fun z => c5 (i0.mp z))]
          exact k113 1 (fun z => absurd z (by decide)) (fun _ => by omega)
      exact ⟨fun h0 => absurd h0 (by decide), fun _ => ⟨nn, ⟨fun _ => ⟨nm, kk⟩, fun h0 => absurd rfl h0⟩⟩⟩
    · rw [if_neg c2]
      exact ⟨fun _ => on G1 (fun z => absurd z.2 c2), fun h0 => absurd rfl h0⟩
  · rw [if_neg c1]
    exact ⟨fun _ => on G1 (fun z => absurd z.1 c1), fun h0 => absurd rfl h0⟩
theorem ap_2 {r : Option Value} {X' : am_X} (hd : 1 ≤ d) (h : mOK σ N P Q) (hp : pOK N P Q) {n m : Nat} (hn : n < N) (hm : m < N) (G0 : f0 P Q n ∧ f1 P Q m → ¬ apk P Q n m 0 1 → r = some (.int 0) ∧ X' = (am_TT cu L, am_RR cu, σ))
    (G1 : (f0 P Q n ∧ f1 P Q m → apk P Q n m 0 1) → am_Go l D DA b sz d M_R_isApart (2, [some (.ref 47), some (.int (zi n)), some (.int (zi m)), some (.int 3), none, none, none], [], (am_TT cu L, am_RR cu, σ)) r X') :
    am_Go l D DA b sz d M_R_isApart (2, [some (.ref 47), some (.int (zi n)), some (.int (zi m)), some (.int 2), none, none, none], [], (am_TT cu L, am_RR cu, σ)) r X' := by
  obtain ⟨d, rfl⟩ : ∃ d', d = d' + 1 := ⟨d - 1, by omega⟩
  have hN := hp.1
  have hn20 : n < 20 := by omega
  have hm20 : m < 20 := by omega
  obtain ⟨g0, g1, g2, g3, g4, g5, g6, g7, g8⟩ := h.q
  obtain ⟨⟨e0, e1, e2, e3, e4, e5, e6⟩, e7, e8, e9, e10, e11, e12⟩ := h.row hn20
  obtain ⟨⟨w0, w1, w2, w3, w4, w5, w6⟩, w7, w8, w9, w10, w11, w12⟩ := h.row hm20
  have hb := hp.2.1 n hn
  have hb2 := hp.2.1 m hm
  have hq := hp.2.2.2
  unfold bOK at hb hb2
  unfold qOK at hq
  have hcl : Int32.toNatClampNeg (zi n) = n := zi_cl (by omega)
  have hcm : Int32.toNatClampNeg (zi m) = m := zi_cl (by omega)
  have nn : ¬ (zi (n : Int) < 0 ∨ 20 ≤ n) := by rw [zi_lt0 (by omega) (by omega)]; omega
  have nm : ¬ (zi (m : Int) < 0 ∨ 20 ≤ m) := by rw [zi_lt0 (by omega) (by omega)]; omega
  have x1 := c_R_fits0 (l := l) (D := D) (DA := DA) (b := b) (sz := sz) (d := d) (L := L) (cu := cu) h hp hn
  have x2 := c_R_fits1 (l := l) (D := D) (DA := DA) (b := b) (sz := sz) (d := d) (L := L) (cu := cu) h hp hm
  have on : ∀ {q : Prop}, (q → am_Go l D DA b sz (d + 1) M_R_isApart (2, [some (.ref 47), some (.int (zi n)), some (.int (zi m)), some (.int 3), none, none, none], [], (am_TT cu L, am_RR cu, σ)) r X') → q → am_Go l D DA b sz (d + 1) M_R_isApart (200, [some (.ref 47), some (.int (zi n)), some (.int (zi m)), some (.int 2), none, none, none], [], (am_TT cu L, am_RR cu, σ)) r X' := fun g q => v_R_isApart_200 _ _ _ (g q)
  have i0 : zi (P 0 n) + zi (P 1 m) ≤ zi (Q 0) ↔ P 0 n + P 1 m ≤ Q 0 := by rw [zi_add, zi_le (by omega) (by omega) (by omega) (by omega)]
  have i1 : zi (P 1 n) + zi (P 0 m) ≤ zi (Q 1) ↔ P 1 n + P 0 m ≤ Q 1 := by rw [zi_add, zi_le (by omega) (by omega) (by omega) (by omega)]
  have i2 : zi (Q 2) < zi (P 2 n) + zi (P 2 m) ↔ Q 2 < P 2 n + P 2 m := by rw [zi_add, zi_lt (by omega) (by omega) (by omega) (by omega)]
  refine v_R_isApart_2 _ _ _ ⟨fun h0 => absurd h0 (by decide), fun _ => ⟨_, _, x1, ?_⟩⟩
  by_cases c1 : f0 P Q n
  · rw [if_pos c1]
    refine ⟨fun h0 => absurd h0 (by decide), fun _ => ⟨_, _, x2, ?_⟩⟩
    by_cases c2 : f1 P Q m
    · rw [if_pos c2]
      refine ⟨fun h0 => absurd h0 (by decide), fun _ => ?_⟩
      have k173 : ∀ (p6 : Int32), (p6 = 0 → ¬ apk P Q n m 0 1) → (¬ p6 = 0 → Q 0 < P 0 n + P 1 m ∧ Q 1 < P 1 n + P 0 m) → am_Go l D DA b sz (d + 1) M_R_isApart (173, [some (.ref 47), some (.int (zi n)), some (.int (zi m)), some (.int 2), none, none, some (.int p6)], [], (am_TT cu L, am_RR cu, σ)) r X' := by
        intro p6 a1 a2
        refine v_R_isApart_173 _ _ _ _ ⟨fun c => G0 ⟨c1, c2⟩ (a1 c), fun c => ?_⟩
        rw [hcl, hcm, e2, w2, g2]
        refine ⟨nn, nm, fun c9 => on (fun q => G1 (fun _ => q)) ⟨(a2 c).1, (a2 c).2, i2.mp c9⟩, fun c9 => G0 ⟨c1, c2⟩ (fun z => c9 (i2.mpr z.2.2))⟩
      have k113 : ∀ (p6 : Int32), (p6 = 0 → ¬ apk P Q n m 0 1) → (¬ p6 = 0 → Q 0 < P 0 n + P 1 m) → am_Go l D DA b sz (d + 1) M_R_isApart (113, [some (.ref 47), some (.int (zi n)), some (.int (zi m)), some (.int 2), some (.int 0), some (.int 1), some (.int p6)], [], (am_TT cu L, am_RR cu, σ)) r X' := by
        intro p6 a1 a2
        refine v_R_isApart_113 _ _ _ _ _ _ ⟨fun c => k173 0 (fun _ => a1 c) (fun z => absurd rfl z), fun c => ?_⟩
        rw [hcl, hcm, e0, e1, w0, w1, g1]
        have kk : am_Go l D DA b sz (d + 1) M_R_isApart (173, [some (.ref 47), some (.int (zi n)), some (.int (zi m)), some (.int 2), none, none, some (.int (if zi (P 1 n) + zi (P 0 m) ≤ zi (Q 1) then 0 else 1))], [], (am_TT cu L, am_RR cu, σ)) r X' := by
          by_cases c5 : P 1 n + P 0 m ≤ Q 1
          · rw [if_pos (i1.mpr c5)]
            exact k173 0 (fun _ z => absurd z.2.1 (by show ¬ Q 1 < P 1 n + P 0 m; omega)) (fun z => absurd rfl z)
          · rw [if_neg (fun z => c5 (i1.mp z))]
            exact k173 1 (fun z => absurd z (by decide)) (fun _ => ⟨a2 c, by omega⟩)
        exact ⟨fun _ => ⟨nn, ⟨fun h0 => absurd h0 (by decide), fun _ => ⟨nm, kk⟩⟩⟩, fun h0 => absurd rfl h0⟩
      refine v_R_isApart_58 _ _ _ _ _ ?_
      rw [hcl, hcm, e0, e1, w0, w1, g0]
      have kk : am_Go l D DA b sz (d + 1) M_R_isApart (113, [some (.ref 47), some (.int (zi n)), some (.int (zi m)), some (.int 2), some (.int 0), some (.int 1), some (.int (if zi (P 0 n) + zi (P 1 m) ≤ zi (Q 0) then 0 else 1))], [], (am_TT cu L, am_RR cu, σ)) r X' := by
        by_cases c5 : P 0 n + P 1 m ≤ Q 0
        · rw [if_pos (i0.mpr c5)]
          exact k113 0 (fun _ z => absurd z.1 (by omega)) (fun z => absurd rfl z)
        · rw [if_neg (fun z => c5 (i0.mp z))]
          exact k113 1 (fun z => absurd z (by decide)) (fun _ => by omega)
      exact ⟨fun _ => ⟨nn, ⟨fun h0 => absurd h0 (by decide), fun _ => ⟨nm, kk⟩⟩⟩, fun h0 => absurd rfl h0⟩
    · rw [if_neg c2]
      exact ⟨fun _ => on G1 (fun z => absurd z.2 c2), fun h0 => absurd rfl h0⟩
  · rw [if_neg c1]
    exact ⟨fun _ => on G1 (fun z => absurd z.1 c1), fun h0 => absurd rfl h0⟩
theorem ap_3 {r : Option Value} {X' : am_X} (hd : 1 ≤ d) (h : mOK σ N P Q) (hp : pOK N P Q) {n m : Nat} (hn : n < N) (hm : m < N) (G0 : f1 P Q n ∧ f1 P Q m → ¬ apk P Q n m 1 1 → r = some (.int 0) ∧ X' = (am_TT cu L, am_RR cu, σ))
    (G1 : (f1 P Q n ∧ f1 P Q m → apk P Q n m 1 1) → am_Go l D DA b sz d M_R_isApart (2, [some (.ref 47), some (.int (zi n)), some (.int (zi m)), some (.int 4), none, none, none], [], (am_TT cu L, am_RR cu, σ)) r X') :
    am_Go l D DA b sz d M_R_isApart (2, [some (.ref 47), some (.int (zi n)), some (.int (zi m)), some (.int 3), none, none, none], [], (am_TT cu L, am_RR cu, σ)) r X' := by
  obtain ⟨d, rfl⟩ : ∃ d', d = d' + 1 := ⟨d - 1, by omega⟩
  have hN := hp.1
  have hn20 : n < 20 := by omega
  have hm20 : m < 20 := by omega
  obtain ⟨g0, g1, g2, g3, g4, g5, g6, g7, g8⟩ := h.q
  obtain ⟨⟨e0, e1, e2, e3, e4, e5, e6⟩, e7, e8, e9, e10, e11, e12⟩ := h.row hn20
  obtain ⟨⟨w0, w1, w2, w3, w4, w5, w6⟩, w7, w8, w9, w10, w11, w12⟩ := h.row hm20
  have hb := hp.2.1 n hn
  have hb2 := hp.2.1 m hm
  have hq := hp.2.2.2
  unfold bOK at hb hb2
  unfold qOK at hq
  have hcl : Int32.toNatClampNeg (zi n) = n := zi_cl (by omega)
  have hcm : Int32.toNatClampNeg (zi m) = m := zi_cl (by omega)
  have nn : ¬ (zi (n : Int) < 0 ∨ 20 ≤ n) := by rw [zi_lt0 (by omega) (by omega)]; omega
  have nm : ¬ (zi (m : Int) < 0 ∨ 20 ≤ m) := by rw [zi_lt0 (by omega) (by omega)]; omega
  have x1 := c_R_fits1 (l := l) (D := D) (DA := DA) (b := b) (sz := sz) (d := d) (L := L) (cu := cu) h hp hn
  have x2 := c_R_fits1 (l := l) (D := D) (DA := DA) (b := b) (sz := sz) (d := d) (L := L) (cu := cu) h hp hm
  have on : ∀ {q : Prop}, (q → am_Go l D DA b sz (d + 1) M_R_isApart (2, [some (.ref 47), some (.int (zi n)), some (.int (zi m)), some (.int 4), none, none, none], [], (am_TT cu L, am_RR cu, σ)) r X') → q → am_Go l D DA b sz (d + 1) M_R_isApart (200, [some (.ref 47), some (.int (zi n)), some (.int (zi m)), some (.int 3), none, none, none], [], (am_TT cu L, am_RR cu, σ)) r X' := fun g q => v_R_isApart_200 _ _ _ (g q)
  have i0 : zi (P 1 n) + zi (P 1 m) ≤ zi (Q 0) ↔ P 1 n + P 1 m ≤ Q 0 := by rw [zi_add, zi_le (by omega) (by omega) (by omega) (by omega)]
  have i1 : zi (P 0 n) + zi (P 0 m) ≤ zi (Q 1) ↔ P 0 n + P 0 m ≤ Q 1 := by rw [zi_add, zi_le (by omega) (by omega) (by omega) (by omega)]
  have i2 : zi (Q 2) < zi (P 2 n) + zi (P 2 m) ↔ Q 2 < P 2 n + P 2 m := by rw [zi_add, zi_lt (by omega) (by omega) (by omega) (by omega)]
  refine v_R_isApart_2 _ _ _ ⟨fun h0 => absurd h0 (by decide), fun _ => ⟨_, _, x1, ?_⟩⟩
  by_cases c1 : f1 P Q n
  · rw [if_pos c1]
    refine ⟨fun h0 => absurd h0 (by decide), fun _ => ⟨_, _, x2, ?_⟩⟩
    by_cases c2 : f1 P Q m
    · rw [if_pos c2]
      refine ⟨fun h0 => absurd h0 (by decide), fun _ => ?_⟩
      have k173 : ∀ (p6 : Int32), (p6 = 0 → ¬ apk P Q n m 1 1) → (¬ p6 = 0 → Q 0 < P 1 n + P 1 m ∧ Q 1 < P 0 n + P 0 m) → am_Go l D DA b sz (d + 1) M_R_isApart (173, [some (.ref 47), some (.int (zi n)), some (.int (zi m)), some (.int 3), none, none, some (.int p6)], [], (am_TT cu L, am_RR cu, σ)) r X' := by
        intro p6 a1 a2
        refine v_R_isApart_173 _ _ _ _ ⟨fun c => G0 ⟨c1, c2⟩ (a1 c), fun c => ?_⟩
        rw [hcl, hcm, e2, w2, g2]
        refine ⟨nn, nm, fun c9 => on (fun q => G1 (fun _ => q)) ⟨(a2 c).1, (a2 c).2, i2.mp c9⟩, fun c9 => G0 ⟨c1, c2⟩ (fun z => c9 (i2.mpr z.2.2))⟩
      have k113 : ∀ (p6 : Int32), (p6 = 0 → ¬ apk P Q n m 1 1) → (¬ p6 = 0 → Q 0 < P 1 n + P 1 m) → am_Go l D DA b sz (d + 1) M_R_isApart (113, [some (.ref 47), some (.int (zi n)), some (.int (zi m)), some (.int 3), some (.int 1), some (.int 1), some (.int p6)], [], (am_TT cu L, am_RR cu, σ)) r X' := by
        intro p6 a1 a2
        refine v_R_isApart_113 _ _ _ _ _ _ ⟨fun c => k173 0 (fun _ => a1 c) (fun z => absurd rfl z), fun c => ?_⟩
        rw [hcl, hcm, e0, e1, w0, w1, g1]
        have kk : am_Go l D DA b sz (d + 1) M_R_isApart (173, [some (.ref 47), some (.int (zi n)), some (.int (zi m)), some (.int 3), none, none, some (.int (if zi (P 0 n) + zi (P 0 m) ≤ zi (Q 1) then 0 else 1))], [], (am_TT cu L, am_RR cu, σ)) r X' := by
          by_cases c5 : P 0 n + P 0 m ≤ Q 1
          · rw [if_pos (i1.mpr c5)]
            exact k173 0 (fun _ z => absurd z.2.1 (by show ¬ Q 1 < P 0 n + P 0 m; omega)) (fun z => absurd rfl z)
          · rw [if_neg (fun z => c5 (i1.mp z))]
            exact k173 1 (fun z => absurd z (by decide)) (fun _ => ⟨a2 c, by omega⟩)
        exact ⟨fun h0 => absurd h0 (by decide), fun _ => ⟨nn, ⟨fun h0 => absurd h0 (by decide), fun _ => ⟨nm, kk⟩⟩⟩⟩
      refine v_R_isApart_58 _ _ _ _ _ ?_
      rw [hcl, hcm, e0, e1, w0, w1, g0]
      have kk : am_Go l D DA b sz (d + 1) M_R_isApart (113, [some (.ref 47), some (.int (zi n)), some (.int (zi m)), some (.int 3), some (.int 1), some (.int 1), some (.int (if zi (P 1 n) + zi (P 1 m) ≤ zi (Q 0) then 0 else 1))], [], (am_TT cu L, am_RR cu, σ)) r X' := by
        by_cases c5 : P 1 n + P 1 m ≤ Q 0
        · rw [if_pos (i0.mpr c5)]
          exact k113 0 (fun _ z => absurd z.1 (by omega)) (fun z => absurd rfl z)
        · rw [if_neg (fun z => c5 (i0.mp z))]
          exact k113 1 (fun z => absurd z (by decide)) (fun _ => by omega)
      exact ⟨fun h0 => absurd h0 (by decide), fun _ => ⟨nn, ⟨fun h0 => absurd h0 (by decide), fun _ => ⟨nm, kk⟩⟩⟩⟩
    · rw [if_neg c2]
      exact ⟨fun _ => on G1 (fun z => absurd z.2 c2), fun h0 => absurd rfl h0⟩
  · rw [if_neg c1]
    exact ⟨fun _ => on G1 (fun z => absurd z.1 c1), fun h0 => absurd rfl h0⟩
theorem c_R_isApart (hd : 1 ≤ d) (h : mOK σ N P Q) (hp : pOK N P Q) {n m : Nat} (hn : n < N) (hm : m < N) (an' : f0 P Q n ∨ f1 P Q n) (am' : f0 P Q m ∨ f1 P Q m) : GG l D DA b sz d L cu M_R_isApart [some (.ref 47), some (.int (zi n)), some (.int (zi m)), none, none, none, none] σ (some (.int (if apr P Q n m then 1 else 0))) σ := by
  have hi := apr_iff an' am'
  have key : am_Go l D DA b sz d M_R_isApart (2, [some (.ref 47), some (.int (zi n)), some (.int (zi m)), some (.int 0), none, none, none], [], (am_TT cu L, am_RR cu, σ)) (some (.int (if apr P Q n m then 1 else 0))) (am_TT cu L, am_RR cu, σ) := by
    refine ap_0 hd h hp hn hm (fun a c => ⟨by rw [if_neg (fun z => c ((hi.mp z).1 a))], rfl⟩) (fun q0 => ?_)
    refine ap_1 hd h hp hn hm (fun a c => ⟨by rw [if_neg (fun z => c ((hi.mp z).2.1 a))], rfl⟩) (fun q1 => ?_)
    refine ap_2 hd h hp hn hm (fun a c => ⟨by rw [if_neg (fun z => c ((hi.mp z).2.2.1 a))], rfl⟩) (fun q2 => ?_)
    refine ap_3 hd h hp hn hm (fun a c => ⟨by rw [if_neg (fun z => c ((hi.mp z).2.2.2 a))], rfl⟩) (fun q3 => ?_)
    rw [if_pos (hi.mpr ⟨q0, q1, q2, q3⟩)]
    obtain ⟨d, rfl⟩ : ∃ d', d = d' + 1 := ⟨d - 1, by omega⟩
    exact v_R_isApart_2 _ _ _ ⟨fun _ => (by first | exact ⟨rfl, rfl⟩ | exact ⟨trivial, trivial⟩ | exact ⟨trivial, rfl⟩ | exact ⟨rfl, trivial⟩ | trivial), fun h0 => absurd (by decide) h0⟩
  obtain ⟨d, rfl⟩ : ∃ d', d = d' + 1 := ⟨d - 1, by omega⟩
  exact v_R_isApart_0 _ _ key
end TRK
