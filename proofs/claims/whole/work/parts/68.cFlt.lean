/-! the class: what is wrong with the tried box; wrong, place -/
section CFL
variable {l : Launch} {D : va_G} {DA : Nat → ClassId} {b sz d L : Nat} {cu : Bool} {σ σ' : Nat → Nat → Int32} {N M B : Nat} {P R : Nat → Nat → Int} {Q : Nat → Int}
theorem fo_none {f : Nat → Nat → Nat} {o : Nat} : ∀ {k : Nat}, (∀ i a, i < k → f i a = a) → fo f o k = o
  | 0, _ => rfl
  | k + 1, h => by
    show f k (fo f o k) = o
    rw [h k _ (by omega)]
    exact fo_none (fun i a hi => h i a (by omega))
theorem fo_some {f : Nat → Nat → Nat} {o c : Nat} : ∀ {k : Nat}, (∀ i a, i < k → f i a = a ∨ f i a = a ||| c) → (∃ i, i < k ∧ ∀ a, f i a = a ||| c) → fo f o k = o ||| c
  | 0, _, ⟨i, hi, _⟩ => absurd hi (by omega)
  | k + 1, h, ⟨i, hi, hs⟩ => by
    show f k (fo f o k) = o ||| c
    have hoc : (o ||| c) ||| c = o ||| c := by rw [Nat.or_assoc, Nat.or_self]
    by_cases e : i = k
    · subst e
      have h2 : fo f o i = o ∨ fo f o i = o ||| c := by
        refine fo_inv (fun _ (a : Nat) => a = o ∨ a = o ||| c) (Or.inl rfl) (fun j x hj hx => ?_)
        rcases h j x (by omega) with h9 | h9
        · rw [h9]; exact hx
        · rw [h9]
          rcases hx with h8 | h8
          · rw [h8]; exact Or.inr rfl
          · rw [h8]; exact Or.inr hoc
      rw [hs]
      rcases h2 with h9 | h9
      · rw [h9]
      · rw [h9, hoc]
    · have ih := fo_some (f := f) (o := o) (c := c) (k := k) (fun j a hj => h j a (by omega)) ⟨i, by omega, hs⟩
      rw [ih]
      rcases h k (o ||| c) (by omega) with h9 | h9
      · exact h9
      · rw [h9, hoc]
theorem c_isInside (h : cOK σ N P Q M) (hp : pOK N P Q) {n : Nat} (hn : n < N) (ha : bAt σ P n) : GG l D DA b sz d L cu M_Hold_isInside [some (.ref 2), some (.ref (19 + n))] σ (some (.int (zi (if outB P Q n = 0 then 1 else 0)))) σ := by
  have hN := hp.1
  obtain ⟨g0, g1, g2, g3, g4, g5, g6, g7, g8⟩ := h.q
  obtain ⟨e8, e9, e10, e11, e12, e13, e14⟩ := ha
  have hb := hp.2.1 n hn
  have l1 := b_lng hb
  have w1 := b_wdt hb
  have ht : tp P n = P 11 n + P 2 n := rfl
  have hq := hp.2.2.2
  unfold qOK at hq
  unfold bOK at hb
  refine v_Hold_isInside_0 n (by omega) ?_
  simp (disch := omega) only [g0, g1, g2, e11, e12, e13, zi_lt]
  unfold outB
  by_cases c1 : Q 0 < P 9 n + lng P n
  · simp only [if_pos c1]
    exact ⟨(by first | exact Or.inl rfl | exact Or.inr rfl | exact Or.inl trivial | exact Or.inr trivial), (by first | exact ⟨rfl, rfl⟩ | exact ⟨trivial, trivial⟩ | exact ⟨trivial, rfl⟩ | exact ⟨rfl, trivial⟩ | trivial)⟩
  · simp only [if_neg c1]
    by_cases c2 : Q 1 < P 10 n + wdt P n
    · simp only [if_pos c2]
      exact ⟨(by first | exact Or.inl rfl | exact Or.inr rfl | exact Or.inl trivial | exact Or.inr trivial), (by first | exact ⟨rfl, rfl⟩ | exact ⟨trivial, trivial⟩ | exact ⟨trivial, rfl⟩ | exact ⟨rfl, trivial⟩ | trivial)⟩
    · simp only [if_neg c2]
      by_cases c3 : P 11 n + P 2 n ≤ Q 2
      · simp only [if_pos c3, if_neg (show ¬ Q 2 < tp P n by omega)]
        exact ⟨(by first | exact Or.inl rfl | exact Or.inr rfl | exact Or.inl trivial | exact Or.inr trivial), (by first | exact ⟨rfl, rfl⟩ | exact ⟨trivial, trivial⟩ | exact ⟨trivial, rfl⟩ | exact ⟨rfl, trivial⟩ | trivial)⟩
      · simp only [if_neg c3, if_pos (show Q 2 < tp P n by omega)]
        exact ⟨(by first | exact Or.inl rfl | exact Or.inr rfl | exact Or.inl trivial | exact Or.inr trivial), (by first | exact ⟨rfl, rfl⟩ | exact ⟨trivial, trivial⟩ | exact ⟨trivial, rfl⟩ | exact ⟨rfl, trivial⟩ | trivial)⟩
theorem area_pos {n m : Nat} (c : ¬ (0 < com (P 9 n) (lng P n) (P 9 m) (lng P m) ∧ 0 < com (P 10 n) (wdt P n) (P 10 m) (wdt P m))) : area P n m = 0 := by
  have h1 := com_nn (P 9 n) (lng P n) (P 9 m) (lng P m)
  have h2 := com_nn (P 10 n) (wdt P n) (P 10 m) (wdt P m)
  unfold area
  by_cases e : com (P 9 n) (lng P n) (P 9 m) (lng P m) = 0
  · rw [e, Int.zero_mul]
  · rw [show com (P 10 n) (wdt P n) (P 10 m) (wdt P m) = 0 by omega, Int.mul_zero]
theorem area_iff {n m : Nat} : 0 < area P n m ↔ (0 < com (P 9 n) (lng P n) (P 9 m) (lng P m) ∧ 0 < com (P 10 n) (wdt P n) (P 10 m) (wdt P m)) := by
  constructor
  · intro h
    exact Classical.byContradiction fun c => by rw [area_pos c] at h; omega
  · intro h
    exact Int.mul_pos h.1 h.2
theorem nr_spec (hN : N ≤ 20) (hb : ∀ m, m < N → bOK P m) {n : Nat} (hn : n < N) {m : Nat} : (mX P N n &&& mY P N n).testBit m = true ↔ (m < N ∧ P 8 m ≠ 0 ∧ 0 < area P n m) := by
  rw [Nat.testBit_and, Bool.and_eq_true, (mX_spec hN hb hn).2 m, (mY_spec hN hb hn).2 m, area_iff]
  constructor
  · rintro ⟨a, c⟩; exact ⟨a.1, a.2.1, a.2.2, c.2.2⟩
  · rintro ⟨a, c, e, f⟩; exact ⟨⟨a, c, e⟩, a, c, f⟩
theorem bs_spec (hN : N ≤ 20) (hb : ∀ m, m < N → bOK P m) {n : Nat} (hn : n < N) {m : Nat} : (mY P N n &&& mZ P N n).testBit m = true ↔ (m < N ∧ P 8 m ≠ 0 ∧ 0 < com (P 10 n) (wdt P n) (P 10 m) (wdt P m) ∧ 0 < com (P 11 n) (P 2 n) (P 11 m) (P 2 m)) := by
  rw [Nat.testBit_and, Bool.and_eq_true, (mY_spec hN hb hn).2 m, (mZ_spec hN hb hn).2 m]
  constructor
  · rintro ⟨a, c⟩; exact ⟨a.1, a.2.1, a.2.2, c.2.2⟩
  · rintro ⟨a, c, e, f⟩; exact ⟨⟨a, c, e⟩, a, c, f⟩
theorem and_lt {a c : Nat} (h : a < 2 ^ 20) : a &&& c < 2 ^ 20 := Nat.lt_of_le_of_lt Nat.and_le_left h
theorem lw_mul {n : Nat} : Q 3 * lng P n * wdt P n = Q 3 * P 0 n * P 1 n := by
  unfold lng wdt
  by_cases e : P 12 n = 0
  · rw [if_pos e, if_pos e]
  · rw [if_neg e, if_neg e, Int.mul_assoc, Int.mul_comm (P 1 n), ← Int.mul_assoc]
theorem c_isHeld (hd : 1 ≤ d) (h : cOK σ N P Q M) (hp : pOK N P Q) {n : Nat} (hn : n < N) (h8 : P 8 n = 0) (ha : bAt σ P n) (hk : mOKc σ P N n) : GG l D DA b sz d L cu M_Hold_isHeld [some (.ref 2), some (.ref (19 + n)), none, none, none] σ (some (.int (zi (if b2W P Q N n = 0 then 1 else 0)))) σ := by
  obtain ⟨d, rfl⟩ : ∃ d', d = d' + 1 := ⟨d - 1, by omega⟩
  have hN := hp.1
  have hn20 : n < 20 := by omega
  obtain ⟨g0, g1, g2, g3, g4, g5, g6, g7, g8⟩ := h.q
  have ha' := ha
  obtain ⟨e8, e9, e10, e11, e12, e13, e14⟩ := ha
  obtain ⟨r0, r1, r2, r3, r4, r5, r6, r7⟩ := h.row hn20
  have hbn := hp.2.1 n hn
  have hq := hp.2.2.2
  unfold qOK at hq
  have hz : 0 ≤ P 11 n ∧ P 11 n ≤ 40 := by unfold bOK at hbn; omega
  have hnm := and_lt (c := mY P N n) (mX_spec hN hp.2.1 hn).1
  refine v_Hold_isHeld_0 n hn20 ?_
  rw [e10, zi_eq0 (by omega) (by omega), hk.1, hk.2.1, mk_andN]
  unfold b2W
  refine ⟨fun c0 => ?_, fun c0 => ?_⟩
  · rw [if_pos (show P 11 n ≤ 0 by omega)]
    exact (by first | exact ⟨rfl, rfl⟩ | exact ⟨trivial, trivial⟩ | exact ⟨trivial, rfl⟩ | exact ⟨rfl, trivial⟩ | trivial)
  · rw [if_neg (show ¬ P 11 n ≤ 0 by omega)]
    refine fo_loop (fun i x => am_Go l D DA b sz (d + 1) M_Hold_isHeld (24, [some (.ref 2), some (.ref (19 + n)), some (.int (zi x)), some (.int (zi ((mX P N n &&& mY P N n : Nat) : Int))), some (.int (zi i))], [], (am_TT cu L, am_RR cu, σ)) (some (.int (zi (if (if Q 3 * lng P n * wdt P n ≤ 100 * sm (stn P n) N then 0 else 4) = 0 then 1 else 0)))) (am_TT cu L, am_RR cu, σ)) (fun m x => x + stn P n m) 0 N ?_ (fun i x hi hx ih => ?_)
    · have hsm : ∀ k, fo (fun m x => x + stn P n m) 0 k = sm (stn P n) k := by
        intro k
        induction k with
        | zero => rfl
        | succ k ihk => show fo (fun m x => x + stn P n m) 0 k + stn P n k = _; rw [ihk]; rfl
      rw [hsm, lw_mul]
      have hs := sm_stn hp hn (Nat.le_refl N)
      have hb0 : (1 ≤ P 0 n ∧ P 0 n ≤ 12) ∧ (1 ≤ P 1 n ∧ P 1 n ≤ 12) := by unfold bOK at hbn; omega
      have m1 := mul_bd (a := Q 3) (c := P 0 n) (A := 100) (C := 12) (by omega) (by omega) (by omega) (by omega)
      have m0 := Int.mul_nonneg (a := Q 3) (b := P 0 n) (by omega) (by omega)
      have m2 := mul_bd (a := Q 3 * P 0 n) (c := P 1 n) (A := 1200) (C := 12) (by omega) (by omega) (by omega) (by omega)
      refine v_Hold_isHeld_24 _ _ _ n hn20 ?_
      rw [show (100 : Int32) = zi 100 from rfl, g3, r0, r1]
      simp (disch := omega) only [h.1, zi_le, zi_mul, zi_lt]
      refine ⟨fun _ => ?_, fun h0 => absurd h0 (by omega)⟩
      by_cases c : Q 3 * P 0 n * P 1 n ≤ 100 * sm (stn P n) N
      · simp only [if_pos c, if_neg (show ¬ 100 * sm (stn P n) N < Q 3 * P 0 n * P 1 n by omega)]
        exact ⟨(by first | exact Or.inl rfl | exact Or.inr rfl | exact Or.inl trivial | exact Or.inr trivial), (by first | exact ⟨rfl, rfl⟩ | exact ⟨trivial, trivial⟩ | exact ⟨trivial, rfl⟩ | exact ⟨rfl, trivial⟩ | trivial)⟩
      · simp only [if_neg c, if_pos (show 100 * sm (stn P n) N < Q 3 * P 0 n * P 1 n by omega)]
        exact ⟨(by first | exact Or.inl rfl | exact Or.inr rfl | exact Or.inl trivial | exact Or.inr trivial), (by first | exact ⟨rfl, rfl⟩ | exact ⟨trivial, trivial⟩ | exact ⟨trivial, rfl⟩ | exact ⟨rfl, trivial⟩ | trivial)⟩
    · have hi20 : i < 20 := by omega
      have hs9 := nr_spec hN hp.2.1 hn (m := i)
      refine v_Hold_isHeld_24 _ _ _ n hn20 ?_
      rw [mk_bit0 (by omega) (by omega)]
      simp (disch := omega) only [h.1, zi_le, zi_cl, zi_lt0]
      refine ⟨fun h0 => absurd h0 (by omega), fun _ => ⟨fun c => ?_, fun c => ?_⟩⟩
      · have hz9 : stn P n i = 0 := by
          by_cases e : P 8 i = 0
          · exact stn_out e
          · have h9 : ¬ 0 < area P n i := fun z => by rw [hs9.mpr ⟨hi, e, z⟩] at c; cases c
            have h7 := area_bd (c := i) hbn
            unfold stn
            repeat' split
            all_goals omega
        rw [hz9, Int.add_zero] at ih
        rw [zi_s1]
        exact ih
      · have hc9 : (mX P N n &&& mY P N n).testBit i = true := by cases h9 : (mX P N n &&& mY P N n).testBit i; exact absurd h9 c; rfl
        obtain ⟨-, c8, -⟩ := hs9.mp hc9
        refine ⟨by omega, _, _, c_areaOn hn20 hi20 hbn (hp.2.1 i hi) ha' (h.2.2.2.2.2 i hi c8), ?_⟩
        rw [aon_stn' hbn c8, zi_add, zi_s1]
        exact ih
/-- one that is in is in the way -/
abbrev iwp (P : Nat → Nat → Int) (n m : Nat) : Prop := P 8 m ≠ 0 ∧ iw P n m ≠ 0
theorem iwp_iff {n m : Nat} : iwp P n m ↔ P 8 m ≠ 0 ∧ P 5 n ≠ P 5 m ∧ ((P 5 n ≤ P 5 m ∧ ((P 9 n + lng P n ≤ P 9 m ∧ 0 < com (P 10 n) (wdt P n) (P 10 m) (wdt P m) ∧ 0 < com (P 11 n) (P 2 n) (P 11 m) (P 2 m)) ∨ (tp P n ≤ P 11 m ∧ 0 < area P n m))) ∨ (P 5 m < P 5 n ∧ ((P 9 m + lng P m ≤ P 9 n ∧ 0 < com (P 10 n) (wdt P n) (P 10 m) (wdt P m) ∧ 0 < com (P 11 n) (P 2 n) (P 11 m) (P 2 m)) ∨ (tp P m ≤ P 11 n ∧ 0 < area P n m)))) := by
  unfold iwp iw iwB
  by_cases c1 : P 5 n = P 5 m
  · rw [if_pos c1]; constructor
    · rintro ⟨_, h⟩; exact absurd rfl h
    · rintro ⟨_, h, _⟩; exact absurd c1 h
  · rw [if_neg c1]
    by_cases c2 : P 5 n ≤ P 5 m
    · rw [if_pos c2]
      by_cases c3 : P 9 n + lng P n ≤ P 9 m ∧ 0 < com (P 10 n) (wdt P n) (P 10 m) (wdt P m) ∧ 0 < com (P 11 n) (P 2 n) (P 11 m) (P 2 m)
      · rw [if_pos c3]
        exact ⟨fun h => ⟨h.1, c1, Or.inl ⟨c2, Or.inl c3⟩⟩, fun h => ⟨h.1, by decide⟩⟩
      · rw [if_neg c3]
        by_cases c4 : tp P n ≤ P 11 m ∧ 0 < area P n m
        · rw [if_pos c4]
          exact ⟨fun h => ⟨h.1, c1, Or.inl ⟨c2, Or.inr c4⟩⟩, fun h => ⟨h.1, by decide⟩⟩
        · rw [if_neg c4]
          exact ⟨fun h => absurd rfl h.2, fun h => by
            rcases h.2.2 with z | z
            · rcases z.2 with z | z
              · exact absurd z c3
              · exact absurd z c4
            · exact absurd z.1 (by omega)⟩
    · rw [if_neg c2]
      by_cases c3 : P 9 m + lng P m ≤ P 9 n ∧ 0 < com (P 10 n) (wdt P n) (P 10 m) (wdt P m) ∧ 0 < com (P 11 n) (P 2 n) (P 11 m) (P 2 m)
      · rw [if_pos c3]
        exact ⟨fun h => ⟨h.1, c1, Or.inr ⟨by omega, Or.inl c3⟩⟩, fun h => ⟨h.1, by decide⟩⟩
      · rw [if_neg c3]
        by_cases c4 : tp P m ≤ P 11 n ∧ 0 < area P n m
        · rw [if_pos c4]
          exact ⟨fun h => ⟨h.1, c1, Or.inr ⟨by omega, Or.inr c4⟩⟩, fun h => ⟨h.1, by decide⟩⟩
        · rw [if_neg c4]
          exact ⟨fun h => absurd rfl h.2, fun h => by
            rcases h.2.2 with z | z
            · exact absurd z.1 c2
            · rcases z.2 with z | z
              · exact absurd z c3
              · exact absurd z c4⟩
theorem b01 (p : Bool) : ((if p then 1 else 0 : Nat) : Int) = 0 ∨ ((if p then 1 else 0 : Nat) : Int) = 1 := by cases p <;> simp
theorem b01_iff {p : Bool} {q : Prop} (h : p = true ↔ q) : ((if p then 1 else 0 : Nat) : Int) = 1 ↔ q := by
  rw [← h]
  cases p <;> simp
theorem iw_tree {G R1 : Prop} {al be ga dn di xn xi zn zi en ei tn ti : Int} (ja : al = 0 ∨ al = 1) (jb : be = 0 ∨ be = 1) (jg : ga = 0 ∨ ga = 1) (kg : ga = 1 ↔ (al = 1 ∨ be = 1)) (hG : ¬ (dn ≠ di ∧ ((dn ≤ di ∧ ((en ≤ xi ∧ al = 1) ∨ (tn ≤ zi ∧ be = 1))) ∨ (di < dn ∧ ((ei ≤ xn ∧ al = 1) ∨ (ti ≤ zn ∧ be = 1))))) → G) (hR : (dn ≠ di ∧ ((dn ≤ di ∧ ((en ≤ xi ∧ al = 1) ∨ (tn ≤ zi ∧ be = 1))) ∨ (di < dn ∧ ((ei ≤ xn ∧ al = 1) ∨ (ti ≤ zn ∧ be = 1))))) → R1) :
    (((ga = 0) → (G)) ∧ (¬ (ga = 0) → (((di = dn) → (G)) ∧ (¬ (di = dn) → (((dn ≤ di) → (((dn ≤ di) → (((al = 0) → (((be = 0) → (G)) ∧ (¬ (be = 0) → (((zi < tn) → (G)) ∧ (¬ (zi < tn) → (R1)))))) ∧ (¬ (al = 0) → (((xi < en) → (((be = 0) → (G)) ∧ (¬ (be = 0) → (((zi < tn) → (G)) ∧ (¬ (zi < tn) → (R1)))))) ∧ (¬ (xi < en) → (R1)))))) ∧ (¬ (dn ≤ di) → (((al = 0) → (((be = 0) → (G)) ∧ (¬ (be = 0) → (((zn < tn) → (G)) ∧ (¬ (zn < tn) → (R1)))))) ∧ (¬ (al = 0) → (((xn < en) → (((be = 0) → (G)) ∧ (¬ (be = 0) → (((zn < tn) → (G)) ∧ (¬ (zn < tn) → (R1)))))) ∧ (¬ (xn < en) → (R1)))))))) ∧ (¬ (dn ≤ di) → (((dn ≤ di) → (((al = 0) → (((be = 0) → (G)) ∧ (¬ (be = 0) → (((zi < ti) → (G)) ∧ (¬ (zi < ti) → (R1)))))) ∧ (¬ (al = 0) → (((xi < ei) → (((be = 0) → (G)) ∧ (¬ (be = 0) → (((zi < ti) → (G)) ∧ (¬ (zi < ti) → (R1)))))) ∧ (¬ (xi < ei) → (R1)))))) ∧ (¬ (dn ≤ di) → (((al = 0) → (((be = 0) → (G)) ∧ (¬ (be = 0) → (((zn < ti) → (G)) ∧ (¬ (zn < ti) → (R1)))))) ∧ (¬ (al = 0) → (((xn < ei) → (((be = 0) → (G)) ∧ (¬ (be = 0) → (((zn < ti) → (G)) ∧ (¬ (zn < ti) → (R1)))))) ∧ (¬ (xn < ei) → (R1))))))))))))) := by
  repeat' (first | with_reducible (apply And.intro) | intro _)
  all_goals first | (refine hG ?_; omega) | (refine hR ?_; omega) | (exfalso; omega)
set_option maxHeartbeats 4000000 in
theorem c_isInWay (h : cOK σ N P Q M) (hp : pOK N P Q) {n : Nat} (hn : n < N) (ha : bAt σ P n) (hk : mOKc σ P N n) : GG l D DA b sz d L cu M_Hold_isInWay [some (.ref 2), some (.ref (19 + n)), none, none, none, none, none, none] σ (some (.int (zi (an (iwp P n) N 0)))) σ := by
  have hN := hp.1
  have hn20 : n < 20 := by omega
  obtain ⟨e8, e9, e10, e11, e12, e13, e14⟩ := ha
  obtain ⟨r0, r1, r2, r3, r4, r5, r6, r7⟩ := h.row hn20
  have hbn := hp.2.1 n hn
  have ln := b_lng hbn
  have wn := b_wdt hbn
  have tn : tp P n = P 11 n + P 2 n := rfl
  unfold bOK at hbn
  have hnm := and_lt (c := mY P N n) (mX_spec hN hp.2.1 hn).1
  have hbm := and_lt (c := mZ P N n) (mY_spec hN hp.2.1 hn).1
  refine v_Hold_isInWay_0 n hn20 ?_
  rw [hk.1, hk.2.1, hk.2.2, mk_andN, mk_andN]
  have key : ∀ (k i : Nat), i + k = N → am_Go l D DA b sz d M_Hold_isInWay (23, [some (.ref 2), some (.ref (19 + n)), some (.int (zi ((mY P N n &&& mZ P N n : Nat) : Int))), some (.int (zi ((mX P N n &&& mY P N n : Nat) : Int))), some (.int (zi i)), none, none, none], [], (am_TT cu L, am_RR cu, σ)) (some (.int (zi (an (iwp P n) k i)))) (am_TT cu L, am_RR cu, σ) := by
    intro k
    induction k with
    | zero =>
      intro i hi
      refine v_Hold_isInWay_23 _ _ _ n hn20 ?_
      rw [h.1, show i = N by omega]
      exact ⟨fun _ => (by first | exact ⟨rfl, rfl⟩ | exact ⟨trivial, trivial⟩ | exact ⟨trivial, rfl⟩ | exact ⟨rfl, trivial⟩ | trivial), fun h0 => absurd (Int32.le_refl _) h0⟩
    | succ k ih =>
      intro i hi
      have hiN : i < N := by omega
      have hi20 : i < 20 := by omega
      have ih := ih (i + 1) (by omega)
      have k1 := b01_iff (nr_spec hN hp.2.1 hn (m := i))
      have k2 := b01_iff (bs_spec hN hp.2.1 hn (m := i))
      have k3 := b01_iff (p := ((mY P N n &&& mZ P N n) ||| (mX P N n &&& mY P N n)).testBit i) (q := ((if (mY P N n &&& mZ P N n).testBit i then 1 else 0 : Nat) : Int) = 1 ∨ ((if (mX P N n &&& mY P N n).testBit i then 1 else 0 : Nat) : Int) = 1) (by rw [Nat.testBit_or, Bool.or_eq_true, b01_iff Iff.rfl, b01_iff Iff.rfl])
      have j1 := b01 ((mX P N n &&& mY P N n).testBit i)
      have j2 := b01 ((mY P N n &&& mZ P N n).testBit i)
      have j3 := b01 (((mY P N n &&& mZ P N n) ||| (mX P N n &&& mY P N n)).testBit i)
      have hor : (mY P N n &&& mZ P N n) ||| (mX P N n &&& mY P N n) < 2 ^ 20 := Nat.or_lt_two_pow hbm hnm
      have hiw := iwp_iff (P := P) (n := n) (m := i)
      have hbi := hp.2.1 i hiN
      have li := b_lng hbi
      have wi := b_wdt hbi
      have ti : tp P i = P 11 i + P 2 i := rfl
      unfold bOK at hbi
      obtain ⟨s0, s1, s2, s3, s4, s5, s6, s7⟩ := h.row hi20
      refine v_Hold_isInWay_23 _ _ _ n hn20 ?_
      rw [mk_or, mk_bit (by omega) (by omega), mk_bit (by omega) (by omega), mk_bit (by omega) (by omega), show Int32.toNatClampNeg (zi i) = i from zi_cl (by omega), r5, s5, e8, e10, e11, e13, h.1, zi_s1]
      have ihn : am_Go l D DA b sz d M_Hold_isInWay (23, [some (.ref 2), some (.ref (19 + n)), some (.int (zi ((mY P N n &&& mZ P N n : Nat) : Int))), some (.int (zi ((mX P N n &&& mY P N n : Nat) : Int))), some (.int (zi ((i : Int) + 1))), none, none, none], [], (am_TT cu L, am_RR cu, σ)) (some (.int (zi (an (iwp P n) k (i + 1))))) (am_TT cu L, am_RR cu, σ) := ih
      generalize ((if (mX P N n &&& mY P N n).testBit i then 1 else 0 : Nat) : Int) = be at *
      generalize ((if (mY P N n &&& mZ P N n).testBit i then 1 else 0 : Nat) : Int) = al at *
      generalize ((if ((mY P N n &&& mZ P N n) ||| (mX P N n &&& mY P N n)).testBit i then 1 else 0 : Nat) : Int) = ga at *
      clear ih
      have hin : P 8 i = 0 → al = 0 ∧ be = 0 := fun e => ⟨j2.resolve_right (fun z => (k2.mp z).2.1 e), j1.resolve_right (fun z => (k1.mp z).2.1 e)⟩
      unfold an
      by_cases c8 : P 8 i = 0
      · obtain ⟨a0, b0⟩ := hin c8
        rw [if_neg (fun z => z.1 c8)]
        simp (disch := omega) only [zi_le, zi_lt0, zi_eq0]
        exact ⟨fun h0 => absurd h0 (by omega), fun _ => ⟨by omega, fun _ => ihn, fun h0 => absurd h0 (by omega)⟩⟩
      · obtain ⟨f8, f9, f10, f11, f12, f13, f14⟩ := h.2.2.2.2.2 i hiN c8
        rw [f8, f10, f11, f13]
        simp (disch := omega) only [zi_le, zi_lt0, zi_eq0, zi_eq, zi_lt]
        have key2 : iwp P n i ↔ (P 5 n ≠ P 5 i ∧ ((P 5 n ≤ P 5 i ∧ ((P 9 n + lng P n ≤ P 9 i ∧ al = 1) ∨ (tp P n ≤ P 11 i ∧ be = 1))) ∨ (P 5 i < P 5 n ∧ ((P 9 i + lng P i ≤ P 9 n ∧ al = 1) ∨ (tp P i ≤ P 11 n ∧ be = 1))))) := by
          rw [hiw]
          have k1' : be = 1 ↔ 0 < area P n i := k1.trans ⟨fun z => z.2.2, fun z => ⟨hiN, c8, z⟩⟩
          have k2' : al = 1 ↔ (0 < com (P 10 n) (wdt P n) (P 10 i) (wdt P i) ∧ 0 < com (P 11 n) (P 2 n) (P 11 i) (P 2 i)) := k2.trans ⟨fun z => z.2.2, fun z => ⟨hiN, c8, z⟩⟩
          rw [k1', k2']
          exact ⟨fun z => z.2, fun z => ⟨c8, z⟩⟩
        refine ⟨fun h0 => absurd h0 (by omega), fun _ => ⟨by omega, iw_tree j2 j1 j3 k3 (fun z => ?_) (fun z => ?_)⟩⟩
        · rw [if_neg (fun w => z (key2.mp w))]
          exact ihn
        · rw [if_pos (key2.mpr z)]
          exact (by first | exact ⟨rfl, rfl⟩ | exact ⟨trivial, trivial⟩ | exact ⟨trivial, rfl⟩ | exact ⟨rfl, trivial⟩ | trivial)
  exact key N 0 (by omega)
end CFL
