/-! axle, over, fit -/
def zl (a : Int) : Int64 := Int64.ofInt a
theorem zl_toInt {a : Int} (h1 : -9223372036854775808 ≤ a) (h2 : a < 9223372036854775808) : (zl a).toInt = a := Int64.toInt_ofInt_of_le h1 h2
theorem zl_mul (a b : Int) : zl a * zl b = zl (a * b) := (Int64.ofInt_mul a b).symm
theorem zi_zl {a : Int} (h1 : -2147483648 ≤ a) (h2 : a < 2147483648) : Int32.toInt64 (zi a) = zl a := by
  rw [← Int64.toInt_inj, Int32.toInt_toInt64, zi_toInt h1 h2, zl_toInt (by omega) (by omega)]
theorem lg_le (x y : Int64) : lg_cmp x y ≤ 0 ↔ x.toInt ≤ y.toInt := by
  unfold lg_cmp
  have hgt : x > y ↔ y.toInt < x.toInt := Int64.lt_iff_toInt_lt
  by_cases c : x > y
  · rw [if_pos c]
    have := hgt.mp c
    exact ⟨fun h => absurd h (by decide), fun h => by omega⟩
  · rw [if_neg c]
    have h9 : x.toInt ≤ y.toInt := by
      by_cases e : y.toInt < x.toInt
      · exact absurd (hgt.mpr e) c
      · omega
    refine ⟨fun _ => h9, fun _ => ?_⟩
    split <;> decide
/-- what lies across, doubled -/
def sdlF (P : Nat → Nat → Int) (e : Int) (n : Nat) (a : Int) : Int := if lft P n e = 0 then a else a + P 3 n * (2 * P 10 n + wdt P n)
def sdl (P : Nat → Nat → Int) (N : Nat) (e : Int) : Int := fo (sdlF P e) 0 N
section AXL
variable {l : Launch} {D : va_G} {DA : Nat → ClassId} {b sz d L : Nat} {cu : Bool} {σ σ' : Nat → Nat → Int32} {N M : Nat} {P : Nat → Nat → Int} {Q : Nat → Int}
theorem lft_01 (n : Nat) (e : Int) : 0 ≤ lft P n e ∧ lft P n e ≤ 1 := by unfold lft; repeat' split; all_goals omega
theorem sdl_bd (hp : pOK N P Q) (e : Int) {n : Nat} (hn : n ≤ N) : -100000 * (n : Int) ≤ sdl P n e ∧ sdl P n e ≤ 100000 * n := by
  refine fo_inv (fun i a => -100000 * (i : Int) ≤ a ∧ a ≤ 100000 * (i : Int)) ⟨by decide, by decide⟩ (fun i x hi hx => ?_)
  have hb := hp.2.1 i (by omega)
  have hl := b_wdt hb
  unfold bOK at hb
  unfold sdlF
  split
  · omega
  · have := mul_bd (a := P 3 i) (c := 2 * P 10 i + wdt P i) (A := 1000) (C := 100) (by omega) (by omega) (by omega) (by omega)
    omega
theorem w_0 (hp : pOK N P Q) (e : Int) : ∀ {n : Nat}, n ≤ N → wts P n e = 0 → lev P Q n e = 0 ∧ sdl P n e = 0
  | 0, _, _ => ⟨rfl, rfl⟩
  | n + 1, hn, h => by
    have hb := hp.2.1 n (by omega)
    unfold bOK at hb
    have h1 := wts_bd hp e (n := n) (by omega)
    have h : wtsF P e n (wts P n e) = 0 := h
    show levF P Q e n (lev P Q n e) = 0 ∧ sdlF P e n (sdl P n e) = 0
    unfold wtsF at h
    unfold levF sdlF
    by_cases c : lft P n e = 0
    · rw [if_pos c] at h
      rw [if_pos c, if_pos c]
      exact w_0 hp e (by omega) h
    · rw [if_neg c] at h
      omega
theorem c_sum (hd : 1 ≤ d) (h : cOK σ N P Q M) (hp : pOK N P Q) {e : Int} (he : 0 ≤ e ∧ e ≤ 6) : ∃ σ', GG l D DA b sz d L cu M_Balance_sum [some (.ref 42), some (.ref 2), some (.int (zi e)), none, none, none] σ none σ' ∧ (σ' 42 0 = zi (wts P N e) ∧ σ' 42 1 = zi (lev P Q N e) ∧ σ' 42 2 = zi (sdl P N e) ∧ σ' 42 3 = zi (2 * (Q 5 - Q 4))) ∧ ∀ c, c ≠ 42 → σ' c = σ c := by
  obtain ⟨d, rfl⟩ : ∃ d', d = d' + 1 := ⟨d - 1, by omega⟩
  have hN := hp.1
  have key : ∀ (k i : Nat) (σ1 : Nat → Nat → Int32), i + k = N → (σ1 42 0 = zi (wts P i e) ∧ σ1 42 1 = zi (lev P Q i e) ∧ σ1 42 2 = zi (sdl P i e) ∧ σ1 42 3 = zi (2 * (Q 5 - Q 4))) → (∀ c, c ≠ 42 → σ1 c = σ c) → ∃ σ', am_Go l D DA b sz (d + 1) M_Balance_sum (38, [some (.ref 42), some (.ref 2), some (.int (zi e)), some (.ref 3), some (.int (zi i)), none], [], (am_TT cu L, am_RR cu, σ1)) none (am_TT cu L, am_RR cu, σ') ∧ (σ' 42 0 = zi (wts P N e) ∧ σ' 42 1 = zi (lev P Q N e) ∧ σ' 42 2 = zi (sdl P N e) ∧ σ' 42 3 = zi (2 * (Q 5 - Q 4))) ∧ ∀ c, c ≠ 42 → σ' c = σ c := by
    intro k
    induction k with
    | zero =>
      intro i σ1 hi hv hf
      have e9 : i = N := by omega
      subst e9
      refine ⟨σ1, v_Balance_sum_38 _ _ ?_, hv, hf⟩
      rw [hf 2 (by omega), h.1]
      exact ⟨fun _ => (by first | exact ⟨rfl, rfl⟩ | exact ⟨trivial, trivial⟩ | exact ⟨trivial, rfl⟩ | exact ⟨rfl, trivial⟩ | trivial), fun h0 => absurd (Int32.le_refl _) h0⟩
    | succ k ih =>
      intro i σ1 hi hv hf
      have hiN : i < N := by omega
      have hi20 : i < 20 := by omega
      have hc1 : cOK σ1 N P Q M := cOK_fr h (by rw [hf 2 (by omega)]) (by rw [hf 2 (by omega)]) (fun c hc => hf c (by omega)) hN
      have hb := hp.2.1 i hiN
      have hb' := hb
      unfold bOK at hb'
      obtain ⟨v0, v1, v2, v3⟩ := hv
      obtain ⟨r0, r1, r2, r3, r4, r5, r6, r7⟩ := hc1.row hi20
      have hcl : Int32.toNatClampNeg (zi i) = i := zi_cl (by omega)
      have skip : lft P i e = 0 → ∃ σ', am_Go l D DA b sz (d + 1) M_Balance_sum (38, [some (.ref 42), some (.ref 2), some (.int (zi e)), some (.ref 3), some (.int (zi i + 1)), none], [], (am_TT cu L, am_RR cu, σ1)) none (am_TT cu L, am_RR cu, σ') ∧ (σ' 42 0 = zi (wts P N e) ∧ σ' 42 1 = zi (lev P Q N e) ∧ σ' 42 2 = zi (sdl P N e) ∧ σ' 42 3 = zi (2 * (Q 5 - Q 4))) ∧ ∀ c, c ≠ 42 → σ' c = σ c := by
        intro hl
        obtain ⟨σ', g, p⟩ := ih (i + 1) σ1 (by omega) ⟨by rw [v0]; show _ = zi (wtsF P e i (wts P i e)); unfold wtsF; rw [if_pos hl], by rw [v1]; show _ = zi (levF P Q e i (lev P Q i e)); unfold levF; rw [if_pos hl], by rw [v2]; show _ = zi (sdlF P e i (sdl P i e)); unfold sdlF; rw [if_pos hl], v3⟩ hf
        rw [zi_s1]
        exact ⟨σ', g, p⟩
      have hh := c_has (l := l) (D := D) (DA := DA) (b := b) (sz := sz) (d := d) (L := L) (cu := cu) hc1 hN hiN
      have nn : ¬ (zi (i : Int) < 0 ∨ 20 ≤ i) := by rw [zi_lt0 (by omega) (by omega)]; omega
      have hnle : ¬ zi (N : Int) ≤ zi (i : Int) := by rw [zi_le (by omega) (by omega) (by omega) (by omega)]; omega
      by_cases c8 : P 8 i = 0
      · have hh0 : hs P i = 0 := if_pos c8
        rw [hh0] at hh
        obtain ⟨σ', g, p⟩ := skip (by unfold lft; rw [if_pos c8])
        refine ⟨σ', v_Balance_sum_38 _ _ ?_, p⟩
        rw [hc1.1, hcl]
        exact ⟨fun h0 => absurd h0 hnle, fun _ => ⟨nn, _, _, hh, fun _ => g, fun h0 => absurd rfl h0⟩⟩
      · have hh1 : hs P i = 1 := if_neg c8
        rw [hh1] at hh
        have i5 : zi (P 5 i) < zi e ↔ P 5 i < e := zi_lt (by omega) (by omega) (by omega) (by omega)
        by_cases c5 : P 5 i < e
        · obtain ⟨σ', g, p⟩ := skip (by unfold lft; rw [if_neg c8, if_pos c5])
          refine ⟨σ', v_Balance_sum_38 _ _ ?_, p⟩
          rw [hc1.1, hcl]
          refine ⟨fun h0 => absurd h0 hnle, fun _ => ⟨nn, _, _, hh, fun h0 => absurd h0 (by decide), fun _ => ?_⟩⟩
          rw [r5]
          exact ⟨fun _ => g, fun h0 => absurd (i5.mpr c5) h0⟩
        · have hl : ¬ lft P i e = 0 := by unfold lft; rw [if_neg c8, if_neg c5]; decide
          obtain ⟨f8, f9, f10, f11, f12, f13, f14⟩ := hc1.2.2.2.2.2 i hiN c8
          have q4 := hc1.2.2.2.1 4 (by decide)
          obtain ⟨σ', g, p⟩ := ih (i + 1) (am_us (am_us (am_us σ1 42 0 (zi (wts P i e + P 3 i))) 42 1 (zi (lev P Q i e + P 3 i * (2 * P 9 i + lng P i - 2 * Q 4)))) 42 2 (zi (sdl P i e + P 3 i * (2 * P 10 i + wdt P i)))) (by omega) ⟨by rw [am_us_k (by omega), am_us_k (by omega), am_us_s]; show _ = zi (wtsF P e i (wts P i e)); unfold wtsF; rw [if_neg hl], by rw [am_us_k (by omega), am_us_s]; show _ = zi (levF P Q e i (lev P Q i e)); unfold levF; rw [if_neg hl], by rw [am_us_s]; show _ = zi (sdlF P e i (sdl P i e)); unfold sdlF; rw [if_neg hl], by rw [am_us_k (by omega), am_us_k (by omega), am_us_k (by omega)]; exact v3⟩ (fun c hc => by rw [am_us_ne hc, am_us_ne hc, am_us_ne hc]; exact hf c hc)
          refine ⟨σ', v_Balance_sum_38 _ _ ?_, p⟩
          rw [hc1.1, hcl]
          refine ⟨fun h0 => absurd h0 hnle, fun _ => ⟨nn, _, _, hh, fun h0 => absurd h0 (by decide), fun _ => ?_⟩⟩
          rw [r5]
          refine ⟨fun h0 => absurd (i5.mp h0) c5, fun _ => ?_⟩
          have hne : ∀ (τ : Nat → Nat → Int32) (k : Nat) (v : Int32) (k' : Nat), am_us τ 42 k v (19 + i) k' = τ (19 + i) k' := fun τ k v k' => am_us_c (by omega)
          simp only [hne, v0, v1, v2, r3, f8, f9, f11, f12, q4, z2, zi_add, zi_mul, zi_sub, zi_s1]
          rw [show P 9 i + (P 9 i + lng P i) - 2 * Q 4 = 2 * P 9 i + lng P i - 2 * Q 4 by omega, show P 10 i + (P 10 i + wdt P i) = 2 * P 10 i + wdt P i by omega]
          exact g
  have q4 := h.2.2.2.1 4 (by decide)
  have q5 := h.2.2.2.1 5 (by decide)
  obtain ⟨σ', g, p⟩ := key N 0 (am_us (am_us (am_us (am_us σ 42 0 0) 42 1 0) 42 2 0) 42 3 (zi (2 * (Q 5 - Q 4)))) (by omega) ⟨by rw [am_us_k (by omega), am_us_k (by omega), am_us_k (by omega), am_us_s]; rfl, by rw [am_us_k (by omega), am_us_k (by omega), am_us_s]; rfl, by rw [am_us_k (by omega), am_us_s]; rfl, by rw [am_us_s]⟩ (fun c hc => by rw [am_us_ne hc, am_us_ne hc, am_us_ne hc, am_us_ne hc])
  refine ⟨σ', v_Balance_sum_0 _ ?_, p⟩
  rw [q4, q5, z2, zi_sub, zi_mul]
  exact g
/-- the bits of OVER -/
abbrev oA (P : Nat → Nat → Int) (Q : Nat → Int) (N : Nat) (e : Int) : Prop := axl P Q N 0 e < 0 ∨ Q 6 * (2 * (Q 5 - Q 4)) < axl P Q N 0 e
abbrev oB (P : Nat → Nat → Int) (Q : Nat → Int) (N : Nat) (e : Int) : Prop := lev P Q N e < 0 ∨ Q 7 * (2 * (Q 5 - Q 4)) < lev P Q N e
def aw (P : Nat → Nat → Int) (Q : Nat → Int) (N : Nat) (e : Int) : Int := sdl P N e - wts P N e * Q 1
def aab (a : Int) : Int := if 0 ≤ a then a else -a
abbrev oC (P : Nat → Nat → Int) (Q : Nat → Int) (N : Nat) (e : Int) : Prop := Q 8 * Q 1 * wts P N e < 100 * aab (aw P Q N e)
def ovr (P : Nat → Nat → Int) (Q : Nat → Int) (N : Nat) (e : Int) : Nat := (if oA P Q N e then 1 else 0) ||| (if oB P Q N e then 2 else 0) ||| (if oC P Q N e then 4 else 0)
theorem ovr_lt (e : Int) : ovr P Q N e < 8 := by
  unfold ovr
  repeat' split
  all_goals decide
theorem axl_0 (e : Int) : axl P Q N 0 e = wts P N e * (2 * (Q 5 - Q 4)) - lev P Q N e := by unfold axl; rw [if_neg (by decide), Int.mul_assoc]
theorem axl_1 (e : Int) : axl P Q N 1 e = lev P Q N e := by unfold axl; rw [if_pos rfl]
/-- all numbers are small -/
theorem ax_bd (hp : pOK N P Q) (e : Int) : (0 ≤ wts P N e ∧ wts P N e ≤ 20000) ∧ (-2000000 ≤ lev P Q N e ∧ lev P Q N e ≤ 2000000) ∧ (-2000000 ≤ sdl P N e ∧ sdl P N e ≤ 2000000) ∧ (2 ≤ 2 * (Q 5 - Q 4) ∧ 2 * (Q 5 - Q 4) ≤ 80) ∧ (-4000000 ≤ axl P Q N 0 e ∧ axl P Q N 0 e ≤ 4000000) ∧ (-3000000 ≤ aw P Q N e ∧ aw P Q N e ≤ 3000000) ∧ (0 ≤ Q 6 * (2 * (Q 5 - Q 4)) ∧ Q 6 * (2 * (Q 5 - Q 4)) ≤ 8000000) ∧ (0 ≤ Q 7 * (2 * (Q 5 - Q 4)) ∧ Q 7 * (2 * (Q 5 - Q 4)) ≤ 8000000) ∧ (0 ≤ Q 8 * Q 1 ∧ Q 8 * Q 1 ≤ 1200) ∧ (0 ≤ Q 8 * Q 1 * wts P N e ∧ Q 8 * Q 1 * wts P N e ≤ 24000000) ∧ (0 ≤ wts P N e * Q 1 ∧ wts P N e * Q 1 ≤ 240000) := by
  have hN := hp.1
  have h1 := wts_bd hp e (Nat.le_refl N)
  have h2 := lev_bd hp e (Nat.le_refl N)
  have h3 := sdl_bd hp e (Nat.le_refl N)
  have hq := hp.2.2.2
  unfold qOK at hq
  have a0 := axl_0 (P := P) (Q := Q) (N := N) e
  have b0 : aw P Q N e = sdl P N e - wts P N e * Q 1 := rfl
  have m1 := mul_bd (a := wts P N e) (c := 2 * (Q 5 - Q 4)) (A := 20000) (C := 80) (by omega) (by omega) (by omega) (by omega)
  have m2 := mul_bd (a := wts P N e) (c := Q 1) (A := 20000) (C := 12) (by omega) (by omega) (by omega) (by omega)
  have m3 := mul_bd (a := Q 6) (c := 2 * (Q 5 - Q 4)) (A := 100000) (C := 80) (by omega) (by omega) (by omega) (by omega)
  have m4 := mul_bd (a := Q 7) (c := 2 * (Q 5 - Q 4)) (A := 100000) (C := 80) (by omega) (by omega) (by omega) (by omega)
  have m5 := mul_bd (a := Q 8) (c := Q 1) (A := 100) (C := 12) (by omega) (by omega) (by omega) (by omega)
  have n0 := Int.mul_nonneg (a := wts P N e) (b := 2 * (Q 5 - Q 4)) (by omega) (by omega)
  have n2 := Int.mul_nonneg (a := wts P N e) (b := Q 1) (by omega) (by omega)
  have n3 := Int.mul_nonneg (a := Q 6) (b := 2 * (Q 5 - Q 4)) (by omega) (by omega)
  have n4 := Int.mul_nonneg (a := Q 7) (b := 2 * (Q 5 - Q 4)) (by omega) (by omega)
  have n5 := Int.mul_nonneg (a := Q 8) (b := Q 1) (by omega) (by omega)
  have m6 := mul_bd (a := Q 8 * Q 1) (c := wts P N e) (A := 1200) (C := 20000) (by omega) (by omega) (by omega) (by omega)
  have n6 := Int.mul_nonneg (a := Q 8 * Q 1) (b := wts P N e) (by omega) (by omega)
  generalize wts P N e * (2 * (Q 5 - Q 4)) = x1 at *
  generalize wts P N e * Q 1 = x2 at *
  generalize Q 6 * (2 * (Q 5 - Q 4)) = x3 at *
  generalize Q 7 * (2 * (Q 5 - Q 4)) = x4 at *
  generalize Q 8 * Q 1 * wts P N e = x6 at *
  generalize Q 8 * Q 1 = x5 at *
  omega
theorem aab_bd {a B : Int} (h : -B ≤ a ∧ a ≤ B) : 0 ≤ aab a ∧ aab a ≤ B := by unfold aab; split <;> omega
theorem zi_aab {a : Int} (h : -1000000000 ≤ a ∧ a ≤ 1000000000) : (if 0 ≤ zi a then zi a else 0 - zi a) = zi (aab a) ∧ (if 0 ≤ zi a then zi a else -zi a) = zi (aab a) := by
  have i0 : 0 ≤ zi a ↔ 0 ≤ a := zi_ge0 (by omega) (by omega)
  unfold aab
  by_cases c : 0 ≤ a
  · rw [if_pos (i0.mpr c), if_pos (i0.mpr c), if_pos c]; exact ⟨rfl, rfl⟩
  · rw [if_neg (fun z => c (i0.mp z)), if_neg (fun z => c (i0.mp z)), if_neg c, zi_neg, ← zi_0, zi_sub, Int.zero_sub]; exact ⟨rfl, rfl⟩
/-- Balance's cells as summed -/
def balOK (σ : Nat → Nat → Int32) (P : Nat → Nat → Int) (Q : Nat → Int) (N : Nat) (e : Int) : Prop := σ 42 0 = zi (wts P N e) ∧ σ 42 1 = zi (lev P Q N e) ∧ σ 42 2 = zi (sdl P N e) ∧ σ 42 3 = zi (2 * (Q 5 - Q 4))
theorem c_front {e : Int} (h : balOK σ P Q N e) : GG l D DA b sz d L cu M_Balance_front [some (.ref 42)] σ (some (.int (zi (axl P Q N 0 e)))) σ := by
  refine v_Balance_front_0 ⟨?_, rfl⟩
  rw [h.1, h.2.1, h.2.2.2, zi_mul, zi_sub, axl_0]
theorem c_rear {e : Int} (h : balOK σ P Q N e) : GG l D DA b sz d L cu M_Balance_rear [some (.ref 42)] σ (some (.int (zi (lev P Q N e)))) σ := by
  refine v_Balance_rear_0 ⟨?_, rfl⟩
  rw [h.2.1]
theorem c_overBits (hd : 1 ≤ d) (h : cOK σ N P Q M) (hp : pOK N P Q) {e : Int} (hb : balOK σ P Q N e) : GG l D DA b sz d L cu M_Balance_overBits [some (.ref 42), some (.ref 3), none, none] σ (some (.int (zi (ovr P Q N e : Int)))) σ := by
  obtain ⟨d, rfl⟩ : ∃ d', d = d' + 1 := ⟨d - 1, by omega⟩
  obtain ⟨g0, g1, g2, g3, g4, g5, g6, g7, g8⟩ := h.q
  obtain ⟨b1, b2, b3, b4, b5, b6, b7, b8, b9, b10, b11⟩ := ax_bd hp e
  obtain ⟨v0, v1, v2, v3⟩ := id hb
  have hF := c_front (l := l) (D := D) (DA := DA) (b := b) (sz := sz) (d := d) (L := L) (cu := cu) hb
  have hR := c_rear (l := l) (D := D) (DA := DA) (b := b) (sz := sz) (d := d) (L := L) (cu := cu) hb
  have hab := aab_bd (a := aw P Q N e) (B := 3000000) (by omega)
  have i1 : zi (axl P Q N 0 e) < 0 ↔ axl P Q N 0 e < 0 := zi_lt0 (by omega) (by omega)
  have i2 : zi (axl P Q N 0 e) ≤ σ 3 6 * σ 42 3 ↔ axl P Q N 0 e ≤ Q 6 * (2 * (Q 5 - Q 4)) := by rw [g6, v3, zi_mul, zi_le (by omega) (by omega) (by omega) (by omega)]
  have i3 : zi (lev P Q N e) < 0 ↔ lev P Q N e < 0 := zi_lt0 (by omega) (by omega)
  have i4 : zi (lev P Q N e) ≤ σ 3 7 * σ 42 3 ↔ lev P Q N e ≤ Q 7 * (2 * (Q 5 - Q 4)) := by rw [g7, v3, zi_mul, zi_le (by omega) (by omega) (by omega) (by omega)]
  have ea : (σ 42 2) - ((σ 42 0) * (σ 3 1)) = zi (aw P Q N e) := by rw [v2, v0, g1, zi_mul, zi_sub]; rfl
  have i5 : (100 * (if 0 ≤ ((σ 42 2) - ((σ 42 0) * (σ 3 1))) then ((σ 42 2) - ((σ 42 0) * (σ 3 1))) else 0 - ((σ 42 2) - ((σ 42 0) * (σ 3 1))) : Int32)) ≤ (((σ 3 8) * (σ 3 1)) * (σ 42 0)) ↔ 100 * aab (aw P Q N e) ≤ Q 8 * Q 1 * wts P N e := by
    rw [ea, (zi_aab (by omega)).1, g8, g1, v0, show (100 : Int32) = zi 100 from rfl, zi_mul, zi_mul, zi_mul, zi_le (by omega) (by omega) (by omega) (by omega)]
  refine v_Balance_overBits_0 ⟨_, _, hF, fun c1 => ⟨_, _, hR, fun c3 => ⟨fun c5 => ?_, fun c5 => ?_⟩, fun c3 => ⟨_, _, hR, fun c4 => ⟨fun c5 => ?_, fun c5 => ?_⟩, fun c4 => ⟨fun c5 => ?_, fun c5 => ?_⟩⟩⟩, fun c1 => ⟨_, _, hF, fun c2 => ⟨_, _, hR, fun c3 => ⟨fun c5 => ?_, fun c5 => ?_⟩, fun c3 => ⟨_, _, hR, fun c4 => ⟨fun c5 => ?_, fun c5 => ?_⟩, fun c4 => ⟨fun c5 => ?_, fun c5 => ?_⟩⟩⟩, fun c2 => ⟨_, _, hR, fun c3 => ⟨fun c5 => ?_, fun c5 => ?_⟩, fun c3 => ⟨_, _, hR, fun c4 => ⟨fun c5 => ?_, fun c5 => ?_⟩, fun c4 => ⟨fun c5 => ?_, fun c5 => ?_⟩⟩⟩⟩⟩
  · unfold ovr; rw [if_pos (show oA P Q N e from Or.inl (i1.mp c1)), if_pos (show oB P Q N e from Or.inl (i3.mp c3)), if_neg (show ¬ oC P Q N e from Int.not_lt.mpr (i5.mp c5))]; exact ⟨rfl, rfl⟩
  · unfold ovr; rw [if_pos (show oA P Q N e from Or.inl (i1.mp c1)), if_pos (show oB P Q N e from Or.inl (i3.mp c3)), if_pos (show oC P Q N e from Int.not_le.mp (fun z => c5 (i5.mpr z)))]; exact ⟨rfl, rfl⟩
  · unfold ovr; rw [if_pos (show oA P Q N e from Or.inl (i1.mp c1)), if_neg (show ¬ oB P Q N e from (fun z => z.elim (fun w => c3 (i3.mpr w)) (fun w => absurd (i4.mp c4) (by omega)))), if_neg (show ¬ oC P Q N e from Int.not_lt.mpr (i5.mp c5))]; exact ⟨rfl, rfl⟩
  · unfold ovr; rw [if_pos (show oA P Q N e from Or.inl (i1.mp c1)), if_neg (show ¬ oB P Q N e from (fun z => z.elim (fun w => c3 (i3.mpr w)) (fun w => absurd (i4.mp c4) (by omega)))), if_pos (show oC P Q N e from Int.not_le.mp (fun z => c5 (i5.mpr z)))]; exact ⟨rfl, rfl⟩
  · unfold ovr; rw [if_pos (show oA P Q N e from Or.inl (i1.mp c1)), if_pos (show oB P Q N e from Or.inr (Int.not_le.mp (fun z => c4 (i4.mpr z)))), if_neg (show ¬ oC P Q N e from Int.not_lt.mpr (i5.mp c5))]; exact ⟨rfl, rfl⟩
  · unfold ovr; rw [if_pos (show oA P Q N e from Or.inl (i1.mp c1)), if_pos (show oB P Q N e from Or.inr (Int.not_le.mp (fun z => c4 (i4.mpr z)))), if_pos (show oC P Q N e from Int.not_le.mp (fun z => c5 (i5.mpr z)))]; exact ⟨rfl, rfl⟩
  · unfold ovr; rw [if_neg (show ¬ oA P Q N e from (fun z => z.elim (fun w => c1 (i1.mpr w)) (fun w => absurd (i2.mp c2) (by omega)))), if_pos (show oB P Q N e from Or.inl (i3.mp c3)), if_neg (show ¬ oC P Q N e from Int.not_lt.mpr (i5.mp c5))]; exact ⟨rfl, rfl⟩
  · unfold ovr; rw [if_neg (show ¬ oA P Q N e from (fun z => z.elim (fun w => c1 (i1.mpr w)) (fun w => absurd (i2.mp c2) (by omega)))), if_pos (show oB P Q N e from Or.inl (i3.mp c3)), if_pos (show oC P Q N e from Int.not_le.mp (fun z => c5 (i5.mpr z)))]; exact ⟨rfl, rfl⟩
  · unfold ovr; rw [if_neg (show ¬ oA P Q N e from (fun z => z.elim (fun w => c1 (i1.mpr w)) (fun w => absurd (i2.mp c2) (by omega)))), if_neg (show ¬ oB P Q N e from (fun z => z.elim (fun w => c3 (i3.mpr w)) (fun w => absurd (i4.mp c4) (by omega)))), if_neg (show ¬ oC P Q N e from Int.not_lt.mpr (i5.mp c5))]; exact ⟨rfl, rfl⟩
  · unfold ovr; rw [if_neg (show ¬ oA P Q N e from (fun z => z.elim (fun w => c1 (i1.mpr w)) (fun w => absurd (i2.mp c2) (by omega)))), if_neg (show ¬ oB P Q N e from (fun z => z.elim (fun w => c3 (i3.mpr w)) (fun w => absurd (i4.mp c4) (by omega)))), if_pos (show oC P Q N e from Int.not_le.mp (fun z => c5 (i5.mpr z)))]; exact ⟨rfl, rfl⟩
  · unfold ovr; rw [if_neg (show ¬ oA P Q N e from (fun z => z.elim (fun w => c1 (i1.mpr w)) (fun w => absurd (i2.mp c2) (by omega)))), if_pos (show oB P Q N e from Or.inr (Int.not_le.mp (fun z => c4 (i4.mpr z)))), if_neg (show ¬ oC P Q N e from Int.not_lt.mpr (i5.mp c5))]; exact ⟨rfl, rfl⟩
  · unfold ovr; rw [if_neg (show ¬ oA P Q N e from (fun z => z.elim (fun w => c1 (i1.mpr w)) (fun w => absurd (i2.mp c2) (by omega)))), if_pos (show oB P Q N e from Or.inr (Int.not_le.mp (fun z => c4 (i4.mpr z)))), if_pos (show oC P Q N e from Int.not_le.mp (fun z => c5 (i5.mpr z)))]; exact ⟨rfl, rfl⟩
  · unfold ovr; rw [if_pos (show oA P Q N e from Or.inr (Int.not_le.mp (fun z => c2 (i2.mpr z)))), if_pos (show oB P Q N e from Or.inl (i3.mp c3)), if_neg (show ¬ oC P Q N e from Int.not_lt.mpr (i5.mp c5))]; exact ⟨rfl, rfl⟩
  · unfold ovr; rw [if_pos (show oA P Q N e from Or.inr (Int.not_le.mp (fun z => c2 (i2.mpr z)))), if_pos (show oB P Q N e from Or.inl (i3.mp c3)), if_pos (show oC P Q N e from Int.not_le.mp (fun z => c5 (i5.mpr z)))]; exact ⟨rfl, rfl⟩
  · unfold ovr; rw [if_pos (show oA P Q N e from Or.inr (Int.not_le.mp (fun z => c2 (i2.mpr z)))), if_neg (show ¬ oB P Q N e from (fun z => z.elim (fun w => c3 (i3.mpr w)) (fun w => absurd (i4.mp c4) (by omega)))), if_neg (show ¬ oC P Q N e from Int.not_lt.mpr (i5.mp c5))]; exact ⟨rfl, rfl⟩
  · unfold ovr; rw [if_pos (show oA P Q N e from Or.inr (Int.not_le.mp (fun z => c2 (i2.mpr z)))), if_neg (show ¬ oB P Q N e from (fun z => z.elim (fun w => c3 (i3.mpr w)) (fun w => absurd (i4.mp c4) (by omega)))), if_pos (show oC P Q N e from Int.not_le.mp (fun z => c5 (i5.mpr z)))]; exact ⟨rfl, rfl⟩
  · unfold ovr; rw [if_pos (show oA P Q N e from Or.inr (Int.not_le.mp (fun z => c2 (i2.mpr z)))), if_pos (show oB P Q N e from Or.inr (Int.not_le.mp (fun z => c4 (i4.mpr z)))), if_neg (show ¬ oC P Q N e from Int.not_lt.mpr (i5.mp c5))]; exact ⟨rfl, rfl⟩
  · unfold ovr; rw [if_pos (show oA P Q N e from Or.inr (Int.not_le.mp (fun z => c2 (i2.mpr z)))), if_pos (show oB P Q N e from Or.inr (Int.not_le.mp (fun z => c4 (i4.mpr z)))), if_pos (show oC P Q N e from Int.not_le.mp (fun z => c5 (i5.mpr z)))]; exact ⟨rfl, rfl⟩
theorem c_overAt (hd : 2 ≤ d) (h : cOK σ N P Q M) (hp : pOK N P Q) {e : Int} (he : 0 ≤ e ∧ e ≤ 6) : ∃ σ', GG l D DA b sz d L cu M_B_overAt [some (.ref 1), some (.int (zi e))] σ (some (.int (zi (ovr P Q N e : Int)))) σ' ∧ ∀ c, c ≠ 42 → σ' c = σ c := by
  obtain ⟨d, rfl⟩ : ∃ d', d = d' + 1 := ⟨d - 1, by omega⟩
  have hN := hp.1
  obtain ⟨σ1, g1, v1, f1⟩ := c_sum (l := l) (D := D) (DA := DA) (b := b) (sz := sz) (d := d) (L := L) (cu := cu) (by omega) h hp he
  have h1 : cOK σ1 N P Q M := cOK_fr h (by rw [f1 2 (by omega)]) (by rw [f1 2 (by omega)]) (fun c hc => f1 c (by omega)) hN
  exact ⟨σ1, v_B_overAt_0 _ ⟨σ1, g1, _, _, c_overBits (by omega) h1 hp v1, rfl, rfl⟩, f1⟩
theorem c_R_over105 (hd : 1 ≤ d) (h : mOK σ N P Q) (hp : pOK N P Q) {e : Int} (he : 0 ≤ e ∧ e ≤ 6) {B : Nat} : am_Go l D DA b sz d M_R_overAt (105, [some (.ref 47), some (.int (zi e)), some (.int (zi (wts P N e))), none, none, none, some (.int (zi (B : Int))), some (.int (zi (-(Q 1) * wts P N e))), some (.int 0)], [], (am_TT cu L, am_RR cu, σ)) (some (.int (zi ((B ||| (if oC P Q N e then 4 else 0) : Nat) : Int)))) (am_TT cu L, am_RR cu, σ) := by
  obtain ⟨d, rfl⟩ : ∃ d', d = d' + 1 := ⟨d - 1, by omega⟩
  have hN := hp.1
  obtain ⟨q0, q1, q2, q3, q4, q5, q6, q7, q8⟩ := h.q
  obtain ⟨b1, b2, b3, b4, b5, b6, b7, b8, b9, b10, b11⟩ := ax_bd hp e
  have hq := hp.2.2.2
  unfold qOK at hq
  have em : -(Q 1) * wts P N e = - (wts P N e * Q 1) := by rw [Int.neg_mul, Int.mul_comm]
  rw [em]
  refine fo_loop (fun i a => am_Go l D DA b sz (d + 1) M_R_overAt (105, [some (.ref 47), some (.int (zi e)), some (.int (zi (wts P N e))), none, none, none, some (.int (zi (B : Int))), some (.int (zi (-(wts P N e * Q 1) + a))), some (.int (zi i))], [], (am_TT cu L, am_RR cu, σ)) (some (.int (zi ((B ||| (if oC P Q N e then 4 else 0) : Nat) : Int)))) (am_TT cu L, am_RR cu, σ)) (sdlF P e) 0 N ?_ (fun i a hi ha ih => ?_) |> fun k => by rw [Int.add_zero] at k; exact k
  · have hab := aab_bd (a := aw P Q N e) (B := 3000000) (by omega)
    have e1 : -(wts P N e * Q 1) + fo (sdlF P e) 0 N = aw P Q N e := by show _ + sdl P N e = sdl P N e - _; omega
    rw [e1]
    refine v_R_overAt_105 _ _ _ _ _ ?_
    have i5 : lg_cmp ((Int64.ofNat 100) * (Int32.toInt64 (if 0 ≤ zi (aw P Q N e) then zi (aw P Q N e) else -zi (aw P Q N e) : Int32))) (((Int32.toInt64 (σ 47 22)) * (Int32.toInt64 (σ 47 15))) * (Int32.toInt64 (zi (wts P N e)))) ≤ 0 ↔ 100 * aab (aw P Q N e) ≤ Q 8 * Q 1 * wts P N e := by
      rw [(zi_aab (by omega)).2, q8, q1, zi_zl (by omega) (by omega), zi_zl (by omega) (by omega), zi_zl (by omega) (by omega), zi_zl (by omega) (by omega), show Int64.ofNat 100 = zl 100 from rfl, zl_mul, zl_mul, zl_mul, lg_le, zl_toInt (by omega) (by omega), zl_toInt (by omega) (by omega)]
    rw [h.1]
    refine ⟨fun _ => ⟨fun c => ?_, fun c => ?_⟩, fun h0 => absurd (Int32.le_refl _) h0⟩
    · rw [if_neg (show ¬ oC P Q N e from Int.not_lt.mpr (i5.mp c)), Nat.or_zero]; exact (by first | exact ⟨rfl, rfl⟩ | exact ⟨trivial, trivial⟩ | exact ⟨trivial, rfl⟩ | exact ⟨rfl, trivial⟩ | trivial)
    · rw [if_pos (show oC P Q N e from Int.not_le.mp (fun z => c (i5.mpr z))), mk_o4]; exact (by first | exact ⟨rfl, rfl⟩ | exact ⟨trivial, trivial⟩ | exact ⟨trivial, rfl⟩ | exact ⟨rfl, trivial⟩ | trivial)
  · have hi20 : i < 20 := by omega
    obtain ⟨⟨e0, e1, e2, e3, e4, e5, e6⟩, e7, e8, e9, e10, e11, e12⟩ := h.row hi20
    have hl := lft_01 (P := P) i e
    refine v_R_overAt_105 _ _ _ _ _ ?_
    rw [h.1, zi_le (by omega) (by omega) (by omega) (by omega)]
    refine ⟨fun h0 => absurd h0 (by omega), fun _ => ⟨_, _, c_R_isLeft h hp hi (by omega), ?_⟩⟩
    rw [zi_eq0 (by omega) (by omega), show Int32.toNatClampNeg (zi i) = i from zi_cl (by omega), e3, e10, zi_lt0 (by omega) (by omega)]
    unfold sdlF at ih
    refine ⟨fun c => ?_, fun c => ⟨by omega, by omega, _, _, c_R_wideOf h hi20 (hp.2.1 i hi), ?_⟩⟩
    · rw [if_pos c] at ih
      rw [zi_s0, zi_s1]; exact ih
    · rw [if_neg c] at ih
      rw [z2, zi_mul, zi_add, zi_mul, zi_add, zi_s1, Int.add_assoc]; exact ih
theorem c_R_overAt (hd : 4 ≤ d) (h : mOK σ N P Q) (hp : pOK N P Q) {e : Int} (he : 0 ≤ e ∧ e ≤ 6) : GG l D DA b sz d L cu M_R_overAt [some (.ref 47), some (.int (zi e)), none, none, none, none, none, none, none] σ (some (.int (zi (ovr P Q N e : Int)))) σ := by
  have k5 := fun B => c_R_over105 (l := l) (D := D) (DA := DA) (b := b) (sz := sz) (d := d) (L := L) (cu := cu) (by omega) h hp he (B := B)
  obtain ⟨d, rfl⟩ : ∃ d', d = d' + 1 := ⟨d - 1, by omega⟩
  obtain ⟨q0, q1, q2, q3, q4, q5, q6, q7, q8⟩ := h.q
  obtain ⟨b1, b2, b3, b4, b5, b6, b7, b8, b9, b10, b11⟩ := ax_bd hp e
  have hq := hp.2.2.2
  unfold qOK at hq
  have gw := c_R_weights (l := l) (D := D) (DA := DA) (b := b) (sz := sz) (d := d) (L := L) (cu := cu) (by omega) h hp (e := e) (by omega)
  have g0 := c_R_axleOf (l := l) (D := D) (DA := DA) (b := b) (sz := sz) (d := d) (L := L) (cu := cu) (by omega) h hp (k := 0) (e := e) (by omega) (by omega)
  have g1 := c_R_axleOf (l := l) (D := D) (DA := DA) (b := b) (sz := sz) (d := d) (L := L) (cu := cu) (by omega) h hp (k := 1) (e := e) (by omega) (by omega)
  rw [axl_1] at g1
  refine v_R_overAt_0 _ ⟨_, _, gw, ?_⟩
  rw [zi_eq0 (by omega) (by omega)]
  refine ⟨fun c0 => ?_, fun _ => ⟨_, _, g0, _, _, g1, ?_⟩⟩
  · obtain ⟨z1, z2⟩ := w_0 hp e (Nat.le_refl N) c0
    have hA : ¬ oA P Q N e := by unfold oA; rw [axl_0, c0, z1]; omega
    have hB : ¬ oB P Q N e := by unfold oB; rw [z1]; omega
    have hC : ¬ oC P Q N e := by unfold oC aw aab; rw [c0, z2]; simp
    unfold ovr
    rw [if_neg hA, if_neg hB, if_neg hC]
    exact (by first | exact ⟨rfl, rfl⟩ | exact ⟨trivial, trivial⟩ | exact ⟨trivial, rfl⟩ | exact ⟨rfl, trivial⟩ | trivial)
  · have ea : (-(σ 47 15)) * zi (wts P N e) = zi (-(Q 1) * wts P N e) := by rw [q1, zi_neg, zi_mul]
    have eb : (2 : Int32) * ((σ 47 19) - (σ 47 18)) = zi (2 * (Q 5 - Q 4)) := by rw [q5, q4, z2, zi_sub, zi_mul]
    have j2 : lg_cmp (Int32.toInt64 (zi (axl P Q N 0 e))) ((Int32.toInt64 (σ 47 20)) * (Int32.toInt64 (zi (2 * (Q 5 - Q 4))))) ≤ 0 ↔ axl P Q N 0 e ≤ Q 6 * (2 * (Q 5 - Q 4)) := by
      rw [q6, zi_zl (by omega) (by omega), zi_zl (by omega) (by omega), zi_zl (by omega) (by omega), zl_mul, lg_le, zl_toInt (by omega) (by omega), zl_toInt (by omega) (by omega)]
    have j4 : lg_cmp (Int32.toInt64 (zi (lev P Q N e))) ((Int32.toInt64 (σ 47 21)) * (Int32.toInt64 (zi (2 * (Q 5 - Q 4))))) ≤ 0 ↔ lev P Q N e ≤ Q 7 * (2 * (Q 5 - Q 4)) := by
      rw [q7, zi_zl (by omega) (by omega), zi_zl (by omega) (by omega), zi_zl (by omega) (by omega), zl_mul, lg_le, zl_toInt (by omega) (by omega), zl_toInt (by omega) (by omega)]
    rw [ea, eb, zi_lt0 (by omega) (by omega), zi_lt0 (by omega) (by omega)]
    have kA : (if lg_cmp (Int32.toInt64 (zi (axl P Q N 0 e))) ((Int32.toInt64 (σ 47 20)) * (Int32.toInt64 (zi (2 * (Q 5 - Q 4))))) ≤ 0 then (0 : Int32) else 1) = zi ((if axl P Q N 0 e ≤ Q 6 * (2 * (Q 5 - Q 4)) then 0 else 1 : Nat) : Int) := by
      by_cases c : axl P Q N 0 e ≤ Q 6 * (2 * (Q 5 - Q 4))
      · rw [if_pos (j2.mpr c), if_pos c]; rfl
      · rw [if_neg (fun z => c (j2.mp z)), if_neg c]; rfl
    rw [kA, j4, mk_o2]
    unfold ovr
    refine ⟨fun c1 => ⟨fun c3 => ?_, fun c3 => ⟨fun c4 => ?_, fun c4 => ?_⟩⟩, fun c1 => ⟨fun c3 => ?_, fun c3 => ⟨fun c4 => ?_, fun c4 => ?_⟩⟩⟩
    · rw [if_pos (show oA P Q N e from Or.inl c1), if_pos (show oB P Q N e from Or.inl c3)]; exact k5 3
    · rw [if_pos (show oA P Q N e from Or.inl c1), if_neg (show ¬ oB P Q N e from fun z => z.elim c3 (fun w => absurd c4 (by omega)))]; exact k5 1
    · rw [if_pos (show oA P Q N e from Or.inl c1), if_pos (show oB P Q N e from Or.inr (by omega))]; exact k5 3
    · rw [if_pos (show oB P Q N e from Or.inl c3)]
      by_cases c2 : axl P Q N 0 e ≤ Q 6 * (2 * (Q 5 - Q 4))
      · rw [if_pos c2, if_neg (show ¬ oA P Q N e from fun z => z.elim c1 (fun w => absurd c2 (by omega)))]; exact k5 2
      · rw [if_neg c2, if_pos (show oA P Q N e from Or.inr (by omega))]; exact k5 3
    · rw [if_neg (show ¬ oB P Q N e from fun z => z.elim c3 (fun w => absurd c4 (by omega)))]
      by_cases c2 : axl P Q N 0 e ≤ Q 6 * (2 * (Q 5 - Q 4))
      · rw [if_pos c2, if_neg (show ¬ oA P Q N e from fun z => z.elim c1 (fun w => absurd c2 (by omega)))]; exact k5 0
      · rw [if_neg c2, if_pos (show oA P Q N e from Or.inr (by omega))]; exact k5 1
    · rw [if_pos (show oB P Q N e from Or.inr (by omega))]
      by_cases c2 : axl P Q N 0 e ≤ Q 6 * (2 * (Q 5 - Q 4))
      · rw [if_pos c2, if_neg (show ¬ oA P Q N e from fun z => z.elim c1 (fun w => absurd c2 (by omega)))]; exact k5 2
      · rw [if_neg c2, if_pos (show oA P Q N e from Or.inr (by omega))]; exact k5 3
theorem pic_42 (h : pic σ N P Q M) (f : ∀ c, c ≠ 42 → σ' c = σ c) : pic σ' N P Q M := by
  obtain ⟨hp, hz, hm, hc⟩ := h
  exact ⟨hp, hz, mOK_fr hm (fun c _ _ => f c (by omega)) (fun k _ => by rw [f 47 (by omega)]), cOK_fr hc (by rw [f 2 (by omega)]) (by rw [f 2 (by omega)]) (fun c hc => f c (by omega)) hp.1⟩
theorem L_over (hd : 8 ≤ d) (h : pic σ N P Q M) (p : Int32) : stepOK l D DA b sz d L cu M_B_over [some (.ref 1), some (.int p)] M_R_over [some (.ref 47), some (.int p)] σ N P := by
  obtain ⟨hp, hz, hm, hc⟩ := id h
  obtain ⟨d, rfl⟩ : ∃ d', d = d' + 1 := ⟨d - 1, by omega⟩
  by_cases c : (0 : Int32) ≤ p ∧ p ≤ 6
  · have he := le_i (lo := 0) (hi := 6) (by decide) (by decide) (by decide) c
    obtain ⟨e, he, rfl⟩ : ∃ e : Int, (0 ≤ e ∧ e ≤ 6) ∧ p = zi e := ⟨p.toInt, he, zi_of p⟩
    have wi := c_within (l := l) (D := D) (DA := DA) (b := b) (sz := sz) (d := d) (L := L) (cu := cu) (σ := σ) (zi e) 0 6
    rw [if_pos c] at wi
    obtain ⟨σ1, g1, f1⟩ := c_overAt (l := l) (D := D) (DA := DA) (b := b) (sz := sz) (d := d) (L := L) (cu := cu) (by omega) hc hp (e := e) (by assumption)
    have h1 := pic_42 h f1
    have ri := c_R_in (l := l) (D := D) (DA := DA) (b := b) (sz := sz) (d := d) (L := L) (cu := cu) (σ := σ1) (zi e) 0 6
    rw [if_pos c] at ri
    exact ⟨_, σ1, σ1, P, Q, M, v_B_over_0 _ ⟨_, _, wi, fun h0 => absurd h0 (by decide), fun _ => ⟨_, _, g1, rfl, rfl⟩⟩, v_R_over_0 _ ⟨_, _, ri, fun h0 => absurd h0 (by decide), fun _ => ⟨_, _, c_R_overAt (by omega) h1.2.2.1 hp (by assumption), rfl, rfl⟩⟩, h1, fun _ _ _ => rfl, rst_of (fun c hc => f1 c (by omega))⟩
  · have wi := c_within (l := l) (D := D) (DA := DA) (b := b) (sz := sz) (d := d) (L := L) (cu := cu) (σ := σ) p 0 6
    rw [if_neg c] at wi
    have ri := c_R_in (l := l) (D := D) (DA := DA) (b := b) (sz := sz) (d := d) (L := L) (cu := cu) (σ := σ) p 0 6
    rw [if_neg c] at ri
    exact stay h (-2) (v_B_over_0 _ ⟨_, _, wi, fun _ => (by first | exact ⟨rfl, rfl⟩ | exact ⟨trivial, trivial⟩ | exact ⟨trivial, rfl⟩ | exact ⟨rfl, trivial⟩ | trivial), fun h0 => absurd rfl h0⟩) (v_R_over_0 _ ⟨_, _, ri, fun _ => (by first | exact ⟨rfl, rfl⟩ | exact ⟨trivial, trivial⟩ | exact ⟨trivial, rfl⟩ | exact ⟨rfl, trivial⟩ | trivial), fun h0 => absurd rfl h0⟩)
theorem L_fit (hd : 8 ≤ d) (h : pic σ N P Q M) : stepOK l D DA b sz d L cu M_B_fit [some (.ref 1), none] M_R_fit [some (.ref 47), none] σ N P := by
  obtain ⟨hp, hz, hm, hc⟩ := id h
  have hN := hp.1
  obtain ⟨d, rfl⟩ : ∃ d', d = d' + 1 := ⟨d - 1, by omega⟩
  have kc : ∀ (k i : Nat) (σ1 : Nat → Nat → Int32), i + k = 7 → (∀ c, c ≠ 42 → σ1 c = σ c) → ∃ σ', am_Go l D DA b sz (d + 1) M_B_fit (2, [some (.ref 1), some (.int (zi i))], [], (am_TT cu L, am_RR cu, σ1)) (some (.int (zi (ff (fun e : Nat => ovr P Q N e ≠ 0) k i)))) (am_TT cu L, am_RR cu, σ') ∧ ∀ c, c ≠ 42 → σ' c = σ c := by
    intro k
    induction k with
    | zero =>
      intro i σ1 hi hf
      refine ⟨σ1, v_B_fit_2 _ ?_, hf⟩
      rw [show (6 : Int32) = zi 6 from rfl, zi_lt (by omega) (by omega) (by omega) (by omega)]
      exact ⟨fun _ => (by first | exact ⟨rfl, rfl⟩ | exact ⟨trivial, trivial⟩ | exact ⟨trivial, rfl⟩ | exact ⟨rfl, trivial⟩ | trivial), fun h0 => absurd h0 (by omega)⟩
    | succ k ih =>
      intro i σ1 hi hf
      have h1 := pic_42 h hf
      obtain ⟨σ2, g2, f2⟩ := c_overAt (l := l) (D := D) (DA := DA) (b := b) (sz := sz) (d := d) (L := L) (cu := cu) (by omega) h1.2.2.2 hp (e := i) (by omega)
      have ho := ovr_lt (P := P) (Q := Q) (N := N) i
      have i0 : zi ((ovr P Q N i : Nat) : Int) = 0 ↔ ovr P Q N i = 0 := by rw [zi_eq0 (by omega) (by omega)]; omega
      have hf2 : ∀ c, c ≠ 42 → σ2 c = σ c := fun c hc => (f2 c hc).trans (hf c hc)
      by_cases c0 : ovr P Q N i = 0
      · obtain ⟨σ', g, f⟩ := ih (i + 1) σ2 (by omega) hf2
        refine ⟨σ', v_B_fit_2 _ ?_, f⟩
        rw [show (6 : Int32) = zi 6 from rfl, zi_lt (by omega) (by omega) (by omega) (by omega)]
        unfold ff
        rw [if_neg (fun z => z c0)]
        exact ⟨fun h0 => absurd h0 (by omega), fun _ => ⟨_, _, g2, fun _ => by rw [zi_s1]; exact g, fun h0 => absurd (i0.mpr c0) h0⟩⟩
      · refine ⟨σ2, v_B_fit_2 _ ?_, hf2⟩
        rw [show (6 : Int32) = zi 6 from rfl, zi_lt (by omega) (by omega) (by omega) (by omega)]
        unfold ff
        rw [if_pos c0]
        exact ⟨fun h0 => absurd h0 (by omega), fun _ => ⟨_, _, g2, fun h0 => absurd (i0.mp h0) c0, fun _ => (by first | exact ⟨rfl, rfl⟩ | exact ⟨trivial, trivial⟩ | exact ⟨trivial, rfl⟩ | exact ⟨rfl, trivial⟩ | trivial)⟩⟩
  obtain ⟨σ1, g1, f1⟩ := kc 7 0 σ (by omega) (fun _ _ => rfl)
  have h1 := pic_42 h f1
  have kr : ∀ (k i : Nat), i + k = 7 → am_Go l D DA b sz (d + 1) M_R_fit (2, [some (.ref 47), some (.int (zi i))], [], (am_TT cu L, am_RR cu, σ1)) (some (.int (zi (ff (fun e : Nat => ovr P Q N e ≠ 0) k i)))) (am_TT cu L, am_RR cu, σ1) := by
    intro k
    induction k with
    | zero =>
      intro i hi
      refine v_R_fit_2 _ ?_
      rw [show (7 : Int32) = zi 7 from rfl, zi_le (by omega) (by omega) (by omega) (by omega)]
      exact ⟨fun _ => (by first | exact ⟨rfl, rfl⟩ | exact ⟨trivial, trivial⟩ | exact ⟨trivial, rfl⟩ | exact ⟨rfl, trivial⟩ | trivial), fun h0 => absurd h0 (by omega)⟩
    | succ k ih =>
      intro i hi
      have g2 := c_R_overAt (l := l) (D := D) (DA := DA) (b := b) (sz := sz) (d := d) (L := L) (cu := cu) (by omega) h1.2.2.1 hp (e := i) (by omega)
      have ho := ovr_lt (P := P) (Q := Q) (N := N) i
      have i0 : zi ((ovr P Q N i : Nat) : Int) = 0 ↔ ovr P Q N i = 0 := by rw [zi_eq0 (by omega) (by omega)]; omega
      refine v_R_fit_2 _ ?_
      rw [show (7 : Int32) = zi 7 from rfl, zi_le (by omega) (by omega) (by omega) (by omega)]
      unfold ff
      by_cases c0 : ovr P Q N i = 0
      · rw [if_neg (fun z => z c0)]
        exact ⟨fun h0 => absurd h0 (by omega), fun _ => ⟨_, _, g2, fun _ => by rw [zi_s1]; exact ih (i + 1) (by omega), fun h0 => absurd (i0.mpr c0) h0⟩⟩
      · rw [if_pos c0]
        exact ⟨fun h0 => absurd h0 (by omega), fun _ => ⟨_, _, g2, fun h0 => absurd (i0.mp h0) c0, fun _ => (by first | exact ⟨rfl, rfl⟩ | exact ⟨trivial, trivial⟩ | exact ⟨trivial, rfl⟩ | exact ⟨rfl, trivial⟩ | trivial)⟩⟩
  exact ⟨_, σ1, σ1, P, Q, M, v_B_fit_0 g1, v_R_fit_0 (kr 7 0 (by omega)), h1, fun _ _ _ => rfl, rst_of (fun c hc => f1 c (by omega))⟩
/-! the greatest common divisor -/
theorem zi_rem (x y : Nat) (hx : x < 2147483648) (hy : y < 2147483648) : zi (x : Int) - zi (x : Int) / zi (y : Int) * zi (y : Int) = zi ((x % y : Nat) : Int) := by
  rw [zi_div (by omega) (by omega) (by omega) (by omega), zi_mul, zi_sub, Int.tdiv_eq_ediv_of_nonneg (by omega)]
  congr 1
  rw [Int.natCast_emod, Int.emod_def, Int.mul_comm]
theorem g_step (x : Nat) {y : Nat} : Nat.gcd x y = Nat.gcd y (x % y) := by rw [Nat.gcd_comm x y, Nat.gcd_rec y x, Nat.gcd_comm]
theorem c_gcd : ∀ (k x y i : Nat), x < 2147483648 → y < 2 ^ k → k ≤ 20 → i + 2 * k ≤ 63 → am_Go l D DA b sz d M_B_commonDivisor (7, [none, none, some (.int (zi (x : Int))), some (.int (zi (y : Int))), some (.int (zi (i : Int))), none], [], (am_TT cu L, am_RR cu, σ)) (some (.int (zi ((Nat.gcd x y : Nat) : Int)))) (am_TT cu L, am_RR cu, σ)
  | k, x, y, i, hx, hy, hk, hi => by
    have h20 : 2 ^ k ≤ 2 ^ 20 := Nat.pow_le_pow_right (by decide) hk
    have stp : ∀ (x y i : Nat), y < 2147483648 → i < 63 → x < 2147483648 → y ≠ 0 → am_Go l D DA b sz d M_B_commonDivisor (7, [none, none, some (.int (zi (y : Int))), some (.int (zi ((x % y : Nat) : Int))), some (.int (zi ((i : Int) + 1))), none], [], (am_TT cu L, am_RR cu, σ)) (some (.int (zi ((Nat.gcd y (x % y) : Nat) : Int)))) (am_TT cu L, am_RR cu, σ) → am_Go l D DA b sz d M_B_commonDivisor (7, [none, none, some (.int (zi (x : Int))), some (.int (zi (y : Int))), some (.int (zi (i : Int))), none], [], (am_TT cu L, am_RR cu, σ)) (some (.int (zi ((Nat.gcd x y : Nat) : Int)))) (am_TT cu L, am_RR cu, σ) := by
      intro x y i hy hi hx h0 G
      refine v_B_commonDivisor_7 _ _ _ ?_
      rw [zi_rem x y hx hy, show (64 : Int32) = zi 64 from rfl, zi_s1, g_step x]
      simp (disch := omega) only [zi_le, zi_le0, zi_eq0]
      exact ⟨fun h9 => absurd h9 (by omega), fun _ => ⟨fun h9 => absurd h9 (by omega), fun _ => ⟨by omega, G⟩⟩⟩
    have end0 : ∀ (x i : Nat), i ≤ 63 → am_Go l D DA b sz d M_B_commonDivisor (7, [none, none, some (.int (zi (x : Int))), some (.int (zi ((0 : Nat) : Int))), some (.int (zi (i : Int))), none], [], (am_TT cu L, am_RR cu, σ)) (some (.int (zi ((Nat.gcd x 0 : Nat) : Int)))) (am_TT cu L, am_RR cu, σ) := by
      intro x i hi
      refine v_B_commonDivisor_7 _ _ _ ?_
      rw [Nat.gcd_zero_right]
      exact ⟨fun _ => (by first | exact ⟨rfl, rfl⟩ | exact ⟨trivial, trivial⟩ | exact ⟨trivial, rfl⟩ | exact ⟨rfl, trivial⟩ | trivial), fun _ => ⟨fun _ => (by first | exact ⟨rfl, rfl⟩ | exact ⟨trivial, trivial⟩ | exact ⟨trivial, rfl⟩ | exact ⟨rfl, trivial⟩ | trivial), fun h0 => absurd (Int32.le_refl _) h0⟩⟩
    by_cases c0 : y = 0
    · subst c0; exact end0 x i (by omega)
    · cases k with
      | zero => exact absurd hy (by omega)
      | succ k =>
        rw [Nat.pow_succ] at hy h20
        refine stp x y i (by omega) (by omega) hx c0 ?_
        by_cases c1 : x % y = 0
        · rw [c1]
          exact end0 y (i + 1) (by omega)
        · have hr1 : x % y < y := Nat.mod_lt _ (by omega)
          refine stp y (x % y) (i + 1) (by omega) (by omega) (by omega) c1 ?_
          have hr2 : y % (x % y) < x % y := Nat.mod_lt _ (by omega)
          have hr3 : y % (x % y) + x % y ≤ y := by
            have h9 := Nat.div_add_mod y (x % y)
            have h8 : 1 ≤ y / (x % y) := (Nat.one_le_div_iff (by omega)).mpr (by omega)
            have h7 : x % y * 1 ≤ x % y * (y / (x % y)) := Nat.mul_le_mul_left _ h8
            omega
          exact c_gcd k (x % y) (y % (x % y)) (i + 2) (by omega) (by omega) (by omega) (by omega)
theorem c_R_gcd {p3 : Int32} {ab be : Int} : ∀ (y x : Nat), x < 2147483648 → y < 2147483648 → 0 < Nat.gcd x y → am_Go l D DA b sz (d + 1) M_R_axle (71, [none, none, none, some (.int p3), some (.int (zi ab)), some (.int (zi be)), some (.int (zi (x : Int))), some (.int (zi (y : Int))), none], [], (am_TT cu L, am_RR cu, σ)) (some (.int (if p3 = 0 then zi ab / zi ((Nat.gcd x y : Nat) : Int) else zi be / zi ((Nat.gcd x y : Nat) : Int)))) (am_TT cu L, am_RR cu, σ) := by
  intro y
  induction y using Nat.strongRecOn with
  | _ y ih =>
    intro x hx hy hg
    refine v_R_axle_71 _ _ _ _ _ ?_
    rw [zi_rem x y hx hy, zi_eq0 (by omega) (by omega)]
    refine ⟨fun c => ?_, fun c => ⟨by omega, ?_⟩⟩
    · have c0 : y = 0 := by omega
      subst c0
      rw [Nat.gcd_zero_right] at hg ⊢
      rw [zi_eq0 (by omega) (by omega)]
      exact ⟨fun h0 => ⟨by omega, by rw [if_pos h0], rfl⟩, fun h0 => ⟨by omega, by rw [if_neg h0], rfl⟩⟩
    · have c0 : 0 < y := by omega
      have hlt := Nat.mod_lt x c0
      rw [g_step x] at hg ⊢
      exact ih (x % y) hlt y hy (by omega) hg
theorem L_axle (hd : 8 ≤ d) (h : pic σ N P Q M) (p q s : Int32) : stepOK l D DA b sz d L cu M_B_axle [some (.ref 1), some (.int p), some (.int q), some (.int s), none, none] M_R_axle [some (.ref 47), some (.int p), some (.int q), some (.int s), none, none, none, none, none] σ N P := by
  obtain ⟨hp, hz, hm, hc⟩ := id h
  have hN := hp.1
  obtain ⟨d, rfl⟩ : ∃ d', d = d' + 1 := ⟨d - 1, by omega⟩
  by_cases c1 : (0 : Int32) ≤ p ∧ p ≤ 1
  · have wi1 := c_within (l := l) (D := D) (DA := DA) (b := b) (sz := sz) (d := d) (L := L) (cu := cu) (σ := σ) p 0 1
    rw [if_pos c1] at wi1
    by_cases c2 : (0 : Int32) ≤ q ∧ q ≤ 6
    · have wi2 := c_within (l := l) (D := D) (DA := DA) (b := b) (sz := sz) (d := d) (L := L) (cu := cu) (σ := σ) q 0 6
      rw [if_pos c2] at wi2
      by_cases c3 : (0 : Int32) ≤ s ∧ s ≤ 1
      · have wi3 := c_within (l := l) (D := D) (DA := DA) (b := b) (sz := sz) (d := d) (L := L) (cu := cu) (σ := σ) s 0 1
        rw [if_pos c3] at wi3
        have hk := le_i (lo := 0) (hi := 1) (by decide) (by decide) (by decide) c1
        have he9 := le_i (lo := 0) (hi := 6) (by decide) (by decide) (by decide) c2
        obtain ⟨e, he, rfl⟩ : ∃ e : Int, (0 ≤ e ∧ e ≤ 6) ∧ q = zi e := ⟨q.toInt, he9, zi_of q⟩
        clear he9
        obtain ⟨k, hk2, rfl⟩ : ∃ k : Int, (0 ≤ k ∧ k ≤ 1) ∧ p = zi k := ⟨p.toInt, hk, zi_of p⟩
        clear hk
        obtain ⟨b1, b2, b3, b4, b5, b6, b7, b8, b9, b10, b11⟩ := ax_bd hp e
        obtain ⟨σ1, g1, v1, f1⟩ := c_sum (l := l) (D := D) (DA := DA) (b := b) (sz := sz) (d := d) (L := L) (cu := cu) (by omega) hc hp he
        have h1 := pic_42 h f1
        obtain ⟨q0, q1, q2, q3, q4, q5, q6, q7, q8⟩ := h1.2.2.1.q
        have hax : -4000000 ≤ axl P Q N k e ∧ axl P Q N k e ≤ 4000000 := by
          rcases (show k = 0 ∨ k = 1 by omega) with rfl | rfl
          · exact b5
          · rw [axl_1]; omega
        have hab := aab_bd (a := axl P Q N k e) (B := 4000000) (by omega)
        have eab : zi (aab (axl P Q N k e)) = zi (((aab (axl P Q N k e)).toNat : Nat) : Int) := by rw [show (((aab (axl P Q N k e)).toNat : Nat) : Int) = aab (axl P Q N k e) by omega]
        have ebe : zi (2 * (Q 5 - Q 4)) = zi (((2 * (Q 5 - Q 4)).toNat : Nat) : Int) := by rw [show (((2 * (Q 5 - Q 4)).toNat : Nat) : Int) = 2 * (Q 5 - Q 4) by omega]
        generalize hA : (aab (axl P Q N k e)).toNat = A at eab
        generalize hBe : (2 * (Q 5 - Q 4)).toNat = Be at ebe
        have hBe2 : 2 ≤ Be ∧ Be ≤ 80 := by omega
        have hA2 : A ≤ 4000000 := by omega
        have hg : 0 < Nat.gcd A Be := Nat.gcd_pos_of_pos_right _ (by omega)
        have hgle : Nat.gcd A Be ≤ Be := Nat.gcd_le_right _ (by omega)
        have gc := v_B_commonDivisor_0 (zi (A : Int)) (zi (Be : Int)) (c_gcd (l := l) (D := D) (DA := DA) (b := b) (sz := sz) (d := d) (L := L) (cu := cu) (σ := σ1) 7 A Be 0 (by omega) (by omega) (by decide) (by omega))
        have gax := c_R_axleOf (l := l) (D := D) (DA := DA) (b := b) (sz := sz) (d := d) (L := L) (cu := cu) (by omega) h1.2.2.1 hp (k := k) (e := e) (by omega) (by omega)
        have gr := c_R_gcd (l := l) (D := D) (DA := DA) (b := b) (sz := sz) (d := d) (L := L) (cu := cu) (σ := σ1) (p3 := s) (ab := axl P Q N k e) (be := 2 * (Q 5 - Q 4)) Be A (by omega) (by omega) hg
        have ri1 := c_R_in (l := l) (D := D) (DA := DA) (b := b) (sz := sz) (d := d) (L := L) (cu := cu) (σ := σ1) (zi k) 0 1
        rw [if_pos c1] at ri1
        have ri2 := c_R_in (l := l) (D := D) (DA := DA) (b := b) (sz := sz) (d := d) (L := L) (cu := cu) (σ := σ1) (zi e) 0 6
        rw [if_pos c2] at ri2
        have ri3 := c_R_in (l := l) (D := D) (DA := DA) (b := b) (sz := sz) (d := d) (L := L) (cu := cu) (σ := σ1) s 0 1
        rw [if_pos c3] at ri3
        have ge1 : (1 : Int32) ≤ zi ((Nat.gcd A Be : Nat) : Int) := by rw [z1, zi_le (by omega) (by omega) (by omega) (by omega)]; omega
        have ne0 : ¬ zi ((Nat.gcd A Be : Nat) : Int) = 0 := by rw [zi_eq0 (by omega) (by omega)]; omega
        refine ⟨(if s = 0 then zi (axl P Q N k e) / zi ((Nat.gcd A Be : Nat) : Int) else zi (2 * (Q 5 - Q 4)) / zi ((Nat.gcd A Be : Nat) : Int)), σ1, σ1, P, Q, M, v_B_axle_0 _ _ _ ⟨_, _, wi1, fun h0 => absurd h0 (by decide), fun _ => ⟨_, _, wi2, fun h0 => absurd h0 (by decide), fun _ => ⟨_, _, wi3, fun h0 => absurd h0 (by decide), fun _ => ⟨σ1, g1, ?_⟩⟩⟩⟩, v_R_axle_0 _ _ _ ⟨_, _, ri1, fun h0 => absurd h0 (by decide), fun _ => ⟨_, _, ri2, fun h0 => absurd h0 (by decide), fun _ => ⟨_, _, ri3, fun h0 => absurd h0 (by decide), fun _ => ⟨_, _, gax, ?_⟩⟩⟩⟩, h1, fun _ _ _ => rfl, rst_of (fun c hc => f1 c (by omega))⟩
        · rcases (show k = 0 ∨ k = 1 by omega) with rfl | rfl
          · refine ⟨fun _ => ⟨_, _, c_front v1, ?_⟩, fun h0 => absurd rfl h0⟩
            rw [(zi_aab (by omega)).1, v1.2.2.2, eab, ebe]
            refine ⟨_, _, gc, fun _ => ⟨fun h0 => ⟨ne0, by rw [if_pos h0], rfl⟩, fun h0 => ⟨ne0, ?_, rfl⟩⟩, fun h0 => absurd ge1 h0⟩
            rw [if_neg h0, v1.2.2.2, ebe]
          · refine ⟨fun h0 => absurd h0 (by decide), fun _ => ⟨_, _, c_rear v1, ?_⟩⟩
            rw [axl_1] at eab ⊢
            rw [(zi_aab (by omega)).1, v1.2.2.2, eab, ebe]
            refine ⟨_, _, gc, fun _ => ⟨fun h0 => ⟨ne0, by rw [if_pos h0], rfl⟩, fun h0 => ⟨ne0, ?_, rfl⟩⟩, fun h0 => absurd ge1 h0⟩
            rw [if_neg h0, v1.2.2.2, ebe]
        · rw [(zi_aab (by omega)).2, q5, q4, z2, zi_sub, zi_mul, eab]
          have gr2 := gr
          rw [← ebe] at gr2
          exact gr2
      · have wi3 := c_within (l := l) (D := D) (DA := DA) (b := b) (sz := sz) (d := d) (L := L) (cu := cu) (σ := σ) s 0 1
        rw [if_neg c3] at wi3
        have ri1 := c_R_in (l := l) (D := D) (DA := DA) (b := b) (sz := sz) (d := d) (L := L) (cu := cu) (σ := σ) p 0 1
        rw [if_pos c1] at ri1
        have ri2 := c_R_in (l := l) (D := D) (DA := DA) (b := b) (sz := sz) (d := d) (L := L) (cu := cu) (σ := σ) q 0 6
        rw [if_pos c2] at ri2
        have ri3 := c_R_in (l := l) (D := D) (DA := DA) (b := b) (sz := sz) (d := d) (L := L) (cu := cu) (σ := σ) s 0 1
        rw [if_neg c3] at ri3
        exact stay h (-2000000000) (v_B_axle_0 _ _ _ ⟨_, _, wi1, fun h0 => absurd h0 (by decide), fun _ => ⟨_, _, wi2, fun h0 => absurd h0 (by decide), fun _ => ⟨_, _, wi3, fun _ => (by first | exact ⟨rfl, rfl⟩ | exact ⟨trivial, trivial⟩ | exact ⟨trivial, rfl⟩ | exact ⟨rfl, trivial⟩ | trivial), fun h0 => absurd rfl h0⟩⟩⟩) (v_R_axle_0 _ _ _ ⟨_, _, ri1, fun h0 => absurd h0 (by decide), fun _ => ⟨_, _, ri2, fun h0 => absurd h0 (by decide), fun _ => ⟨_, _, ri3, fun _ => (by first | exact ⟨rfl, rfl⟩ | exact ⟨trivial, trivial⟩ | exact ⟨trivial, rfl⟩ | exact ⟨rfl, trivial⟩ | trivial), fun h0 => absurd rfl h0⟩⟩⟩)
    · have wi2 := c_within (l := l) (D := D) (DA := DA) (b := b) (sz := sz) (d := d) (L := L) (cu := cu) (σ := σ) q 0 6
      rw [if_neg c2] at wi2
      have ri1 := c_R_in (l := l) (D := D) (DA := DA) (b := b) (sz := sz) (d := d) (L := L) (cu := cu) (σ := σ) p 0 1
      rw [if_pos c1] at ri1
      have ri2 := c_R_in (l := l) (D := D) (DA := DA) (b := b) (sz := sz) (d := d) (L := L) (cu := cu) (σ := σ) q 0 6
      rw [if_neg c2] at ri2
      exact stay h (-2000000000) (v_B_axle_0 _ _ _ ⟨_, _, wi1, fun h0 => absurd h0 (by decide), fun _ => ⟨_, _, wi2, fun _ => (by first | exact ⟨rfl, rfl⟩ | exact ⟨trivial, trivial⟩ | exact ⟨trivial, rfl⟩ | exact ⟨rfl, trivial⟩ | trivial), fun h0 => absurd rfl h0⟩⟩) (v_R_axle_0 _ _ _ ⟨_, _, ri1, fun h0 => absurd h0 (by decide), fun _ => ⟨_, _, ri2, fun _ => (by first | exact ⟨rfl, rfl⟩ | exact ⟨trivial, trivial⟩ | exact ⟨trivial, rfl⟩ | exact ⟨rfl, trivial⟩ | trivial), fun h0 => absurd rfl h0⟩⟩)
  · have wi1 := c_within (l := l) (D := D) (DA := DA) (b := b) (sz := sz) (d := d) (L := L) (cu := cu) (σ := σ) p 0 1
    rw [if_neg c1] at wi1
    have ri1 := c_R_in (l := l) (D := D) (DA := DA) (b := b) (sz := sz) (d := d) (L := L) (cu := cu) (σ := σ) p 0 1
    rw [if_neg c1] at ri1
    exact stay h (-2000000000) (v_B_axle_0 _ _ _ ⟨_, _, wi1, fun _ => (by first | exact ⟨rfl, rfl⟩ | exact ⟨trivial, trivial⟩ | exact ⟨trivial, rfl⟩ | exact ⟨rfl, trivial⟩ | trivial), fun h0 => absurd rfl h0⟩) (v_R_axle_0 _ _ _ ⟨_, _, ri1, fun _ => (by first | exact ⟨rfl, rfl⟩ | exact ⟨trivial, trivial⟩ | exact ⟨trivial, rfl⟩ | exact ⟨rfl, trivial⟩ | trivial), fun h0 => absurd rfl h0⟩)
end AXL
