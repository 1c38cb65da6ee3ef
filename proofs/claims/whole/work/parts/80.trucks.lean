/-! TRUCKS, SHOWN: the two calls -/
def vlF (P : Nat → Nat → Int) (S n : Nat) (a : Int) : Int := if S.testBit n = false then a else a + P 0 n * P 1 n * P 2 n
def vlS (P : Nat → Nat → Int) (S N : Nat) : Int := fo (vlF P S) 0 N
def rmQ (Q : Nat → Int) : Int := Q 0 * Q 1 * Q 2
def aFt (P : Nat → Nat → Int) (Q : Nat → Int) (S N : Nat) : Prop := ∀ n, n < N → S.testBit n = true → f0 P Q n ∨ f1 P Q n
theorem rmQ_bd {Q : Nat → Int} (h : qOK Q) : 1 ≤ rmQ Q ∧ rmQ Q ≤ 5760 := by
  unfold qOK at h
  have h1 : 0 < Q 0 * Q 1 := Int.mul_pos (by omega) (by omega)
  have h2 : 0 < Q 0 * Q 1 * Q 2 := Int.mul_pos h1 (by omega)
  have h3 : Q 0 * Q 1 ≤ 40 * 12 := Int.mul_le_mul (by omega) (by omega) (by omega) (by omega)
  have h4 : Q 0 * Q 1 * Q 2 ≤ 40 * 12 * 12 := Int.mul_le_mul h3 (by omega) (by omega) (by omega)
  unfold rmQ
  omega
/-- what trucks has told -/
def shw (σ : Nat → Nat → Int32) : Prop := (σ 43 0 = 0 ∧ σ 47 37 = -1 ∧ σ 47 38 = -1 ∧ σ 47 39 = -1) ∨ (σ 43 0 = 1 ∧ σ 43 1 = σ 47 37 ∧ σ 43 2 = σ 47 38 ∧ σ 43 3 = σ 47 39)
/-- what cuts have told stays -/
def kpC (σ σ' : Nat → Nat → Int32) : Prop := (∀ c, 62 ≤ c → c ≠ 68 → σ' c = σ c) ∧ σ' 47 28 = σ 47 28
theorem rst_kpC {σ σ' : Nat → Nat → Int32} (h : rst σ σ') : kpC σ σ' := ⟨h.1, h.2.1⟩
theorem rst_shw {σ σ' : Nat → Nat → Int32} (h : rst σ σ') (hs : shw σ) : shw σ' := by
  obtain ⟨-, -, h43, e37, e38, e39⟩ := h
  unfold shw
  rw [h43 0 (by decide), h43 1 (by decide), h43 2 (by decide), h43 3 (by decide), e37, e38, e39]
  exact hs
section TKS
variable {l : Launch} {D : va_G} {DA : Nat → ClassId} {b sz d L : Nat} {cu : Bool} {σ σ' : Nat → Nat → Int32} {N M S : Nat} {P : Nat → Nat → Int} {Q : Nat → Int}
theorem c_judge (hd : 22 ≤ d) (h : cOK σ N P Q M) (hp : pOK N P Q) (hS : S < 2 ^ N) : ∃ σ', GG l D DA b sz d L cu M_Bounds_judge [some (.ref 43), some (.ref 2), some (.int (zi (S : Int))), none, none, none] σ none σ' ∧ (σ' 43 0 = 1 ∧ σ' 43 1 = (zi (vlS P S N) + zi (rmQ Q) - 1) / zi (rmQ Q) ∧ σ' 43 2 = zi ((gB (amk P Q N S) N S 0 (0, 0)).1 : Int) ∧ σ' 43 3 = zi ((gB (amk P Q N S) N S 0 (0, 0)).2 : Int)) ∧ ∀ c, c < 43 ∨ 46 < c → σ' c = σ c := by
  have hN := hp.1
  have hq := hp.2.2.2
  have hrm := rmQ_bd hq
  have hS20 : S < 2 ^ 20 := Nat.lt_of_lt_of_le hS (Nat.pow_le_pow_right (by decide) hN)
  obtain ⟨d, rfl⟩ : ∃ d', d = d' + 1 := ⟨d - 1, by omega⟩
  have hc1 : ∀ {σ1 : Nat → Nat → Int32}, (∀ c, c < 43 ∨ 46 < c → σ1 c = σ c) → cOK σ1 N P Q M := fun f => cOK_fr h (by rw [f 2 (by omega)]) (by rw [f 2 (by omega)]) (fun c hc => f c (by omega)) hN
  have key : ∀ (k i : Nat) (σ1 : Nat → Nat → Int32), i + k = N → (∀ n, n < i → S.testBit n = true → σ1 44 n = zi (ll P Q n) ∧ σ1 45 n = zi (lw P Q n)) → (∀ c, c < 43 ∨ 46 < c → σ1 c = σ c) → ∃ σ', am_Go l D DA b sz (d + 1) M_Bounds_judge (30, [some (.ref 43), some (.ref 2), some (.int (zi (S : Int))), some (.int (zi (rmQ Q))), some (.int (zi (fo (vlF P S) 0 i))), some (.int (zi (i : Int)))], [], (am_TT cu L, am_RR cu, σ1)) none (am_TT cu L, am_RR cu, σ') ∧ (σ' 43 0 = 1 ∧ σ' 43 1 = (zi (vlS P S N) + zi (rmQ Q) - 1) / zi (rmQ Q) ∧ σ' 43 2 = zi ((gB (amk P Q N S) N S 0 (0, 0)).1 : Int) ∧ σ' 43 3 = zi ((gB (amk P Q N S) N S 0 (0, 0)).2 : Int)) ∧ ∀ c, c < 43 ∨ 46 < c → σ' c = σ c := by
    intro k
    induction k with
    | zero =>
      intro i σ1 hi hme hf
      have e : i = N := by omega
      subst e
      have hf2 : ∀ c, c < 43 ∨ 46 < c → am_us (am_us (am_us (am_us σ1 43 0 1) 43 1 ((zi (fo (vlF P S) 0 i) + zi (rmQ Q) - 1) / zi (rmQ Q))) 43 2 0) 43 3 0 c = σ c := fun c hc => by
        rw [am_us_ne (by omega), am_us_ne (by omega), am_us_ne (by omega), am_us_ne (by omega)]
        exact hf c hc
      have hm2 : meas (am_us (am_us (am_us (am_us σ1 43 0 1) 43 1 ((zi (fo (vlF P S) 0 i) + zi (rmQ Q) - 1) / zi (rmQ Q))) 43 2 0) 43 3 0) P Q i S := fun n hn hb => by
        rw [am_us_ne (by omega), am_us_ne (by omega), am_us_ne (by omega), am_us_ne (by omega), am_us_ne (by omega), am_us_ne (by omega), am_us_ne (by omega), am_us_ne (by omega)]
        exact hme n hn hb
      obtain ⟨σ3, g3, a3, f3⟩ := c_findApart (l := l) (D := D) (DA := DA) (b := b) (sz := sz) (d := d) (L := L) (cu := cu) (by omega) (hc1 hf2) hp hS20 hm2
      have e2 : σ3 43 2 = 0 := by rw [f3 43 (by decide), am_us_k (by decide), am_us_s]
      have e3 : σ3 43 3 = 0 := by rw [f3 43 (by decide), am_us_s]
      have e1 : σ3 43 1 = (zi (fo (vlF P S) 0 i) + zi (rmQ Q) - 1) / zi (rmQ Q) := by rw [f3 43 (by decide), am_us_k (by decide), am_us_k (by decide), am_us_s]
      have e0 : σ3 43 0 = 1 := by rw [f3 43 (by decide), am_us_k (by decide), am_us_k (by decide), am_us_k (by decide), am_us_s]
      have e22 : σ3 2 2 = zi (i : Int) := by rw [f3 2 (by decide), hf2 2 (by omega)]; exact h.1
      obtain ⟨σ4, g4, o4⟩ := c_findBig (l := l) (D := D) (DA := DA) (b := b) (sz := sz) (L := L) (cu := cu) hN (ap := amk P Q i S) (fun k => (amk_lt hN).2) i d S 0 (0, 0) σ3 (Nat.le_refl _) (by omega) hS (by decide) (fun i _ => Nat.zero_testBit i) (by decide) ⟨e2, e3⟩ a3
      have z0 : zi ((0 : Nat) : Int) = 0 := rfl
      rw [z0] at g4
      refine ⟨σ4, v_Bounds_judge_30 _ _ _ _ ?_, ⟨?_, ?_, o4.1.1, o4.1.2⟩, fun c hc => ?_⟩
      · have h22 : σ1 2 2 = zi (i : Int) := by rw [hf 2 (by omega)]; exact h.1
        rw [h22]
        refine ⟨fun _ => ⟨fun _ => ⟨?_, σ3, g3, σ4, ?_, rfl, rfl⟩, fun h0 => absurd ?_ h0⟩, fun h0 => absurd (Int32.le_refl _) h0⟩
        · rw [zi_eq0 (by omega) (by omega)]; omega
        · rw [e22]; exact g4
        · rw [← zi_1, zi_le (by omega) (by omega) (by omega) (by omega)]; omega
      · rw [o4.2.2 0 (by decide) (by decide)]; exact e0
      · rw [o4.2.2 1 (by decide) (by decide)]; exact e1
      · rw [o4.2.1 c (by omega), f3 c (by omega)]; exact hf2 c hc
    | succ k ih =>
      intro i σ1 hi hme hf
      have hiN : i < N := by omega
      have hcl : Int32.toNatClampNeg (zi i) = i := zi_cl (by omega)
      have ni : ¬ (zi (i : Int) < 0 ∨ 20 ≤ i) := by rw [zi_lt0 (by omega) (by omega)]; omega
      have hnle : ¬ zi (N : Int) ≤ zi (i : Int) := by rw [zi_le (by omega) (by omega) (by omega) (by omega)]; omega
      have h22 : σ1 2 2 = zi (N : Int) := by rw [hf 2 (by omega)]; exact h.1
      have q0 : fo (vlF P S) 0 (i + 1) = vlF P S i (fo (vlF P S) 0 i) := rfl
      have ih1 := ih (i + 1)
      rw [q0] at ih1
      cases hb : S.testBit i with
      | false =>
        have q1 : vlF P S i (fo (vlF P S) 0 i) = fo (vlF P S) 0 i := if_pos hb
        rw [q1] at ih1
        obtain ⟨σ', g, pp⟩ := ih1 σ1 (by omega) (fun n hn hbn => hme n (by
          by_cases e : n = i
          · rw [e, hb] at hbn; cases hbn
          · omega) hbn) hf
        refine ⟨σ', v_Bounds_judge_30 _ _ _ _ ?_, pp⟩
        rw [h22, mk_bit0 (by omega) (by omega), zi_s1]
        exact ⟨fun h0 => absurd h0 hnle, fun _ => ⟨fun _ => g, fun h0 => absurd hb h0⟩⟩
      | true =>
        have q1 : vlF P S i (fo (vlF P S) 0 i) = fo (vlF P S) 0 i + P 0 i * P 1 i * P 2 i := if_neg (by rw [hb]; decide)
        rw [q1] at ih1
        have gv := c_volume (l := l) (D := D) (DA := DA) (b := b) (sz := sz) (d := d) (L := L) (cu := cu) (hc1 hf) (n := i) (by omega)
        obtain ⟨σ5, gm, m1, m2, m3⟩ := c_measure (l := l) (D := D) (DA := DA) (b := b) (sz := sz) (d := d) (L := L) (cu := cu) (by omega) (hc1 hf) hp hiN
        obtain ⟨σ', g, pp⟩ := ih1 σ5 (by omega) (fun n hn hbn => by
          by_cases e : n = i
          · rw [e]; exact m1
          · rw [(m2 n e).1, (m2 n e).2]; exact hme n (by omega) hbn) (fun c hc => by rw [m3 c (by omega) (by omega)]; exact hf c hc)
        refine ⟨σ', v_Bounds_judge_30 _ _ _ _ ?_, pp⟩
        rw [h22, mk_bit0 (by omega) (by omega), zi_s1, hcl]
        refine ⟨fun h0 => absurd h0 hnle, fun _ => ⟨fun h0 => absurd (hb.symm.trans h0) (by decide), fun _ => ⟨ni, _, _, gv, σ5, gm, ?_⟩⟩⟩
        rw [zi_add]
        exact g
  obtain ⟨σ', g, pp⟩ := key N 0 σ (by omega) (fun n hn => absurd hn (by omega)) (fun _ _ => rfl)
  refine ⟨σ', v_Bounds_judge_0 _ ?_, pp⟩
  obtain ⟨g0, g1, g2, -⟩ := h.q
  rw [g0, g1, g2, zi_mul, zi_mul]
  exact g
theorem c_trk {r : Option Value} {X' : am_X} (hd : 1 ≤ d) (h : cOK σ N P Q M) (hp : pOK N P Q) (hS : S < 2 ^ 20) (G1 : aFt P Q S N → am_Go l D DA b sz d M_B_trucks (13, [some (.ref 1), some (.int (zi (S : Int))), some (.int (zi (N : Int)))], [], (am_TT cu L, am_RR cu, σ)) r X') (G2 : ¬ aFt P Q S N → r = some (.int (-4)) ∧ X' = (am_TT cu L, am_RR cu, σ)) :
    am_Go l D DA b sz d M_B_trucks (13, [some (.ref 1), some (.int (zi (S : Int))), some (.int 0)], [], (am_TT cu L, am_RR cu, σ)) r X' := by
  obtain ⟨d, rfl⟩ : ∃ d', d = d' + 1 := ⟨d - 1, by omega⟩
  have hN := hp.1
  have up := up_loop (fun i => (∀ n, n < i → S.testBit n = true → f0 P Q n ∨ f1 P Q n) → am_Go l D DA b sz (d + 1) M_B_trucks (13, [some (.ref 1), some (.int (zi (S : Int))), some (.int (zi (i : Int)))], [], (am_TT cu L, am_RR cu, σ)) r X') N G1 (fun i hi ih ha => by
    have hnle : ¬ zi (N : Int) ≤ zi (i : Int) := by rw [zi_le (by omega) (by omega) (by omega) (by omega)]; omega
    refine v_B_trucks_13 _ _ ?_
    rw [h.1, mk_bit0 (by omega) (by omega), zi_s1]
    refine ⟨fun h0 => absurd h0 hnle, fun _ => ?_⟩
    have nx : (S.testBit i = true → f0 P Q i ∨ f1 P Q i) → am_Go l D DA b sz (d + 1) M_B_trucks (13, [some (.ref 1), some (.int (zi (S : Int))), some (.int (zi ((i : Int) + 1)))], [], (am_TT cu L, am_RR cu, σ)) r X' := fun q => ih (fun n hn hb => by
      by_cases e : n = i
      · rw [e] at hb ⊢; exact q hb
      · exact ha n (by omega) hb)
    cases hb : S.testBit i with
    | false => exact ⟨fun _ => nx (fun z => by rw [hb] at z; cases z), fun h0 => absurd rfl h0⟩
    | true =>
      refine ⟨fun h0 => absurd h0 (by decide), fun _ => ?_⟩
      have x0 := c_fits0 (l := l) (D := D) (DA := DA) (b := b) (sz := sz) (d := d) (L := L) (cu := cu) h hp hi
      have x1 := c_fits1 (l := l) (D := D) (DA := DA) (b := b) (sz := sz) (d := d) (L := L) (cu := cu) h hp hi
      by_cases c0 : f0 P Q i
      · rw [if_pos c0] at x0
        exact ⟨_, _, x0, fun h0 => absurd h0 (by decide), fun _ => nx (fun _ => Or.inl c0)⟩
      · rw [if_neg c0] at x0
        refine ⟨_, _, x0, fun _ => ?_, fun h0 => absurd rfl h0⟩
        by_cases c1 : f1 P Q i
        · rw [if_pos c1] at x1
          exact ⟨_, _, x1, fun h0 => absurd h0 (by decide), fun _ => nx (fun _ => Or.inr c1)⟩
        · rw [if_neg c1] at x1
          exact ⟨_, _, x1, fun _ => G2 (fun z => (z i hi hb).elim c0 c1), fun h0 => absurd rfl h0⟩)
  exact up (fun n hn => absurd hn (by omega))
theorem c_R_trk {r : Option Value} {X' : am_X} (hd : 1 ≤ d) (h : mOK σ N P Q) (hp : pOK N P Q) (hS : S < 2 ^ 20) (G1 : aFt P Q S N → am_Go l D DA b sz d M_R_trucks (86, [some (.ref 47), some (.int (zi (S : Int))), some (.int (zi (vlS P S N))), some (.int 0), none], [], (am_TT cu L, am_RR cu, σ)) r X') (G2 : ¬ aFt P Q S N → r = some (.int (-4)) ∧ X' = (am_TT cu L, am_RR cu, σ)) :
    am_Go l D DA b sz d M_R_trucks (15, [some (.ref 47), some (.int (zi (S : Int))), some (.int 0), some (.int 0), none], [], (am_TT cu L, am_RR cu, σ)) r X' := by
  obtain ⟨d, rfl⟩ : ∃ d', d = d' + 1 := ⟨d - 1, by omega⟩
  have hN := hp.1
  have up := up_loop (fun i => (∀ n, n < i → S.testBit n = true → f0 P Q n ∨ f1 P Q n) → am_Go l D DA b sz (d + 1) M_R_trucks (15, [some (.ref 47), some (.int (zi (S : Int))), some (.int (zi (fo (vlF P S) 0 i))), some (.int (zi (i : Int))), none], [], (am_TT cu L, am_RR cu, σ)) r X') N (fun ha => by
    refine v_R_trucks_15 _ _ _ ?_
    rw [h.1]
    exact ⟨fun _ => G1 ha, fun h0 => absurd (Int32.le_refl _) h0⟩) (fun i hi ih ha => by
    have hnle : ¬ zi (N : Int) ≤ zi (i : Int) := by rw [zi_le (by omega) (by omega) (by omega) (by omega)]; omega
    have hi20 : i < 20 := by omega
    obtain ⟨⟨e0, e1, e2, e3, e4, e5, e6⟩, e7, e8, e9, e10, e11, e12⟩ := h.row hi20
    have hcl : Int32.toNatClampNeg (zi i) = i := zi_cl (by omega)
    have ni : ¬ (zi (i : Int) < 0 ∨ 20 ≤ i) := by rw [zi_lt0 (by omega) (by omega)]; omega
    have q0 : fo (vlF P S) 0 (i + 1) = vlF P S i (fo (vlF P S) 0 i) := rfl
    rw [q0] at ih
    refine v_R_trucks_15 _ _ _ ?_
    rw [h.1, mk_bit0 (by omega) (by omega), zi_s1, hcl]
    refine ⟨fun h0 => absurd h0 hnle, fun _ => ?_⟩
    cases hb : S.testBit i with
    | false =>
      rw [show vlF P S i (fo (vlF P S) 0 i) = fo (vlF P S) 0 i from if_pos hb] at ih
      exact ⟨fun _ => ih (fun n hn hbn => by
        by_cases e : n = i
        · rw [e, hb] at hbn; cases hbn
        · exact ha n (by omega) hbn), fun h0 => absurd rfl h0⟩
    | true =>
      rw [show vlF P S i (fo (vlF P S) 0 i) = fo (vlF P S) 0 i + P 0 i * P 1 i * P 2 i from if_neg (by rw [hb]; decide)] at ih
      refine ⟨fun h0 => absurd h0 (by decide), fun _ => ?_⟩
      have x0 := c_R_fits0 (l := l) (D := D) (DA := DA) (b := b) (sz := sz) (d := d) (L := L) (cu := cu) h hp hi
      have x1 := c_R_fits1 (l := l) (D := D) (DA := DA) (b := b) (sz := sz) (d := d) (L := L) (cu := cu) h hp hi
      have nx : (f0 P Q i ∨ f1 P Q i) → am_Go l D DA b sz (d + 1) M_R_trucks (15, [some (.ref 47), some (.int (zi (S : Int))), some (.int (zi (fo (vlF P S) 0 i) + σ 48 i * σ 49 i * σ 50 i)), some (.int (zi ((i : Int) + 1))), none], [], (am_TT cu L, am_RR cu, σ)) r X' := fun q => by
        rw [e0, e1, e2, zi_mul, zi_mul, zi_add]
        exact ih (fun n hn hbn => by
          by_cases e : n = i
          · rw [e]; exact q
          · exact ha n (by omega) hbn)
      by_cases c0 : f0 P Q i
      · rw [if_pos c0] at x0
        exact ⟨_, _, x0, fun h0 => absurd h0 (by decide), fun _ => ⟨ni, ni, ni, nx (Or.inl c0)⟩⟩
      · rw [if_neg c0] at x0
        refine ⟨_, _, x0, fun _ => ?_, fun h0 => absurd rfl h0⟩
        by_cases c1 : f1 P Q i
        · rw [if_pos c1] at x1
          exact ⟨_, _, x1, fun h0 => absurd h0 (by decide), fun _ => ⟨ni, ni, ni, nx (Or.inr c1)⟩⟩
        · rw [if_neg c1] at x1
          exact ⟨_, _, x1, fun _ => G2 (fun z => (z i hi hb).elim c0 c1), fun h0 => absurd rfl h0⟩)
  exact up (fun n hn => absurd hn (by omega))
/-- the reference's last part, where all fit -/
theorem c_R_trucks (hd : 23 ≤ d) (h : mOK σ N P Q) (hp : pOK N P Q) (hS : S < 2 ^ N) (hft : aFt P Q S N) {V : Int} :
    ∃ σ', am_Go l D DA b sz d M_R_trucks (86, [some (.ref 47), some (.int (zi (S : Int))), some (.int (zi V)), some (.int 0), none], [], (am_TT cu L, am_RR cu, σ)) (some (.int (if (zi V + zi (rmQ Q) - 1) / zi (rmQ Q) ≤ zi ((gB (amk P Q N S) N S 0 (0, 0)).1 : Int) then zi ((gB (amk P Q N S) N S 0 (0, 0)).1 : Int) else (zi V + zi (rmQ Q) - 1) / zi (rmQ Q)))) (am_TT cu L, am_RR cu, σ') ∧ ((σ' 47 37 = (zi V + zi (rmQ Q) - 1) / zi (rmQ Q) ∧ σ' 47 38 = zi ((gB (amk P Q N S) N S 0 (0, 0)).1 : Int) ∧ σ' 47 39 = zi ((gB (amk P Q N S) N S 0 (0, 0)).2 : Int)) ∧ (∀ c, c ≠ 47 → c ≠ 68 → σ' c = σ c) ∧ ∀ k, k < 35 → σ' 47 k = σ 47 k) := by
  have hN := hp.1
  have hrm := rmQ_bd hp.2.2.2
  have hS20 : S < 2 ^ 20 := Nat.lt_of_lt_of_le hS (Nat.pow_le_pow_right (by decide) hN)
  refine c_R_apart (by omega) h hp hS20 hft (fun σ1 ha hf => ?_)
  obtain ⟨d, rfl⟩ : ∃ d', d = d' + 1 := ⟨d - 1, by omega⟩
  have hm1 : mOK σ1 N P Q := mOK_fr h (fun c _ _ => hf c (by omega)) (fun k _ => by rw [hf 47 (by omega)])
  obtain ⟨σ2, g2, o2⟩ := c_R_bigs (l := l) (D := D) (DA := DA) (b := b) (sz := sz) (L := L) (cu := cu) hN (ap := amk P Q N S) N d S 0 (0, 0) (am_us (am_us σ1 47 35 0) 47 36 0) (Nat.le_refl _) (by omega) hS20 (by decide) (fun i _ => Nat.zero_testBit i) (by decide) ⟨by rw [am_us_k (by decide), am_us_s]; rfl, by rw [am_us_s]; rfl⟩ (fun k hk => by rw [am_us_ne (by decide), am_us_ne (by decide)]; exact ha k hk)
  have z0 : zi ((0 : Nat) : Int) = 0 := rfl
  have p0 : pcn 0 20 = 0 := by decide
  rw [p0, z0] at g2
  obtain ⟨g14, g15, g16, -⟩ := hm1.q
  have k47 : ∀ k, k < 35 → σ2 47 k = σ1 47 k := fun k hk => by rw [o2.2.2 k (by omega) (by omega), am_us_k (by omega), am_us_k (by omega)]
  have hrm2 : σ2 47 14 * σ2 47 15 * σ2 47 16 = zi (rmQ Q) := by rw [k47 14 (by decide), k47 15 (by decide), k47 16 (by decide), g14, g15, g16, zi_mul, zi_mul]; rfl
  refine ⟨am_us (am_us (am_us σ2 47 37 ((zi V + zi (rmQ Q) - 1) / zi (rmQ Q))) 47 38 (σ2 47 35)) 47 39 (σ2 47 36), v_R_trucks_86 _ _ _ ?_, ⟨?_, ?_, ?_⟩, fun c c1 c2 => ?_, fun k hk => ?_⟩
  · rw [hm1.1]
    refine ⟨fun _ => ⟨σ2, ?_, ?_⟩, fun h0 => absurd (Int32.le_refl _) h0⟩
    · rw [zi_m1]; exact g2
    · rw [hrm2, o2.1.1]
      refine ⟨?_, rfl, rfl⟩
      rw [zi_eq0 (by omega) (by omega)]; omega
  · rw [am_us_k (by decide), am_us_k (by decide), am_us_s]
  · rw [am_us_k (by decide), am_us_s, o2.1.1]
  · rw [am_us_s, o2.1.2]
  · rw [am_us_ne c1, am_us_ne c1, am_us_ne c1, o2.2.1 c c1, am_us_ne c1, am_us_ne c1]
    exact hf c c2
  · rw [am_us_k (by omega), am_us_k (by omega), am_us_k (by omega), k47 k hk, hf 47 (by decide)]
theorem isS_1 (hN : N ≤ 20) {p : Int32} (h : 0 < p.toInt ∧ p.toInt < 2 ^ N) : ∃ S : Nat, S < 2 ^ N ∧ 0 < S ∧ p = zi (S : Int) := by
  have e2 : ((2 : Int) ^ N) = ((2 ^ N : Nat) : Int) := by simp
  rw [e2] at h
  refine ⟨p.toInt.toNat, by omega, by omega, ?_⟩
  rw [show ((p.toInt.toNat : Nat) : Int) = p.toInt by omega]
  exact zi_of p
theorem mx_eq (V B : Int32) : (if V < B then B else V) = if V ≤ B then B else V := by
  by_cases c : V < B
  · rw [if_pos c, if_pos (Int32.le_of_lt c)]
  · rw [if_neg c]
    by_cases c2 : V ≤ B
    · rw [if_pos c2]
      rw [Int32.lt_iff_toInt_lt] at c
      rw [Int32.le_iff_toInt_le] at c2
      exact Int32.toInt_inj.mp (by omega)
    · rw [if_neg c2]
theorem L_trucks (hd : 24 ≤ d) (h : pic σ N P Q M) (p : Int32) : ∃ r σ1 σ2, GG l D DA b sz d L cu M_B_trucks [some (.ref 1), some (.int p), none] σ (some (.int r)) σ1 ∧ GG l D DA b sz d L cu M_R_trucks [some (.ref 47), some (.int p), none, none, none] σ1 (some (.int r)) σ2 ∧ pic σ2 N P Q M ∧ kpC σ σ2 ∧ (shw σ → shw σ2) := by
  obtain ⟨hp, hz, hm, hc⟩ := id h
  have hN := hp.1
  obtain ⟨d, rfl⟩ : ∃ d', d = d' + 1 := ⟨d - 1, by omega⟩
  have i1 := c_isSet (l := l) (D := D) (DA := DA) (b := b) (sz := sz) (d := d) (L := L) (cu := cu) hc hN p
  by_cases c1 : 0 < p.toInt ∧ p.toInt < 2 ^ N
  · obtain ⟨S, hS, hS0, rfl⟩ := isS_1 hN c1
    have hS20 : S < 2 ^ 20 := Nat.lt_of_lt_of_le hS (Nat.pow_le_pow_right (by decide) hN)
    have eS : isS N (zi (S : Int)) = 1 := if_pos c1
    rw [eS] at i1
    by_cases cf : aFt P Q S N
    · obtain ⟨σ1, g1, ⟨j0, j1, j2, j3⟩, f1⟩ := c_judge (l := l) (D := D) (DA := DA) (b := b) (sz := sz) (d := d) (L := L) (cu := cu) (by omega) hc hp hS
      have hm1 : mOK σ1 N P Q := mOK_fr hm (fun c _ _ => f1 c (by omega)) (fun k _ => by rw [f1 47 (by omega)])
      obtain ⟨σ2, g2, ⟨t1, t2, t3⟩, f2, f3⟩ := c_R_trucks (l := l) (D := D) (DA := DA) (b := b) (sz := sz) (d := d + 1) (L := L) (cu := cu) (by omega) hm1 hp hS cf (V := vlS P S N)
      have i2 := c_R_isSet (l := l) (D := D) (DA := DA) (b := b) (sz := sz) (d := d) (L := L) (cu := cu) hm1 hN (zi (S : Int))
      rw [eS] at i2
      refine ⟨_, σ1, σ2, v_B_trucks_0 _ ⟨_, _, i1, fun h0 => absurd h0 (by decide), fun _ => c_trk (by omega) hc hp hS20 (fun _ => v_B_trucks_13 _ _ ?_) (fun z => absurd cf z)⟩, v_R_trucks_0 _ ⟨_, _, i2, fun h0 => absurd h0 (by decide), fun _ => c_R_trk (by omega) hm1 hp hS20 (fun _ => g2) (fun z => absurd cf z)⟩, ⟨hp, hz, ?_, ?_⟩, ⟨fun c a e => ?_, ?_⟩, fun _ => Or.inr ⟨?_, ?_, ?_, ?_⟩⟩
      · rw [hc.1]
        refine ⟨fun _ => ⟨σ1, g1, ?_, rfl⟩, fun h0 => absurd (Int32.le_refl _) h0⟩
        rw [j1, j2, mx_eq]
      · exact mOK_fr hm1 (fun c _ _ => f2 c (by omega) (by omega)) (fun k hk => f3 k (by omega))
      · exact cOK_fr hc (by rw [f2 2 (by omega) (by omega), f1 2 (by omega)]) (by rw [f2 2 (by omega) (by omega), f1 2 (by omega)]) (fun c hc9 => by rw [f2 c (by omega) (by omega), f1 c (by omega)]) hN
      · rw [f2 c (by omega) e, f1 c (by omega)]
      · rw [f3 28 (by decide), f1 47 (by omega)]
      · rw [f2 43 (by omega) (by omega), j0]
      · rw [f2 43 (by omega) (by omega), j1, t1]
      · rw [f2 43 (by omega) (by omega), j2, t2]
      · rw [f2 43 (by omega) (by omega), j3, t3]
    · have i2 := c_R_isSet (l := l) (D := D) (DA := DA) (b := b) (sz := sz) (d := d) (L := L) (cu := cu) hm hN (zi (S : Int))
      rw [eS] at i2
      exact ⟨-4, σ, σ, v_B_trucks_0 _ ⟨_, _, i1, fun h0 => absurd h0 (by decide), fun _ => c_trk (by omega) hc hp hS20 (fun z => absurd z cf) (fun _ => ⟨rfl, rfl⟩)⟩, v_R_trucks_0 _ ⟨_, _, i2, fun h0 => absurd h0 (by decide), fun _ => c_R_trk (by omega) hm hp hS20 (fun z => absurd z cf) (fun _ => ⟨rfl, rfl⟩)⟩, h, ⟨fun _ _ _ => rfl, rfl⟩, fun z => z⟩
  · have eS : isS N p = 0 := if_neg c1
    rw [eS] at i1
    have i2 := c_R_isSet (l := l) (D := D) (DA := DA) (b := b) (sz := sz) (d := d) (L := L) (cu := cu) hm hN p
    rw [eS] at i2
    exact ⟨-2, σ, σ, v_B_trucks_0 _ ⟨_, _, i1, fun _ => (by first | exact ⟨rfl, rfl⟩ | exact ⟨trivial, trivial⟩ | exact ⟨trivial, rfl⟩ | exact ⟨rfl, trivial⟩ | trivial), fun h0 => absurd rfl h0⟩, v_R_trucks_0 _ ⟨_, _, i2, fun _ => (by first | exact ⟨rfl, rfl⟩ | exact ⟨trivial, trivial⟩ | exact ⟨trivial, rfl⟩ | exact ⟨rfl, trivial⟩ | trivial), fun h0 => absurd rfl h0⟩, h, ⟨fun _ _ _ => rfl, rfl⟩, fun z => z⟩
theorem L_shown (hs : shw σ) (p : Int32) : ∃ r, GG l D DA b sz d L cu M_B_shown [some (.ref 1), some (.int p)] σ (some (.int r)) σ ∧ GG l D DA b sz d L cu M_R_shown [some (.ref 47), some (.int p)] σ (some (.int r)) σ := by
  refine ⟨_, v_B_shown_0 _ ?_, v_R_shown_0 _ ⟨rfl, rfl⟩⟩
  rcases hs with ⟨a, x, y, z⟩ | ⟨a, x, y, z⟩
  · rw [a, x, y, z]
    refine ⟨fun _ => ⟨?_, rfl⟩, fun h0 => absurd rfl h0⟩
    by_cases c0 : p = 0
    · rw [if_pos c0]
    · by_cases c1 : p = 1
      · rw [if_neg c0, if_pos c1]
      · by_cases c2 : p = 2
        · rw [if_neg c0, if_neg c1, if_pos c2]
        · rw [if_neg c0, if_neg c1, if_neg c2]
  · rw [a, x, y, z]
    refine ⟨fun h0 => absurd h0 (by decide), fun _ => ⟨fun c0 => ?_, fun c1 => ?_, fun c2 => ?_, fun c0 c1 c2 => ?_⟩⟩
    · subst c0; exact (by first | exact ⟨rfl, rfl⟩ | exact ⟨trivial, trivial⟩ | exact ⟨trivial, rfl⟩ | exact ⟨rfl, trivial⟩ | trivial)
    · subst c1; exact (by first | exact ⟨rfl, rfl⟩ | exact ⟨trivial, trivial⟩ | exact ⟨trivial, rfl⟩ | exact ⟨rfl, trivial⟩ | trivial)
    · subst c2; exact (by first | exact ⟨rfl, rfl⟩ | exact ⟨trivial, trivial⟩ | exact ⟨trivial, rfl⟩ | exact ⟨rfl, trivial⟩ | trivial)
    · rw [if_neg c0, if_neg c1, if_neg c2]; exact (by first | exact ⟨rfl, rfl⟩ | exact ⟨trivial, trivial⟩ | exact ⟨trivial, rfl⟩ | exact ⟨rfl, trivial⟩ | trivial)
end TKS
