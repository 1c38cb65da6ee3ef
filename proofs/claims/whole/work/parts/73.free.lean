/-! the class: isFree -/
section FRE
variable {l : Launch} {D : va_G} {DA : Nat → ClassId} {b sz d L : Nat} {cu : Bool} {σ σ' : Nat → Nat → Int32} {N M : Nat} {P : Nat → Nat → Int} {Q : Nat → Int}
theorem cmk_pp {n k : Nat} (hk : k < 3) (h8 : P 8 n = 0) {x y z t f e : Int} : cmk (pp P n x y z t) N k f e = cmk P N k f e := by
  unfold cmk
  refine fo_congr (fun i a _ => ?_)
  unfold cmF
  rw [pp_o (k := 8) (by omega)]
  by_cases c : P 8 i = 0
  · rw [if_pos c, if_pos c]
  · have e9 : i ≠ n := fun z => c (z ▸ h8)
    rw [if_neg c, if_neg c, pp_o (k := 9 + k) (by omega), en_pp h8 c]
theorem and30 {X : Nat} (hX : X < 2 ^ 20) : X &&& 2 ^ 30 = 0 := by
  apply Nat.eq_of_testBit_eq
  intro i
  rw [Nat.zero_testBit, Nat.testBit_and, Nat.testBit_two_pow]
  by_cases e : 30 = i
  · subst e
    rw [Nat.testBit_lt_two_pow (Nat.lt_trans hX (by decide)), Bool.false_and]
  · rw [decide_eq_false e, Bool.and_false]
theorem and30' {X : Nat} (hX : X.testBit 30 = true) : X &&& 2 ^ 30 ≠ 0 := by
  intro h
  have h9 : (X &&& 2 ^ 30).testBit 30 = true := by rw [Nat.testBit_and, hX, Nat.testBit_two_pow]; rfl
  rw [h, Nat.zero_testBit] at h9
  cases h9
theorem wl_bit {A B : Nat} (hA : A < 2 ^ 20) (hB : B < 2 ^ 20) {a q a' q' : Int} : ((zi ((A ||| wl a q : Nat) : Int) ||| zi ((B ||| wl a' q' : Nat) : Int)) &&& 1073741824 = (0 : Int32)) ↔ (a ≤ q ∧ a' ≤ q') := by
  have e30 : (1073741824 : Int32) = zi ((2 ^ 30 : Nat) : Int) := rfl
  rw [e30, mk_or, mk_andN]
  have hle : (A ||| wl a q ||| (B ||| wl a' q')) &&& 2 ^ 30 ≤ 2 ^ 30 := Nat.and_le_right
  rw [zi_eq0 (by omega) (by omega)]
  have hz : ∀ n : Nat, ((n : Int) = 0) ↔ n = 0 := fun n => by omega
  rw [hz]
  unfold wl
  by_cases c1 : a ≤ q
  · by_cases c2 : a' ≤ q'
    · rw [if_pos c1, if_pos c2, Nat.or_zero, Nat.or_zero]
      exact ⟨fun _ => ⟨c1, c2⟩, fun _ => and30 (Nat.or_lt_two_pow hA hB)⟩
    · rw [if_neg c2]
      refine ⟨fun h => absurd h (and30' ?_), fun h => absurd h.2 c2⟩
      rw [Nat.testBit_or, Nat.testBit_or, Nat.testBit_or, Nat.testBit_two_pow, decide_eq_true rfl, Bool.or_true, Bool.or_true]
  · rw [if_neg c1]
    refine ⟨fun h => absurd h (and30' ?_), fun h => absurd h.1 c1⟩
    rw [Nat.testBit_or, Nat.testBit_or, Nat.testBit_two_pow, decide_eq_true rfl, Bool.or_true, Bool.true_or]
theorem wm_in {k : Nat} {c s q : Int} (h : c + s ≤ q) : wm P N k c s q = cmk P N k c (c + s) := by
  unfold wm wl
  rw [if_pos h, Nat.or_zero]
theorem cOK_back {n : Nat} {x y z t : Int} (h : cOK σ N (pp P n x y z t) Q M) (h8 : P 8 n = 0) : cOK σ N P Q M := by
  have h9 := cOK_pp h (n := n) (by rw [pp_o (by omega)]; exact h8) (P 9 n) (P 10 n) (P 11 n) (P 12 n)
  rw [pp_pp, pp_self] at h9
  exact h9
/-- what is left of isFree once the two rows are chosen -/
def frT (l : Launch) (D : va_G) (DA : Nat → ClassId) (b sz d L : Nat) (cu : Bool) (σ : Nat → Nat → Int32) (a e i j n : Nat) (z t : Int) (r : Option Value) (X' : am_X) : Prop :=
  (¬ (zi (j : Int) < 0 ∨ 21 ≤ j)) ∧ ((((((σ a i) ||| (σ e j)) &&& 1073741824) = 0) → ((((((σ a i) &&& (σ e j)) &&& (σ 2 11)) = 0) → ((¬ (zi (n : Int) < 0 ∨ 20 ≤ n)) ∧ ((¬ (zi (i : Int) < 0 ∨ 21 ≤ i)) ∧ ((¬ (zi (j : Int) < 0 ∨ 21 ≤ j)) ∧ (∃ (σ1 : Nat → Nat → Int32), am_Go l D DA b sz d M_Box_moveTo (0, [some (.ref (19 + n)), some (.int (σ 8 i)), some (.int (σ 12 j)), some (.int (zi z)), some (.int (zi t))], [], (am_TT cu L, am_RR cu, am_us (am_us σ 2 9 (σ a i)) 2 10 (σ e j))) none (am_TT cu L, am_RR cu, σ1) ∧ ((∃ (r2 : Int32) (σ2 : Nat → Nat → Int32), am_Go l D DA b sz d M_Hold_isHeld (0, [some (.ref 2), some (.ref (19 + n)), none, none, none], [], (am_TT cu L, am_RR cu, σ1)) (some (.int r2)) (am_TT cu L, am_RR cu, σ2) ∧ (((r2 = 0) → (r = some (.int 0) ∧ X' = (am_TT cu L, am_RR cu, σ2))) ∧ (¬ (r2 = 0) → (∃ (r3 : Int32) (σ3 : Nat → Nat → Int32), am_Go l D DA b sz d M_Hold_isInWay (0, [some (.ref 2), some (.ref (19 + n)), none, none, none, none, none, none], [], (am_TT cu L, am_RR cu, σ2)) (some (.int r3)) (am_TT cu L, am_RR cu, σ3) ∧ (((r3 = 0) → (∃ (r4 : Int32) (σ4 : Nat → Nat → Int32), am_Go l D DA b sz d M_Hold_touches (0, [some (.ref 2), some (.ref (19 + n)), none, none], [], (am_TT cu L, am_RR cu, σ3)) (some (.int r4)) (am_TT cu L, am_RR cu, σ4) ∧ (((r4 = 0) → (((if (σ4 2 12) = 0 then 0 else 1 : Int32) = 0 ∨ (if (σ4 2 12) = 0 then 0 else 1 : Int32) = 1) ∧ (r = some (.int (if (σ4 2 12) = 0 then 0 else 1 : Int32)) ∧ X' = (am_TT cu L, am_RR cu, σ4)))) ∧ (¬ (r4 = 0) → (∃ (r5 : Int32) (σ5 : Nat → Nat → Int32), am_Go l D DA b sz d M_Hold_bearAll (0, [some (.ref 2), some (.int ((σ4 2 3) ||| (1 <<< (zi n &&& 31 : Int32) : Int32))), none, none, none], [], (am_TT cu L, am_RR cu, σ4)) (some (.int r5)) (am_TT cu L, am_RR cu, σ5) ∧ (((if r5 = 0 then 0 else 1 : Int32) = 0 ∨ (if r5 = 0 then 0 else 1 : Int32) = 1) ∧ (r = some (.int (if r5 = 0 then 0 else 1 : Int32)) ∧ X' = (am_TT cu L, am_RR cu, σ5)))))))) ∧ (¬ (r3 = 0) → (r = some (.int 0) ∧ X' = (am_TT cu L, am_RR cu, σ3)))))))))))))) ∧ (¬ ((((σ a i) &&& (σ e j)) &&& (σ 2 11)) = 0) → (r = some (.int 0) ∧ X' = (am_TT cu L, am_RR cu, am_us (am_us σ 2 9 (σ a i)) 2 10 (σ e j)))))) ∧ (¬ ((((σ a i) ||| (σ e j)) &&& 1073741824) = 0) → (r = some (.int 0) ∧ X' = (am_TT cu L, am_RR cu, am_us (am_us σ 2 9 (σ a i)) 2 10 (σ e j)))))
/-- how a try ends -/
def frO (P : Nat → Nat → Int) (Q : Nat → Int) (N M n : Nat) (x y z t : Int) (σ σ' : Nat → Nat → Int32) : Prop :=
  cOK σ' N P Q M ∧ (∀ c, c ≠ 2 → c ≠ 5 → c ≠ 6 → c ≠ 19 + n → σ' c = σ c) ∧ (σ' 2 11 = σ 2 11 ∧ σ' 2 12 = σ 2 12) ∧ (wrg (pp P n x y z t) Q N n = 0 → bAt σ' (pp P n x y z t) n)
theorem fr_tree (hd : 2 ≤ d) (h : cOK σ N P Q M) (hp : pOK N P Q) {n : Nat} (hn : n < N) (h8 : P 8 n = 0) {x y : Nat} {z t : Int} (hx : x < 41) (hy : y < 41) (hz : 0 ≤ z ∧ z ≤ 40) (ht : t = 0 ∨ t = 1) {a e i j : Nat} (hi : i < 21) (hj : j < 21)
    (ea : σ a i = zi (wm P N 0 x (lng (pp P n x y z t) n) (Q 0) : Int)) (ee : σ e j = zi (wm P N 1 y (wdt (pp P n x y z t) n) (Q 1) : Int)) (ex : σ 8 i = zi x) (ey : σ 12 j = zi y) (ez : σ 2 11 = zi (cmk P N 2 z (z + P 2 n) : Int)) (hzq : z + P 2 n ≤ Q 2) (hal : σ 2 12 = zi (bal P N (12 * N))) :
    ∃ σ', frT l D DA b sz d L cu σ a e i j n z t (some (.int (zi (if wrg (pp P n x y z t) Q N n = 0 then 1 else 0)))) (am_TT cu L, am_RR cu, σ') ∧ frO P Q N M n x y z t σ σ' := by
  have hN := hp.1
  have hp1 := pp_pOK hp hn h8 (x := x) (y := y) (z := z) (t := t) (by omega) (by omega) hz ht
  obtain ⟨a1, a2, a3, a4⟩ := pp_at (P := P) n x y z t
  have h81 : pp P n x y z t 8 n = 0 := by rw [pp_o (by omega)]; exact h8
  have h2n : pp P n x y z t 2 n = P 2 n := pp_o (by omega)
  have htp : tp (pp P n x y z t) n = z + P 2 n := by unfold tp; rw [a3, h2n]
  have mx : mX (pp P n x y z t) N n = cmk P N 0 x (x + lng (pp P n x y z t) n) := by unfold mX; rw [a1, cmk_pp (by omega) h8]
  have my : mY (pp P n x y z t) N n = cmk P N 1 y (y + wdt (pp P n x y z t) n) := by unfold mY; rw [a2, cmk_pp (by omega) h8]
  have mz : mZ (pp P n x y z t) N n = cmk P N 2 z (z + P 2 n) := by unfold mZ; rw [a3, htp, cmk_pp (by omega) h8]
  have hA : cmk P N 0 x (x + lng (pp P n x y z t) n) < 2 ^ 20 := (cmk_spec hN 0 _ _ (Nat.le_refl N)).1
  have hB : cmk P N 1 y (y + wdt (pp P n x y z t) n) < 2 ^ 20 := (cmk_spec hN 1 _ _ (Nat.le_refl N)).1
  have hw := wl_bit hA hB (a := x + lng (pp P n x y z t) n) (q := Q 0) (a' := y + wdt (pp P n x y z t) n) (q' := Q 1)
  have ca : cOK (am_us (am_us σ 2 9 (σ a i)) 2 10 (σ e j)) N P Q M := cOK_2 (cOK_2 h hN (by omega) _) hN (by omega) _
  have fa : ∀ c, c ≠ 2 → c ≠ 5 → c ≠ 6 → c ≠ 19 + n → am_us (am_us σ 2 9 (σ a i)) 2 10 (σ e j) c = σ c := fun c q1 _ _ _ => by rw [am_us_ne q1, am_us_ne q1]
  have f11 : am_us (am_us σ 2 9 (σ a i)) 2 10 (σ e j) 2 11 = σ 2 11 := by rw [am_us_k (by omega), am_us_k (by omega)]
  have f12 : am_us (am_us σ 2 9 (σ a i)) 2 10 (σ e j) 2 12 = σ 2 12 := by rw [am_us_k (by omega), am_us_k (by omega)]
  have nj : ¬ (zi (j : Int) < 0 ∨ 21 ≤ j) := by rw [zi_lt0 (by omega) (by omega)]; omega
  have ni : ¬ (zi (i : Int) < 0 ∨ 21 ≤ i) := by rw [zi_lt0 (by omega) (by omega)]; omega
  have nn : ¬ (zi (n : Int) < 0 ∨ 20 ≤ n) := by rw [zi_lt0 (by omega) (by omega)]; omega
  have hc0 : (((σ a i) ||| (σ e j)) &&& 1073741824 = 0) ↔ (x + lng (pp P n x y z t) n ≤ Q 0 ∧ y + wdt (pp P n x y z t) n ≤ Q 1) := by rw [ea, ee]; exact hw
  by_cases c1 : (x : Int) + lng (pp P n x y z t) n ≤ Q 0 ∧ (y : Int) + wdt (pp P n x y z t) n ≤ Q 1
  · have ea' : σ a i = zi (mX (pp P n x y z t) N n : Int) := by rw [ea, wm_in c1.1, mx]
    have ee' : σ e j = zi (mY (pp P n x y z t) N n : Int) := by rw [ee, wm_in c1.2, my]
    have ez' : σ 2 11 = zi (mZ (pp P n x y z t) N n : Int) := by rw [ez, mz]
    have hinQ : inQ (pp P n x y z t) Q n := by unfold inQ; rw [a1, a2, a3, h2n]; exact ⟨c1.1, c1.2, hzq⟩
    have ho := outB_of hinQ
    have hm20 := and_lt (c := mZ (pp P n x y z t) N n) (and_lt (c := mY (pp P n x y z t) N n) (mX_spec hN hp1.2.1 hn).1)
    have hc2 : (((σ a i) &&& (σ e j)) &&& (σ 2 11) = 0) ↔ (mX (pp P n x y z t) N n &&& mY (pp P n x y z t) N n) &&& mZ (pp P n x y z t) N n = 0 := by
      rw [ea', ee', ez', mk_andN, mk_andN, zi_eq0 (by omega) (by omega)]
      omega
    by_cases c2 : (mX (pp P n x y z t) N n &&& mY (pp P n x y z t) N n) &&& mZ (pp P n x y z t) N n = 0
    · have hb0 : b1W (pp P n x y z t) Q N n = 0 := (b1_none hN hp1.2.1 hn c2).trans ho
      obtain ⟨σ1, g1, ⟨t1, t2⟩, f1⟩ := c_moveTo (l := l) (D := D) (DA := DA) (b := b) (sz := sz) (d := d) (L := L) (cu := cu) ca hN hn h8 (x := x) (y := y) (z := z) (t := t) ht
      have hk : mOKc σ1 (pp P n x y z t) N n := by
        unfold mOKc
        rw [f1 2 (by omega)]
        exact ⟨by rw [am_us_k (by omega), am_us_s]; exact ea', by rw [am_us_s]; exact ee', by rw [f11]; exact ez'⟩
      have ff1 : ∀ c, c ≠ 2 → c ≠ 5 → c ≠ 6 → c ≠ 19 + n → σ1 c = σ c := fun c q1 q2 q3 q4 => (f1 c q4).trans (fa c q1 q2 q3 q4)
      have f111 : σ1 2 11 = σ 2 11 := by rw [f1 2 (by omega)]; exact f11
      have f112 : σ1 2 12 = σ 2 12 := by rw [f1 2 (by omega)]; exact f12
      have hh := c_isHeld (l := l) (D := D) (DA := DA) (b := b) (sz := sz) (d := d) (L := L) (cu := cu) (by omega) t1 hp1 hn h81 t2 hk
      rw [← ex, ← ey] at g1
      by_cases c3 : b2W (pp P n x y z t) Q N n = 0
      · rw [if_pos c3] at hh
        have hiw := c_isInWay (l := l) (D := D) (DA := DA) (b := b) (sz := sz) (d := d) (L := L) (cu := cu) t1 hp1 hn t2 hk
        rcases an_01 (iwp (pp P n x y z t) n) N 0 with c4 | c4
        · rw [c4] at hiw
          have hb3 := (b3_none (Q := Q) c4).trans c3
          have hwe : (if wrg (pp P n x y z t) Q N n = 0 then (1 : Int) else 0) = if hvW (pp P n x y z t) N n = 0 then 1 else 0 := by
            by_cases c5 : hvW (pp P n x y z t) N n = 0
            · rw [wrg_c hb0 (by rw [hb3]; rfl) c5, hb3, if_pos c5]; rfl
            · rw [wrg_d hb0 (by rw [hb3]; rfl) c5, hb3, if_neg c5]; rfl
          obtain ⟨rt, rt01, gt, qt⟩ := c_touches (l := l) (D := D) (DA := DA) (b := b) (sz := sz) (d := d) (L := L) (cu := cu) t1 hp1 hn t2 hk
          rcases rt01 with rfl | rfl
          · have hbl := hv_nt hp hn h8 hp1 hinQ (qt rfl)
            have hA1 : σ1 2 12 = zi (bal P N (12 * N)) := f112.trans hal
            refine ⟨σ1, ⟨nj, fun _ => ⟨fun _ => ⟨nn, ni, nj, σ1, g1, _, _, hh, fun h0 => absurd h0 (by decide), fun _ => ⟨_, _, hiw, fun _ => ⟨_, _, gt, fun _ => ⟨?_, ?_, rfl⟩, fun h0 => absurd rfl h0⟩, fun h0 => absurd rfl h0⟩⟩, fun h0 => absurd (hc2.mpr c2) h0⟩, fun h0 => absurd (hc0.mpr c1) h0⟩, cOK_back t1 h8, ff1, ⟨f111, f112⟩, fun _ => t2⟩
            · rw [hA1]
              rcases bal_01 (R := P) (N := N) (12 * N) with h9 | h9
              · rw [h9]; exact Or.inl rfl
              · rw [h9]; exact Or.inr rfl
            · rw [hwe, hbl, hA1]
              rcases bal_01 (R := P) (N := N) (12 * N) with h9 | h9
              · rw [h9]; rfl
              · rw [h9]; rfl
          · obtain ⟨σ4, g4, f4⟩ := c_bearT (l := l) (D := D) (DA := DA) (b := b) (sz := sz) (d := d) (L := L) (cu := cu) (by omega) t1 hp1 hn t2 hinQ
            refine ⟨σ4, ⟨nj, fun _ => ⟨fun _ => ⟨nn, ni, nj, σ1, g1, _, _, hh, fun h0 => absurd h0 (by decide), fun _ => ⟨_, _, hiw, fun _ => ⟨_, _, gt, fun h0 => absurd h0 (by decide), fun _ => ⟨_, _, g4, ?_, ?_, rfl⟩⟩, fun h0 => absurd rfl h0⟩⟩, fun h0 => absurd (hc2.mpr c2) h0⟩, fun h0 => absurd (hc0.mpr c1) h0⟩, cOK_back (cOK_56 t1 hN f4) h8, fun c q1 q2 q3 q4 => (f4 c q2 q3).trans (ff1 c q1 q2 q3 q4), ⟨by rw [f4 2 (by omega) (by omega)]; exact f111, by rw [f4 2 (by omega) (by omega)]; exact f112⟩, fun _ => bAt_fr t2 (f4 (19 + n) (by omega) (by omega))⟩
            · by_cases c5 : hvW (pp P n x y z t) N n = 0
              · rw [if_pos c5]; exact Or.inr rfl
              · rw [if_neg c5]; exact Or.inl rfl
            · rw [hwe]
              by_cases c5 : hvW (pp P n x y z t) N n = 0
              · rw [if_pos c5]; rfl
              · rw [if_neg c5]; rfl
        · rw [c4] at hiw
          have hb3 : b3W (pp P n x y z t) Q N n = 16 := by rw [b3_some c4, c3]; rfl
          have hwn : wrg (pp P n x y z t) Q N n ≠ 0 := by
            by_cases c5 : hvW (pp P n x y z t) N n = 0
            · rw [wrg_c hb0 (by rw [hb3]; rfl) c5, hb3]; decide
            · rw [wrg_d hb0 (by rw [hb3]; rfl) c5, hb3]; decide
          rw [if_neg hwn]
          exact ⟨σ1, ⟨nj, fun _ => ⟨fun _ => ⟨nn, ni, nj, σ1, g1, _, _, hh, fun h0 => absurd h0 (by decide), fun _ => ⟨_, _, hiw, fun h0 => absurd h0 (by decide), fun _ => ⟨rfl, rfl⟩⟩⟩, fun h0 => absurd (hc2.mpr c2) h0⟩, fun h0 => absurd (hc0.mpr c1) h0⟩, cOK_back t1 h8, ff1, ⟨f111, f112⟩, fun h0 => absurd h0 hwn⟩
      · rw [if_neg c3] at hh
        have c4 := b2_04.resolve_left c3
        have hwn : wrg (pp P n x y z t) Q N n ≠ 0 := by
          rcases an_01 (iwp (pp P n x y z t) n) N 0 with c5 | c5
          · have hb3 := (b3_none (Q := Q) c5).trans c4
            rw [wrg_b hb0 (by rw [hb3]; decide), hb3]; decide
          · have hb3 : b3W (pp P n x y z t) Q N n = 20 := by rw [b3_some c5, c4]; rfl
            rw [wrg_b hb0 (by rw [hb3]; decide), hb3]; decide
        rw [if_neg hwn]
        exact ⟨σ1, ⟨nj, fun _ => ⟨fun _ => ⟨nn, ni, nj, σ1, g1, _, _, hh, fun _ => ⟨rfl, rfl⟩, fun h0 => absurd rfl h0⟩, fun h0 => absurd (hc2.mpr c2) h0⟩, fun h0 => absurd (hc0.mpr c1) h0⟩, cOK_back t1 h8, ff1, ⟨f111, f112⟩, fun h0 => absurd h0 hwn⟩
    · have hb0 : b1W (pp P n x y z t) Q N n ≠ 0 := by
        rw [b1_some hN hp1.2.1 hn c2, ho]; decide
      have hwn : wrg (pp P n x y z t) Q N n ≠ 0 := by rw [wrg_a hb0]; exact hb0
      rw [if_neg hwn]
      exact ⟨am_us (am_us σ 2 9 (σ a i)) 2 10 (σ e j), ⟨nj, fun _ => ⟨fun h0 => absurd (hc2.mp h0) c2, fun _ => ⟨rfl, rfl⟩⟩, fun h0 => absurd (hc0.mpr c1) h0⟩, ca, fa, ⟨f11, f12⟩, fun h0 => absurd h0 hwn⟩
  · have hwn : wrg (pp P n x y z t) Q N n ≠ 0 := fun h0 => c1 (by
      have h9 := wrg_0 h0
      unfold inQ at h9
      rw [a1, a2] at h9
      exact ⟨h9.1, h9.2.1⟩)
    rw [if_neg hwn]
    exact ⟨am_us (am_us σ 2 9 (σ a i)) 2 10 (σ e j), ⟨nj, fun h0 => absurd (hc0.mp h0) c1, fun _ => ⟨rfl, rfl⟩⟩, ca, fa, ⟨f11, f12⟩, fun h0 => absurd h0 hwn⟩
theorem c_isFree (hd : 3 ≤ d) (h : cOK σ N P Q M) (hp : pOK N P Q) {n : Nat} (hn : n < N) (h8 : P 8 n = 0) (hT : tabs σ P Q N n) (hA : σ 2 12 = zi (bal P N (12 * N))) {x y : Nat} {z t : Int} (hx : x < 41) (hy : y < 41) (bX : (cmM P N 0).testBit x = true) (bY : (cmM P N 1).testBit y = true) (hz : 0 ≤ z ∧ z ≤ 40) (ht : t = 0 ∨ t = 1) (ez : σ 2 11 = zi (cmk P N 2 z (z + P 2 n) : Int)) (hzq : z + P 2 n ≤ Q 2) :
    ∃ σ', GG l D DA b sz d L cu M_Hold_isFree [some (.ref 2), some (.int (zi n)), some (.int (zi (pcn (cmM P N 0) x))), some (.int (zi (pcn (cmM P N 1) y))), some (.int (zi z)), some (.int (zi t)), none] σ (some (.int (zi (if wrg (pp P n x y z t) Q N n = 0 then 1 else 0)))) σ' ∧ frO P Q N M n x y z t σ σ' := by
  obtain ⟨d, rfl⟩ : ∃ d', d = d' + 1 := ⟨d - 1, by omega⟩
  have hN := hp.1
  obtain ⟨⟨⟨-, X2⟩, X3⟩, ⟨⟨-, Y2⟩, Y3⟩, -⟩ := hT
  obtain ⟨x1, x2, -⟩ := cmM_spec hp 0 (Nat.le_refl N)
  obtain ⟨y1, y2, -⟩ := cmM_spec hp 1 (Nat.le_refl N)
  have hi := pcn_lt hx bX
  have hj := pcn_lt hy bY
  have a4 := (pp_at (P := P) n x y z t).2.2.2
  have ci : Int32.toNatClampNeg (zi (pcn (cmM P N 0) x : Nat)) = pcn (cmM P N 0) x := zi_cl (by omega)
  have cj : Int32.toNatClampNeg (zi (pcn (cmM P N 1) y : Nat)) = pcn (cmM P N 1) y := zi_cl (by omega)
  have cn : Int32.toNatClampNeg (zi n) = n := zi_cl (by omega)
  have ni : ¬ (zi ((pcn (cmM P N 0) x : Nat) : Int) < 0 ∨ 21 ≤ pcn (cmM P N 0) x) := by rw [zi_lt0 (by omega) (by omega)]; omega
  rcases ht with rfl | rfl
  · have hl : lng (pp P n x y z 0) n = P 0 n := by unfold lng; rw [a4, if_pos rfl, pp_o (by omega)]
    have hw : wdt (pp P n x y z 0) n = P 1 n := by unfold wdt; rw [a4, if_pos rfl, pp_o (by omega)]
    obtain ⟨σ', g, o⟩ := fr_tree (l := l) (D := D) (DA := DA) (b := b) (sz := sz) (d := d) (L := L) (cu := cu) (by omega) h hp hn h8 hx hy hz (Or.inl rfl) (a := 9) (e := 13) (i := pcn (cmM P N 0) x) (j := pcn (cmM P N 1) y) (by omega) (by omega) (by rw [hl]; exact (X3 x hx bX).1) (by rw [hw]; exact (Y3 y hy bY).1) (X2 x hx bX) (Y2 y hy bY) ez hzq hA
    refine ⟨σ', v_Hold_isFree_0 _ _ _ _ _ ?_, o⟩
    rw [ci, cj, cn]
    exact ⟨fun _ => ⟨ni, fun _ => g, fun h0 => absurd rfl h0⟩, fun h0 => absurd rfl h0⟩
  · have hl : lng (pp P n x y z 1) n = P 1 n := by unfold lng; rw [a4, if_neg (by decide), pp_o (by omega)]
    have hw : wdt (pp P n x y z 1) n = P 0 n := by unfold wdt; rw [a4, if_neg (by decide), pp_o (by omega)]
    obtain ⟨σ', g, o⟩ := fr_tree (l := l) (D := D) (DA := DA) (b := b) (sz := sz) (d := d) (L := L) (cu := cu) (by omega) h hp hn h8 hx hy hz (Or.inr rfl) (a := 10) (e := 14) (i := pcn (cmM P N 0) x) (j := pcn (cmM P N 1) y) (by omega) (by omega) (by rw [hl]; exact (X3 x hx bX).2) (by rw [hw]; exact (Y3 y hy bY).2) (X2 x hx bX) (Y2 y hy bY) ez hzq hA
    refine ⟨σ', v_Hold_isFree_0 _ _ _ _ _ ?_, o⟩
    rw [ci, cj, cn]
    exact ⟨fun h0 => absurd h0 (by decide), fun _ => ⟨ni, fun h0 => absurd h0 (by decide), fun _ => g⟩⟩
end FRE
