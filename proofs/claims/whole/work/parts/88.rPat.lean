/-! CUTS: the reference's pattern -/
def pR (σ : Nat → Nat → Int32) (c : Nat) (p : Pce) : Nat → Nat → Int32 := am_us (am_us (am_us (am_us (am_us (am_us σ 63 c (zi (p.1 : Int))) 64 c (zi (p.2.2 0 : Int))) 65 c (zi (p.2.2 1 : Int))) 66 c (zi (p.2.2 2 : Int))) 67 c (zi (p.2.1 : Int))) 47 28 (zi ((c + 1 : Nat) : Int))
def lR : (Nat → Nat → Int32) → Nat → List Pce → (Nat → Nat → Int32)
  | σ, _, [] => σ
  | σ, c, p :: ps => lR (pR σ c p) (c + 1) ps
theorem lR_app : ∀ (a e : List Pce) (σ : Nat → Nat → Int32) (c : Nat), lR σ c (a ++ e) = lR (lR σ c a) (c + a.length) e
  | [], _, _, _ => rfl
  | p :: a, e, σ, c => by
    show lR (pR σ c p) (c + 1) (a ++ e) = lR (lR (pR σ c p) (c + 1) a) (c + (a.length + 1)) e
    rw [lR_app a e, show c + 1 + a.length = c + (a.length + 1) by omega]
theorem pR_fr {σ : Nat → Nat → Int32} {c : Nat} {p : Pce} {x : Nat} (h1 : x ≠ 47) (h2 : x < 63 ∨ 67 < x) : pR σ c p x = σ x := by
  unfold pR
  rw [am_us_ne h1, am_us_ne (by omega), am_us_ne (by omega), am_us_ne (by omega), am_us_ne (by omega), am_us_ne (by omega)]
theorem pR_47 {σ : Nat → Nat → Int32} {c : Nat} {p : Pce} {k : Nat} (h : k ≠ 28) : pR σ c p 47 k = σ 47 k := by
  unfold pR
  rw [am_us_k h, am_us_c (by decide), am_us_c (by decide), am_us_c (by decide), am_us_c (by decide), am_us_c (by decide)]
theorem lR_fr {x : Nat} (h1 : x ≠ 47) (h2 : x < 63 ∨ 67 < x) : ∀ (ps : List Pce) (σ : Nat → Nat → Int32) (c : Nat), lR σ c ps x = σ x
  | [], _, _ => rfl
  | p :: ps, σ, c => (lR_fr h1 h2 ps (pR σ c p) (c + 1)).trans (pR_fr h1 h2)
theorem lR_47 {k : Nat} (h : k ≠ 28) : ∀ (ps : List Pce) (σ : Nat → Nat → Int32) (c : Nat), lR σ c ps 47 k = σ 47 k
  | [], _, _ => rfl
  | p :: ps, σ, c => (lR_47 h ps (pR σ c p) (c + 1)).trans (pR_47 h)
theorem lR_28 : ∀ (ps : List Pce) (σ : Nat → Nat → Int32) (c : Nat), σ 47 28 = zi (c : Int) → lR σ c ps 47 28 = zi ((c + ps.length : Nat) : Int)
  | [], _, _, h => h
  | p :: ps, σ, c, h => by
    have h9 := lR_28 ps (pR σ c p) (c + 1) (by unfold pR; rw [am_us_s])
    rw [show c + 1 + ps.length = c + (p :: ps).length by rw [List.length_cons]; omega] at h9
    exact h9
theorem lR_lt : ∀ (ps : List Pce) (σ : Nat → Nat → Int32) (c j x : Nat), j < c → x ≠ 47 → lR σ c ps x j = σ x j
  | [], _, _, _, _, _, _ => rfl
  | p :: ps, σ, c, j, x, h, hx => by
    show lR (pR σ c p) (c + 1) ps x j = σ x j
    rw [lR_lt ps (pR σ c p) (c + 1) j x (by omega) hx]
    unfold pR
    rw [am_us_c hx, am_us_k (by omega), am_us_k (by omega), am_us_k (by omega), am_us_k (by omega), am_us_k (by omega)]
def nthP : List Pce → Nat → Pce
  | [], _ => (0, 0, fun _ => 0)
  | p :: _, 0 => p
  | _ :: ps, i + 1 => nthP ps i
theorem lR_get : ∀ (ps : List Pce) (σ : Nat → Nat → Int32) (c i : Nat), i < ps.length → lR σ c ps 63 (c + i) = zi ((nthP ps i).1 : Int) ∧ lR σ c ps 64 (c + i) = zi ((nthP ps i).2.2 0 : Int) ∧ lR σ c ps 65 (c + i) = zi ((nthP ps i).2.2 1 : Int) ∧ lR σ c ps 66 (c + i) = zi ((nthP ps i).2.2 2 : Int) ∧ lR σ c ps 67 (c + i) = zi ((nthP ps i).2.1 : Int)
  | [], _, _, i, h => absurd h (by simp)
  | p :: ps, σ, c, 0, _ => by
    show lR (pR σ c p) (c + 1) ps 63 c = _ ∧ lR (pR σ c p) (c + 1) ps 64 c = _ ∧ lR (pR σ c p) (c + 1) ps 65 c = _ ∧ lR (pR σ c p) (c + 1) ps 66 c = _ ∧ lR (pR σ c p) (c + 1) ps 67 c = _
    rw [lR_lt ps _ _ _ _ (by omega) (by decide), lR_lt ps _ _ _ _ (by omega) (by decide), lR_lt ps _ _ _ _ (by omega) (by decide), lR_lt ps _ _ _ _ (by omega) (by decide), lR_lt ps _ _ _ _ (by omega) (by decide)]
    unfold pR
    refine ⟨?_, ?_, ?_, ?_, ?_⟩
    · rw [am_us_c (by decide), am_us_c (by decide), am_us_c (by decide), am_us_c (by decide), am_us_c (by decide), am_us_s]; rfl
    · rw [am_us_c (by decide), am_us_c (by decide), am_us_c (by decide), am_us_c (by decide), am_us_s]; rfl
    · rw [am_us_c (by decide), am_us_c (by decide), am_us_c (by decide), am_us_s]; rfl
    · rw [am_us_c (by decide), am_us_c (by decide), am_us_s]; rfl
    · rw [am_us_c (by decide), am_us_s]; rfl
  | p :: ps, σ, c, i + 1, h => by
    have h9 := lR_get ps (pR σ c p) (c + 1) i (Nat.lt_of_succ_lt_succ h)
    rw [show c + 1 + i = c + (i + 1) by omega] at h9
    exact h9
section RPA
variable {l : Launch} {D : va_G} {DA : Nat → ClassId} {b sz d L : Nat} {cu : Bool} {N : Nat} {P : Nat → Nat → Int}
theorem mR_lR {σ : Nat → Nat → Int32} (h : mR σ N P) (ps : List Pce) (c : Nat) : mR (lR σ c ps) N P := ⟨by rw [lR_47 (by decide)]; exact h.1, fun n hn => by rw [lR_fr (by decide) (by decide), lR_fr (by decide) (by decide), lR_fr (by decide) (by decide), lR_fr (by decide) (by decide), lR_fr (by decide) (by decide)]; exact h.2 n hn⟩
/-- which box is the piece -/
theorem R_25 {r : Option Value} {X' : am_X} {σ : Nat → Nat → Int32} {v o : Nat → Nat} {c : Nat} (h : mR σ N P) (hb : pB N P) (hv : vOK v) (h28 : σ 47 28 = zi (c : Int)) (hc : c < 4096) :
    ∀ (m i : Nat), i + m = N → (∀ n : Nat, ff (fun n => P 7 n = Tw P N v ∧ fitV P n v) m i = n → r = none ∧ X' = (am_TT cu L, am_RR cu, pR σ c (n, tnd P n v, o))) → (ff (fun n => P 7 n = Tw P N v ∧ fitV P n v) m i = -1 → am_Go l D DA b sz (d + 1) M_R_pattern (165, [some (.ref 47), some (.int (zi (o 0 : Int))), some (.int (zi (o 1 : Int))), some (.int (zi (o 2 : Int))), some (.int (zi (v 0 : Int))), some (.int (zi (v 1 : Int))), some (.int (zi (v 2 : Int))), some (.int (zi (Tw P N v))), some (.int 1), none], [], (am_TT cu L, am_RR cu, σ)) r X') →
    am_Go l D DA b sz (d + 1) M_R_pattern (25, [some (.ref 47), some (.int (zi (o 0 : Int))), some (.int (zi (o 1 : Int))), some (.int (zi (o 2 : Int))), some (.int (zi (v 0 : Int))), some (.int (zi (v 1 : Int))), some (.int (zi (v 2 : Int))), some (.int (zi (Tw P N v))), some (.int (zi (i : Int))), none], [], (am_TT cu L, am_RR cu, σ)) r X' := by
  have hN := hb.1
  obtain ⟨v0, v1, v2, -⟩ := id hv
  have hT := Tw_bd (pB_7 hb) hv
  intro m
  induction m with
  | zero =>
    intro i hi G1 G2
    have e : i = N := by omega
    subst e
    refine v_R_pattern_25 _ _ _ _ _ _ _ _ ?_
    rw [h.1]
    exact ⟨fun _ => G2 rfl, fun h0 => absurd (Int32.le_refl _) h0⟩
  | succ m ih =>
    intro i hi G1 G2
    have hiN : i < N := by omega
    have hbn := hb.2 i hiN
    obtain ⟨r0, r1, r2, r6, r7⟩ := h.2 i (by omega)
    have hcl : Int32.toNatClampNeg (zi i) = i := zi_cl (by omega)
    have ni : ¬ (zi (i : Int) < 0 ∨ 20 ≤ i) := by rw [zi_lt0 (by omega) (by omega)]; omega
    have hnle : ¬ zi (N : Int) ≤ zi (i : Int) := by rw [zi_le (by omega) (by omega) (by omega) (by omega)]; omega
    have i7 : zi (P 7 i) = zi (Tw P N v) ↔ P 7 i = Tw P N v := zi_eq (by omega) (by omega) (by omega) (by omega)
    have hcc : Int32.toNatClampNeg (zi (c : Int)) = c := zi_cl (by omega)
    have nc : ¬ (zi (c : Int) < 0 ∨ 4096 ≤ c) := by rw [zi_lt0 (by omega) (by omega)]; omega
    have g0 := c_R_isP0 (l := l) (D := D) (DA := DA) (b := b) (sz := sz) (d := d) (L := L) (cu := cu) h hb hiN v0.2 v1.2 v2.2
    have g1 := c_R_isP1 (l := l) (D := D) (DA := DA) (b := b) (sz := sz) (d := d) (L := L) (cu := cu) h hb hiN v0.2 v1.2 v2.2
    have no : ¬ (P 7 i = Tw P N v ∧ fitV P i v) → am_Go l D DA b sz (d + 1) M_R_pattern (25, [some (.ref 47), some (.int (zi (o 0 : Int))), some (.int (zi (o 1 : Int))), some (.int (zi (o 2 : Int))), some (.int (zi (v 0 : Int))), some (.int (zi (v 1 : Int))), some (.int (zi (v 2 : Int))), some (.int (zi (Tw P N v))), some (.int (zi ((i : Int) + 1))), none], [], (am_TT cu L, am_RR cu, σ)) r X' := fun hn => by
      have e : ff (fun n => P 7 n = Tw P N v ∧ fitV P n v) (m + 1) i = ff (fun n => P 7 n = Tw P N v ∧ fitV P n v) m (i + 1) := if_neg hn
      rw [e] at G1 G2
      exact ih (i + 1) (by omega) G1 G2
    have yes : (P 7 i = Tw P N v ∧ fitV P i v) → r = none ∧ X' = (am_TT cu L, am_RR cu, pR σ c (i, tnd P i v, o)) := fun hy => G1 i (if_pos hy)
    refine v_R_pattern_25 _ _ _ _ _ _ _ _ ?_
    rw [h.1, zi_s1]
    by_cases f0 : P 2 i = (v 2 : Int) ∧ P 0 i = (v 0 : Int) ∧ P 1 i = (v 1 : Int)
    · rw [if_pos f0] at g0
      refine ⟨fun h0 => absurd h0 hnle, fun _ => ⟨_, _, g0, ?_⟩⟩
      rw [hcl, r7, i7, h28, hcc]
      refine ⟨ni, fun c7 => ⟨fun h0 => absurd h0 (by decide), fun _ => ⟨nc, nc, nc, nc, nc, Or.inl rfl, ?_⟩⟩, fun c7 => no (fun z => c7 z.1)⟩
      have y := yes ⟨c7, f0.1, Or.inl f0.2⟩
      rw [show tnd P i v = 0 from if_pos f0] at y
      rw [zi_s1]
      exact y
    · rw [if_neg f0] at g0
      refine ⟨fun h0 => absurd h0 hnle, fun _ => ⟨_, _, g0, ?_⟩⟩
      rw [hcl, r7, i7, h28, hcc]
      refine ⟨ni, fun c7 => ⟨fun _ => ?_, fun h0 => absurd rfl h0⟩, fun c7 => no (fun z => c7 z.1)⟩
      by_cases f1 : P 2 i = (v 2 : Int) ∧ P 6 i ≠ 0 ∧ P 1 i = (v 0 : Int) ∧ P 0 i = (v 1 : Int)
      · rw [if_pos f1] at g1
        refine ⟨_, _, g1, fun h0 => absurd h0 (by decide), fun _ => ?_⟩
        rw [h28, hcc]
        refine ⟨nc, nc, nc, nc, nc, Or.inr rfl, ?_⟩
        have y := yes ⟨c7, f1.1, Or.inr f1.2⟩
        rw [show tnd P i v = 1 from if_neg f0] at y
        rw [zi_s1]
        exact y
      · rw [if_neg f1] at g1
        exact ⟨_, _, g1, fun _ => no (fun z => z.2.2.elim (fun q => f0 ⟨z.2.1, q⟩) (fun q => f1 ⟨z.2.1, q⟩)), fun h0 => absurd rfl h0⟩
theorem R_c0 {r : Option Value} {X' : am_X} {σ : Nat → Nat → Int32} {v o : Nat → Nat} (hb : pB N P) (hv : vOK v) (ht : ∀ k, 1 ≤ k → k < v 0 → σ 62 (rI (vu v 0 k)) = zi (Tw P N (vu v 0 k))) :
    ∀ (m i : Nat), i + m = v 0 → 1 ≤ i → (∀ k : Nat, ff (fun k => ctv (Tw P N) v 0 k = Tw P N v) m i = k → ∃ σ3 σ4, GG l D DA b sz d L cu M_R_pattern [some (.ref 47), some (.int (zi (o 0 : Int))), some (.int (zi (o 1 : Int))), some (.int (zi (o 2 : Int))), some (.int (zi ((k : Nat) : Int))), some (.int (zi (v 1 : Int))), some (.int (zi (v 2 : Int))), none, none, none] σ none σ3 ∧ GG l D DA b sz d L cu M_R_pattern [some (.ref 47), some (.int (zi ((o 0 + k : Nat) : Int))), some (.int (zi (o 1 : Int))), some (.int (zi (o 2 : Int))), some (.int (zi ((v 0 - k : Nat) : Int))), some (.int (zi (v 1 : Int))), some (.int (zi (v 2 : Int))), none, none, none] σ3 none σ4 ∧ (r = none ∧ X' = (am_TT cu L, am_RR cu, σ4))) → (ff (fun k => ctv (Tw P N) v 0 k = Tw P N v) m i = -1 → am_Go l D DA b sz (d + 1) M_R_pattern (254, [some (.ref 47), some (.int (zi (o 0 : Int))), some (.int (zi (o 1 : Int))), some (.int (zi (o 2 : Int))), some (.int (zi (v 0 : Int))), some (.int (zi (v 1 : Int))), some (.int (zi (v 2 : Int))), some (.int (zi (Tw P N v))), some (.int 1), none], [], (am_TT cu L, am_RR cu, σ)) r X') →
    am_Go l D DA b sz (d + 1) M_R_pattern (165, [some (.ref 47), some (.int (zi (o 0 : Int))), some (.int (zi (o 1 : Int))), some (.int (zi (o 2 : Int))), some (.int (zi (v 0 : Int))), some (.int (zi (v 1 : Int))), some (.int (zi (v 2 : Int))), some (.int (zi (Tw P N v))), some (.int (zi (i : Int))), none], [], (am_TT cu L, am_RR cu, σ)) r X' := by
  obtain ⟨v0, v1, v2, -⟩ := id hv
  have hT := Tw_bd (pB_7 hb) hv
  intro m
  induction m with
  | zero =>
    intro i hi hi1 G1 G2
    have e : i = v 0 := by omega
    subst e
    refine v_R_pattern_165 _ _ _ _ _ _ _ _ ?_
    exact ⟨fun _ => G2 rfl, fun h0 => absurd (Int32.le_refl _) h0⟩
  | succ m ih =>
    intro i hi hi1 G1 G2
    have o1 := vOK_u hv (e := 0) (k := i) (by decide) (by omega) (by omega)
    have o2 := vOK_u hv (e := 0) (k := v 0 - i) (by decide) (by omega) (by omega)
    have b1 := Tw_bd (pB_7 hb) o1
    have b2 := Tw_bd (pB_7 hb) o2
    have l1 := rI_lt o1
    have l2 := rI_lt o2
    have t1 := ht i (by omega) (by omega)
    have t2 := ht (v 0 - i) (by omega) (by omega)
    have g1 := c_R_block (l := l) (D := D) (DA := DA) (b := b) (sz := sz) (d := d) (L := L) (cu := cu) (σ := σ) i (v 1) (v 2)
    have g2 := c_R_block (l := l) (D := D) (DA := DA) (b := b) (sz := sz) (d := d) (L := L) (cu := cu) (σ := σ) (v 0 - i) (v 1) (v 2)
    have c1 : Int32.toNatClampNeg (zi (rI (vu v 0 i) : Int)) = rI (vu v 0 i) := zi_cl (by omega)
    have c2 : Int32.toNatClampNeg (zi (rI (vu v 0 (v 0 - i)) : Int)) = rI (vu v 0 (v 0 - i)) := zi_cl (by omega)
    have n1 : ¬ (zi (rI (vu v 0 i) : Int) < 0 ∨ 4913 ≤ rI (vu v 0 i)) := by rw [zi_lt0 (by omega) (by omega)]; omega
    have n2 : ¬ (zi (rI (vu v 0 (v 0 - i)) : Int) < 0 ∨ 4913 ≤ rI (vu v 0 (v 0 - i))) := by rw [zi_lt0 (by omega) (by omega)]; omega
    have ie : zi (Tw P N (vu v 0 i)) + zi (Tw P N (vu v 0 (v 0 - i))) = zi (Tw P N v) ↔ ctv (Tw P N) v 0 i = Tw P N v := by
      rw [zi_add, zi_eq (by omega) (by omega) (by omega) (by omega)]; exact Iff.rfl
    refine v_R_pattern_165 _ _ _ _ _ _ _ _ ?_
    rw [zi_le (by omega) (by omega) (by omega) (by omega), zi_subN (by omega)]
    refine ⟨fun h0 => absurd h0 (by omega), fun _ => ⟨_, _, g1, ?_, _, _, g2, ?_, ?_⟩⟩
    · show ¬ (zi (rI (vu v 0 i) : Int) < 0 ∨ 4913 ≤ Int32.toNatClampNeg (zi (rI (vu v 0 i) : Int)))
      rw [c1]; exact n1
    · show ¬ (zi (rI (vu v 0 (v 0 - i)) : Int) < 0 ∨ 4913 ≤ Int32.toNatClampNeg (zi (rI (vu v 0 (v 0 - i)) : Int)))
      rw [c2]; exact n2
    · show ((σ 62 (Int32.toNatClampNeg (zi (rI (vu v 0 i) : Int))) + σ 62 (Int32.toNatClampNeg (zi (rI (vu v 0 (v 0 - i)) : Int)))) = zi (Tw P N v) → _) ∧ (¬ (σ 62 (Int32.toNatClampNeg (zi (rI (vu v 0 i) : Int))) + σ 62 (Int32.toNatClampNeg (zi (rI (vu v 0 (v 0 - i)) : Int)))) = zi (Tw P N v) → _)
      rw [c1, c2, t1, t2, ie]
      refine ⟨fun hy => ?_, fun hn => ?_⟩
      · obtain ⟨σ3, σ4, p1, p2, p3⟩ := G1 i (if_pos hy)
        rw [zi_add, ← Int.natCast_add]
        exact ⟨σ3, p1, σ4, p2, p3⟩
      · have e : ff (fun k => ctv (Tw P N) v 0 k = Tw P N v) (m + 1) i = ff (fun k => ctv (Tw P N) v 0 k = Tw P N v) m (i + 1) := if_neg hn
        rw [e] at G1 G2
        rw [zi_s1]
        exact ih (i + 1) (by omega) (by omega) G1 G2
theorem R_c1 {r : Option Value} {X' : am_X} {σ : Nat → Nat → Int32} {v o : Nat → Nat} (hb : pB N P) (hv : vOK v) (ht : ∀ k, 1 ≤ k → k < v 1 → σ 62 (rI (vu v 1 k)) = zi (Tw P N (vu v 1 k))) :
    ∀ (m i : Nat), i + m = v 1 → 1 ≤ i → (∀ k : Nat, ff (fun k => ctv (Tw P N) v 1 k = Tw P N v) m i = k → ∃ σ3 σ4, GG l D DA b sz d L cu M_R_pattern [some (.ref 47), some (.int (zi (o 0 : Int))), some (.int (zi (o 1 : Int))), some (.int (zi (o 2 : Int))), some (.int (zi (v 0 : Int))), some (.int (zi ((k : Nat) : Int))), some (.int (zi (v 2 : Int))), none, none, none] σ none σ3 ∧ GG l D DA b sz d L cu M_R_pattern [some (.ref 47), some (.int (zi (o 0 : Int))), some (.int (zi ((o 1 + k : Nat) : Int))), some (.int (zi (o 2 : Int))), some (.int (zi (v 0 : Int))), some (.int (zi ((v 1 - k : Nat) : Int))), some (.int (zi (v 2 : Int))), none, none, none] σ3 none σ4 ∧ (r = none ∧ X' = (am_TT cu L, am_RR cu, σ4))) → (ff (fun k => ctv (Tw P N) v 1 k = Tw P N v) m i = -1 → am_Go l D DA b sz (d + 1) M_R_pattern (343, [some (.ref 47), some (.int (zi (o 0 : Int))), some (.int (zi (o 1 : Int))), some (.int (zi (o 2 : Int))), some (.int (zi (v 0 : Int))), some (.int (zi (v 1 : Int))), some (.int (zi (v 2 : Int))), some (.int (zi (Tw P N v))), some (.int 1), none], [], (am_TT cu L, am_RR cu, σ)) r X') →
    am_Go l D DA b sz (d + 1) M_R_pattern (254, [some (.ref 47), some (.int (zi (o 0 : Int))), some (.int (zi (o 1 : Int))), some (.int (zi (o 2 : Int))), some (.int (zi (v 0 : Int))), some (.int (zi (v 1 : Int))), some (.int (zi (v 2 : Int))), some (.int (zi (Tw P N v))), some (.int (zi (i : Int))), none], [], (am_TT cu L, am_RR cu, σ)) r X' := by
  obtain ⟨v0, v1, v2, -⟩ := id hv
  have hT := Tw_bd (pB_7 hb) hv
  intro m
  induction m with
  | zero =>
    intro i hi hi1 G1 G2
    have e : i = v 1 := by omega
    subst e
    refine v_R_pattern_254 _ _ _ _ _ _ _ _ ?_
    exact ⟨fun _ => G2 rfl, fun h0 => absurd (Int32.le_refl _) h0⟩
  | succ m ih =>
    intro i hi hi1 G1 G2
    have o1 := vOK_u hv (e := 1) (k := i) (by decide) (by omega) (by omega)
    have o2 := vOK_u hv (e := 1) (k := v 1 - i) (by decide) (by omega) (by omega)
    have b1 := Tw_bd (pB_7 hb) o1
    have b2 := Tw_bd (pB_7 hb) o2
    have l1 := rI_lt o1
    have l2 := rI_lt o2
    have t1 := ht i (by omega) (by omega)
    have t2 := ht (v 1 - i) (by omega) (by omega)
    have g1 := c_R_block (l := l) (D := D) (DA := DA) (b := b) (sz := sz) (d := d) (L := L) (cu := cu) (σ := σ) (v 0) i (v 2)
    have g2 := c_R_block (l := l) (D := D) (DA := DA) (b := b) (sz := sz) (d := d) (L := L) (cu := cu) (σ := σ) (v 0) (v 1 - i) (v 2)
    have c1 : Int32.toNatClampNeg (zi (rI (vu v 1 i) : Int)) = rI (vu v 1 i) := zi_cl (by omega)
    have c2 : Int32.toNatClampNeg (zi (rI (vu v 1 (v 1 - i)) : Int)) = rI (vu v 1 (v 1 - i)) := zi_cl (by omega)
    have n1 : ¬ (zi (rI (vu v 1 i) : Int) < 0 ∨ 4913 ≤ rI (vu v 1 i)) := by rw [zi_lt0 (by omega) (by omega)]; omega
    have n2 : ¬ (zi (rI (vu v 1 (v 1 - i)) : Int) < 0 ∨ 4913 ≤ rI (vu v 1 (v 1 - i))) := by rw [zi_lt0 (by omega) (by omega)]; omega
    have ie : zi (Tw P N (vu v 1 i)) + zi (Tw P N (vu v 1 (v 1 - i))) = zi (Tw P N v) ↔ ctv (Tw P N) v 1 i = Tw P N v := by
      rw [zi_add, zi_eq (by omega) (by omega) (by omega) (by omega)]; exact Iff.rfl
    refine v_R_pattern_254 _ _ _ _ _ _ _ _ ?_
    rw [zi_le (by omega) (by omega) (by omega) (by omega), zi_subN (by omega)]
    refine ⟨fun h0 => absurd h0 (by omega), fun _ => ⟨_, _, g1, ?_, _, _, g2, ?_, ?_⟩⟩
    · show ¬ (zi (rI (vu v 1 i) : Int) < 0 ∨ 4913 ≤ Int32.toNatClampNeg (zi (rI (vu v 1 i) : Int)))
      rw [c1]; exact n1
    · show ¬ (zi (rI (vu v 1 (v 1 - i)) : Int) < 0 ∨ 4913 ≤ Int32.toNatClampNeg (zi (rI (vu v 1 (v 1 - i)) : Int)))
      rw [c2]; exact n2
    · show ((σ 62 (Int32.toNatClampNeg (zi (rI (vu v 1 i) : Int))) + σ 62 (Int32.toNatClampNeg (zi (rI (vu v 1 (v 1 - i)) : Int)))) = zi (Tw P N v) → _) ∧ (¬ (σ 62 (Int32.toNatClampNeg (zi (rI (vu v 1 i) : Int))) + σ 62 (Int32.toNatClampNeg (zi (rI (vu v 1 (v 1 - i)) : Int)))) = zi (Tw P N v) → _)
      rw [c1, c2, t1, t2, ie]
      refine ⟨fun hy => ?_, fun hn => ?_⟩
      · obtain ⟨σ3, σ4, p1, p2, p3⟩ := G1 i (if_pos hy)
        rw [zi_add, ← Int.natCast_add]
        exact ⟨σ3, p1, σ4, p2, p3⟩
      · have e : ff (fun k => ctv (Tw P N) v 1 k = Tw P N v) (m + 1) i = ff (fun k => ctv (Tw P N) v 1 k = Tw P N v) m (i + 1) := if_neg hn
        rw [e] at G1 G2
        rw [zi_s1]
        exact ih (i + 1) (by omega) (by omega) G1 G2
theorem R_c2 {r : Option Value} {X' : am_X} {σ : Nat → Nat → Int32} {v o : Nat → Nat} (hb : pB N P) (hv : vOK v) (ht : ∀ k, 1 ≤ k → k < v 2 → σ 62 (rI (vu v 2 k)) = zi (Tw P N (vu v 2 k))) :
    ∀ (m i : Nat), i + m = v 2 → 1 ≤ i → (∀ k : Nat, ff (fun k => ctv (Tw P N) v 2 k = Tw P N v) m i = k → ∃ σ3 σ4, GG l D DA b sz d L cu M_R_pattern [some (.ref 47), some (.int (zi (o 0 : Int))), some (.int (zi (o 1 : Int))), some (.int (zi (o 2 : Int))), some (.int (zi (v 0 : Int))), some (.int (zi (v 1 : Int))), some (.int (zi ((k : Nat) : Int))), none, none, none] σ none σ3 ∧ GG l D DA b sz d L cu M_R_pattern [some (.ref 47), some (.int (zi (o 0 : Int))), some (.int (zi (o 1 : Int))), some (.int (zi ((o 2 + k : Nat) : Int))), some (.int (zi (v 0 : Int))), some (.int (zi (v 1 : Int))), some (.int (zi ((v 2 - k : Nat) : Int))), none, none, none] σ3 none σ4 ∧ (r = none ∧ X' = (am_TT cu L, am_RR cu, σ4))) → ff (fun k => ctv (Tw P N) v 2 k = Tw P N v) m i ≠ -1 →
    am_Go l D DA b sz (d + 1) M_R_pattern (343, [some (.ref 47), some (.int (zi (o 0 : Int))), some (.int (zi (o 1 : Int))), some (.int (zi (o 2 : Int))), some (.int (zi (v 0 : Int))), some (.int (zi (v 1 : Int))), some (.int (zi (v 2 : Int))), some (.int (zi (Tw P N v))), some (.int (zi (i : Int))), none], [], (am_TT cu L, am_RR cu, σ)) r X' := by
  obtain ⟨v0, v1, v2, -⟩ := id hv
  have hT := Tw_bd (pB_7 hb) hv
  intro m
  induction m with
  | zero =>
    intro i hi hi1 G1 G2
    exact absurd rfl G2
  | succ m ih =>
    intro i hi hi1 G1 G2
    have o1 := vOK_u hv (e := 2) (k := i) (by decide) (by omega) (by omega)
    have o2 := vOK_u hv (e := 2) (k := v 2 - i) (by decide) (by omega) (by omega)
    have b1 := Tw_bd (pB_7 hb) o1
    have b2 := Tw_bd (pB_7 hb) o2
    have l1 := rI_lt o1
    have l2 := rI_lt o2
    have t1 := ht i (by omega) (by omega)
    have t2 := ht (v 2 - i) (by omega) (by omega)
    have g1 := c_R_block (l := l) (D := D) (DA := DA) (b := b) (sz := sz) (d := d) (L := L) (cu := cu) (σ := σ) (v 0) (v 1) i
    have g2 := c_R_block (l := l) (D := D) (DA := DA) (b := b) (sz := sz) (d := d) (L := L) (cu := cu) (σ := σ) (v 0) (v 1) (v 2 - i)
    have c1 : Int32.toNatClampNeg (zi (rI (vu v 2 i) : Int)) = rI (vu v 2 i) := zi_cl (by omega)
    have c2 : Int32.toNatClampNeg (zi (rI (vu v 2 (v 2 - i)) : Int)) = rI (vu v 2 (v 2 - i)) := zi_cl (by omega)
    have n1 : ¬ (zi (rI (vu v 2 i) : Int) < 0 ∨ 4913 ≤ rI (vu v 2 i)) := by rw [zi_lt0 (by omega) (by omega)]; omega
    have n2 : ¬ (zi (rI (vu v 2 (v 2 - i)) : Int) < 0 ∨ 4913 ≤ rI (vu v 2 (v 2 - i))) := by rw [zi_lt0 (by omega) (by omega)]; omega
    have ie : zi (Tw P N (vu v 2 i)) + zi (Tw P N (vu v 2 (v 2 - i))) = zi (Tw P N v) ↔ ctv (Tw P N) v 2 i = Tw P N v := by
      rw [zi_add, zi_eq (by omega) (by omega) (by omega) (by omega)]; exact Iff.rfl
    refine v_R_pattern_343 _ _ _ _ _ _ _ _ ?_
    rw [zi_subN (by omega)]
    refine ⟨_, _, g1, ?_, _, _, g2, ?_, ?_⟩
    · show ¬ (zi (rI (vu v 2 i) : Int) < 0 ∨ 4913 ≤ Int32.toNatClampNeg (zi (rI (vu v 2 i) : Int)))
      rw [c1]; exact n1
    · show ¬ (zi (rI (vu v 2 (v 2 - i)) : Int) < 0 ∨ 4913 ≤ Int32.toNatClampNeg (zi (rI (vu v 2 (v 2 - i)) : Int)))
      rw [c2]; exact n2
    · show ((σ 62 (Int32.toNatClampNeg (zi (rI (vu v 2 i) : Int))) + σ 62 (Int32.toNatClampNeg (zi (rI (vu v 2 (v 2 - i)) : Int)))) = zi (Tw P N v) → _) ∧ (¬ (σ 62 (Int32.toNatClampNeg (zi (rI (vu v 2 i) : Int))) + σ 62 (Int32.toNatClampNeg (zi (rI (vu v 2 (v 2 - i)) : Int)))) = zi (Tw P N v) → _)
      rw [c1, c2, t1, t2, ie]
      refine ⟨fun hy => ?_, fun hn => ?_⟩
      · obtain ⟨σ3, σ4, p1, p2, p3⟩ := G1 i (if_pos hy)
        rw [zi_add, ← Int.natCast_add]
        exact ⟨σ3, p1, σ4, p2, p3⟩
      · have e : ff (fun k => ctv (Tw P N) v 2 k = Tw P N v) (m + 1) i = ff (fun k => ctv (Tw P N) v 2 k = Tw P N v) m (i + 1) := if_neg hn
        rw [e] at G1 G2
        rw [zi_s1]
        exact ih (i + 1) (by omega) (by omega) G1 G2
theorem R_pattern (hb : pB N P) {w : Nat → Nat} (hw : vOK w) : ∀ (f d : Nat) (v o : Nat → Nat) (c : Nat) (σ : Nat → Nat → Int32), f + 2 ≤ d → vOK v → vle v w → sm3 v ≤ f → mR σ N P → (∀ y, vOK y → vle y w → σ 62 (rI y) = zi (Tw P N y)) → σ 47 28 = zi (c : Int) → c + vol3 v ≤ 4096 →
    GG l D DA b sz d L cu M_R_pattern [some (.ref 47), some (.int (zi (o 0 : Int))), some (.int (zi (o 1 : Int))), some (.int (zi (o 2 : Int))), some (.int (zi (v 0 : Int))), some (.int (zi (v 1 : Int))), some (.int (zi (v 2 : Int))), none, none, none] σ none (lR σ c (patF P N f v o)) := by
  intro f
  induction f with
  | zero =>
    intro d v o c σ hd hv hvw hs
    obtain ⟨v0, v1, v2, -⟩ := hv
    unfold sm3 at hs
    omega
  | succ f ih =>
    intro d v o c σ hd hv hvw hs h ht h28 hc
    obtain ⟨d, rfl⟩ : ∃ d', d = d' + 1 := ⟨d - 1, by omega⟩
    have hvP := vOK_P hv
    have hvol := vol3_pos hvP
    have hT := Tw_bd (pB_7 hb) hv
    have hr := rI_lt hv
    have hcl : Int32.toNatClampNeg (zi (rI v : Int)) = rI v := zi_cl (by omega)
    have ni : ¬ (zi (rI v : Int) < 0 ∨ 4913 ≤ rI v) := by rw [zi_lt0 (by omega) (by omega)]; omega
    have gb := c_R_block (l := l) (D := D) (DA := DA) (b := b) (sz := sz) (d := d) (L := L) (cu := cu) (σ := σ) (v 0) (v 1) (v 2)
    have vl : ∀ e, e < 3 → ∀ k, 1 ≤ k → k < v e → vOK (vu v e k) ∧ vle (vu v e k) w ∧ sm3 (vu v e k) ≤ f := fun e he k hk hk2 => by
      have h9 := vOK_e hv he
      have h8 := sm3_u v (k := k) he
      refine ⟨vOK_u hv he hk (by omega), ?_, by omega⟩
      unfold vle at *
      unfold vu
      rcases e3 he with rfl | rfl | rfl <;> simp <;> omega
    have tb : ∀ e, e < 3 → ∀ k, 1 ≤ k → k < v e → σ 62 (rI (vu v e k)) = zi (Tw P N (vu v e k)) := fun e he k hk hk2 => ht _ (vl e he k hk hk2).1 (vl e he k hk hk2).2.1
    refine v_R_pattern_0 _ _ _ _ _ _ ⟨_, _, gb, ?_⟩
    show ¬ (zi (rI v : Int) < 0 ∨ 4913 ≤ Int32.toNatClampNeg (zi (rI v : Int))) ∧ ((σ 62 (Int32.toNatClampNeg (zi (rI v : Int))) = 0 → _) ∧ (¬ σ 62 (Int32.toNatClampNeg (zi (rI v : Int))) = 0 → am_Go l D DA b sz (d + 1) M_R_pattern (25, [_, _, _, _, _, _, _, some (.int (σ 62 (Int32.toNatClampNeg (zi (rI v : Int))))), _, _], [], _) _ _))
    rw [hcl, ht v hv hvw]
    refine ⟨ni, fun h0 => ?_, fun h0 => ?_⟩
    · have e0 : Tw P N v = 0 := (zi_eq0 (by omega) (by omega)).mp h0
      have ep : patF P N (f + 1) v o = [] := if_pos e0
      rw [ep]
      exact ⟨rfl, rfl⟩
    · have e0 : Tw P N v ≠ 0 := fun z => h0 (by rw [z]; rfl)
      have two : ∀ e k, isFC P N v e k → ¬ 0 ≤ fbx P N v → ∃ σ3 σ4, GG l D DA b sz d L cu M_R_pattern [some (.ref 47), some (.int (zi (o 0 : Int))), some (.int (zi (o 1 : Int))), some (.int (zi (o 2 : Int))), some (.int (zi (vu v e k 0 : Int))), some (.int (zi (vu v e k 1 : Int))), some (.int (zi (vu v e k 2 : Int))), none, none, none] σ none σ3 ∧ GG l D DA b sz d L cu M_R_pattern [some (.ref 47), some (.int (zi (vu o e (o e + k) 0 : Int))), some (.int (zi (vu o e (o e + k) 1 : Int))), some (.int (zi (vu o e (o e + k) 2 : Int))), some (.int (zi (vu v e (v e - k) 0 : Int))), some (.int (zi (vu v e (v e - k) 1 : Int))), some (.int (zi (vu v e (v e - k) 2 : Int))), none, none, none] σ3 none σ4 ∧ ((none : Option Value) = none ∧ ((am_TT cu L, am_RR cu, lR σ c (patF P N (f + 1) v o)) : am_X) = (am_TT cu L, am_RR cu, σ4)) := by
        intro e k hk hfb
        have hq := fcE_spec hvP e0 hfb
        obtain ⟨e1, e2⟩ := isFC_uniq hq hk
        obtain ⟨k1, k2, k3, -⟩ := hk
        obtain ⟨a1, a2, a3⟩ := vl e k1 k k2 (by omega)
        obtain ⟨c1, c2, c3⟩ := vl e k1 (v e - k) (by omega) (by omega)
        have hlen := pat_len (P := P) (N := N) f (vu v e k) o (vOK_P a1)
        have hvu := vol3_u v k1 (show k ≤ v e by omega)
        have p1 := ih d (vu v e k) o c σ (by omega) a1 a2 a3 h ht h28 (by omega)
        have p2 := ih d (vu v e (v e - k)) (vu o e (o e + k)) (c + (patF P N f (vu v e k) o).length) (lR σ c (patF P N f (vu v e k) o)) (by omega) c1 c2 c3 (mR_lR h _ _) (fun y hy hyw => by rw [lR_fr (by decide) (by decide)]; exact ht y hy hyw) (lR_28 _ _ _ h28) (by omega)
        refine ⟨_, _, p1, p2, rfl, ?_⟩
        have ep : patF P N (f + 1) v o = patF P N f (vu v e k) o ++ patF P N f (vu v e (v e - k)) (vu o e (o e + k)) := by
          show (if Tw P N v = 0 then [] else _ : List Pce) = _
          rw [if_neg e0, if_neg hfb, e1, e2]
        rw [ep, lR_app]
      have hk : ∀ e k : Nat, e < 3 → fcK P N v e = k → ¬ 0 ≤ fbx P N v → (∀ e', e' < e → fcK P N v e' = -1) → isFC P N v e k := by
        intro e k he hek hfb hlow
        have hq := fcE_spec hvP e0 hfb
        have ee : fcE P N v = (e, k) := by
          unfold fcE
          rcases e3 he with rfl | rfl | rfl
          · rw [hek, if_pos (by omega)]; rfl
          · rw [hlow 0 (by decide), hek, if_neg (by decide), if_pos (by omega)]; rfl
          · rw [hlow 0 (by decide), hlow 1 (by decide), hek, if_neg (by decide), if_neg (by decide)]; rfl
        rw [ee] at hq
        exact hq
      refine R_25 h hb hv h28 (by omega) N 0 (by omega) (fun n hn => ?_) (fun hn => ?_)
      · have hfb : fbx P N v = n := hn
        have ep : patF P N (f + 1) v o = [(n, tnd P n v, o)] := by
          show (if Tw P N v = 0 then [] else if 0 ≤ fbx P N v then _ else _ : List Pce) = _
          rw [if_neg e0, hfb, if_pos (by omega)]
          rfl
        rw [ep]
        exact ⟨rfl, rfl⟩
      · have hfb : fbx P N v = -1 := hn
        have hfn : ¬ 0 ≤ fbx P N v := by omega
        obtain ⟨v0, v1, v2, -⟩ := id hv
        refine R_c0 hb hv (tb 0 (by decide)) (v 0 - 1) 1 (by omega) (Nat.le_refl 1) (fun k hk0 => two 0 k (hk 0 k (by decide) hk0 hfn (fun e' he' => absurd he' (by omega))) hfn) (fun n0 => ?_)
        refine R_c1 hb hv (tb 1 (by decide)) (v 1 - 1) 1 (by omega) (Nat.le_refl 1) (fun k hk1 => two 1 k (hk 1 k (by decide) hk1 hfn (fun e' he' => by rw [show e' = 0 by omega]; exact n0)) hfn) (fun n1 => ?_)
        refine R_c2 hb hv (tb 2 (by decide)) (v 2 - 1) 1 (by omega) (Nat.le_refl 1) (fun k hk2 => two 2 k (hk 2 k (by decide) hk2 hfn (fun e' he' => by
          have : e' = 0 ∨ e' = 1 := by omega
          rcases this with rfl | rfl
          · exact n0
          · exact n1)) hfn) (fun n2 => ?_)
        have hq := fcE_spec hvP e0 hfn
        have n0' : fcK P N v 0 = -1 := n0
        have n1' : fcK P N v 1 = -1 := n1
        have n2' : fcK P N v 2 = -1 := n2
        have ee : fcE P N v = (2, 0) := by unfold fcE; rw [n0', n1', n2']; rfl
        rw [ee] at hq
        exact absurd hq.2.1 (by decide)
/-- the reference's cut of a block that there is -/
theorem R_cut (hd : 60 ≤ d) {σ : Nat → Nat → Int32} (h : mR σ N P) (hb : pB N P) {w : Nat → Nat} (hw : vOK w) :
    ∃ σ', GG l D DA b sz d L cu M_R_cut [some (.ref 47), some (.int (zi (w 0 : Int))), some (.int (zi (w 1 : Int))), some (.int (zi (w 2 : Int)))] σ (some (.int (zi (Tw P N w)))) σ' ∧ (σ' 47 28 = zi ((patF P N 48 w (fun _ => 0)).length : Int) ∧ ∀ i, i < (patF P N 48 w (fun _ => 0)).length → σ' 63 i = zi ((nthP (patF P N 48 w (fun _ => 0)) i).1 : Int) ∧ σ' 64 i = zi ((nthP (patF P N 48 w (fun _ => 0)) i).2.2 0 : Int) ∧ σ' 65 i = zi ((nthP (patF P N 48 w (fun _ => 0)) i).2.2 1 : Int) ∧ σ' 66 i = zi ((nthP (patF P N 48 w (fun _ => 0)) i).2.2 2 : Int) ∧ σ' 67 i = zi ((nthP (patF P N 48 w (fun _ => 0)) i).2.1 : Int)) ∧ (∀ c, c ≠ 47 → (c < 62 ∨ 67 < c) → σ' c = σ c) ∧ ∀ k, k ≠ 28 → σ' 47 k = σ 47 k := by
  obtain ⟨d, rfl⟩ : ∃ d', d = d' + 1 := ⟨d - 1, by omega⟩
  obtain ⟨w0, w1, w2, -⟩ := id hw
  have i0 : (1 : Int32) ≤ zi (w 0 : Int) ∧ zi (w 0 : Int) ≤ 16 := ⟨by rw [z1, zi_le (by omega) (by omega) (by omega) (by omega)]; omega, by rw [show (16 : Int32) = zi 16 from rfl, zi_le (by omega) (by omega) (by omega) (by omega)]; omega⟩
  have i1 : (1 : Int32) ≤ zi (w 1 : Int) ∧ zi (w 1 : Int) ≤ 16 := ⟨by rw [z1, zi_le (by omega) (by omega) (by omega) (by omega)]; omega, by rw [show (16 : Int32) = zi 16 from rfl, zi_le (by omega) (by omega) (by omega) (by omega)]; omega⟩
  have i2 : (1 : Int32) ≤ zi (w 2 : Int) ∧ zi (w 2 : Int) ≤ 16 := ⟨by rw [z1, zi_le (by omega) (by omega) (by omega) (by omega)]; omega, by rw [show (16 : Int32) = zi 16 from rfl, zi_le (by omega) (by omega) (by omega) (by omega)]; omega⟩
  have g0 := c_R_in (l := l) (D := D) (DA := DA) (b := b) (sz := sz) (d := d) (L := L) (cu := cu) (σ := σ) (zi (w 0 : Int)) 1 16
  have g1 := c_R_in (l := l) (D := D) (DA := DA) (b := b) (sz := sz) (d := d) (L := L) (cu := cu) (σ := σ) (zi (w 1 : Int)) 1 16
  have g2 := c_R_in (l := l) (D := D) (DA := DA) (b := b) (sz := sz) (d := d) (L := L) (cu := cu) (σ := σ) (zi (w 2 : Int)) 1 16
  rw [if_pos i0] at g0
  rw [if_pos i1] at g1
  rw [if_pos i2] at g2
  obtain ⟨σ4, g4, t4, f4⟩ := R_most (l := l) (D := D) (DA := DA) (b := b) (sz := sz) (d := d) (L := L) (cu := cu) (by omega) h hb hw
  have h4 : mR (am_us σ4 47 28 0) N P := ⟨by rw [am_us_k (by decide), f4 47 (by decide)]; exact h.1, fun n hn => by rw [am_us_ne (by decide), am_us_ne (by decide), am_us_ne (by decide), am_us_ne (by decide), am_us_ne (by decide), f4 48 (by decide), f4 49 (by decide), f4 50 (by decide), f4 54 (by decide), f4 55 (by decide)]; exact h.2 n hn⟩
  have hvol := vol3_le hw
  have g5 := R_pattern (l := l) (D := D) (DA := DA) (b := b) (sz := sz) (L := L) (cu := cu) hb hw 48 d w (fun _ => 0) 0 (am_us σ4 47 28 0) (by omega) hw ⟨Nat.le_refl _, Nat.le_refl _, Nat.le_refl _⟩ (by unfold sm3; omega) h4 (fun y hy hyw => by rw [am_us_ne (by decide)]; exact t4 y hy hyw) (by rw [am_us_s]; rfl) (by omega)
  have g6 := c_R_block (l := l) (D := D) (DA := DA) (b := b) (sz := sz) (d := d) (L := L) (cu := cu) (σ := lR (am_us σ4 47 28 0) 0 (patF P N 48 w (fun _ => 0))) (w 0) (w 1) (w 2)
  have hr := rI_lt hw
  have hcl : Int32.toNatClampNeg (zi (rI w : Int)) = rI w := zi_cl (by omega)
  have ni : ¬ (zi (rI w : Int) < 0 ∨ 4913 ≤ rI w) := by rw [zi_lt0 (by omega) (by omega)]; omega
  refine ⟨lR (am_us σ4 47 28 0) 0 (patF P N 48 w (fun _ => 0)), v_R_cut_0 _ _ _ ⟨_, _, g0, fun h0 => absurd h0 (by decide), fun _ => ⟨_, _, g1, fun h0 => absurd h0 (by decide), fun _ => ⟨_, _, g2, fun h0 => absurd h0 (by decide), fun _ => ⟨σ4, g4, _, g5, _, _, g6, ?_⟩⟩⟩⟩, ⟨?_, fun i hi => ?_⟩, fun c c1 c2 => ?_, fun k hk => ?_⟩
  · show ¬ (zi (rI w : Int) < 0 ∨ 4913 ≤ Int32.toNatClampNeg (zi (rI w : Int))) ∧ (_ = some (Value.int (lR (am_us σ4 47 28 0) 0 (patF P N 48 w (fun _ => 0)) 62 (Int32.toNatClampNeg (zi (rI w : Int))))) ∧ _)
    rw [hcl, lR_fr (by decide) (by decide), am_us_ne (by decide), t4 w hw ⟨Nat.le_refl _, Nat.le_refl _, Nat.le_refl _⟩]
    exact ⟨ni, rfl, rfl⟩
  · have h9 := lR_28 (patF P N 48 w (fun _ => 0)) (am_us σ4 47 28 0) 0 (by rw [am_us_s]; rfl)
    rw [Nat.zero_add] at h9
    exact h9
  · have h9 := lR_get (patF P N 48 w (fun _ => 0)) (am_us σ4 47 28 0) 0 i hi
    rw [Nat.zero_add] at h9
    exact h9
  · rw [lR_fr c1 (by omega), am_us_ne c1, f4 c (by omega)]
  · rw [lR_47 hk, am_us_k hk, f4 47 (by decide)]
end RPA
