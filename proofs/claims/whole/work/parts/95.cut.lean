/-! CUTS: the two calls -/
def r8 (P : Nat → Nat → Int) : Nat → Nat → Int := fun k n => if k < 8 then P k n else 0
theorem r8_cg {P P' : Nat → Nat → Int} (h : ∀ k n, k < 8 → P' k n = P k n) : r8 P' = r8 P := by
  funext k n
  unfold r8
  split
  · rename_i c; exact h k n c
  · rfl
/-- the latest cut's pieces in the reference's cells -/
def told (σ : Nat → Nat → Int32) (ps : List Pce) : Prop := σ 47 28 = zi (ps.length : Int) ∧ ∀ i, i < ps.length → σ 63 i = zi ((nthP ps i).1 : Int) ∧ σ 64 i = zi ((nthP ps i).2.2 0 : Int) ∧ σ 65 i = zi ((nthP ps i).2.2 1 : Int) ∧ σ 66 i = zi ((nthP ps i).2.2 2 : Int) ∧ σ 67 i = zi ((nthP ps i).2.1 : Int)
/-- what stands of cuts between the calls -/
def cst (cu : Bool) (σ : Nat → Nat → Int32) (N : Nat) (P : Nat → Nat → Int) : Prop :=
  (σ 47 28 = -1 ∧ (cu = true → σ 69 2 = -1 ∧ σ 69 3 = -1 ∧ σ 69 4 = -1)) ∨ (cu = true ∧ ∃ u v, knw σ P N u ∧ vOK v ∧ vle v u ∧ σ 69 3 = zi (cI v : Int) ∧ told σ (patF P N 48 v (fun _ => 0)) ∧ (σ 69 4 = -1 ∨ laid σ (patF P N 48 v (fun _ => 0))))
theorem cst_kp {cu : Bool} {σ σ' : Nat → Nat → Int32} {N : Nat} {P : Nat → Nat → Int} (h : kpC σ σ') (hc : cst cu σ N P) : cst cu σ' N P := by
  obtain ⟨f, e28⟩ := h
  unfold cst knw told laid at *
  rw [f 69 (by decide) (by decide), f 70 (by decide) (by decide), f 71 (by decide) (by decide), f 63 (by decide) (by decide), f 64 (by decide) (by decide), f 65 (by decide) (by decide), f 66 (by decide) (by decide), f 67 (by decide) (by decide), e28]
  exact hc
section CUT
variable {l : Launch} {D : va_G} {DA : Nat → ClassId} {b sz d L : Nat} {cu : Bool} {σ : Nat → Nat → Int32} {N M : Nat} {P : Nat → Nat → Int} {Q : Nat → Int}
theorem cR_of (h : cOK σ N P Q M) : cR σ N (r8 P) := ⟨h.1, fun n hn => by
  obtain ⟨r0, r1, r2, r3, r4, r5, r6, r7⟩ := h.row hn
  exact ⟨r0, r1, r2, r6, r7⟩⟩
theorem mR_of (h : mOK σ N P Q) : mR σ N (r8 P) := ⟨h.1, fun n hn => by
  obtain ⟨⟨e0, e1, e2, e3, e4, e5, e6⟩, e7, e8, e9, e10, e11, e12⟩ := h.row hn
  exact ⟨e0, e1, e2, e6, e7⟩⟩
theorem pB_of (h : pOK N P Q) : pB N (r8 P) := ⟨h.1, fun n hn => by
  have hb := h.2.1 n hn
  unfold bOK at hb
  obtain ⟨a0, a1, a2, a3, a4, a5, a6, a7, -⟩ := hb
  exact ⟨a0, a1, a2, a6, a7⟩⟩
theorem L_cut (hd : 61 ≤ d) (h : pic σ N P Q M) (hs : cst cu σ N (r8 P)) (p1 p2 p3 : Int32) : ∃ r cu' σ1 σ2, am_Go l D DA b sz d M_B_cut (0, [some (.ref 1), some (.int p1), some (.int p2), some (.int p3)], [], (am_TT cu L, am_RR cu, σ)) (some (.int r)) (am_TT cu' L, am_RR cu', σ1) ∧ GG l D DA b sz d L cu' M_R_cut [some (.ref 47), some (.int p1), some (.int p2), some (.int p3)] σ1 (some (.int r)) σ2 ∧ pic σ2 N P Q M ∧ cst cu' σ2 N (r8 P) ∧ (shw σ → shw σ2) ∧ (cu' = cu ∨ cu = false) := by
  obtain ⟨hp, hz, hm, hc⟩ := id h
  have hN := hp.1
  obtain ⟨d, rfl⟩ : ∃ d', d = d' + 1 := ⟨d - 1, by omega⟩
  by_cases c : ((1 : Int32) ≤ p1 ∧ p1 ≤ 16) ∧ ((1 : Int32) ≤ p2 ∧ p2 ≤ 16) ∧ ((1 : Int32) ≤ p3 ∧ p3 ≤ 16)
  · obtain ⟨c1, c2, c3⟩ := c
    have k1 := le_i (lo := 1) (hi := 16) (by decide) (by decide) (by decide) c1
    have k2 := le_i (lo := 1) (hi := 16) (by decide) (by decide) (by decide) c2
    have k3 := le_i (lo := 1) (hi := 16) (by decide) (by decide) (by decide) c3
    have hw : vOK (v3 p1.toInt.toNat p2.toInt.toNat p3.toInt.toNat) := v3_OK (by omega) (by omega) (by omega)
    have e1 : p1 = zi ((v3 p1.toInt.toNat p2.toInt.toNat p3.toInt.toNat 0 : Nat) : Int) := by
      show p1 = zi ((p1.toInt.toNat : Nat) : Int)
      rw [show ((p1.toInt.toNat : Nat) : Int) = p1.toInt by omega]; exact zi_of p1
    have e2 : p2 = zi ((v3 p1.toInt.toNat p2.toInt.toNat p3.toInt.toNat 1 : Nat) : Int) := by
      show p2 = zi ((p2.toInt.toNat : Nat) : Int)
      rw [show ((p2.toInt.toNat : Nat) : Int) = p2.toInt by omega]; exact zi_of p2
    have e3 : p3 = zi ((v3 p1.toInt.toNat p2.toInt.toNat p3.toInt.toNat 2 : Nat) : Int) := by
      show p3 = zi ((p3.toInt.toNat : Nat) : Int)
      rw [show ((p3.toInt.toNat : Nat) : Int) = p3.toInt by omega]; exact zi_of p3
    -- behind the class's cut, the reference's
    have both : ∀ σ0 : Nat → Nat → Int32, (∀ c, c < 69 → σ0 c = σ c) → (σ0 69 2 = -1 ∨ ∃ u, knw σ0 (r8 P) N u) → ∃ σ1 σ2, GG l D DA b sz d L true M_Cutter_mostWorth [some (.ref 69), some (.ref 2), some (.int p1), some (.int p2), some (.int p3), none] σ0 (some (.int (zi (Tw (r8 P) N (v3 p1.toInt.toNat p2.toInt.toNat p3.toInt.toNat))))) σ1 ∧ GG l D DA b sz (d + 1) L true M_R_cut [some (.ref 47), some (.int p1), some (.int p2), some (.int p3)] σ1 (some (.int (zi (Tw (r8 P) N (v3 p1.toInt.toNat p2.toInt.toNat p3.toInt.toNat))))) σ2 ∧ pic σ2 N P Q M ∧ cst true σ2 N (r8 P) ∧ (shw σ → shw σ2) := by
      intro σ0 f0 hk
      have hc0 : cOK σ0 N P Q M := cOK_fr hc (by rw [f0 2 (by decide)]) (by rw [f0 2 (by decide)]) (fun c hc => f0 c (by omega)) hN
      obtain ⟨σ1, u, g1, k1, vu1, t3, t4, f1⟩ := C_most (l := l) (D := D) (DA := DA) (b := b) (sz := sz) (d := d) (L := L) (by omega) (cR_of hc0) (pB_of hp) hw hk
      have fr1 : ∀ c, c < 69 → σ1 c = σ c := fun c hc => (f1 c (by omega) (by omega)).trans (f0 c hc)
      have hm1 : mOK σ1 N P Q := mOK_fr hm (fun c _ _ => fr1 c (by omega)) (fun k _ => by rw [fr1 47 (by decide)])
      obtain ⟨σ2, g2, a2, f2, q2⟩ := R_cut (l := l) (D := D) (DA := DA) (b := b) (sz := sz) (d := d + 1) (L := L) (cu := true) (by omega) (mR_of hm1) (pB_of hp) hw
      rw [← e1, ← e2, ← e3] at g1 g2
      refine ⟨σ1, σ2, g1, g2, ⟨hp, hz, mOK_fr hm1 (fun c _ _ => f2 c (by omega) (by omega)) (fun k hk => q2 k (by omega)), ?_⟩, Or.inr ⟨rfl, u, _, ⟨k1.1, by rw [f2 69 (by decide) (by decide)]; exact k1.2.1, fun y hy hyu => by rw [f2 70 (by decide) (by decide)]; exact k1.2.2 y hy hyu⟩, hw, vu1, by rw [f2 69 (by decide) (by decide)]; exact t3, a2, Or.inl (by rw [f2 69 (by decide) (by decide)]; exact t4)⟩, fun z => ?_⟩
      · exact cOK_fr hc (by rw [f2 2 (by decide) (by decide), fr1 2 (by decide)]) (by rw [f2 2 (by decide) (by decide), fr1 2 (by decide)]) (fun c hc => by rw [f2 c (by omega) (by omega), fr1 c (by omega)]) hN
      · unfold shw at z ⊢
        rw [f2 43 (by decide) (by decide), fr1 43 (by decide), q2 37 (by decide), q2 38 (by decide), q2 39 (by decide), fr1 47 (by decide)]
        exact z
    cases cu with
    | false =>
      have g1 := c_within (l := l) (D := D) (DA := DA) (b := b) (sz := sz) (d := d) (L := L) (cu := false) (σ := σ) p1 1 16
      have g2 := c_within (l := l) (D := D) (DA := DA) (b := b) (sz := sz) (d := d) (L := L) (cu := false) (σ := σ) p2 1 16
      have g3 := c_within (l := l) (D := D) (DA := DA) (b := b) (sz := sz) (d := d) (L := L) (cu := false) (σ := σ) p3 1 16
      rw [if_pos c1] at g1
      rw [if_pos c2] at g2
      rw [if_pos c3] at g3
      obtain ⟨σ1, σ2, b1, b2, b3, b4, b5⟩ := both (cs6 σ) (fun c hc => cs6_c hc) (Or.inl (cs6_69 σ).1)
      exact ⟨_, true, σ1, σ2, v_B_cut_false_0 _ _ _ ⟨_, _, g1, fun h0 => absurd h0 (by decide), fun _ => ⟨_, _, g2, fun h0 => absurd h0 (by decide), fun _ => ⟨_, _, g3, fun h0 => absurd h0 (by decide), fun _ => ⟨_, σ1, b1, rfl, rfl⟩⟩⟩⟩, b2, b3, b4, b5, Or.inr rfl⟩
    | true =>
      have g1 := c_within (l := l) (D := D) (DA := DA) (b := b) (sz := sz) (d := d) (L := L) (cu := true) (σ := σ) p1 1 16
      have g2 := c_within (l := l) (D := D) (DA := DA) (b := b) (sz := sz) (d := d) (L := L) (cu := true) (σ := σ) p2 1 16
      have g3 := c_within (l := l) (D := D) (DA := DA) (b := b) (sz := sz) (d := d) (L := L) (cu := true) (σ := σ) p3 1 16
      rw [if_pos c1] at g1
      rw [if_pos c2] at g2
      rw [if_pos c3] at g3
      obtain ⟨σ1, σ2, b1, b2, b3, b4, b5⟩ := both σ (fun _ _ => rfl) (hs.imp (fun z => (z.2 rfl).1) (fun z => z.2.elim (fun u q => ⟨u, q.elim (fun _ q => q.1)⟩)))
      exact ⟨_, true, σ1, σ2, v_B_cut_true_0 _ _ _ ⟨_, _, g1, fun h0 => absurd h0 (by decide), fun _ => ⟨_, _, g2, fun h0 => absurd h0 (by decide), fun _ => ⟨_, _, g3, fun h0 => absurd h0 (by decide), fun _ => ⟨_, σ1, b1, rfl, rfl⟩⟩⟩⟩, b2, b3, b4, b5, Or.inl rfl⟩
  · have hB : am_Go l D DA b sz (d + 1) M_B_cut (0, [some (.ref 1), some (.int p1), some (.int p2), some (.int p3)], [], (am_TT cu L, am_RR cu, σ)) (some (.int (-2))) (am_TT cu L, am_RR cu, σ) := by
      have g1 := c_within (l := l) (D := D) (DA := DA) (b := b) (sz := sz) (d := d) (L := L) (cu := cu) (σ := σ) p1 1 16
      have g2 := c_within (l := l) (D := D) (DA := DA) (b := b) (sz := sz) (d := d) (L := L) (cu := cu) (σ := σ) p2 1 16
      have g3 := c_within (l := l) (D := D) (DA := DA) (b := b) (sz := sz) (d := d) (L := L) (cu := cu) (σ := σ) p3 1 16
      cases cu with
      | false =>
        refine v_B_cut_false_0 _ _ _ ⟨_, _, g1, ?_⟩
        by_cases c1 : (1 : Int32) ≤ p1 ∧ p1 ≤ 16
        · rw [if_pos c1]
          refine ⟨fun h0 => absurd h0 (by decide), fun _ => ⟨_, _, g2, ?_⟩⟩
          by_cases c2 : (1 : Int32) ≤ p2 ∧ p2 ≤ 16
          · rw [if_pos c2]
            refine ⟨fun h0 => absurd h0 (by decide), fun _ => ⟨_, _, g3, ?_⟩⟩
            rw [if_neg (fun z => c ⟨c1, c2, z⟩)]
            exact ⟨fun _ => (by first | exact ⟨rfl, rfl⟩ | exact ⟨trivial, trivial⟩ | exact ⟨trivial, rfl⟩ | exact ⟨rfl, trivial⟩ | trivial), fun h0 => absurd rfl h0⟩
          · rw [if_neg c2]
            exact ⟨fun _ => (by first | exact ⟨rfl, rfl⟩ | exact ⟨trivial, trivial⟩ | exact ⟨trivial, rfl⟩ | exact ⟨rfl, trivial⟩ | trivial), fun h0 => absurd rfl h0⟩
        · rw [if_neg c1]
          exact ⟨fun _ => (by first | exact ⟨rfl, rfl⟩ | exact ⟨trivial, trivial⟩ | exact ⟨trivial, rfl⟩ | exact ⟨rfl, trivial⟩ | trivial), fun h0 => absurd rfl h0⟩
      | true =>
        refine v_B_cut_true_0 _ _ _ ⟨_, _, g1, ?_⟩
        by_cases c1 : (1 : Int32) ≤ p1 ∧ p1 ≤ 16
        · rw [if_pos c1]
          refine ⟨fun h0 => absurd h0 (by decide), fun _ => ⟨_, _, g2, ?_⟩⟩
          by_cases c2 : (1 : Int32) ≤ p2 ∧ p2 ≤ 16
          · rw [if_pos c2]
            refine ⟨fun h0 => absurd h0 (by decide), fun _ => ⟨_, _, g3, ?_⟩⟩
            rw [if_neg (fun z => c ⟨c1, c2, z⟩)]
            exact ⟨fun _ => (by first | exact ⟨rfl, rfl⟩ | exact ⟨trivial, trivial⟩ | exact ⟨trivial, rfl⟩ | exact ⟨rfl, trivial⟩ | trivial), fun h0 => absurd rfl h0⟩
          · rw [if_neg c2]
            exact ⟨fun _ => (by first | exact ⟨rfl, rfl⟩ | exact ⟨trivial, trivial⟩ | exact ⟨trivial, rfl⟩ | exact ⟨rfl, trivial⟩ | trivial), fun h0 => absurd rfl h0⟩
        · rw [if_neg c1]
          exact ⟨fun _ => (by first | exact ⟨rfl, rfl⟩ | exact ⟨trivial, trivial⟩ | exact ⟨trivial, rfl⟩ | exact ⟨rfl, trivial⟩ | trivial), fun h0 => absurd rfl h0⟩
    have hR : GG l D DA b sz (d + 1) L cu M_R_cut [some (.ref 47), some (.int p1), some (.int p2), some (.int p3)] σ (some (.int (-2))) σ := by
      have g1 := c_R_in (l := l) (D := D) (DA := DA) (b := b) (sz := sz) (d := d) (L := L) (cu := cu) (σ := σ) p1 1 16
      have g2 := c_R_in (l := l) (D := D) (DA := DA) (b := b) (sz := sz) (d := d) (L := L) (cu := cu) (σ := σ) p2 1 16
      have g3 := c_R_in (l := l) (D := D) (DA := DA) (b := b) (sz := sz) (d := d) (L := L) (cu := cu) (σ := σ) p3 1 16
      refine v_R_cut_0 _ _ _ ⟨_, _, g1, ?_⟩
      by_cases c1 : (1 : Int32) ≤ p1 ∧ p1 ≤ 16
      · rw [if_pos c1]
        refine ⟨fun h0 => absurd h0 (by decide), fun _ => ⟨_, _, g2, ?_⟩⟩
        by_cases c2 : (1 : Int32) ≤ p2 ∧ p2 ≤ 16
        · rw [if_pos c2]
          refine ⟨fun h0 => absurd h0 (by decide), fun _ => ⟨_, _, g3, ?_⟩⟩
          rw [if_neg (fun z => c ⟨c1, c2, z⟩)]
          exact ⟨fun _ => (by first | exact ⟨rfl, rfl⟩ | exact ⟨trivial, trivial⟩ | exact ⟨trivial, rfl⟩ | exact ⟨rfl, trivial⟩ | trivial), fun h0 => absurd rfl h0⟩
        · rw [if_neg c2]
          exact ⟨fun _ => (by first | exact ⟨rfl, rfl⟩ | exact ⟨trivial, trivial⟩ | exact ⟨trivial, rfl⟩ | exact ⟨rfl, trivial⟩ | trivial), fun h0 => absurd rfl h0⟩
      · rw [if_neg c1]
        exact ⟨fun _ => (by first | exact ⟨rfl, rfl⟩ | exact ⟨trivial, trivial⟩ | exact ⟨trivial, rfl⟩ | exact ⟨rfl, trivial⟩ | trivial), fun h0 => absurd rfl h0⟩
    exact ⟨-2, cu, σ, σ, hB, hR, h, hs, fun z => z, Or.inl rfl⟩
theorem L_piece (hd : 62 ≤ d) (h : pic σ N P Q M) (hs : cst cu σ N (r8 P)) (i w : Int32) : ∃ r σ1, GG l D DA b sz d L cu M_B_piece [some (.ref 1), some (.int i), some (.int w)] σ (some (.int r)) σ1 ∧ GG l D DA b sz d L cu M_R_piece [some (.ref 47), some (.int i), some (.int w)] σ1 (some (.int r)) σ1 ∧ pic σ1 N P Q M ∧ cst cu σ1 N (r8 P) ∧ (shw σ → shw σ1) := by
  obtain ⟨hp, hz, hm, hc⟩ := id h
  have hN := hp.1
  obtain ⟨d, rfl⟩ : ∃ d', d = d' + 1 := ⟨d - 1, by omega⟩
  rcases hs with ⟨e28, hcu⟩ | ⟨rfl, u, v, k1, k2, k3, k4, k5, k6⟩
  · have hR : GG l D DA b sz (d + 1) L cu M_R_piece [some (.ref 47), some (.int i), some (.int w)] σ (some (.int (-1))) σ := by
      have g := c_R_in (l := l) (D := D) (DA := DA) (b := b) (sz := sz) (d := d) (L := L) (cu := cu) (σ := σ) i 0 (σ 47 28 - 1)
      have hno : ¬ ((0 : Int32) ≤ i ∧ i ≤ σ 47 28 - 1) := by
        rw [e28, show (-1 : Int32) - 1 = zi (-2) from rfl, Int32.le_iff_toInt_le, Int32.le_iff_toInt_le, zi_toInt (by decide) (by decide), show (0 : Int32).toInt = 0 from rfl]
        omega
      rw [if_neg hno] at g
      exact v_R_piece_0 _ _ ⟨_, _, g, fun _ => (by first | exact ⟨rfl, rfl⟩ | exact ⟨trivial, trivial⟩ | exact ⟨trivial, rfl⟩ | exact ⟨rfl, trivial⟩ | trivial), fun h0 => absurd rfl h0⟩
    have hB : GG l D DA b sz (d + 1) L cu M_B_piece [some (.ref 1), some (.int i), some (.int w)] σ (some (.int (-1))) σ := by
      cases cu with
      | false => exact v_B_piece_false_0 _ _ ⟨rfl, rfl⟩
      | true =>
        have hq : ∃ d', d = d' + 1 := ⟨d - 1, by omega⟩
        obtain ⟨d, rfl⟩ := hq
        refine v_B_piece_true_0 _ _ ⟨-1, σ, v_Cutter_tell_0 _ _ ?_, rfl, rfl⟩
        rw [(hcu rfl).2.1]
        exact ⟨fun _ => ⟨rfl, rfl⟩, fun h0 => absurd rfl h0⟩
    exact ⟨-1, σ, hB, hR, h, Or.inl ⟨e28, hcu⟩, fun z => z⟩
  · obtain ⟨σ1, g1, a1, f1, q1⟩ := C_tell (l := l) (D := D) (DA := DA) (b := b) (sz := sz) (d := d) (L := L) (by omega) (cR_of hc) (pB_of hp) k1 k2 k3 k4 k6 i w
    have hvP := vOK_P k2
    have hvol := vol3_le k2
    have hlen := pat_len (P := r8 P) (N := N) 48 v (fun _ => 0) hvP
    have hps : aPc (pcO N) (patF (r8 P) N 48 v (fun _ => 0)) := pat_ok 48 v (fun _ => 0) hvP (fun e he => by have := vOK_e k2 he; show 0 + v e ≤ 16; omega)
    have t1 : told σ1 (patF (r8 P) N 48 v (fun _ => 0)) := by
      unfold told
      rw [f1 47 (by decide) (by decide), f1 63 (by decide) (by decide), f1 64 (by decide) (by decide), f1 65 (by decide) (by decide), f1 66 (by decide) (by decide), f1 67 (by decide) (by decide)]
      exact k5
    have g2 := R_piece (l := l) (D := D) (DA := DA) (b := b) (sz := sz) (d := d + 1) (L := L) (cu := true) (σ := σ1) (by omega) hN hps (by omega) t1.1 t1.2 i w
    refine ⟨_, σ1, v_B_piece_true_0 _ _ ⟨_, σ1, g1, rfl, rfl⟩, g2, ⟨hp, hz, mOK_fr hm (fun c _ _ => f1 c (by omega) (by omega)) (fun k _ => by rw [f1 47 (by decide) (by decide)]), ?_⟩, Or.inr ⟨rfl, u, v, ⟨k1.1, by rw [q1 2 (by decide)]; exact k1.2.1, fun y hy hyu => by rw [f1 70 (by decide) (by decide)]; exact k1.2.2 y hy hyu⟩, k2, k3, by rw [q1 3 (by decide)]; exact k4, t1, Or.inr a1⟩, fun z => ?_⟩
    · exact cOK_fr hc (by rw [f1 2 (by decide) (by decide)]) (by rw [f1 2 (by decide) (by decide)]) (fun c hc => f1 c (by omega) (by omega)) hN
    · unfold shw at z ⊢
      rw [f1 43 (by decide) (by decide), f1 47 (by decide) (by decide)]
      exact z
end CUT
