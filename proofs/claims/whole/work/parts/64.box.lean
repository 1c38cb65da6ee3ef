-- need: 41 42 43 44 45 46 48 53 60 61 62 63
/-! box -/
section BOX
variable {l : Launch} {D : va_G} {DA : Nat → ClassId} {b sz d L : Nat} {cu : Bool} {σ σ' : Nat → Nat → Int32} {N M : Nat} {P : Nat → Nat → Int} {Q : Nat → Int}
def boxOK (p1 p2 p3 p4 p5 p6 p8 : Int32) : Prop := ((1 : Int32) ≤ p1 ∧ p1 ≤ 12) ∧ ((1 : Int32) ≤ p2 ∧ p2 ≤ 12) ∧ ((1 : Int32) ≤ p3 ∧ p3 ≤ 12) ∧ ((1 : Int32) ≤ p4 ∧ p4 ≤ 1000) ∧ ((0 : Int32) ≤ p5 ∧ p5 ≤ 20000) ∧ ((0 : Int32) ≤ p6 ∧ p6 ≤ 5) ∧ ((0 : Int32) ≤ p8 ∧ p8 ≤ 1000)
theorem B_box_bad (hd : 1 ≤ d) {p1 p2 p3 p4 p5 p6 p7 p8 : Int32} (hb : ¬ boxOK p1 p2 p3 p4 p5 p6 p8) : GG l D DA b sz d L cu M_B_box [some (.ref 1), some (.int p1), some (.int p2), some (.int p3), some (.int p4), some (.int p5), some (.int p6), some (.int p7), some (.int p8), none] σ (some (.int (-2))) σ := by
  obtain ⟨d, rfl⟩ : ∃ d', d = d' + 1 := ⟨d - 1, by omega⟩
  cases cu
  refine v_B_box_false_0 _ _ _ _ _ _ _ _ ⟨_, _, c_within _ _ _, ?_⟩
  by_cases c1 : (1 : Int32) ≤ p1 ∧ p1 ≤ 12
  · rw [if_pos c1]
    refine ⟨fun h0 => absurd h0 (by decide), fun _ => ⟨_, _, c_within _ _ _, ?_⟩⟩
    by_cases c2 : (1 : Int32) ≤ p2 ∧ p2 ≤ 12
    · rw [if_pos c2]
      refine ⟨fun h0 => absurd h0 (by decide), fun _ => ⟨_, _, c_within _ _ _, ?_⟩⟩
      by_cases c3 : (1 : Int32) ≤ p3 ∧ p3 ≤ 12
      · rw [if_pos c3]
        refine ⟨fun h0 => absurd h0 (by decide), fun _ => ⟨_, _, c_within _ _ _, ?_⟩⟩
        by_cases c4 : (1 : Int32) ≤ p4 ∧ p4 ≤ 1000
        · rw [if_pos c4]
          refine ⟨fun h0 => absurd h0 (by decide), fun _ => ⟨_, _, c_within _ _ _, ?_⟩⟩
          by_cases c5 : (0 : Int32) ≤ p5 ∧ p5 ≤ 20000
          · rw [if_pos c5]
            refine ⟨fun h0 => absurd h0 (by decide), fun _ => ⟨_, _, c_within _ _ _, ?_⟩⟩
            by_cases c6 : (0 : Int32) ≤ p6 ∧ p6 ≤ 5
            · rw [if_pos c6]
              refine ⟨fun h0 => absurd h0 (by decide), fun _ => ⟨_, _, c_within _ _ _, ?_⟩⟩
              by_cases c7 : (0 : Int32) ≤ p8 ∧ p8 ≤ 1000
              · exact absurd ⟨c1, c2, c3, c4, c5, c6, c7⟩ hb
              · rw [if_neg c7]; exact ⟨fun _ => (by first | exact ⟨rfl, rfl⟩ | exact ⟨trivial, trivial⟩ | exact ⟨trivial, rfl⟩ | exact ⟨rfl, trivial⟩ | trivial), fun h0 => absurd rfl h0⟩
            · rw [if_neg c6]; exact ⟨fun _ => (by first | exact ⟨rfl, rfl⟩ | exact ⟨trivial, trivial⟩ | exact ⟨trivial, rfl⟩ | exact ⟨rfl, trivial⟩ | trivial), fun h0 => absurd rfl h0⟩
          · rw [if_neg c5]; exact ⟨fun _ => (by first | exact ⟨rfl, rfl⟩ | exact ⟨trivial, trivial⟩ | exact ⟨trivial, rfl⟩ | exact ⟨rfl, trivial⟩ | trivial), fun h0 => absurd rfl h0⟩
        · rw [if_neg c4]; exact ⟨fun _ => (by first | exact ⟨rfl, rfl⟩ | exact ⟨trivial, trivial⟩ | exact ⟨trivial, rfl⟩ | exact ⟨rfl, trivial⟩ | trivial), fun h0 => absurd rfl h0⟩
      · rw [if_neg c3]; exact ⟨fun _ => (by first | exact ⟨rfl, rfl⟩ | exact ⟨trivial, trivial⟩ | exact ⟨trivial, rfl⟩ | exact ⟨rfl, trivial⟩ | trivial), fun h0 => absurd rfl h0⟩
    · rw [if_neg c2]; exact ⟨fun _ => (by first | exact ⟨rfl, rfl⟩ | exact ⟨trivial, trivial⟩ | exact ⟨trivial, rfl⟩ | exact ⟨rfl, trivial⟩ | trivial), fun h0 => absurd rfl h0⟩
  · rw [if_neg c1]; exact ⟨fun _ => (by first | exact ⟨rfl, rfl⟩ | exact ⟨trivial, trivial⟩ | exact ⟨trivial, rfl⟩ | exact ⟨rfl, trivial⟩ | trivial), fun h0 => absurd rfl h0⟩
  refine v_B_box_true_0 _ _ _ _ _ _ _ _ ⟨_, _, c_within _ _ _, ?_⟩
  by_cases c1 : (1 : Int32) ≤ p1 ∧ p1 ≤ 12
  · rw [if_pos c1]
    refine ⟨fun h0 => absurd h0 (by decide), fun _ => ⟨_, _, c_within _ _ _, ?_⟩⟩
    by_cases c2 : (1 : Int32) ≤ p2 ∧ p2 ≤ 12
    · rw [if_pos c2]
      refine ⟨fun h0 => absurd h0 (by decide), fun _ => ⟨_, _, c_within _ _ _, ?_⟩⟩
      by_cases c3 : (1 : Int32) ≤ p3 ∧ p3 ≤ 12
      · rw [if_pos c3]
        refine ⟨fun h0 => absurd h0 (by decide), fun _ => ⟨_, _, c_within _ _ _, ?_⟩⟩
        by_cases c4 : (1 : Int32) ≤ p4 ∧ p4 ≤ 1000
        · rw [if_pos c4]
          refine ⟨fun h0 => absurd h0 (by decide), fun _ => ⟨_, _, c_within _ _ _, ?_⟩⟩
          by_cases c5 : (0 : Int32) ≤ p5 ∧ p5 ≤ 20000
          · rw [if_pos c5]
            refine ⟨fun h0 => absurd h0 (by decide), fun _ => ⟨_, _, c_within _ _ _, ?_⟩⟩
            by_cases c6 : (0 : Int32) ≤ p6 ∧ p6 ≤ 5
            · rw [if_pos c6]
              refine ⟨fun h0 => absurd h0 (by decide), fun _ => ⟨_, _, c_within _ _ _, ?_⟩⟩
              by_cases c7 : (0 : Int32) ≤ p8 ∧ p8 ≤ 1000
              · exact absurd ⟨c1, c2, c3, c4, c5, c6, c7⟩ hb
              · rw [if_neg c7]; exact ⟨fun _ => (by first | exact ⟨rfl, rfl⟩ | exact ⟨trivial, trivial⟩ | exact ⟨trivial, rfl⟩ | exact ⟨rfl, trivial⟩ | trivial), fun h0 => absurd rfl h0⟩
            · rw [if_neg c6]; exact ⟨fun _ => (by first | exact ⟨rfl, rfl⟩ | exact ⟨trivial, trivial⟩ | exact ⟨trivial, rfl⟩ | exact ⟨rfl, trivial⟩ | trivial), fun h0 => absurd rfl h0⟩
          · rw [if_neg c5]; exact ⟨fun _ => (by first | exact ⟨rfl, rfl⟩ | exact ⟨trivial, trivial⟩ | exact ⟨trivial, rfl⟩ | exact ⟨rfl, trivial⟩ | trivial), fun h0 => absurd rfl h0⟩
        · rw [if_neg c4]; exact ⟨fun _ => (by first | exact ⟨rfl, rfl⟩ | exact ⟨trivial, trivial⟩ | exact ⟨trivial, rfl⟩ | exact ⟨rfl, trivial⟩ | trivial), fun h0 => absurd rfl h0⟩
      · rw [if_neg c3]; exact ⟨fun _ => (by first | exact ⟨rfl, rfl⟩ | exact ⟨trivial, trivial⟩ | exact ⟨trivial, rfl⟩ | exact ⟨rfl, trivial⟩ | trivial), fun h0 => absurd rfl h0⟩
    · rw [if_neg c2]; exact ⟨fun _ => (by first | exact ⟨rfl, rfl⟩ | exact ⟨trivial, trivial⟩ | exact ⟨trivial, rfl⟩ | exact ⟨rfl, trivial⟩ | trivial), fun h0 => absurd rfl h0⟩
  · rw [if_neg c1]; exact ⟨fun _ => (by first | exact ⟨rfl, rfl⟩ | exact ⟨trivial, trivial⟩ | exact ⟨trivial, rfl⟩ | exact ⟨rfl, trivial⟩ | trivial), fun h0 => absurd rfl h0⟩
theorem R_box_bad (hd : 1 ≤ d) {p1 p2 p3 p4 p5 p6 p7 p8 : Int32} (hb : ¬ boxOK p1 p2 p3 p4 p5 p6 p8) : GG l D DA b sz d L cu M_R_box [some (.ref 47), some (.int p1), some (.int p2), some (.int p3), some (.int p4), some (.int p5), some (.int p6), some (.int p7), some (.int p8)] σ (some (.int (-2))) σ := by
  obtain ⟨d, rfl⟩ : ∃ d', d = d' + 1 := ⟨d - 1, by omega⟩
  refine v_R_box_0 _ _ _ _ _ _ _ _ ⟨_, _, c_R_in _ _ _, ?_⟩
  by_cases c1 : (1 : Int32) ≤ p1 ∧ p1 ≤ 12
  · rw [if_pos c1]
    refine ⟨fun h0 => absurd h0 (by decide), fun _ => ⟨_, _, c_R_in _ _ _, ?_⟩⟩
    by_cases c2 : (1 : Int32) ≤ p2 ∧ p2 ≤ 12
    · rw [if_pos c2]
      refine ⟨fun h0 => absurd h0 (by decide), fun _ => ⟨_, _, c_R_in _ _ _, ?_⟩⟩
      by_cases c3 : (1 : Int32) ≤ p3 ∧ p3 ≤ 12
      · rw [if_pos c3]
        refine ⟨fun h0 => absurd h0 (by decide), fun _ => ⟨_, _, c_R_in _ _ _, ?_⟩⟩
        by_cases c4 : (1 : Int32) ≤ p4 ∧ p4 ≤ 1000
        · rw [if_pos c4]
          refine ⟨fun h0 => absurd h0 (by decide), fun _ => ⟨_, _, c_R_in _ _ _, ?_⟩⟩
          by_cases c5 : (0 : Int32) ≤ p5 ∧ p5 ≤ 20000
          · rw [if_pos c5]
            refine ⟨fun h0 => absurd h0 (by decide), fun _ => ⟨_, _, c_R_in _ _ _, ?_⟩⟩
            by_cases c6 : (0 : Int32) ≤ p6 ∧ p6 ≤ 5
            · rw [if_pos c6]
              refine ⟨fun h0 => absurd h0 (by decide), fun _ => ⟨_, _, c_R_in _ _ _, ?_⟩⟩
              by_cases c7 : (0 : Int32) ≤ p8 ∧ p8 ≤ 1000
              · exact absurd ⟨c1, c2, c3, c4, c5, c6, c7⟩ hb
              · rw [if_neg c7]; exact ⟨fun _ => (by first | exact ⟨rfl, rfl⟩ | exact ⟨trivial, trivial⟩ | exact ⟨trivial, rfl⟩ | exact ⟨rfl, trivial⟩ | trivial), fun h0 => absurd rfl h0⟩
            · rw [if_neg c6]; exact ⟨fun _ => (by first | exact ⟨rfl, rfl⟩ | exact ⟨trivial, trivial⟩ | exact ⟨trivial, rfl⟩ | exact ⟨rfl, trivial⟩ | trivial), fun h0 => absurd rfl h0⟩
          · rw [if_neg c5]; exact ⟨fun _ => (by first | exact ⟨rfl, rfl⟩ | exact ⟨trivial, trivial⟩ | exact ⟨trivial, rfl⟩ | exact ⟨rfl, trivial⟩ | trivial), fun h0 => absurd rfl h0⟩
        · rw [if_neg c4]; exact ⟨fun _ => (by first | exact ⟨rfl, rfl⟩ | exact ⟨trivial, trivial⟩ | exact ⟨trivial, rfl⟩ | exact ⟨rfl, trivial⟩ | trivial), fun h0 => absurd rfl h0⟩
      · rw [if_neg c3]; exact ⟨fun _ => (by first | exact ⟨rfl, rfl⟩ | exact ⟨trivial, trivial⟩ | exact ⟨trivial, rfl⟩ | exact ⟨rfl, trivial⟩ | trivial), fun h0 => absurd rfl h0⟩
    · rw [if_neg c2]; exact ⟨fun _ => (by first | exact ⟨rfl, rfl⟩ | exact ⟨trivial, trivial⟩ | exact ⟨trivial, rfl⟩ | exact ⟨rfl, trivial⟩ | trivial), fun h0 => absurd rfl h0⟩
  · rw [if_neg c1]; exact ⟨fun _ => (by first | exact ⟨rfl, rfl⟩ | exact ⟨trivial, trivial⟩ | exact ⟨trivial, rfl⟩ | exact ⟨rfl, trivial⟩ | trivial), fun h0 => absurd rfl h0⟩
theorem B_box_full (hd : 1 ≤ d) {p1 p2 p3 p4 p5 p6 p7 p8 : Int32} (hb : boxOK p1 p2 p3 p4 p5 p6 p8) (h : σ 2 2 = zi (20 : Nat)) : GG l D DA b sz d L cu M_B_box [some (.ref 1), some (.int p1), some (.int p2), some (.int p3), some (.int p4), some (.int p5), some (.int p6), some (.int p7), some (.int p8), none] σ (some (.int (-3))) σ := by
  obtain ⟨d, rfl⟩ : ∃ d', d = d' + 1 := ⟨d - 1, by omega⟩
  cases cu
  refine v_B_box_false_0 _ _ _ _ _ _ _ _ ⟨_, _, c_within _ _ _, ?_⟩
  obtain ⟨c1, c2, c3, c4, c5, c6, c7⟩ := hb
  rw [if_pos c1]
  refine ⟨fun h0 => absurd h0 (by decide), fun _ => ⟨_, _, c_within _ _ _, ?_⟩⟩
  rw [if_pos c2]
  refine ⟨fun h0 => absurd h0 (by decide), fun _ => ⟨_, _, c_within _ _ _, ?_⟩⟩
  rw [if_pos c3]
  refine ⟨fun h0 => absurd h0 (by decide), fun _ => ⟨_, _, c_within _ _ _, ?_⟩⟩
  rw [if_pos c4]
  refine ⟨fun h0 => absurd h0 (by decide), fun _ => ⟨_, _, c_within _ _ _, ?_⟩⟩
  rw [if_pos c5]
  refine ⟨fun h0 => absurd h0 (by decide), fun _ => ⟨_, _, c_within _ _ _, ?_⟩⟩
  rw [if_pos c6]
  refine ⟨fun h0 => absurd h0 (by decide), fun _ => ⟨_, _, c_within _ _ _, ?_⟩⟩
  rw [if_pos c7]
  refine ⟨fun h0 => absurd h0 (by decide), fun _ => ?_⟩
  rw [h]
  exact ⟨fun h0 => absurd h0 (by decide), fun _ => (by first | exact ⟨rfl, rfl⟩ | exact ⟨trivial, trivial⟩ | exact ⟨trivial, rfl⟩ | exact ⟨rfl, trivial⟩ | trivial)⟩
  refine v_B_box_true_0 _ _ _ _ _ _ _ _ ⟨_, _, c_within _ _ _, ?_⟩
  obtain ⟨c1, c2, c3, c4, c5, c6, c7⟩ := hb
  rw [if_pos c1]
  refine ⟨fun h0 => absurd h0 (by decide), fun _ => ⟨_, _, c_within _ _ _, ?_⟩⟩
  rw [if_pos c2]
  refine ⟨fun h0 => absurd h0 (by decide), fun _ => ⟨_, _, c_within _ _ _, ?_⟩⟩
  rw [if_pos c3]
  refine ⟨fun h0 => absurd h0 (by decide), fun _ => ⟨_, _, c_within _ _ _, ?_⟩⟩
  rw [if_pos c4]
  refine ⟨fun h0 => absurd h0 (by decide), fun _ => ⟨_, _, c_within _ _ _, ?_⟩⟩
  rw [if_pos c5]
  refine ⟨fun h0 => absurd h0 (by decide), fun _ => ⟨_, _, c_within _ _ _, ?_⟩⟩
  rw [if_pos c6]
  refine ⟨fun h0 => absurd h0 (by decide), fun _ => ⟨_, _, c_within _ _ _, ?_⟩⟩
  rw [if_pos c7]
  refine ⟨fun h0 => absurd h0 (by decide), fun _ => ?_⟩
  rw [h]
  exact ⟨fun h0 => absurd h0 (by decide), fun _ => (by first | exact ⟨rfl, rfl⟩ | exact ⟨trivial, trivial⟩ | exact ⟨trivial, rfl⟩ | exact ⟨rfl, trivial⟩ | trivial)⟩
theorem R_box_full (hd : 1 ≤ d) {p1 p2 p3 p4 p5 p6 p7 p8 : Int32} (hb : boxOK p1 p2 p3 p4 p5 p6 p8) (h : σ 47 0 = zi (20 : Nat)) : GG l D DA b sz d L cu M_R_box [some (.ref 47), some (.int p1), some (.int p2), some (.int p3), some (.int p4), some (.int p5), some (.int p6), some (.int p7), some (.int p8)] σ (some (.int (-3))) σ := by
  obtain ⟨d, rfl⟩ : ∃ d', d = d' + 1 := ⟨d - 1, by omega⟩
  refine v_R_box_0 _ _ _ _ _ _ _ _ ⟨_, _, c_R_in _ _ _, ?_⟩
  obtain ⟨c1, c2, c3, c4, c5, c6, c7⟩ := hb
  rw [if_pos c1]
  refine ⟨fun h0 => absurd h0 (by decide), fun _ => ⟨_, _, c_R_in _ _ _, ?_⟩⟩
  rw [if_pos c2]
  refine ⟨fun h0 => absurd h0 (by decide), fun _ => ⟨_, _, c_R_in _ _ _, ?_⟩⟩
  rw [if_pos c3]
  refine ⟨fun h0 => absurd h0 (by decide), fun _ => ⟨_, _, c_R_in _ _ _, ?_⟩⟩
  rw [if_pos c4]
  refine ⟨fun h0 => absurd h0 (by decide), fun _ => ⟨_, _, c_R_in _ _ _, ?_⟩⟩
  rw [if_pos c5]
  refine ⟨fun h0 => absurd h0 (by decide), fun _ => ⟨_, _, c_R_in _ _ _, ?_⟩⟩
  rw [if_pos c6]
  refine ⟨fun h0 => absurd h0 (by decide), fun _ => ⟨_, _, c_R_in _ _ _, ?_⟩⟩
  rw [if_pos c7]
  refine ⟨fun h0 => absurd h0 (by decide), fun _ => ?_⟩
  rw [h]
  exact ⟨fun _ => (by first | exact ⟨rfl, rfl⟩ | exact ⟨trivial, trivial⟩ | exact ⟨trivial, rfl⟩ | exact ⟨rfl, trivial⟩ | trivial), fun h0 => absurd rfl h0⟩
/-- a new box's cells in the class -/
def w8 (σ : Nat → Nat → Int32) (N : Nat) (p1 p2 p3 p4 p5 p6 p7 p8 : Int32) : Nat → Nat → Int32 := am_us (am_us (am_us (am_us (am_us (am_us (am_us (am_us σ (19 + N) 0 p1) (19 + N) 1 p2) (19 + N) 2 p3) (19 + N) 3 p4) (19 + N) 4 p5) (19 + N) 5 p6) (19 + N) 6 p7) (19 + N) 7 p8
def w8c (cu : Bool) (σ : Nat → Nat → Int32) : Nat → Nat → Int32 := if cu = true then am_us (am_us (am_us σ 69 2 (-1)) 69 3 (-1)) 69 4 (-1) else σ
def w8m (σ : Nat → Nat → Int32) (N : Nat) (p1 p2 p3 p4 p5 p6 p7 p8 : Int32) : Nat → Nat → Int32 := am_us (am_us (am_us (am_us (am_us (am_us (am_us (am_us σ 48 N p1) 49 N p2) 50 N p3) 51 N p4) 52 N p5) 53 N p6) 54 N p7) 55 N p8
theorem w8_c {p1 p2 p3 p4 p5 p6 p7 p8 : Int32} {c : Nat} (h : c ≠ 19 + N) : w8 σ N p1 p2 p3 p4 p5 p6 p7 p8 c = σ c := by
  unfold w8
  rw [am_us_ne h, am_us_ne h, am_us_ne h, am_us_ne h, am_us_ne h, am_us_ne h, am_us_ne h, am_us_ne h]
theorem w8m_c {p1 p2 p3 p4 p5 p6 p7 p8 : Int32} {c : Nat} (h : c < 48 ∨ 55 < c) : w8m σ N p1 p2 p3 p4 p5 p6 p7 p8 c = σ c := by
  unfold w8m
  rw [am_us_ne (by omega), am_us_ne (by omega), am_us_ne (by omega), am_us_ne (by omega), am_us_ne (by omega), am_us_ne (by omega), am_us_ne (by omega), am_us_ne (by omega)]
theorem w8c_c {c : Nat} (h : c ≠ 69) : w8c cu σ c = σ c := by
  unfold w8c
  split
  · rw [am_us_ne h, am_us_ne h, am_us_ne h]
  · rfl
theorem B_box_ok (hd : 1 ≤ d) {p1 p2 p3 p4 p5 p6 p7 p8 : Int32} (hb : boxOK p1 p2 p3 p4 p5 p6 p8) (h7 : p7 = 0 ∨ p7 = 1) (hN : N < 20) (h : σ 2 2 = zi N) : GG l D DA b sz d L cu M_B_box [some (.ref 1), some (.int p1), some (.int p2), some (.int p3), some (.int p4), some (.int p5), some (.int p6), some (.int p7), some (.int p8), none] σ (some (.int (zi N))) (w8c cu (am_us (w8 σ N p1 p2 p3 p4 p5 p6 p7 p8) 2 2 (zi ((N + 1 : Nat) : Int)))) := by
  have e1 : w8 σ N p1 p2 p3 p4 p5 p6 p7 p8 2 2 = zi N := by rw [w8_c (by omega)]; exact h
  have z20 : (20 : Int32) = zi 20 := rfl
  have e2 : zi ((N : Int)) + 1 = zi ((N + 1 : Nat) : Int) := zi_s1 N
  obtain ⟨d, rfl⟩ : ∃ d', d = d' + 1 := ⟨d - 1, by omega⟩
  cases cu
  refine v_B_box_false_0 _ _ _ _ _ _ _ _ ⟨_, _, c_within _ _ _, ?_⟩
  obtain ⟨c1, c2, c3, c4, c5, c6, c7⟩ := hb
  rw [if_pos c1]
  refine ⟨fun h0 => absurd h0 (by decide), fun _ => ⟨_, _, c_within _ _ _, ?_⟩⟩
  rw [if_pos c2]
  refine ⟨fun h0 => absurd h0 (by decide), fun _ => ⟨_, _, c_within _ _ _, ?_⟩⟩
  rw [if_pos c3]
  refine ⟨fun h0 => absurd h0 (by decide), fun _ => ⟨_, _, c_within _ _ _, ?_⟩⟩
  rw [if_pos c4]
  refine ⟨fun h0 => absurd h0 (by decide), fun _ => ⟨_, _, c_within _ _ _, ?_⟩⟩
  rw [if_pos c5]
  refine ⟨fun h0 => absurd h0 (by decide), fun _ => ⟨_, _, c_within _ _ _, ?_⟩⟩
  rw [if_pos c6]
  refine ⟨fun h0 => absurd h0 (by decide), fun _ => ⟨_, _, c_within _ _ _, ?_⟩⟩
  rw [if_pos c7]
  refine ⟨fun h0 => absurd h0 (by decide), fun _ => ?_⟩
  rw [h, zi_cl (by omega), z20, zi_lt (by omega) (by omega) (by omega) (by omega), zi_lt0 (by omega) (by omega)]
  refine ⟨fun _ => ⟨by omega, h7, ?_, ?_⟩, fun h0 => absurd h0 (by omega)⟩
  · show some (Value.int (zi N)) = some (.int (w8 σ N p1 p2 p3 p4 p5 p6 p7 p8 2 2 + 1 - 1))
    rw [e1, zi_s1, zi_m1, Int.add_sub_cancel]
  · show (am_TT false L, am_RR false, w8c false (am_us (w8 σ N p1 p2 p3 p4 p5 p6 p7 p8) 2 2 (zi ((N + 1 : Nat) : Int)))) = (am_TT false L, am_RR false, am_us (w8 σ N p1 p2 p3 p4 p5 p6 p7 p8) 2 2 (w8 σ N p1 p2 p3 p4 p5 p6 p7 p8 2 2 + 1))
    rw [e1, e2]
    rfl
  refine v_B_box_true_0 _ _ _ _ _ _ _ _ ⟨_, _, c_within _ _ _, ?_⟩
  obtain ⟨c1, c2, c3, c4, c5, c6, c7⟩ := hb
  rw [if_pos c1]
  refine ⟨fun h0 => absurd h0 (by decide), fun _ => ⟨_, _, c_within _ _ _, ?_⟩⟩
  rw [if_pos c2]
  refine ⟨fun h0 => absurd h0 (by decide), fun _ => ⟨_, _, c_within _ _ _, ?_⟩⟩
  rw [if_pos c3]
  refine ⟨fun h0 => absurd h0 (by decide), fun _ => ⟨_, _, c_within _ _ _, ?_⟩⟩
  rw [if_pos c4]
  refine ⟨fun h0 => absurd h0 (by decide), fun _ => ⟨_, _, c_within _ _ _, ?_⟩⟩
  rw [if_pos c5]
  refine ⟨fun h0 => absurd h0 (by decide), fun _ => ⟨_, _, c_within _ _ _, ?_⟩⟩
  rw [if_pos c6]
  refine ⟨fun h0 => absurd h0 (by decide), fun _ => ⟨_, _, c_within _ _ _, ?_⟩⟩
  rw [if_pos c7]
  refine ⟨fun h0 => absurd h0 (by decide), fun _ => ?_⟩
  rw [h, zi_cl (by omega), z20, zi_lt (by omega) (by omega) (by omega) (by omega), zi_lt0 (by omega) (by omega)]
  refine ⟨fun _ => ⟨by omega, h7, w8c true (am_us (w8 σ N p1 p2 p3 p4 p5 p6 p7 p8) 2 2 (zi ((N + 1 : Nat) : Int))), v_Cutter_forget_0 ⟨rfl, ?_⟩, ?_, rfl⟩, fun h0 => absurd h0 (by omega)⟩
  · show (am_TT true L, am_RR true, w8c true (am_us (w8 σ N p1 p2 p3 p4 p5 p6 p7 p8) 2 2 (zi ((N + 1 : Nat) : Int)))) = (am_TT true L, am_RR true, am_us (am_us (am_us (am_us (w8 σ N p1 p2 p3 p4 p5 p6 p7 p8) 2 2 (w8 σ N p1 p2 p3 p4 p5 p6 p7 p8 2 2 + 1)) 69 2 (-1)) 69 3 (-1)) 69 4 (-1))
    rw [e1, e2]
    rfl
  · rw [w8c_c (by omega), am_us_s, ← e2, zi_s1, zi_m1, Int.add_sub_cancel]
theorem R_box_ok (hd : 1 ≤ d) {p1 p2 p3 p4 p5 p6 p7 p8 : Int32} (hb : boxOK p1 p2 p3 p4 p5 p6 p8) (h7 : p7 = 0 ∨ p7 = 1) (hN : N < 20) (h : σ 47 0 = zi N) : GG l D DA b sz d L cu M_R_box [some (.ref 47), some (.int p1), some (.int p2), some (.int p3), some (.int p4), some (.int p5), some (.int p6), some (.int p7), some (.int p8)] σ (some (.int (zi N))) (am_us (am_us (w8m σ N p1 p2 p3 p4 p5 p6 p7 p8) 47 0 (zi ((N + 1 : Nat) : Int))) 47 28 (-1)) := by
  have z20 : (20 : Int32) = zi 20 := rfl
  have e2 : zi ((N : Int)) + 1 = zi ((N + 1 : Nat) : Int) := zi_s1 N
  obtain ⟨d, rfl⟩ : ∃ d', d = d' + 1 := ⟨d - 1, by omega⟩
  refine v_R_box_0 _ _ _ _ _ _ _ _ ⟨_, _, c_R_in _ _ _, ?_⟩
  obtain ⟨c1, c2, c3, c4, c5, c6, c7⟩ := hb
  rw [if_pos c1]
  refine ⟨fun h0 => absurd h0 (by decide), fun _ => ⟨_, _, c_R_in _ _ _, ?_⟩⟩
  rw [if_pos c2]
  refine ⟨fun h0 => absurd h0 (by decide), fun _ => ⟨_, _, c_R_in _ _ _, ?_⟩⟩
  rw [if_pos c3]
  refine ⟨fun h0 => absurd h0 (by decide), fun _ => ⟨_, _, c_R_in _ _ _, ?_⟩⟩
  rw [if_pos c4]
  refine ⟨fun h0 => absurd h0 (by decide), fun _ => ⟨_, _, c_R_in _ _ _, ?_⟩⟩
  rw [if_pos c5]
  refine ⟨fun h0 => absurd h0 (by decide), fun _ => ⟨_, _, c_R_in _ _ _, ?_⟩⟩
  rw [if_pos c6]
  refine ⟨fun h0 => absurd h0 (by decide), fun _ => ⟨_, _, c_R_in _ _ _, ?_⟩⟩
  rw [if_pos c7]
  refine ⟨fun h0 => absurd h0 (by decide), fun _ => ?_⟩
  rw [h, zi_cl (by omega), z20, zi_eq (by omega) (by omega) (by omega) (by omega), zi_lt0 (by omega) (by omega)]
  have hh : ¬ ((N : Int) < 0 ∨ 20 ≤ N) := by omega
  refine ⟨fun h0 => absurd h0 (by omega), fun _ => ⟨hh, hh, hh, hh, hh, hh, hh, h7, hh, ?_, ?_⟩⟩
  · rw [zi_s1, zi_m1, Int.add_sub_cancel]
  · rw [e2]; rfl
theorem boxOK_i {p1 p2 p3 p4 p5 p6 p8 : Int32} (hb : boxOK p1 p2 p3 p4 p5 p6 p8) : (1 ≤ p1.toInt ∧ p1.toInt ≤ 12) ∧ (1 ≤ p2.toInt ∧ p2.toInt ≤ 12) ∧ (1 ≤ p3.toInt ∧ p3.toInt ≤ 12) ∧ (1 ≤ p4.toInt ∧ p4.toInt ≤ 1000) ∧ (0 ≤ p5.toInt ∧ p5.toInt ≤ 20000) ∧ (0 ≤ p6.toInt ∧ p6.toInt ≤ 5) ∧ (0 ≤ p8.toInt ∧ p8.toInt ≤ 1000) := by
  obtain ⟨c1, c2, c3, c4, c5, c6, c7⟩ := hb
  exact ⟨le_i (lo := 1) (hi := 12) (by decide) (by decide) (by decide) c1, le_i (lo := 1) (hi := 12) (by decide) (by decide) (by decide) c2, le_i (lo := 1) (hi := 12) (by decide) (by decide) (by decide) c3, le_i (lo := 1) (hi := 1000) (by decide) (by decide) (by decide) c4, le_i (lo := 0) (hi := 20000) (by decide) (by decide) (by decide) c5, le_i (lo := 0) (hi := 5) (by decide) (by decide) (by decide) c6, le_i (lo := 0) (hi := 1000) (by decide) (by decide) (by decide) c7⟩
def pbox (P : Nat → Nat → Int) (N : Nat) (p1 p2 p3 p4 p5 p6 p7 p8 : Int) : Nat → Nat → Int := pu (pu (pu (pu (pu (pu (pu (pu P 0 N p1) 1 N p2) 2 N p3) 3 N p4) 4 N p5) 5 N p6) 6 N p7) 7 N p8
theorem pbox_o {k n : Nat} {p1 p2 p3 p4 p5 p6 p7 p8 : Int} (h : n ≠ N ∨ 8 ≤ k) : pbox P N p1 p2 p3 p4 p5 p6 p7 p8 k n = P k n := by
  unfold pbox pu
  rw [if_neg (by omega), if_neg (by omega), if_neg (by omega), if_neg (by omega), if_neg (by omega), if_neg (by omega), if_neg (by omega), if_neg (by omega)]
/-- what is told anew, with a box more -/
def boxed (cu : Bool) (σ σ' : Nat → Nat → Int32) : Prop := σ' 47 28 = -1 ∧ (cu = true → σ' 69 2 = -1 ∧ σ' 69 3 = -1 ∧ σ' 69 4 = -1) ∧ (∀ k, k < 4 → σ' 43 k = σ 43 k) ∧ σ' 47 37 = σ 47 37 ∧ σ' 47 38 = σ 47 38 ∧ σ' 47 39 = σ 47 39
theorem L_box (hd : 1 ≤ d) (h : pic σ N P Q M) (p1 p2 p3 p4 p5 p6 p7 p8 : Int32) (h7 : p7 = 0 ∨ p7 = 1) : ∃ r σ1 σ2, GG l D DA b sz d L cu M_B_box [some (.ref 1), some (.int p1), some (.int p2), some (.int p3), some (.int p4), some (.int p5), some (.int p6), some (.int p7), some (.int p8), none] σ (some (.int r)) σ1 ∧ GG l D DA b sz d L cu M_R_box [some (.ref 47), some (.int p1), some (.int p2), some (.int p3), some (.int p4), some (.int p5), some (.int p6), some (.int p7), some (.int p8)] σ1 (some (.int r)) σ2 ∧ (σ2 = σ ∨ ∃ P' M', pic σ2 (N + 1) P' Q M' ∧ boxed cu σ σ2) := by
  obtain ⟨hp, hz, hm, hc⟩ := id h
  have hN := hp.1
  by_cases hb : boxOK p1 p2 p3 p4 p5 p6 p8
  · by_cases hf : N = 20
    · subst hf
      exact ⟨-3, σ, σ, B_box_full hd hb hc.1, R_box_full hd hb hm.1, Or.inl rfl⟩
    · have hN2 : N < 20 := by omega
      obtain ⟨i1, i2, i3, i4, i5, i6, i8⟩ := boxOK_i hb
      have i7 : 0 ≤ p7.toInt ∧ p7.toInt ≤ 1 := by rcases h7 with rfl | rfl <;> decide
      have hm0 : mOK (w8c cu (am_us (w8 σ N p1 p2 p3 p4 p5 p6 p7 p8) 2 2 (zi ((N + 1 : Nat) : Int)))) N P Q := mOK_fr hm (fun c _ _ => by rw [w8c_c (by omega), am_us_ne (by omega), w8_c (by omega)]) (fun k _ => by rw [w8c_c (by omega), am_us_ne (by omega), w8_c (by omega)])
      refine ⟨zi N, _, _, B_box_ok hd hb h7 hN2 hc.1, R_box_ok hd hb h7 hN2 hm0.1, Or.inr ⟨pbox P N p1.toInt p2.toInt p3.toInt p4.toInt p5.toInt p6.toInt p7.toInt p8.toInt, M, ⟨⟨by omega, fun n hn => ?_, fun n hn h8 => ?_, hp.2.2.2⟩, fun n hn k => ?_, ?_, ?_⟩, ?_⟩⟩
      · by_cases e : n = N
        · subst e
          have z8 := hz n (Nat.le_refl n)
          unfold bOK
          rw [pbox_o (k := 8) (by omega), pbox_o (k := 9) (by omega), pbox_o (k := 10) (by omega), pbox_o (k := 11) (by omega), pbox_o (k := 12) (by omega), z8, z8, z8, z8, z8]
          unfold pbox pu
          simp
          omega
        · have hb9 := hp.2.1 n (by omega)
          unfold bOK
          rw [pbox_o (by omega), pbox_o (by omega), pbox_o (by omega), pbox_o (by omega), pbox_o (by omega), pbox_o (by omega), pbox_o (by omega), pbox_o (by omega), pbox_o (by omega), pbox_o (by omega), pbox_o (by omega), pbox_o (by omega), pbox_o (by omega)]
          exact hb9
      · rw [pbox_o (by omega)] at h8
        have e : n ≠ N := fun z => by rw [z, hz N (Nat.le_refl N) 8] at h8; cases h8
        have hi := hp.2.2.1 n (by omega) h8
        unfold inQ lng wdt at *
        rw [pbox_o (by omega), pbox_o (by omega), pbox_o (by omega), pbox_o (by omega), pbox_o (by omega), pbox_o (by omega), pbox_o (by omega)]
        exact hi
      · rw [pbox_o (by omega)]; exact hz n (by omega) k
      · have h9 := mOK_pu (mOK_pu (mOK_pu (mOK_pu (mOK_pu (mOK_pu (mOK_pu (mOK_pu hm0 (k := 0) (n := N) (by decide) p1.toInt) (k := 1) (n := N) (by decide) p2.toInt) (k := 2) (n := N) (by decide) p3.toInt) (k := 3) (n := N) (by decide) p4.toInt) (k := 4) (n := N) (by decide) p5.toInt) (k := 5) (n := N) (by decide) p6.toInt) (k := 6) (n := N) (by decide) p7.toInt) (k := 7) (n := N) (by decide) p8.toInt
        simp only [← zi_of] at h9
        obtain ⟨a1, a2, a3⟩ := h9
        refine ⟨by rw [am_us_k (by omega), am_us_s], fun k hk n hn => ?_, fun j hj => ?_⟩
        · rw [am_us_c (by omega), am_us_c (by omega)]
          exact a2 k hk n hn
        · rw [am_us_k (by omega), am_us_k (by omega)]
          exact a3 j hj
      · obtain ⟨h1, h2, h3, h4, h5, h6⟩ := hc
        have hfr : ∀ c, c < 47 → am_us (am_us (w8m (w8c cu (am_us (w8 σ N p1 p2 p3 p4 p5 p6 p7 p8) 2 2 (zi ((N + 1 : Nat) : Int)))) N p1 p2 p3 p4 p5 p6 p7 p8) 47 0 (zi ((N + 1 : Nat) : Int))) 47 28 (-1) c = am_us (w8 σ N p1 p2 p3 p4 p5 p6 p7 p8) 2 2 (zi ((N + 1 : Nat) : Int)) c := fun c hc => by rw [am_us_ne (by omega), am_us_ne (by omega), w8m_c (by omega), w8c_c (by omega)]
        refine ⟨by rw [hfr 2 (by omega), am_us_s], by rw [hfr 2 (by omega), am_us_k (by omega), w8_c (by omega)]; exact h2, ⟨h3.1, fun n => ?_⟩, fun j hj => by rw [hfr 3 (by omega), am_us_c (by omega), w8_c (by omega)]; exact h4 j hj, fun n hn k hk => ?_, fun n hn h8 => ?_⟩
        · have h9 := h3.2 n
          rw [pbox_o (by omega), h9]
          refine ⟨fun z => ⟨by omega, z.2⟩, fun z => ⟨?_, z.2⟩⟩
          have e : n ≠ N := fun y => z.2 (by rw [y]; exact hz N (Nat.le_refl N) 8)
          omega
        · rw [hfr (19 + n) (by omega), am_us_c (by omega)]
          by_cases e : n = N
          · subst e
            have k8 : k = 0 ∨ k = 1 ∨ k = 2 ∨ k = 3 ∨ k = 4 ∨ k = 5 ∨ k = 6 ∨ k = 7 := by omega
            unfold w8 pbox pu am_us
            rcases k8 with rfl | rfl | rfl | rfl | rfl | rfl | rfl | rfl <;> simp [← zi_of]
          · rw [w8_c (by omega), pbox_o (by omega)]; exact h5 n hn k hk
        · rw [pbox_o (by omega)] at h8
          have e : n ≠ N := fun z => h8 (by rw [z]; exact hz N (Nat.le_refl N) 8)
          have h9 := h6 n (by omega) h8
          unfold bAt tp lng wdt at *
          rw [hfr (19 + n) (by omega), am_us_ne (by omega), w8_c (by omega), pbox_o (by omega), pbox_o (by omega), pbox_o (by omega), pbox_o (by omega), pbox_o (by omega), pbox_o (by omega), pbox_o (by omega)]
          exact h9
      · refine ⟨by rw [am_us_s], fun hcu => ?_, fun k _ => ?_, ?_, ?_, ?_⟩
        · subst hcu
          rw [am_us_ne (by omega), am_us_ne (by omega), w8m_c (by omega)]
          exact ⟨rfl, rfl, rfl⟩
        · rw [am_us_ne (by omega), am_us_ne (by omega), w8m_c (by omega), w8c_c (by omega), am_us_ne (by omega), w8_c (by omega)]
        all_goals rw [am_us_k (by omega), am_us_k (by omega), w8m_c (by omega), w8c_c (by omega), am_us_ne (by omega), w8_c (by omega)]
  · exact ⟨-2, σ, σ, B_box_bad hd hb, R_box_bad hd hb, Or.inl rfl⟩
end BOX
