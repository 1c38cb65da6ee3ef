-- need: 41 42 43 44 45 46 48 53 60 61
/-! the plain calls: truck, axles, count, clear, take, box -/
def an (p : Nat → Prop) [DecidablePred p] : Nat → Nat → Int
  | 0, _ => 0
  | m + 1, i => if p i then 1 else an p m (i + 1)
theorem an_01 (p : Nat → Prop) [DecidablePred p] : ∀ m i, an p m i = 0 ∨ an p m i = 1
  | 0, _ => Or.inl rfl
  | m + 1, i => by
    unfold an
    split
    · exact Or.inr rfl
    · exact an_01 p m (i + 1)
/-- without n -/
def ub (M n : Nat) : Nat := M &&& (2 ^ 32 - 1 - 2 ^ n)
theorem ub_bit {M n k : Nat} (hM : M < 2 ^ 20) (hn : n < 31) : (ub M n).testBit k = (M.testBit k && decide (k ≠ n)) := by
  unfold ub
  have h1 : 2 ^ n < 2 ^ 32 := Nat.pow_lt_pow_right (by decide) (by omega)
  rw [Nat.testBit_and, show 2 ^ 32 - 1 - 2 ^ n = 2 ^ 32 - (2 ^ n + 1) by omega, Nat.testBit_two_pow_sub_succ h1, Nat.testBit_two_pow]
  by_cases hk : k < 20
  · by_cases e : n = k
    · subst e; simp
    · have : k < 32 := by omega
      have e2 : k ≠ n := fun z => e z.symm
      simp [e, e2, this]
  · have : M.testBit k = false := Nat.testBit_lt_two_pow (Nat.lt_of_lt_of_le hM (Nat.pow_le_pow_right (by decide) (by omega)))
    simp [this]
theorem ub_le {M n : Nat} : ub M n ≤ M := Nat.and_le_left
theorem mk_not : ∀ n, n < 31 → (zi ((2 ^ n : Nat) : Int)) ^^^ (-1 : Int32) = zi ((2 ^ 32 - 1 - 2 ^ n : Nat) : Int) := by decide +kernel
theorem mk_ub {M n : Nat} (hn : n < 31) : zi (M : Int) &&& (((1 : Int32) <<< (zi n &&& 31 : Int32) : Int32) ^^^ (-1)) = zi ((ub M n : Nat) : Int) := by
  rw [mk_shl hn, mk_not n hn, mk_andN]
  rfl
section EASY
variable {l : Launch} {D : va_G} {DA : Nat → ClassId} {b sz d L : Nat} {cu : Bool} {σ σ' : Nat → Nat → Int32} {N M : Nat} {P : Nat → Nat → Int} {Q : Nat → Int}
theorem pOK_q (hp : pOK N P Q) (hc : cnt P N ≤ 0) {Q' : Nat → Int} (hq : qOK Q') : pOK N P Q' := ⟨hp.1, hp.2.1, fun n hn h8 => absurd (cnt_0 hc hn) (by omega), hq⟩
theorem L_truck (hd : 1 ≤ d) (h : pic σ N P Q M) (p q s : Int32) : stepOK l D DA b sz d L cu M_B_truck [some (.ref 1), some (.int p), some (.int q), some (.int s)] M_R_truck [some (.ref 47), some (.int p), some (.int q), some (.int s)] σ N P := by
  obtain ⟨d, rfl⟩ : ∃ d', d = d' + 1 := ⟨d - 1, by omega⟩
  obtain ⟨hp, hz, hm, hc⟩ := id h
  have hcb := cnt_bd (P := P) N
  have hN := hp.1
  by_cases c1 : (1 : Int32) ≤ p ∧ p ≤ 40
  · by_cases c2 : (1 : Int32) ≤ q ∧ q ≤ 12
    · by_cases c3 : (1 : Int32) ≤ s ∧ s ≤ 12
      · have k1 := le_i (lo := 1) (hi := 40) (by decide) (by decide) (by decide) c1
        have k2 := le_i (lo := 1) (hi := 12) (by decide) (by decide) (by decide) c2
        have k3 := le_i (lo := 1) (hi := 12) (by decide) (by decide) (by decide) c3
        by_cases c4 : cnt P N ≤ 0
        · have hm1 : mOK (am_us (am_us (am_us σ 3 0 p) 3 1 q) 3 2 s) N P Q := mOK_fr hm (fun c _ _ => by rw [am_us_ne (by omega), am_us_ne (by omega), am_us_ne (by omega)]) (fun k _ => by rw [am_us_c (by omega), am_us_c (by omega), am_us_c (by omega)])
          refine ⟨1, am_us (am_us (am_us σ 3 0 p) 3 1 q) 3 2 s, am_us (am_us (am_us (am_us (am_us (am_us σ 3 0 p) 3 1 q) 3 2 s) 47 14 p) 47 15 q) 47 16 s, P, qu (qu (qu Q 0 p.toInt) 1 q.toInt) 2 s.toInt, M, v_B_truck_0 _ _ _ ⟨_, _, c_within _ _ _, ?_⟩, v_R_truck_0 _ _ _ ⟨_, _, c_R_in _ _ _, ?_⟩, ⟨?_, hz, ?_, ?_⟩, fun _ _ _ => rfl, ?_⟩
          · rw [if_pos c1]
            refine ⟨fun h0 => absurd h0 (by decide), fun _ => ⟨_, _, c_within _ _ _, ?_⟩⟩
            rw [if_pos c2]
            refine ⟨fun h0 => absurd h0 (by decide), fun _ => ⟨_, _, c_within _ _ _, ?_⟩⟩
            rw [if_pos c3]
            refine ⟨fun h0 => absurd h0 (by decide), fun _ => ?_⟩
            rw [hc.2.1, zM_0 hc.2.2.1 hN]
            exact ⟨fun _ => (by first | exact ⟨rfl, rfl⟩ | exact ⟨trivial, trivial⟩ | exact ⟨trivial, rfl⟩ | exact ⟨rfl, trivial⟩ | trivial), fun h0 => absurd c4 h0⟩
          · rw [if_pos c1]
            refine ⟨fun h0 => absurd h0 (by decide), fun _ => ⟨_, _, c_R_in _ _ _, ?_⟩⟩
            rw [if_pos c2]
            refine ⟨fun h0 => absurd h0 (by decide), fun _ => ⟨_, _, c_R_in _ _ _, ?_⟩⟩
            rw [if_pos c3]
            refine ⟨fun h0 => absurd h0 (by decide), fun _ => ⟨_, _, c_R_placed hm1 hp, ?_⟩⟩
            rw [zi_le0 (by omega) (by omega)]
            exact ⟨fun _ => (by first | exact ⟨rfl, rfl⟩ | exact ⟨trivial, trivial⟩ | exact ⟨trivial, rfl⟩ | exact ⟨rfl, trivial⟩ | trivial), fun h0 => absurd c4 h0⟩
          · refine pOK_q hp c4 ?_
            have h9 := hp.2.2.2
            unfold qOK qu at *
            simp
            omega
          · have h9 := mOK_qu (mOK_qu (mOK_qu hm1 (j := 0) (by decide) p.toInt) (j := 1) (by decide) q.toInt) (j := 2) (by decide) s.toInt
            rw [← zi_of, ← zi_of, ← zi_of] at h9
            exact h9
          · have h9 := cOK_qu (cOK_qu (cOK_qu hc hp.1 (j := 0) p.toInt) hN (j := 1) q.toInt) hN (j := 2) s.toInt
            rw [← zi_of, ← zi_of, ← zi_of] at h9
            exact cOK_fr h9 (by rw [am_us_c (by omega), am_us_c (by omega), am_us_c (by omega)]) (by rw [am_us_c (by omega), am_us_c (by omega), am_us_c (by omega)]) (fun c _ => by rw [am_us_ne (by omega), am_us_ne (by omega), am_us_ne (by omega)]) hp.1
          · exact rst_trans (rst_trans (rst_trans (rst_trans (rst_trans (rst_us (by omega) (by omega) (by omega)) (rst_us (by omega) (by omega) (by omega))) (rst_us (by omega) (by omega) (by omega))) (rst_us (by omega) (by omega) (by omega))) (rst_us (by omega) (by omega) (by omega))) (rst_us (by omega) (by omega) (by omega))
        · refine stay h (-4) (v_B_truck_0 _ _ _ ⟨_, _, c_within _ _ _, ?_⟩) (v_R_truck_0 _ _ _ ⟨_, _, c_R_in _ _ _, ?_⟩)
          · rw [if_pos c1]
            refine ⟨fun h0 => absurd h0 (by decide), fun _ => ⟨_, _, c_within _ _ _, ?_⟩⟩
            rw [if_pos c2]
            refine ⟨fun h0 => absurd h0 (by decide), fun _ => ⟨_, _, c_within _ _ _, ?_⟩⟩
            rw [if_pos c3]
            refine ⟨fun h0 => absurd h0 (by decide), fun _ => ?_⟩
            rw [hc.2.1, zM_0 hc.2.2.1 hN]
            exact ⟨fun h0 => absurd h0 c4, fun _ => (by first | exact ⟨rfl, rfl⟩ | exact ⟨trivial, trivial⟩ | exact ⟨trivial, rfl⟩ | exact ⟨rfl, trivial⟩ | trivial)⟩
          · rw [if_pos c1]
            refine ⟨fun h0 => absurd h0 (by decide), fun _ => ⟨_, _, c_R_in _ _ _, ?_⟩⟩
            rw [if_pos c2]
            refine ⟨fun h0 => absurd h0 (by decide), fun _ => ⟨_, _, c_R_in _ _ _, ?_⟩⟩
            rw [if_pos c3]
            refine ⟨fun h0 => absurd h0 (by decide), fun _ => ⟨_, _, c_R_placed hm hp, ?_⟩⟩
            rw [zi_le0 (by omega) (by omega)]
            exact ⟨fun h0 => absurd h0 c4, fun _ => (by first | exact ⟨rfl, rfl⟩ | exact ⟨trivial, trivial⟩ | exact ⟨trivial, rfl⟩ | exact ⟨rfl, trivial⟩ | trivial)⟩
      · refine stay h (-2) (v_B_truck_0 _ _ _ ⟨_, _, c_within _ _ _, ?_⟩) (v_R_truck_0 _ _ _ ⟨_, _, c_R_in _ _ _, ?_⟩)
        · rw [if_pos c1]
          refine ⟨fun h0 => absurd h0 (by decide), fun _ => ⟨_, _, c_within _ _ _, ?_⟩⟩
          rw [if_pos c2]
          refine ⟨fun h0 => absurd h0 (by decide), fun _ => ⟨_, _, c_within _ _ _, ?_⟩⟩
          rw [if_neg c3]; exact ⟨fun _ => (by first | exact ⟨rfl, rfl⟩ | exact ⟨trivial, trivial⟩ | exact ⟨trivial, rfl⟩ | exact ⟨rfl, trivial⟩ | trivial), fun h0 => absurd rfl h0⟩
        · rw [if_pos c1]
          refine ⟨fun h0 => absurd h0 (by decide), fun _ => ⟨_, _, c_R_in _ _ _, ?_⟩⟩
          rw [if_pos c2]
          refine ⟨fun h0 => absurd h0 (by decide), fun _ => ⟨_, _, c_R_in _ _ _, ?_⟩⟩
          rw [if_neg c3]; exact ⟨fun _ => (by first | exact ⟨rfl, rfl⟩ | exact ⟨trivial, trivial⟩ | exact ⟨trivial, rfl⟩ | exact ⟨rfl, trivial⟩ | trivial), fun h0 => absurd rfl h0⟩
    · refine stay h (-2) (v_B_truck_0 _ _ _ ⟨_, _, c_within _ _ _, ?_⟩) (v_R_truck_0 _ _ _ ⟨_, _, c_R_in _ _ _, ?_⟩)
      · rw [if_pos c1]
        refine ⟨fun h0 => absurd h0 (by decide), fun _ => ⟨_, _, c_within _ _ _, ?_⟩⟩
        rw [if_neg c2]; exact ⟨fun _ => (by first | exact ⟨rfl, rfl⟩ | exact ⟨trivial, trivial⟩ | exact ⟨trivial, rfl⟩ | exact ⟨rfl, trivial⟩ | trivial), fun h0 => absurd rfl h0⟩
      · rw [if_pos c1]
        refine ⟨fun h0 => absurd h0 (by decide), fun _ => ⟨_, _, c_R_in _ _ _, ?_⟩⟩
        rw [if_neg c2]; exact ⟨fun _ => (by first | exact ⟨rfl, rfl⟩ | exact ⟨trivial, trivial⟩ | exact ⟨trivial, rfl⟩ | exact ⟨rfl, trivial⟩ | trivial), fun h0 => absurd rfl h0⟩
  · refine stay h (-2) (v_B_truck_0 _ _ _ ⟨_, _, c_within _ _ _, ?_⟩) (v_R_truck_0 _ _ _ ⟨_, _, c_R_in _ _ _, ?_⟩)
    · rw [if_neg c1]; exact ⟨fun _ => (by first | exact ⟨rfl, rfl⟩ | exact ⟨trivial, trivial⟩ | exact ⟨trivial, rfl⟩ | exact ⟨rfl, trivial⟩ | trivial), fun h0 => absurd rfl h0⟩
    · rw [if_neg c1]; exact ⟨fun _ => (by first | exact ⟨rfl, rfl⟩ | exact ⟨trivial, trivial⟩ | exact ⟨trivial, rfl⟩ | exact ⟨rfl, trivial⟩ | trivial), fun h0 => absurd rfl h0⟩
theorem L_axles (hd : 1 ≤ d) (h : pic σ N P Q M) (p q s t : Int32) : stepOK l D DA b sz d L cu M_B_axles [some (.ref 1), some (.int p), some (.int q), some (.int s), some (.int t)] M_R_axles [some (.ref 47), some (.int p), some (.int q), some (.int s), some (.int t)] σ N P := by
  obtain ⟨d, rfl⟩ : ∃ d', d = d' + 1 := ⟨d - 1, by omega⟩
  obtain ⟨hp, hz, hm, hc⟩ := id h
  have hN := hp.1
  by_cases c1 : (0 : Int32) ≤ p ∧ p ≤ 40
  · have k1 := le_i (lo := 0) (hi := 40) (by decide) (by decide) (by decide) c1
    have ep : p + 1 = zi (p.toInt + 1) := by rw [← zi_s1, ← zi_of]
    have hr2 : (p + 1 ≤ q ∧ q ≤ 40) ↔ (p.toInt < q.toInt ∧ q.toInt ≤ 40) := by
      rw [ep, Int32.le_iff_toInt_le, Int32.le_iff_toInt_le, zi_toInt (by omega) (by omega), show (40 : Int32).toInt = 40 from rfl]; omega
    have hc2 : ((0 : Int32) ≤ q ∧ q ≤ 40) ↔ (0 ≤ q.toInt ∧ q.toInt ≤ 40) := by
      rw [Int32.le_iff_toInt_le, Int32.le_iff_toInt_le, show (40 : Int32).toInt = 40 from rfl, show (0 : Int32).toInt = 0 from rfl]
    have hc3 : (q ≤ p) ↔ (q.toInt ≤ p.toInt) := Int32.le_iff_toInt_le
    by_cases c2 : p.toInt < q.toInt ∧ q.toInt ≤ 40
    · by_cases c3 : (0 : Int32) ≤ s ∧ s ≤ 100000
      · by_cases c4 : (0 : Int32) ≤ t ∧ t ≤ 100000
        · have k3 := le_i (lo := 0) (hi := 100000) (by decide) (by decide) (by decide) c3
          have k4 := le_i (lo := 0) (hi := 100000) (by decide) (by decide) (by decide) c4
          have hm1 : mOK (am_us (am_us (am_us (am_us σ 3 4 p) 3 5 q) 3 6 s) 3 7 t) N P Q := mOK_fr hm (fun c _ _ => by rw [am_us_ne (by omega), am_us_ne (by omega), am_us_ne (by omega), am_us_ne (by omega)]) (fun k _ => by rw [am_us_c (by omega), am_us_c (by omega), am_us_c (by omega), am_us_c (by omega)])
          refine ⟨1, am_us (am_us (am_us (am_us σ 3 4 p) 3 5 q) 3 6 s) 3 7 t, am_us (am_us (am_us (am_us (am_us (am_us (am_us (am_us σ 3 4 p) 3 5 q) 3 6 s) 3 7 t) 47 18 p) 47 19 q) 47 20 s) 47 21 t, P, qu (qu (qu (qu Q 4 p.toInt) 5 q.toInt) 6 s.toInt) 7 t.toInt, M, v_B_axles_0 _ _ _ _ ⟨_, _, c_within _ _ _, ?_⟩, v_R_axles_0 _ _ _ _ ⟨_, _, c_R_in _ _ _, ?_⟩, ⟨?_, hz, ?_, ?_⟩, fun _ _ _ => rfl, ?_⟩
          · rw [if_pos c1]
            refine ⟨fun h0 => absurd h0 (by decide), fun _ => ⟨_, _, c_within _ _ _, ?_⟩⟩
            rw [if_pos (hc2.mpr (by omega))]
            refine ⟨fun h0 => absurd h0 (by decide), fun _ => ⟨fun h0 => absurd (hc3.mp h0) (by omega), fun _ => ⟨_, _, c_within _ _ _, ?_⟩⟩⟩
            rw [if_pos c3]
            refine ⟨fun h0 => absurd h0 (by decide), fun _ => ⟨_, _, c_within _ _ _, ?_⟩⟩
            rw [if_pos c4]
            exact ⟨fun h0 => absurd h0 (by decide), fun _ => (by first | exact ⟨rfl, rfl⟩ | exact ⟨trivial, trivial⟩ | exact ⟨trivial, rfl⟩ | exact ⟨rfl, trivial⟩ | trivial)⟩
          · rw [if_pos c1]
            refine ⟨fun h0 => absurd h0 (by decide), fun _ => ⟨_, _, c_R_in _ _ _, ?_⟩⟩
            rw [if_pos (hr2.mpr c2)]
            refine ⟨fun h0 => absurd h0 (by decide), fun _ => ⟨_, _, c_R_in _ _ _, ?_⟩⟩
            rw [if_pos c3]
            refine ⟨fun h0 => absurd h0 (by decide), fun _ => ⟨_, _, c_R_in _ _ _, ?_⟩⟩
            rw [if_pos c4]
            exact ⟨fun h0 => absurd h0 (by decide), fun _ => (by first | exact ⟨rfl, rfl⟩ | exact ⟨trivial, trivial⟩ | exact ⟨trivial, rfl⟩ | exact ⟨rfl, trivial⟩ | trivial)⟩
          · obtain ⟨a1, a2, a3, a4⟩ := hp
            refine ⟨a1, a2, fun n hn h8 => ?_, ?_⟩
            · have h9 := a3 n hn h8
              unfold inQ qu at *
              simpa using h9
            · unfold qOK qu at *
              simp
              omega
          · have h9 := mOK_qu (mOK_qu (mOK_qu (mOK_qu hm1 (j := 4) (by decide) p.toInt) (j := 5) (by decide) q.toInt) (j := 6) (by decide) s.toInt) (j := 7) (by decide) t.toInt
            rw [← zi_of, ← zi_of, ← zi_of, ← zi_of] at h9
            exact h9
          · have h9 := cOK_qu (cOK_qu (cOK_qu (cOK_qu hc hp.1 (j := 4) p.toInt) hN (j := 5) q.toInt) hN (j := 6) s.toInt) hN (j := 7) t.toInt
            rw [← zi_of, ← zi_of, ← zi_of, ← zi_of] at h9
            exact cOK_fr h9 (by rw [am_us_c (by omega), am_us_c (by omega), am_us_c (by omega), am_us_c (by omega)]) (by rw [am_us_c (by omega), am_us_c (by omega), am_us_c (by omega), am_us_c (by omega)]) (fun c _ => by rw [am_us_ne (by omega), am_us_ne (by omega), am_us_ne (by omega), am_us_ne (by omega)]) hp.1
          · exact rst_trans (rst_trans (rst_trans (rst_trans (rst_trans (rst_trans (rst_trans (rst_us (by omega) (by omega) (by omega)) (rst_us (by omega) (by omega) (by omega))) (rst_us (by omega) (by omega) (by omega))) (rst_us (by omega) (by omega) (by omega))) (rst_us (by omega) (by omega) (by omega))) (rst_us (by omega) (by omega) (by omega))) (rst_us (by omega) (by omega) (by omega))) (rst_us (by omega) (by omega) (by omega))
        · refine stay h (-2) (v_B_axles_0 _ _ _ _ ⟨_, _, c_within _ _ _, ?_⟩) (v_R_axles_0 _ _ _ _ ⟨_, _, c_R_in _ _ _, ?_⟩)
          · rw [if_pos c1]
            refine ⟨fun h0 => absurd h0 (by decide), fun _ => ⟨_, _, c_within _ _ _, ?_⟩⟩
            rw [if_pos (hc2.mpr (by omega))]
            refine ⟨fun h0 => absurd h0 (by decide), fun _ => ⟨fun h0 => absurd (hc3.mp h0) (by omega), fun _ => ⟨_, _, c_within _ _ _, ?_⟩⟩⟩
            rw [if_pos c3]
            refine ⟨fun h0 => absurd h0 (by decide), fun _ => ⟨_, _, c_within _ _ _, ?_⟩⟩
            rw [if_neg c4]; exact ⟨fun _ => (by first | exact ⟨rfl, rfl⟩ | exact ⟨trivial, trivial⟩ | exact ⟨trivial, rfl⟩ | exact ⟨rfl, trivial⟩ | trivial), fun h0 => absurd rfl h0⟩
          · rw [if_pos c1]
            refine ⟨fun h0 => absurd h0 (by decide), fun _ => ⟨_, _, c_R_in _ _ _, ?_⟩⟩
            rw [if_pos (hr2.mpr c2)]
            refine ⟨fun h0 => absurd h0 (by decide), fun _ => ⟨_, _, c_R_in _ _ _, ?_⟩⟩
            rw [if_pos c3]
            refine ⟨fun h0 => absurd h0 (by decide), fun _ => ⟨_, _, c_R_in _ _ _, ?_⟩⟩
            rw [if_neg c4]; exact ⟨fun _ => (by first | exact ⟨rfl, rfl⟩ | exact ⟨trivial, trivial⟩ | exact ⟨trivial, rfl⟩ | exact ⟨rfl, trivial⟩ | trivial), fun h0 => absurd rfl h0⟩
      · refine stay h (-2) (v_B_axles_0 _ _ _ _ ⟨_, _, c_within _ _ _, ?_⟩) (v_R_axles_0 _ _ _ _ ⟨_, _, c_R_in _ _ _, ?_⟩)
        · rw [if_pos c1]
          refine ⟨fun h0 => absurd h0 (by decide), fun _ => ⟨_, _, c_within _ _ _, ?_⟩⟩
          rw [if_pos (hc2.mpr (by omega))]
          refine ⟨fun h0 => absurd h0 (by decide), fun _ => ⟨fun h0 => absurd (hc3.mp h0) (by omega), fun _ => ⟨_, _, c_within _ _ _, ?_⟩⟩⟩
          rw [if_neg c3]; exact ⟨fun _ => (by first | exact ⟨rfl, rfl⟩ | exact ⟨trivial, trivial⟩ | exact ⟨trivial, rfl⟩ | exact ⟨rfl, trivial⟩ | trivial), fun h0 => absurd rfl h0⟩
        · rw [if_pos c1]
          refine ⟨fun h0 => absurd h0 (by decide), fun _ => ⟨_, _, c_R_in _ _ _, ?_⟩⟩
          rw [if_pos (hr2.mpr c2)]
          refine ⟨fun h0 => absurd h0 (by decide), fun _ => ⟨_, _, c_R_in _ _ _, ?_⟩⟩
          rw [if_neg c3]; exact ⟨fun _ => (by first | exact ⟨rfl, rfl⟩ | exact ⟨trivial, trivial⟩ | exact ⟨trivial, rfl⟩ | exact ⟨rfl, trivial⟩ | trivial), fun h0 => absurd rfl h0⟩
    · refine stay h (-2) (v_B_axles_0 _ _ _ _ ⟨_, _, c_within _ _ _, ?_⟩) (v_R_axles_0 _ _ _ _ ⟨_, _, c_R_in _ _ _, ?_⟩)
      · rw [if_pos c1]
        refine ⟨fun h0 => absurd h0 (by decide), fun _ => ⟨_, _, c_within _ _ _, ?_⟩⟩
        by_cases c5 : (0 : Int32) ≤ q ∧ q ≤ 40
        · rw [if_pos c5]
          refine ⟨fun h0 => absurd h0 (by decide), fun _ => ⟨fun _ => (by first | exact ⟨rfl, rfl⟩ | exact ⟨trivial, trivial⟩ | exact ⟨trivial, rfl⟩ | exact ⟨rfl, trivial⟩ | trivial), fun h0 => ?_⟩⟩
          rw [hc3] at h0
          have := hc2.mp c5
          omega
        · rw [if_neg c5]; exact ⟨fun _ => (by first | exact ⟨rfl, rfl⟩ | exact ⟨trivial, trivial⟩ | exact ⟨trivial, rfl⟩ | exact ⟨rfl, trivial⟩ | trivial), fun h0 => absurd rfl h0⟩
      · rw [if_pos c1]
        refine ⟨fun h0 => absurd h0 (by decide), fun _ => ⟨_, _, c_R_in _ _ _, ?_⟩⟩
        rw [if_neg (fun z => c2 (hr2.mp z))]; exact ⟨fun _ => (by first | exact ⟨rfl, rfl⟩ | exact ⟨trivial, trivial⟩ | exact ⟨trivial, rfl⟩ | exact ⟨rfl, trivial⟩ | trivial), fun h0 => absurd rfl h0⟩
  · refine stay h (-2) (v_B_axles_0 _ _ _ _ ⟨_, _, c_within _ _ _, ?_⟩) (v_R_axles_0 _ _ _ _ ⟨_, _, c_R_in _ _ _, ?_⟩)
    · rw [if_neg c1]; exact ⟨fun _ => (by first | exact ⟨rfl, rfl⟩ | exact ⟨trivial, trivial⟩ | exact ⟨trivial, rfl⟩ | exact ⟨rfl, trivial⟩ | trivial), fun h0 => absurd rfl h0⟩
    · rw [if_neg c1]; exact ⟨fun _ => (by first | exact ⟨rfl, rfl⟩ | exact ⟨trivial, trivial⟩ | exact ⟨trivial, rfl⟩ | exact ⟨rfl, trivial⟩ | trivial), fun h0 => absurd rfl h0⟩
/-- the reference's cells filled -/
theorem c_R_vol (hm : mOK σ N P Q) (hp : pOK N P Q) : am_Go l D DA b sz (d + 1) M_R_count (95, [some (.ref 47), none, some (.int 0), some (.int 0)], [], (am_TT cu L, am_RR cu, σ)) (some (.int (zi (vol P N)))) (am_TT cu L, am_RR cu, σ) := by
  have hN := hp.1
  refine fo_loop (fun i a => am_Go l D DA b sz (d + 1) M_R_count (95, [some (.ref 47), none, some (.int (zi a)), some (.int (zi i))], [], (am_TT cu L, am_RR cu, σ)) (some (.int (zi (vol P N)))) (am_TT cu L, am_RR cu, σ)) (volF P) 0 N ?_ (fun i a hi ha ih => ?_)
  · refine v_R_count_95 _ _ ?_
    try simp (disch := omega) only [zi_cl, zi_add, zi_sub, zi_mul, zi_s1, zi_s0, zi_m1, z01, z10, zi_ite, zi_eq0, zi_lt0, zi_gt0, zi_le0, zi_ge0, zi_le, zi_lt, zi_eq, hm.1]
    exact ⟨fun _ => (by first | exact ⟨rfl, rfl⟩ | exact ⟨trivial, trivial⟩ | exact ⟨trivial, rfl⟩ | exact ⟨rfl, trivial⟩ | trivial), fun h0 => absurd h0 (by omega)⟩
  · have hi20 : i < 20 := by omega
    have hb := hp.2.1 i hi
    unfold bOK at hb
    obtain ⟨⟨e0, e1, e2, e3, e4, e5, e6⟩, e7, e8, e9, e10, e11, e12⟩ := hm.row hi20
    refine v_R_count_95 _ _ ?_
    unfold volF at ih
    try simp (disch := omega) only [zi_cl, zi_add, zi_sub, zi_mul, zi_s1, zi_s0, zi_m1, z01, z10, zi_ite, zi_eq0, zi_lt0, zi_gt0, zi_le0, zi_ge0, zi_le, zi_lt, zi_eq, hm.1, e0, e1, e2, e8]
    refine ⟨fun h0 => absurd h0 (by omega), fun _ => ⟨by omega, fun h0 => ?_, fun h0 => ⟨by omega, by omega, by omega, ?_⟩⟩⟩
    · rw [if_pos h0] at ih; exact ih
    · rw [if_neg h0] at ih; exact ih
theorem L_count (hd : 2 ≤ d) (h : pic σ N P Q M) (p : Int32) : stepOK l D DA b sz d L cu M_B_count [some (.ref 1), some (.int p), none] M_R_count [some (.ref 47), some (.int p), none, none] σ N P := by
  obtain ⟨d, rfl⟩ : ∃ d', d = d' + 1 := ⟨d - 1, by omega⟩
  obtain ⟨hp, hz, hm, hc⟩ := id h
  have hN := hp.1
  obtain ⟨g0, g1, g2, g3, g4, g5, g6, g7, g8⟩ := hm.q
  obtain ⟨f0, f1, f2, f3, f4, f5, f6, f7, f8⟩ := hc.q
  by_cases c0 : p = 0
  · subst c0; exact stay h (zi N) (v_B_count_0 _ ⟨(fun _ => by rw [hc.1]; exact ⟨rfl, rfl⟩), (fun h => absurd h (by decide)), (fun h => absurd h (by decide)), (fun h => absurd h (by decide)), (fun h => absurd h (by decide)), (fun h => absurd h (by decide)), (fun h => absurd h (by decide)), (fun h => absurd h (by decide)), (fun h => absurd h (by decide)), (fun h => absurd h (by decide)), (fun h => absurd h (by decide)), (fun h => absurd h (by decide)), (fun h => absurd h (by decide)), (fun h => absurd h (by decide)), (fun a0 a1 a2 a3 a4 a5 a6 a7 a8 a9 a10 a11 a12 a13 => absurd rfl a0)⟩) (v_R_count_0 _ ⟨(fun _ => by rw [hm.1]; exact ⟨rfl, rfl⟩), (fun h => absurd h (by decide)), (fun h => absurd h (by decide)), (fun h => absurd h (by decide)), (fun h => absurd h (by decide)), (fun h => absurd h (by decide)), (fun h => absurd h (by decide)), (fun h => absurd h (by decide)), (fun h => absurd h (by decide)), (fun h => absurd h (by decide)), (fun h => absurd h (by decide)), (fun h => absurd h (by decide)), (fun h => absurd h (by decide)), (fun h => absurd h (by decide)), (fun a0 a1 a2 a3 a4 a5 a6 a7 a8 a9 a10 a11 a12 a13 => absurd rfl a0)⟩)
  by_cases c1 : p = 1
  · subst c1
    have k := c_bitCount (l := l) (D := D) (DA := DA) (b := b) (sz := sz) (d := d) (L := L) (cu := cu) (σ := σ) hc.2.2.1.1
    rw [cnt_pcn hc.2.2.1 hN, ← hc.2.1] at k
    exact stay h (zi (cnt P N)) (v_B_count_0 _ ⟨(fun h => absurd h (by decide)), (fun _ => ⟨_, _, k, rfl, rfl⟩), (fun h => absurd h (by decide)), (fun h => absurd h (by decide)), (fun h => absurd h (by decide)), (fun h => absurd h (by decide)), (fun h => absurd h (by decide)), (fun h => absurd h (by decide)), (fun h => absurd h (by decide)), (fun h => absurd h (by decide)), (fun h => absurd h (by decide)), (fun h => absurd h (by decide)), (fun h => absurd h (by decide)), (fun h => absurd h (by decide)), (fun a0 a1 a2 a3 a4 a5 a6 a7 a8 a9 a10 a11 a12 a13 => absurd rfl a1)⟩) (v_R_count_0 _ ⟨(fun h => absurd h (by decide)), (fun _ => ⟨_, _, c_R_placed hm hp, rfl, rfl⟩), (fun h => absurd h (by decide)), (fun h => absurd h (by decide)), (fun h => absurd h (by decide)), (fun h => absurd h (by decide)), (fun h => absurd h (by decide)), (fun h => absurd h (by decide)), (fun h => absurd h (by decide)), (fun h => absurd h (by decide)), (fun h => absurd h (by decide)), (fun h => absurd h (by decide)), (fun h => absurd h (by decide)), (fun h => absurd h (by decide)), (fun a0 a1 a2 a3 a4 a5 a6 a7 a8 a9 a10 a11 a12 a13 => absurd rfl a1)⟩)
  by_cases c2 : p = 2
  · subst c2
    have k := c_R_weights (l := l) (D := D) (DA := DA) (b := b) (sz := sz) (d := d) (L := L) (cu := cu) (σ := σ) (by omega) hm hp (e := 0) (by decide)
    exact stay h (zi (wts P N 0)) (v_B_count_0 _ ⟨(fun h => absurd h (by decide)), (fun h => absurd h (by decide)), (fun _ => ⟨_, _, c_weightIn (by omega) hc hp, rfl, rfl⟩), (fun h => absurd h (by decide)), (fun h => absurd h (by decide)), (fun h => absurd h (by decide)), (fun h => absurd h (by decide)), (fun h => absurd h (by decide)), (fun h => absurd h (by decide)), (fun h => absurd h (by decide)), (fun h => absurd h (by decide)), (fun h => absurd h (by decide)), (fun h => absurd h (by decide)), (fun h => absurd h (by decide)), (fun a0 a1 a2 a3 a4 a5 a6 a7 a8 a9 a10 a11 a12 a13 => absurd rfl a2)⟩) (v_R_count_0 _ ⟨(fun h => absurd h (by decide)), (fun h => absurd h (by decide)), (fun _ => ⟨_, _, k, rfl, rfl⟩), (fun h => absurd h (by decide)), (fun h => absurd h (by decide)), (fun h => absurd h (by decide)), (fun h => absurd h (by decide)), (fun h => absurd h (by decide)), (fun h => absurd h (by decide)), (fun h => absurd h (by decide)), (fun h => absurd h (by decide)), (fun h => absurd h (by decide)), (fun h => absurd h (by decide)), (fun h => absurd h (by decide)), (fun a0 a1 a2 a3 a4 a5 a6 a7 a8 a9 a10 a11 a12 a13 => absurd rfl a2)⟩)
  by_cases c3 : p = 3
  · subst c3; exact stay h (zi (far P N)) (v_B_count_0 _ ⟨(fun h => absurd h (by decide)), (fun h => absurd h (by decide)), (fun h => absurd h (by decide)), (fun _ => ⟨_, _, c_reach (by omega) hc hp, rfl, rfl⟩), (fun h => absurd h (by decide)), (fun h => absurd h (by decide)), (fun h => absurd h (by decide)), (fun h => absurd h (by decide)), (fun h => absurd h (by decide)), (fun h => absurd h (by decide)), (fun h => absurd h (by decide)), (fun h => absurd h (by decide)), (fun h => absurd h (by decide)), (fun h => absurd h (by decide)), (fun a0 a1 a2 a3 a4 a5 a6 a7 a8 a9 a10 a11 a12 a13 => absurd rfl a3)⟩) (v_R_count_0 _ ⟨(fun h => absurd h (by decide)), (fun h => absurd h (by decide)), (fun h => absurd h (by decide)), (fun _ => ⟨_, _, c_R_farthest (by omega) hm hp, rfl, rfl⟩), (fun h => absurd h (by decide)), (fun h => absurd h (by decide)), (fun h => absurd h (by decide)), (fun h => absurd h (by decide)), (fun h => absurd h (by decide)), (fun h => absurd h (by decide)), (fun h => absurd h (by decide)), (fun h => absurd h (by decide)), (fun h => absurd h (by decide)), (fun h => absurd h (by decide)), (fun a0 a1 a2 a3 a4 a5 a6 a7 a8 a9 a10 a11 a12 a13 => absurd rfl a3)⟩)
  by_cases c4 : p = 4
  · subst c4; exact stay h (zi (vol P N)) (v_B_count_0 _ ⟨(fun h => absurd h (by decide)), (fun h => absurd h (by decide)), (fun h => absurd h (by decide)), (fun h => absurd h (by decide)), (fun _ => ⟨_, _, c_cellsFilled (by omega) hc hp, rfl, rfl⟩), (fun h => absurd h (by decide)), (fun h => absurd h (by decide)), (fun h => absurd h (by decide)), (fun h => absurd h (by decide)), (fun h => absurd h (by decide)), (fun h => absurd h (by decide)), (fun h => absurd h (by decide)), (fun h => absurd h (by decide)), (fun h => absurd h (by decide)), (fun a0 a1 a2 a3 a4 a5 a6 a7 a8 a9 a10 a11 a12 a13 => absurd rfl a4)⟩) (v_R_count_0 _ ⟨(fun h => absurd h (by decide)), (fun h => absurd h (by decide)), (fun h => absurd h (by decide)), (fun h => absurd h (by decide)), (fun _ => c_R_vol hm hp), (fun h => absurd h (by decide)), (fun h => absurd h (by decide)), (fun h => absurd h (by decide)), (fun h => absurd h (by decide)), (fun h => absurd h (by decide)), (fun h => absurd h (by decide)), (fun h => absurd h (by decide)), (fun h => absurd h (by decide)), (fun h => absurd h (by decide)), (fun a0 a1 a2 a3 a4 a5 a6 a7 a8 a9 a10 a11 a12 a13 => absurd rfl a4)⟩)
  by_cases c5 : p = 5
  · subst c5; exact stay h (zi (Q 0)) (v_B_count_0 _ ⟨(fun h => absurd h (by decide)), (fun h => absurd h (by decide)), (fun h => absurd h (by decide)), (fun h => absurd h (by decide)), (fun h => absurd h (by decide)), (fun _ => by rw [f0]; exact ⟨rfl, rfl⟩), (fun h => absurd h (by decide)), (fun h => absurd h (by decide)), (fun h => absurd h (by decide)), (fun h => absurd h (by decide)), (fun h => absurd h (by decide)), (fun h => absurd h (by decide)), (fun h => absurd h (by decide)), (fun h => absurd h (by decide)), (fun a0 a1 a2 a3 a4 a5 a6 a7 a8 a9 a10 a11 a12 a13 => absurd rfl a5)⟩) (v_R_count_0 _ ⟨(fun h => absurd h (by decide)), (fun h => absurd h (by decide)), (fun h => absurd h (by decide)), (fun h => absurd h (by decide)), (fun h => absurd h (by decide)), (fun _ => by rw [g0]; exact ⟨rfl, rfl⟩), (fun h => absurd h (by decide)), (fun h => absurd h (by decide)), (fun h => absurd h (by decide)), (fun h => absurd h (by decide)), (fun h => absurd h (by decide)), (fun h => absurd h (by decide)), (fun h => absurd h (by decide)), (fun h => absurd h (by decide)), (fun a0 a1 a2 a3 a4 a5 a6 a7 a8 a9 a10 a11 a12 a13 => absurd rfl a5)⟩)
  by_cases c6 : p = 6
  · subst c6; exact stay h (zi (Q 1)) (v_B_count_0 _ ⟨(fun h => absurd h (by decide)), (fun h => absurd h (by decide)), (fun h => absurd h (by decide)), (fun h => absurd h (by decide)), (fun h => absurd h (by decide)), (fun h => absurd h (by decide)), (fun _ => by rw [f1]; exact ⟨rfl, rfl⟩), (fun h => absurd h (by decide)), (fun h => absurd h (by decide)), (fun h => absurd h (by decide)), (fun h => absurd h (by decide)), (fun h => absurd h (by decide)), (fun h => absurd h (by decide)), (fun h => absurd h (by decide)), (fun a0 a1 a2 a3 a4 a5 a6 a7 a8 a9 a10 a11 a12 a13 => absurd rfl a6)⟩) (v_R_count_0 _ ⟨(fun h => absurd h (by decide)), (fun h => absurd h (by decide)), (fun h => absurd h (by decide)), (fun h => absurd h (by decide)), (fun h => absurd h (by decide)), (fun h => absurd h (by decide)), (fun _ => by rw [g1]; exact ⟨rfl, rfl⟩), (fun h => absurd h (by decide)), (fun h => absurd h (by decide)), (fun h => absurd h (by decide)), (fun h => absurd h (by decide)), (fun h => absurd h (by decide)), (fun h => absurd h (by decide)), (fun h => absurd h (by decide)), (fun a0 a1 a2 a3 a4 a5 a6 a7 a8 a9 a10 a11 a12 a13 => absurd rfl a6)⟩)
  by_cases c7 : p = 7
  · subst c7; exact stay h (zi (Q 2)) (v_B_count_0 _ ⟨(fun h => absurd h (by decide)), (fun h => absurd h (by decide)), (fun h => absurd h (by decide)), (fun h => absurd h (by decide)), (fun h => absurd h (by decide)), (fun h => absurd h (by decide)), (fun h => absurd h (by decide)), (fun _ => by rw [f2]; exact ⟨rfl, rfl⟩), (fun h => absurd h (by decide)), (fun h => absurd h (by decide)), (fun h => absurd h (by decide)), (fun h => absurd h (by decide)), (fun h => absurd h (by decide)), (fun h => absurd h (by decide)), (fun a0 a1 a2 a3 a4 a5 a6 a7 a8 a9 a10 a11 a12 a13 => absurd rfl a7)⟩) (v_R_count_0 _ ⟨(fun h => absurd h (by decide)), (fun h => absurd h (by decide)), (fun h => absurd h (by decide)), (fun h => absurd h (by decide)), (fun h => absurd h (by decide)), (fun h => absurd h (by decide)), (fun h => absurd h (by decide)), (fun _ => by rw [g2]; exact ⟨rfl, rfl⟩), (fun h => absurd h (by decide)), (fun h => absurd h (by decide)), (fun h => absurd h (by decide)), (fun h => absurd h (by decide)), (fun h => absurd h (by decide)), (fun h => absurd h (by decide)), (fun a0 a1 a2 a3 a4 a5 a6 a7 a8 a9 a10 a11 a12 a13 => absurd rfl a7)⟩)
  by_cases c8 : p = 8
  · subst c8; exact stay h (zi (Q 3)) (v_B_count_0 _ ⟨(fun h => absurd h (by decide)), (fun h => absurd h (by decide)), (fun h => absurd h (by decide)), (fun h => absurd h (by decide)), (fun h => absurd h (by decide)), (fun h => absurd h (by decide)), (fun h => absurd h (by decide)), (fun h => absurd h (by decide)), (fun _ => by rw [f3]; exact ⟨rfl, rfl⟩), (fun h => absurd h (by decide)), (fun h => absurd h (by decide)), (fun h => absurd h (by decide)), (fun h => absurd h (by decide)), (fun h => absurd h (by decide)), (fun a0 a1 a2 a3 a4 a5 a6 a7 a8 a9 a10 a11 a12 a13 => absurd rfl a8)⟩) (v_R_count_0 _ ⟨(fun h => absurd h (by decide)), (fun h => absurd h (by decide)), (fun h => absurd h (by decide)), (fun h => absurd h (by decide)), (fun h => absurd h (by decide)), (fun h => absurd h (by decide)), (fun h => absurd h (by decide)), (fun h => absurd h (by decide)), (fun _ => by rw [g3]; exact ⟨rfl, rfl⟩), (fun h => absurd h (by decide)), (fun h => absurd h (by decide)), (fun h => absurd h (by decide)), (fun h => absurd h (by decide)), (fun h => absurd h (by decide)), (fun a0 a1 a2 a3 a4 a5 a6 a7 a8 a9 a10 a11 a12 a13 => absurd rfl a8)⟩)
  by_cases c9 : p = 9
  · subst c9; exact stay h (zi (Q 4)) (v_B_count_0 _ ⟨(fun h => absurd h (by decide)), (fun h => absurd h (by decide)), (fun h => absurd h (by decide)), (fun h => absurd h (by decide)), (fun h => absurd h (by decide)), (fun h => absurd h (by decide)), (fun h => absurd h (by decide)), (fun h => absurd h (by decide)), (fun h => absurd h (by decide)), (fun _ => by rw [f4]; exact ⟨rfl, rfl⟩), (fun h => absurd h (by decide)), (fun h => absurd h (by decide)), (fun h => absurd h (by decide)), (fun h => absurd h (by decide)), (fun a0 a1 a2 a3 a4 a5 a6 a7 a8 a9 a10 a11 a12 a13 => absurd rfl a9)⟩) (v_R_count_0 _ ⟨(fun h => absurd h (by decide)), (fun h => absurd h (by decide)), (fun h => absurd h (by decide)), (fun h => absurd h (by decide)), (fun h => absurd h (by decide)), (fun h => absurd h (by decide)), (fun h => absurd h (by decide)), (fun h => absurd h (by decide)), (fun h => absurd h (by decide)), (fun _ => by rw [g4]; exact ⟨rfl, rfl⟩), (fun h => absurd h (by decide)), (fun h => absurd h (by decide)), (fun h => absurd h (by decide)), (fun h => absurd h (by decide)), (fun a0 a1 a2 a3 a4 a5 a6 a7 a8 a9 a10 a11 a12 a13 => absurd rfl a9)⟩)
  by_cases c10 : p = 10
  · subst c10; exact stay h (zi (Q 5)) (v_B_count_0 _ ⟨(fun h => absurd h (by decide)), (fun h => absurd h (by decide)), (fun h => absurd h (by decide)), (fun h => absurd h (by decide)), (fun h => absurd h (by decide)), (fun h => absurd h (by decide)), (fun h => absurd h (by decide)), (fun h => absurd h (by decide)), (fun h => absurd h (by decide)), (fun h => absurd h (by decide)), (fun _ => by rw [f5]; exact ⟨rfl, rfl⟩), (fun h => absurd h (by decide)), (fun h => absurd h (by decide)), (fun h => absurd h (by decide)), (fun a0 a1 a2 a3 a4 a5 a6 a7 a8 a9 a10 a11 a12 a13 => absurd rfl a10)⟩) (v_R_count_0 _ ⟨(fun h => absurd h (by decide)), (fun h => absurd h (by decide)), (fun h => absurd h (by decide)), (fun h => absurd h (by decide)), (fun h => absurd h (by decide)), (fun h => absurd h (by decide)), (fun h => absurd h (by decide)), (fun h => absurd h (by decide)), (fun h => absurd h (by decide)), (fun h => absurd h (by decide)), (fun _ => by rw [g5]; exact ⟨rfl, rfl⟩), (fun h => absurd h (by decide)), (fun h => absurd h (by decide)), (fun h => absurd h (by decide)), (fun a0 a1 a2 a3 a4 a5 a6 a7 a8 a9 a10 a11 a12 a13 => absurd rfl a10)⟩)
  by_cases c11 : p = 11
  · subst c11; exact stay h (zi (Q 6)) (v_B_count_0 _ ⟨(fun h => absurd h (by decide)), (fun h => absurd h (by decide)), (fun h => absurd h (by decide)), (fun h => absurd h (by decide)), (fun h => absurd h (by decide)), (fun h => absurd h (by decide)), (fun h => absurd h (by decide)), (fun h => absurd h (by decide)), (fun h => absurd h (by decide)), (fun h => absurd h (by decide)), (fun h => absurd h (by decide)), (fun _ => by rw [f6]; exact ⟨rfl, rfl⟩), (fun h => absurd h (by decide)), (fun h => absurd h (by decide)), (fun a0 a1 a2 a3 a4 a5 a6 a7 a8 a9 a10 a11 a12 a13 => absurd rfl a11)⟩) (v_R_count_0 _ ⟨(fun h => absurd h (by decide)), (fun h => absurd h (by decide)), (fun h => absurd h (by decide)), (fun h => absurd h (by decide)), (fun h => absurd h (by decide)), (fun h => absurd h (by decide)), (fun h => absurd h (by decide)), (fun h => absurd h (by decide)), (fun h => absurd h (by decide)), (fun h => absurd h (by decide)), (fun h => absurd h (by decide)), (fun _ => by rw [g6]; exact ⟨rfl, rfl⟩), (fun h => absurd h (by decide)), (fun h => absurd h (by decide)), (fun a0 a1 a2 a3 a4 a5 a6 a7 a8 a9 a10 a11 a12 a13 => absurd rfl a11)⟩)
  by_cases c12 : p = 12
  · subst c12; exact stay h (zi (Q 7)) (v_B_count_0 _ ⟨(fun h => absurd h (by decide)), (fun h => absurd h (by decide)), (fun h => absurd h (by decide)), (fun h => absurd h (by decide)), (fun h => absurd h (by decide)), (fun h => absurd h (by decide)), (fun h => absurd h (by decide)), (fun h => absurd h (by decide)), (fun h => absurd h (by decide)), (fun h => absurd h (by decide)), (fun h => absurd h (by decide)), (fun h => absurd h (by decide)), (fun _ => by rw [f7]; exact ⟨rfl, rfl⟩), (fun h => absurd h (by decide)), (fun a0 a1 a2 a3 a4 a5 a6 a7 a8 a9 a10 a11 a12 a13 => absurd rfl a12)⟩) (v_R_count_0 _ ⟨(fun h => absurd h (by decide)), (fun h => absurd h (by decide)), (fun h => absurd h (by decide)), (fun h => absurd h (by decide)), (fun h => absurd h (by decide)), (fun h => absurd h (by decide)), (fun h => absurd h (by decide)), (fun h => absurd h (by decide)), (fun h => absurd h (by decide)), (fun h => absurd h (by decide)), (fun h => absurd h (by decide)), (fun h => absurd h (by decide)), (fun _ => by rw [g7]; exact ⟨rfl, rfl⟩), (fun h => absurd h (by decide)), (fun a0 a1 a2 a3 a4 a5 a6 a7 a8 a9 a10 a11 a12 a13 => absurd rfl a12)⟩)
  by_cases c13 : p = 13
  · subst c13; exact stay h (zi (Q 8)) (v_B_count_0 _ ⟨(fun h => absurd h (by decide)), (fun h => absurd h (by decide)), (fun h => absurd h (by decide)), (fun h => absurd h (by decide)), (fun h => absurd h (by decide)), (fun h => absurd h (by decide)), (fun h => absurd h (by decide)), (fun h => absurd h (by decide)), (fun h => absurd h (by decide)), (fun h => absurd h (by decide)), (fun h => absurd h (by decide)), (fun h => absurd h (by decide)), (fun h => absurd h (by decide)), (fun _ => by rw [f8]; exact ⟨rfl, rfl⟩), (fun a0 a1 a2 a3 a4 a5 a6 a7 a8 a9 a10 a11 a12 a13 => absurd rfl a13)⟩) (v_R_count_0 _ ⟨(fun h => absurd h (by decide)), (fun h => absurd h (by decide)), (fun h => absurd h (by decide)), (fun h => absurd h (by decide)), (fun h => absurd h (by decide)), (fun h => absurd h (by decide)), (fun h => absurd h (by decide)), (fun h => absurd h (by decide)), (fun h => absurd h (by decide)), (fun h => absurd h (by decide)), (fun h => absurd h (by decide)), (fun h => absurd h (by decide)), (fun h => absurd h (by decide)), (fun _ => by rw [g8]; exact ⟨rfl, rfl⟩), (fun a0 a1 a2 a3 a4 a5 a6 a7 a8 a9 a10 a11 a12 a13 => absurd rfl a13)⟩)
  exact stay h (-1) (v_B_count_0 _ ⟨(fun h => absurd h c0), (fun h => absurd h c1), (fun h => absurd h c2), (fun h => absurd h c3), (fun h => absurd h c4), (fun h => absurd h c5), (fun h => absurd h c6), (fun h => absurd h c7), (fun h => absurd h c8), (fun h => absurd h c9), (fun h => absurd h c10), (fun h => absurd h c11), (fun h => absurd h c12), (fun h => absurd h c13), (fun _ _ _ _ _ _ _ _ _ _ _ _ _ _ => ⟨rfl, rfl⟩)⟩) (v_R_count_0 _ ⟨(fun h => absurd h c0), (fun h => absurd h c1), (fun h => absurd h c2), (fun h => absurd h c3), (fun h => absurd h c4), (fun h => absurd h c5), (fun h => absurd h c6), (fun h => absurd h c7), (fun h => absurd h c8), (fun h => absurd h c9), (fun h => absurd h c10), (fun h => absurd h c11), (fun h => absurd h c12), (fun h => absurd h c13), (fun _ _ _ _ _ _ _ _ _ _ _ _ _ _ => ⟨rfl, rfl⟩)⟩)
end EASY
