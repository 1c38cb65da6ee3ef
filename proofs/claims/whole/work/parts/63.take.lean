-- need: 41 42 43 44 45 46 48 53 60 61 62
/-! clear, take, box -/
section TAKE
variable {l : Launch} {D : va_G} {DA : Nat → ClassId} {b sz d L : Nat} {cu : Bool} {σ σ' : Nat → Nat → Int32} {N M : Nat} {P : Nat → Nat → Int} {Q : Nat → Int}
def clr (P : Nat → Nat → Int) : Nat → Nat → Int := fun k n => if k = 8 then 0 else P k n
theorem L_clear (hd : 1 ≤ d) (h : pic σ N P Q M) : stepOK l D DA b sz d L cu M_B_clear [some (.ref 1), none] M_R_clear [some (.ref 47), none, none] σ N P := by
  obtain ⟨d, rfl⟩ : ∃ d', d = d' + 1 := ⟨d - 1, by omega⟩
  obtain ⟨hp, hz, hm, hc⟩ := id h
  have hN := hp.1
  have hm1 : mOK (am_us σ 2 3 0) N P Q := mOK_fr hm (fun c _ _ => am_us_ne (by omega)) (fun k _ => am_us_c (by omega))
  have k := c_bitCount (l := l) (D := D) (DA := DA) (b := b) (sz := sz) (d := d) (L := L) (cu := cu) (σ := σ) hc.2.2.1.1
  rw [cnt_pcn hc.2.2.1 hN, ← hc.2.1] at k
  refine ⟨zi (cnt P N), am_us σ 2 3 0, wLd (am_us σ 2 3 0) 56 N (fun _ => 0), clr P, Q, 0, v_B_clear_0 ⟨_, _, k, rfl, rfl⟩, v_R_clear_0 ⟨_, _, c_R_placed hm1 hp, ?_⟩, ⟨?_, ?_, ?_, ?_⟩, fun k n hk => if_neg (by omega), rst_of (fun c hc => ?_)⟩
  · have key : ∀ (m i : Nat), i + m = N → am_Go l D DA b sz (d + 1) M_R_clear (7, [some (.ref 47), some (.int (zi (cnt P N))), some (.int (zi i))], [], (am_TT cu L, am_RR cu, wLd (am_us σ 2 3 0) 56 i (fun _ => 0))) (some (.int (zi (cnt P N)))) (am_TT cu L, am_RR cu, wLd (am_us σ 2 3 0) 56 N (fun _ => 0)) := by
      intro m
      induction m with
      | zero =>
        intro i hi
        refine v_R_clear_7 _ _ ?_
        have e : wLd (am_us σ 2 3 0) 56 i (fun _ => 0) 47 0 = zi N := by rw [wLd_c (by omega)]; exact hm1.1
        try simp (disch := omega) only [zi_cl, zi_add, zi_sub, zi_mul, zi_s1, zi_s0, zi_m1, z01, z10, zi_ite, zi_eq0, zi_lt0, zi_gt0, zi_le0, zi_ge0, zi_le, zi_lt, zi_eq, e]
        exact ⟨fun _ => by rw [show i = N by omega]; exact (by first | exact ⟨rfl, rfl⟩ | exact ⟨trivial, trivial⟩ | exact ⟨trivial, rfl⟩ | exact ⟨rfl, trivial⟩ | trivial), fun h0 => absurd h0 (by omega)⟩
      | succ m ih =>
        intro i hi
        refine v_R_clear_7 _ _ ?_
        have e : wLd (am_us σ 2 3 0) 56 i (fun _ => 0) 47 0 = zi N := by rw [wLd_c (by omega)]; exact hm1.1
        try simp (disch := omega) only [zi_cl, zi_add, zi_sub, zi_mul, zi_s1, zi_s0, zi_m1, z01, z10, zi_ite, zi_eq0, zi_lt0, zi_gt0, zi_le0, zi_ge0, zi_le, zi_lt, zi_eq, e]
        refine ⟨fun h0 => absurd h0 (by omega), fun _ => ⟨by omega, ?_⟩⟩
        rw [wLd_z]
        exact ih (i + 1) (by omega)
    have h9 := key N 0 (by omega)
    rw [wLd_0] at h9
    exact h9
  · refine ⟨hN, fun n hn => ?_, fun n hn h8 => absurd h8 (by unfold clr; rw [if_pos rfl]; decide), hp.2.2.2⟩
    have hb := hp.2.1 n hn
    unfold bOK clr at *
    simp
    omega
  · intro n hn k
    unfold clr
    split
    · rfl
    · exact hz n hn k
  · obtain ⟨a1, a2, a3⟩ := hm1
    refine ⟨by rw [wLd_c (by omega)]; exact a1, fun k hk n hn => ?_, fun j hj => by rw [wLd_c (by omega)]; exact a3 j hj⟩
    unfold clr
    by_cases e : k = 8
    · subst e
      rw [if_pos rfl]
      by_cases e2 : n < N
      · exact wLd_at e2
      · have h9 : wLd (am_us σ 2 3 0) 56 N (fun _ => 0) (48 + 8) n = am_us σ 2 3 0 (48 + 8) n := if_neg (fun z => e2 z.2)
        rw [h9, a2 8 (by decide) n hn, hz n (by omega) 8]
    · rw [if_neg e, wLd_c (by omega)]; exact a2 k hk n hn
  · obtain ⟨h1, h2, h3, h4, h5, h6⟩ := hc
    refine ⟨by rw [wLd_c (by omega), am_us_k (by omega)]; exact h1, by rw [wLd_c (by omega), am_us_s]; rfl, ⟨by decide, fun n => ⟨fun z => (by rw [Nat.zero_testBit] at z; cases z), fun z => absurd (if_pos rfl) z.2⟩⟩, fun j hj => by rw [wLd_c (by omega), am_us_c (by omega)]; exact h4 j hj, fun n hn k hk => ?_, fun n hn h8 => absurd (if_pos rfl) h8⟩
    rw [wLd_c (by omega), am_us_c (by omega)]
    unfold clr
    rw [if_neg (by omega)]
    exact h5 n hn k hk
  · funext k
    rw [wLd_c (by omega), am_us_c (by omega)]
/-- box n is under box m -/
abbrev cry (P : Nat → Nat → Int) (n m : Nat) : Prop := P 8 m ≠ 0 ∧ 0 < stn P m n
theorem aon_stn2 {a c : Nat} (ha : bOK P a) (h8 : P 8 c ≠ 0) : aon P a c = stn P a c := by
  by_cases e : a = c
  · subst e
    rw [aon_self ha]
    unfold stn
    rw [if_pos rfl]
  · exact aon_stn e h8
theorem c_carries (hd : 1 ≤ d) (h : cOK σ N P Q M) (hp : pOK N P Q) {n : Nat} (hn : n < N) (h8 : P 8 n ≠ 0) : GG l D DA b sz d L cu M_Hold_carries [some (.ref 2), some (.int (zi n)), none] σ (some (.int (zi (an (cry P n) N 0)))) σ := by
  obtain ⟨d, rfl⟩ : ∃ d', d = d' + 1 := ⟨d - 1, by omega⟩
  have hN := hp.1
  refine v_Hold_carries_0 _ ?_
  have key : ∀ (m i : Nat), i + m = N → am_Go l D DA b sz (d + 1) M_Hold_carries (2, [some (.ref 2), some (.int (zi n)), some (.int (zi i))], [], (am_TT cu L, am_RR cu, σ)) (some (.int (zi (an (cry P n) m i)))) (am_TT cu L, am_RR cu, σ) := by
    intro m
    induction m with
    | zero =>
      intro i hi
      refine v_Hold_carries_2 _ _ ?_
      try simp (disch := omega) only [zi_cl, zi_add, zi_sub, zi_mul, zi_s1, zi_s0, zi_m1, z01, z10, zi_ite, zi_eq0, zi_lt0, zi_gt0, zi_le0, zi_ge0, zi_le, zi_lt, zi_eq, h.1]
      exact ⟨fun _ => (by first | exact ⟨rfl, rfl⟩ | exact ⟨trivial, trivial⟩ | exact ⟨trivial, rfl⟩ | exact ⟨rfl, trivial⟩ | trivial), fun h0 => absurd h0 (by omega)⟩
    | succ m ih =>
      intro i hi
      have hiN : i < N := by omega
      have ih := ih (i + 1) (by omega)
      refine v_Hold_carries_2 _ _ ?_
      try simp (disch := omega) only [zi_cl, zi_add, zi_sub, zi_mul, zi_s1, zi_s0, zi_m1, z01, z10, zi_ite, zi_eq0, zi_lt0, zi_gt0, zi_le0, zi_ge0, zi_le, zi_lt, zi_eq, h.1]
      refine ⟨fun h0 => absurd h0 (by omega), fun _ => ⟨_, _, c_has h hN hiN, ?_⟩⟩
      unfold an
      by_cases c : P 8 i = 0
      · have hh : hs P i = 0 := if_pos c
        rw [hh, if_neg (fun z => z.1 c)]
        exact ⟨fun _ => ih, fun h0 => absurd rfl h0⟩
      · have hh : hs P i = 1 := if_neg c
        rw [hh]
        refine ⟨fun h0 => absurd h0 (by decide), fun _ => ⟨by omega, by omega, _, _, c_areaOn (by omega) (by omega) (hp.2.1 i hiN) (hp.2.1 n hn) (h.2.2.2.2.2 i hiN c) (h.2.2.2.2.2 n hn h8), ?_⟩⟩
        have ab := aon_bd (c := n) (hp.2.1 i hiN)
        have as := aon_stn2 (hp.2.1 i hiN) h8
        try simp (disch := omega) only [zi_cl, zi_add, zi_sub, zi_mul, zi_s1, zi_s0, zi_m1, z01, z10, zi_ite, zi_eq0, zi_lt0, zi_gt0, zi_le0, zi_ge0, zi_le, zi_lt, zi_eq]
        by_cases c2 : cry P n i
        · rw [if_pos c2]
          have := c2.2
          exact ⟨fun h0 => absurd h0 (by omega), fun _ => (by first | exact ⟨rfl, rfl⟩ | exact ⟨trivial, trivial⟩ | exact ⟨trivial, rfl⟩ | exact ⟨rfl, trivial⟩ | trivial)⟩
        · rw [if_neg c2]
          refine ⟨fun _ => ih, fun h0 => absurd ⟨c, by omega⟩ c2⟩
  exact key N 0 (by omega)
theorem c_R_take (hd : 3 ≤ d) (h : mOK σ N P Q) (hp : pOK N P Q) {n : Nat} (hn : n < N) {r : Option Value} {X' : am_X} (h1 : an (cry P n) N 0 = 0 → r = some (.int 1) ∧ X' = (am_TT cu L, am_RR cu, am_us σ 56 n 0)) (h2 : an (cry P n) N 0 ≠ 0 → r = some (.int 0) ∧ X' = (am_TT cu L, am_RR cu, σ)) :
    am_Go l D DA b sz d M_R_take (25, [some (.ref 47), some (.int (zi n)), some (.int 0)], [], (am_TT cu L, am_RR cu, σ)) r X' := by
  obtain ⟨d, rfl⟩ : ∃ d', d = d' + 1 := ⟨d - 1, by omega⟩
  have hN := hp.1
  generalize hA : an (cry P n) N 0 = A at h1 h2
  have key : ∀ (m i : Nat), i + m = N → an (cry P n) m i = A → am_Go l D DA b sz (d + 1) M_R_take (25, [some (.ref 47), some (.int (zi n)), some (.int (zi i))], [], (am_TT cu L, am_RR cu, σ)) r X' := by
    intro m
    induction m with
    | zero =>
      intro i hi he
      refine v_R_take_25 _ _ ?_
      try simp (disch := omega) only [zi_cl, zi_add, zi_sub, zi_mul, zi_s1, zi_s0, zi_m1, z01, z10, zi_ite, zi_eq0, zi_lt0, zi_gt0, zi_le0, zi_ge0, zi_le, zi_lt, zi_eq, h.1]
      exact ⟨fun _ => ⟨by omega, h1 he.symm⟩, fun h0 => absurd h0 (by omega)⟩
    | succ m ih =>
      intro i hi he
      have hiN : i < N := by omega
      have hi20 : i < 20 := by omega
      have hb := hp.2.1 i hiN
      have hb' := hb
      unfold bOK at hb'
      obtain ⟨⟨e0, e1, e2, e3, e4, e5, e6⟩, e7, e8, e9, e10, e11, e12⟩ := h.row hi20
      unfold an at he
      refine v_R_take_25 _ _ ?_
      have sb := stn_bd (c := n) hb
      try simp (disch := omega) only [zi_cl, zi_add, zi_sub, zi_mul, zi_s1, zi_s0, zi_m1, z01, z10, zi_ite, zi_eq0, zi_lt0, zi_gt0, zi_le0, zi_ge0, zi_le, zi_lt, zi_eq, h.1, e8]
      refine ⟨fun h0 => absurd h0 (by omega), fun _ => ⟨by omega, fun c => ?_, fun c => ⟨_, _, c_R_stands (by omega) h hi20 (by omega) hb (hp.2.1 n hn), ?_⟩⟩⟩
      · rw [if_neg (fun z => z.1 c)] at he
        exact ih (i + 1) (by omega) he
      · try simp (disch := omega) only [zi_cl, zi_add, zi_sub, zi_mul, zi_s1, zi_s0, zi_m1, z01, z10, zi_ite, zi_eq0, zi_lt0, zi_gt0, zi_le0, zi_ge0, zi_le, zi_lt, zi_eq]
        by_cases c2 : cry P n i
        · rw [if_pos c2] at he
          have := c2.2
          exact ⟨fun h0 => absurd h0 (by omega), fun _ => h2 (by omega)⟩
        · rw [if_neg c2] at he
          exact ⟨fun _ => ih (i + 1) (by omega) he, fun h0 => absurd ⟨c, by omega⟩ c2⟩
  exact key N 0 (by omega) hA
theorem hv_ub (h : hv P N M) {n : Nat} (hn : n < N) (hN : N ≤ 20) : hv (pu P 8 n 0) N (ub M n) := by
  refine ⟨Nat.lt_of_le_of_lt ub_le h.1, fun k => ?_⟩
  rw [ub_bit h.1 (by omega)]
  have h1 := h.2 k
  unfold pu
  by_cases e : k = n
  · subst e; simp
  · simp [e]; exact h1
theorem hv_or (h : hv P N M) {n : Nat} (hn : n < N) (hN : N ≤ 20) : hv (pu P 8 n 1) N (M ||| 2 ^ n) := by
  refine ⟨mk_lt h.1 (by omega), fun k => ?_⟩
  rw [mk_set]
  have h1 := h.2 k
  unfold pu
  by_cases e : n = k
  · subst e; simp; exact hn
  · have e2 : ¬ k = n := fun z => e z.symm
    simp [e, e2]; exact h1
/-- a known box's number -/
theorem bno {p : Int32} {N : Nat} (h : 0 ≤ p.toInt ∧ p.toInt < N) : ∃ n : Nat, n < N ∧ p = zi n := ⟨p.toInt.toNat, by omega, by rw [show ((p.toInt.toNat : Nat) : Int) = p.toInt by omega]; exact zi_of p⟩
theorem bno2 {n N : Nat} (hn : n < N) (hN : N ≤ 20) : 0 ≤ (zi (n : Int)).toInt ∧ (zi (n : Int)).toInt < N := by rw [zi_toInt (by omega) (by omega)]; omega
theorem lng_pu {k n m : Nat} {v : Int} (h : k = 8) : lng (pu P k n v) m = lng P m ∧ wdt (pu P k n v) m = wdt P m ∧ tp (pu P k n v) m = tp P m := by
  unfold lng wdt tp pu
  subst h
  simp
theorem bAt_pu {n : Nat} (h : bAt σ P n) {m : Nat} {v : Int} : bAt σ (pu P 8 m v) n := by
  obtain ⟨e1, e2, e3⟩ := lng_pu (P := P) (k := 8) (n := m) (m := n) (v := v) rfl
  unfold bAt at *
  rw [e1, e2, e3]
  exact h
theorem pOK_out (hp : pOK N P Q) (n : Nat) : pOK N (pu P 8 n 0) Q := by
  refine ⟨hp.1, fun m hm => ?_, fun m hm hm8 => ?_, hp.2.2.2⟩
  · have hb := hp.2.1 m hm
    unfold bOK pu at *
    simp
    split <;> omega
  · have e : m ≠ n := fun z => by unfold pu at hm8; rw [if_pos ⟨rfl, z⟩] at hm8; cases hm8
    have h8 : P 8 m = 1 := by unfold pu at hm8; rw [if_neg (fun z => e z.2)] at hm8; exact hm8
    have hi := hp.2.2.1 m hm h8
    obtain ⟨e1, e2, e3⟩ := lng_pu (P := P) (k := 8) (n := n) (m := m) (v := 0) rfl
    unfold inQ at *
    rw [e1, e2]
    exact hi
theorem cOK_out (hc : cOK σ N P Q M) (hN : N ≤ 20) {n : Nat} (hn : n < N) : cOK (am_us σ 2 3 (zi ((ub M n : Nat) : Int))) N (pu P 8 n 0) Q (ub M n) := by
  obtain ⟨h1, h2, h3, h4, h5, h6⟩ := hc
  refine ⟨by rw [am_us_k (by omega)]; exact h1, by rw [am_us_s], hv_ub h3 hn hN, fun j hj => by rw [am_us_c (by omega)]; exact h4 j hj, fun m hm k hk => ?_, fun m hm h8 => ?_⟩
  · rw [am_us_c (by omega)]
    unfold pu
    rw [if_neg (by omega)]
    exact h5 m hm k hk
  · have e : m ≠ n := fun z => by unfold pu at h8; rw [if_pos ⟨rfl, z⟩] at h8; exact h8 rfl
    have h8' : P 8 m ≠ 0 := by unfold pu at h8; rw [if_neg (fun z => e z.2)] at h8; exact h8
    have h9 := bAt_pu (m := n) (v := 0) (h6 m hm h8')
    unfold bAt at *
    have e2 : am_us σ 2 3 (zi ((ub M n : Nat) : Int)) (19 + m) = σ (19 + m) := am_us_ne (by omega)
    rw [e2]
    exact h9
theorem L_take (hd : 4 ≤ d) (h : pic σ N P Q M) (p : Int32) : stepOK l D DA b sz d L cu M_B_take [some (.ref 1), some (.int p)] M_R_take [some (.ref 47), some (.int p), none] σ N P := by
  obtain ⟨hp, hz, hm, hc⟩ := id h
  have hN := hp.1
  by_cases c1 : 0 ≤ p.toInt ∧ p.toInt < N
  · obtain ⟨n, hn, rfl⟩ := bno c1
    have hn20 : n < 20 := by omega
    have hb := hp.2.1 n hn
    unfold bOK at hb
    obtain ⟨⟨e0, e1, e2, e3, e4, e5, e6⟩, e7, e8, e9, e10, e11, e12⟩ := hm.row hn20
    have rk : ∀ {r : Option Value} {X' : am_X}, (P 8 n = 0 → r = some (.int (-4)) ∧ X' = (am_TT cu L, am_RR cu, σ)) → (P 8 n ≠ 0 → am_Go l D DA b sz d M_R_take (25, [some (.ref 47), some (.int (zi n)), some (.int 0)], [], (am_TT cu L, am_RR cu, σ)) r X') → am_Go l D DA b sz d M_R_take (0, [some (.ref 47), some (.int (zi n)), none], [], (am_TT cu L, am_RR cu, σ)) r X' := by
      intro r X' k1 k2
      obtain ⟨d, rfl⟩ : ∃ d', d = d' + 1 := ⟨d - 1, by omega⟩
      refine v_R_take_0 _ ⟨_, _, c_R_isBox (by omega) hm hp _, ?_⟩
      rw [if_pos c1]
      refine ⟨fun h0 => absurd h0 (by decide), fun _ => ?_⟩
      try simp (disch := omega) only [zi_cl, zi_add, zi_sub, zi_mul, zi_s1, zi_s0, zi_m1, z01, z10, zi_ite, zi_eq0, zi_lt0, zi_gt0, zi_le0, zi_ge0, zi_le, zi_lt, zi_eq, e8]
      exact ⟨by omega, k1, k2⟩
    by_cases c2 : P 8 n = 0
    · refine stay h (-4) ?_ (rk (fun _ => (by first | exact ⟨rfl, rfl⟩ | exact ⟨trivial, trivial⟩ | exact ⟨trivial, rfl⟩ | exact ⟨rfl, trivial⟩ | trivial)) (fun z => absurd c2 z))
      obtain ⟨d, rfl⟩ : ∃ d', d = d' + 1 := ⟨d - 1, by omega⟩
      refine v_B_take_0 _ ⟨_, _, c_knows hc hN _, ?_⟩
      rw [if_pos c1]
      refine ⟨fun h0 => absurd h0 (by decide), fun _ => ⟨_, _, c_has hc hN hn, ?_⟩⟩
      have hh : hs P n = 0 := if_pos c2
      rw [hh]
      exact ⟨fun _ => (by first | exact ⟨rfl, rfl⟩ | exact ⟨trivial, trivial⟩ | exact ⟨trivial, rfl⟩ | exact ⟨rfl, trivial⟩ | trivial), fun h0 => absurd rfl h0⟩
    · have hh : hs P n = 1 := if_neg c2
      by_cases c3 : an (cry P n) N 0 = 0
      · have hm1 : mOK (am_us σ 2 3 (zi ((ub M n : Nat) : Int))) N P Q := mOK_fr hm (fun c _ _ => am_us_ne (by omega)) (fun k _ => am_us_c (by omega))
        refine ⟨1, am_us σ 2 3 (zi ((ub M n : Nat) : Int)), am_us (am_us σ 2 3 (zi ((ub M n : Nat) : Int))) 56 n 0, pu P 8 n 0, Q, ub M n, ?_, ?_, ⟨pOK_out hp n, fun m hm k => ?_, mOK_pu hm1 (k := 8) (by decide) 0, ?_⟩, fun k m hk => if_neg (by omega), ?_⟩
        · obtain ⟨d, rfl⟩ : ∃ d', d = d' + 1 := ⟨d - 1, by omega⟩
          refine v_B_take_0 _ ⟨_, _, c_knows hc hN _, ?_⟩
          rw [if_pos c1]
          refine ⟨fun h0 => absurd h0 (by decide), fun _ => ⟨_, _, c_has hc hN hn, ?_⟩⟩
          rw [hh]
          refine ⟨fun h0 => absurd h0 (by decide), fun _ => ⟨_, _, c_carries (by omega) hc hp hn c2, ?_⟩⟩
          rw [c3]
          refine ⟨fun _ => ⟨_, v_Hold_putOut_0 _ ⟨rfl, rfl⟩, ?_⟩, fun h0 => absurd rfl h0⟩
          rw [hc.2.1, mk_ub (by omega)]
          exact (by first | exact ⟨rfl, rfl⟩ | exact ⟨trivial, trivial⟩ | exact ⟨trivial, rfl⟩ | exact ⟨rfl, trivial⟩ | trivial)
        · obtain ⟨⟨f0, f1, f2, f3, f4, f5, f6⟩, f7, f8, f9, f10, f11, f12⟩ := hm1.row hn20
          obtain ⟨d, rfl⟩ : ∃ d', d = d' + 1 := ⟨d - 1, by omega⟩
          refine v_R_take_0 _ ⟨_, _, c_R_isBox (by omega) hm1 hp _, ?_⟩
          rw [if_pos c1]
          refine ⟨fun h0 => absurd h0 (by decide), fun _ => ?_⟩
          try simp (disch := omega) only [zi_cl, zi_add, zi_sub, zi_mul, zi_s1, zi_s0, zi_m1, z01, z10, zi_ite, zi_eq0, zi_lt0, zi_gt0, zi_le0, zi_ge0, zi_le, zi_lt, zi_eq, f8]
          exact ⟨by omega, fun z => absurd z c2, fun _ => c_R_take (by omega) hm1 hp hn (fun _ => (by first | exact ⟨rfl, rfl⟩ | exact ⟨trivial, trivial⟩ | exact ⟨trivial, rfl⟩ | exact ⟨rfl, trivial⟩ | trivial)) (fun z => absurd c3 z)⟩
        · unfold pu
          split
          · rfl
          · exact hz m hm k
        · exact cOK_fr (cOK_out hc hN hn) (am_us_c (by omega)) (am_us_c (by omega)) (fun c _ => am_us_ne (by omega)) hN
        · exact rst_trans (rst_us (by omega) (by omega) (by omega)) (rst_us (by omega) (by omega) (by omega))
      · refine stay h 0 ?_ (rk (fun z => absurd z c2) (fun _ => c_R_take (by omega) hm hp hn (fun z => absurd z c3) (fun _ => (by first | exact ⟨rfl, rfl⟩ | exact ⟨trivial, trivial⟩ | exact ⟨trivial, rfl⟩ | exact ⟨rfl, trivial⟩ | trivial))))
        obtain ⟨d, rfl⟩ : ∃ d', d = d' + 1 := ⟨d - 1, by omega⟩
        refine v_B_take_0 _ ⟨_, _, c_knows hc hN _, ?_⟩
        rw [if_pos c1]
        refine ⟨fun h0 => absurd h0 (by decide), fun _ => ⟨_, _, c_has hc hN hn, ?_⟩⟩
        rw [hh]
        refine ⟨fun h0 => absurd h0 (by decide), fun _ => ⟨_, _, c_carries (by omega) hc hp hn c2, ?_⟩⟩
        rcases an_01 (cry P n) N 0 with h9 | h9
        · exact absurd h9 c3
        · rw [h9]
          exact ⟨fun h0 => absurd h0 (by decide), fun _ => (by first | exact ⟨rfl, rfl⟩ | exact ⟨trivial, trivial⟩ | exact ⟨trivial, rfl⟩ | exact ⟨rfl, trivial⟩ | trivial)⟩
  · refine stay h (-2) ?_ ?_
    · obtain ⟨d, rfl⟩ : ∃ d', d = d' + 1 := ⟨d - 1, by omega⟩
      refine v_B_take_0 _ ⟨_, _, c_knows hc hN _, ?_⟩
      rw [if_neg c1]
      exact ⟨fun _ => (by first | exact ⟨rfl, rfl⟩ | exact ⟨trivial, trivial⟩ | exact ⟨trivial, rfl⟩ | exact ⟨rfl, trivial⟩ | trivial), fun h0 => absurd rfl h0⟩
    · obtain ⟨d, rfl⟩ : ∃ d', d = d' + 1 := ⟨d - 1, by omega⟩
      refine v_R_take_0 _ ⟨_, _, c_R_isBox (by omega) hm hp _, ?_⟩
      rw [if_neg c1]
      exact ⟨fun _ => (by first | exact ⟨rfl, rfl⟩ | exact ⟨trivial, trivial⟩ | exact ⟨trivial, rfl⟩ | exact ⟨rfl, trivial⟩ | trivial), fun h0 => absurd rfl h0⟩
end TAKE
