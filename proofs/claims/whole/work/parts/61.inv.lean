-- need: 41 42 43 44 45 53 60
/-! WHAT HOLDS BETWEEN THE CALLS, and the plain calls -/
def zOK (N : Nat) (P : Nat → Nat → Int) : Prop := ∀ n, N ≤ n → ∀ k, P k n = 0
def pic (σ : Nat → Nat → Int32) (N : Nat) (P : Nat → Nat → Int) (Q : Nat → Int) (M : Nat) : Prop := pOK N P Q ∧ zOK N P ∧ mOK σ N P Q ∧ cOK σ N P Q M
/-- what cuts and trucks have told stays -/
def rst (σ σ' : Nat → Nat → Int32) : Prop := (∀ c, 62 ≤ c → c ≠ 68 → σ' c = σ c) ∧ σ' 47 28 = σ 47 28 ∧ (∀ k, k < 4 → σ' 43 k = σ 43 k) ∧ σ' 47 37 = σ 47 37 ∧ σ' 47 38 = σ 47 38 ∧ σ' 47 39 = σ 47 39
/-- a call of the class, then the same of the reference: the same answer, and a picture behind them -/
def stepOK (l : Launch) (D : va_G) (DA : Nat → ClassId) (b sz d L : Nat) (cu : Bool) (Mc : Nat) (Ac : am_L) (Mr : Nat) (Ar : am_L) (σ : Nat → Nat → Int32) (N : Nat) (P : Nat → Nat → Int) : Prop :=
  ∃ r σ1 σ2 P' Q' M', GG l D DA b sz d L cu Mc Ac σ (some (.int r)) σ1 ∧ GG l D DA b sz d L cu Mr Ar σ1 (some (.int r)) σ2 ∧ pic σ2 N P' Q' M' ∧ (∀ k n, k < 8 → P' k n = P k n) ∧ rst σ σ2
def qu (Q : Nat → Int) (j : Nat) (v : Int) : Nat → Int := fun i => if i = j then v else Q i
section INV
variable {l : Launch} {D : va_G} {DA : Nat → ClassId} {b sz d L : Nat} {cu : Bool} {σ σ' : Nat → Nat → Int32} {N M : Nat} {P : Nat → Nat → Int} {Q : Nat → Int}
theorem rst_refl : rst σ σ := ⟨fun _ _ _ => rfl, rfl, fun _ _ => rfl, rfl, rfl, rfl⟩
theorem rst_trans {σ'' : Nat → Nat → Int32} (h1 : rst σ σ') (h2 : rst σ' σ'') : rst σ σ'' :=
  ⟨fun c a e => (h2.1 c a e).trans (h1.1 c a e), h2.2.1.trans h1.2.1, fun k hk => (h2.2.2.1 k hk).trans (h1.2.2.1 k hk), h2.2.2.2.1.trans h1.2.2.2.1, h2.2.2.2.2.1.trans h1.2.2.2.2.1, h2.2.2.2.2.2.trans h1.2.2.2.2.2⟩
theorem rst_us {c k : Nat} {v : Int32} (h1 : c < 62) (h2 : c ≠ 43) (h3 : c = 47 → k < 28) : rst σ (am_us σ c k v) := by
  refine ⟨fun c' a e => am_us_ne (by omega), ?_, fun k' hk => am_us_c (by omega), ?_, ?_, ?_⟩
  all_goals
    by_cases e : c = 47
    · subst e; have := h3 rfl; exact am_us_k (by omega)
    · exact am_us_c (by omega)
theorem rst_of (h : ∀ c, (c = 43 ∨ 47 = c ∨ 62 ≤ c) → σ' c = σ c) : rst σ σ' :=
  ⟨fun c a _ => h c (by omega), by rw [h 47 (by omega)], fun k _ => by rw [h 43 (by omega)], by rw [h 47 (by omega)], by rw [h 47 (by omega)], by rw [h 47 (by omega)]⟩
theorem cOK_fr (h : cOK σ N P Q M) (e2 : σ' 2 2 = σ 2 2) (e3 : σ' 2 3 = σ 2 3) (e : ∀ c, c = 3 ∨ (19 ≤ c ∧ c < 39) → σ' c = σ c) (hN : N ≤ 20) : cOK σ' N P Q M := by
  obtain ⟨h1, h2, h3, h4, h5, h6⟩ := h
  refine ⟨e2.trans h1, e3.trans h2, h3, fun j hj => by rw [e 3 (by omega)]; exact h4 j hj, fun n hn k hk => by rw [e (19 + n) (by omega)]; exact h5 n hn k hk, fun n hn h8 => ?_⟩
  unfold bAt
  rw [e (19 + n) (by omega)]
  exact h6 n hn h8
theorem mOK_fr (h : mOK σ N P Q) (e : ∀ c, 48 ≤ c → c < 61 → σ' c = σ c) (e1 : ∀ k, k < 23 → σ' 47 k = σ 47 k) : mOK σ' N P Q :=
  ⟨(e1 0 (by decide)).trans h.1, fun k hk n hn => by rw [e (48 + k) (by omega) (by omega)]; exact h.2.1 k hk n hn, fun j hj => (e1 (14 + j) (by omega)).trans (h.2.2 j hj)⟩
theorem cOK_qu (h : cOK σ N P Q M) (hN : N ≤ 20) {j : Nat} (v : Int) : cOK (am_us σ 3 j (zi v)) N P (qu Q j v) M := by
  obtain ⟨h1, h2, h3, h4, h5, h6⟩ := h
  refine ⟨(am_us_c (by omega)).trans h1, (am_us_c (by omega)).trans h2, h3, fun i hi => ?_, fun n hn k hk => (am_us_c (by omega)).trans (h5 n hn k hk), fun n hn h8 => ?_⟩
  · unfold qu am_us
    by_cases e : i = j
    · rw [if_pos ⟨rfl, e⟩, if_pos e]
    · rw [if_neg (fun z => e z.2), if_neg e]; exact h4 i hi
  · unfold bAt
    have e : am_us σ 3 j (zi v) (19 + n) = σ (19 + n) := am_us_ne (by omega)
    rw [e]
    exact h6 n hn h8
theorem mOK_qu (h : mOK σ N P Q) {j : Nat} (hj : j < 9) (v : Int) : mOK (am_us σ 47 (14 + j) (zi v)) N P (qu Q j v) := by
  obtain ⟨h1, h2, h3⟩ := h
  refine ⟨(am_us_k (by omega)).trans h1, fun k hk n hn => (am_us_c (by omega)).trans (h2 k hk n hn), fun i hi => ?_⟩
  unfold qu am_us
  by_cases e : i = j
  · rw [if_pos ⟨rfl, by omega⟩, if_pos e]
  · rw [if_neg (by omega), if_neg e]; exact h3 i hi
theorem cnt_pcn (h : hv P N M) (hN : N ≤ 20) : ((pcn M 20 : Nat) : Int) = cnt P N := by
  have k1 : ∀ n, n ≤ N → ((pcn M n : Nat) : Int) = cnt P n := by
    intro n
    induction n with
    | zero => intro _; rfl
    | succ n ih =>
      intro hn
      have h1 := ih (by omega)
      show (((pcn M n + (if M.testBit n then 1 else 0) : Nat)) : Int) = cnt P n + (if P 8 n = 0 then 0 else 1)
      rw [← h1]
      have h2 := h.2 n
      by_cases e : P 8 n = 0
      · rw [if_pos e, if_neg (fun z => (h2.mp z).2 e)]; omega
      · rw [if_neg e, if_pos (h2.mpr ⟨by omega, e⟩)]; omega
  have k2 : ∀ j, pcn M (N + j) = pcn M N := by
    intro j
    induction j with
    | zero => rfl
    | succ j ih =>
      show pcn M (N + j) + (if M.testBit (N + j) then 1 else 0) = pcn M N
      rw [ih, if_neg (fun z => absurd ((h.2 _).mp z).1 (by omega)), Nat.add_zero]
  have h3 := k2 (20 - N)
  rw [show N + (20 - N) = 20 by omega] at h3
  rw [h3]
  exact k1 N (Nat.le_refl N)
theorem cnt_0 (hc : cnt P N ≤ 0) {n : Nat} (hn : n < N) : P 8 n = 0 := by
  have h1 := sm_mem (f := fun n => if P 8 n = 0 then (0 : Int) else 1) (n := N) (i := n) (fun i _ => by show 0 ≤ (if P 8 i = 0 then (0 : Int) else 1); split <;> omega) hn
  have h2 : (if P 8 n = 0 then (0 : Int) else 1) ≤ cnt P N := h1
  by_cases e : P 8 n = 0
  · exact e
  · rw [if_neg e] at h2; omega
theorem M_0 (h : hv P N M) (hN : N ≤ 20) : M = 0 ↔ cnt P N ≤ 0 := by
  constructor
  · intro e
    have := cnt_pcn h hN
    rw [e] at this
    have h9 : pcn 0 20 = 0 := by decide
    rw [h9] at this
    omega
  · intro e
    apply Nat.eq_of_testBit_eq
    intro i
    rw [Nat.zero_testBit]
    cases hc : M.testBit i with
    | false => rfl
    | true => exact absurd (cnt_0 e ((h.2 i).mp hc).1) ((h.2 i).mp hc).2
theorem zM_0 (h : hv P N M) (hN : N ≤ 20) : zi (M : Int) = 0 ↔ cnt P N ≤ 0 := by
  have := h.1
  rw [zi_eq0 (by omega) (by omega), ← M_0 h hN]
  omega
theorem le_i {p : Int32} {lo hi : Int} (h1 : -2147483648 ≤ lo) (h2 : hi < 2147483648) (h3 : lo ≤ hi) (h : zi lo ≤ p ∧ p ≤ zi hi) : lo ≤ p.toInt ∧ p.toInt ≤ hi := by
  rw [Int32.le_iff_toInt_le, Int32.le_iff_toInt_le, zi_toInt h1 (by omega), zi_toInt (by omega) h2] at h
  exact h
/-- the two answer r and change nothing -/
theorem stay {Mc Mr : Nat} {Ac Ar : am_L} (h : pic σ N P Q M) (r : Int32) (h1 : GG l D DA b sz d L cu Mc Ac σ (some (.int r)) σ) (h2 : GG l D DA b sz d L cu Mr Ar σ (some (.int r)) σ) : stepOK l D DA b sz d L cu Mc Ac Mr Ar σ N P :=
  ⟨r, σ, σ, P, Q, M, h1, h2, h, fun _ _ _ => rfl, rst_refl⟩
theorem L_side (hd : 1 ≤ d) (h : pic σ N P Q M) (p : Int32) : stepOK l D DA b sz d L cu M_B_side [some (.ref 1), some (.int p), none] M_R_side [some (.ref 47), some (.int p), none] σ N P := by
  obtain ⟨d, rfl⟩ : ∃ d', d = d' + 1 := ⟨d - 1, by omega⟩
  obtain ⟨hp, hz, hm, hc⟩ := id h
  by_cases c1 : (0 : Int32) ≤ p ∧ p ≤ 100
  · have c2 := le_i (lo := 0) (hi := 100) (by decide) (by decide) (by decide) c1
    refine ⟨zi (Q 8), am_us σ 3 8 p, am_us (am_us σ 3 8 p) 47 22 p, P, qu Q 8 p.toInt, M, v_B_side_0 _ ⟨_, _, c_within _ _ _, ?_⟩, v_R_side_0 _ ⟨_, _, c_R_in _ _ _, ?_⟩, ⟨?_, hz, ?_, ?_⟩, fun _ _ _ => rfl, ?_⟩
    · rw [if_pos c1]
      exact ⟨fun h0 => absurd h0 (by decide), fun _ => by rw [hc.q.2.2.2.2.2.2.2.2]; exact (by first | exact ⟨rfl, rfl⟩ | exact ⟨trivial, trivial⟩ | exact ⟨trivial, rfl⟩ | exact ⟨rfl, trivial⟩ | trivial)⟩
    · rw [if_pos c1]
      refine ⟨fun h0 => absurd h0 (by decide), fun _ => ?_⟩
      rw [am_us_c (by decide), hm.q.2.2.2.2.2.2.2.2]
      exact (by first | exact ⟨rfl, rfl⟩ | exact ⟨trivial, trivial⟩ | exact ⟨trivial, rfl⟩ | exact ⟨rfl, trivial⟩ | trivial)
    · obtain ⟨a1, a2, a3, a4⟩ := hp
      refine ⟨a1, a2, a3, ?_⟩
      unfold qOK qu at *
      simp
      omega
    · have h9 := mOK_qu (mOK_fr (σ' := am_us σ 3 8 p) hm (fun c _ _ => am_us_ne (by omega)) (fun k _ => am_us_c (by omega))) (j := 8) (by decide) p.toInt
      rw [← zi_of] at h9
      exact h9
    · have h9 := cOK_qu hc hp.1 (j := 8) p.toInt
      rw [← zi_of] at h9
      exact cOK_fr h9 (am_us_c (by omega)) (am_us_c (by omega)) (fun c _ => am_us_ne (by omega)) hp.1
    · exact rst_trans (rst_us (by omega) (by omega) (by omega)) (rst_us (by omega) (by omega) (by omega))
  · refine stay h (-2) (v_B_side_0 _ ⟨_, _, c_within _ _ _, ?_⟩) (v_R_side_0 _ ⟨_, _, c_R_in _ _ _, ?_⟩)
    · rw [if_neg c1]; exact ⟨fun _ => (by first | exact ⟨rfl, rfl⟩ | exact ⟨trivial, trivial⟩ | exact ⟨trivial, rfl⟩ | exact ⟨rfl, trivial⟩ | trivial), fun h0 => absurd rfl h0⟩
    · rw [if_neg c1]; exact ⟨fun _ => (by first | exact ⟨rfl, rfl⟩ | exact ⟨trivial, trivial⟩ | exact ⟨trivial, rfl⟩ | exact ⟨rfl, trivial⟩ | trivial), fun h0 => absurd rfl h0⟩
theorem L_share (hd : 1 ≤ d) (h : pic σ N P Q M) (p : Int32) : stepOK l D DA b sz d L cu M_B_share [some (.ref 1), some (.int p), none] M_R_share [some (.ref 47), some (.int p), none] σ N P := by
  obtain ⟨d, rfl⟩ : ∃ d', d = d' + 1 := ⟨d - 1, by omega⟩
  obtain ⟨hp, hz, hm, hc⟩ := id h
  have hcb := cnt_bd (P := P) N
  have hN := hp.1
  by_cases c1 : (0 : Int32) ≤ p ∧ p ≤ 100
  · have c2 := le_i (lo := 0) (hi := 100) (by decide) (by decide) (by decide) c1
    by_cases c3 : cnt P N ≤ 0
    · have hm1 := mOK_fr (σ' := am_us σ 3 3 p) hm (fun c _ _ => am_us_ne (by omega)) (fun k _ => am_us_c (by omega))
      refine ⟨zi (Q 3), am_us σ 3 3 p, am_us (am_us σ 3 3 p) 47 17 p, P, qu Q 3 p.toInt, M, v_B_share_0 _ ⟨_, _, c_within _ _ _, ?_⟩, v_R_share_0 _ ⟨_, _, c_R_in _ _ _, ?_⟩, ⟨?_, hz, ?_, ?_⟩, fun _ _ _ => rfl, ?_⟩
      · rw [if_pos c1]
        refine ⟨fun h0 => absurd h0 (by decide), fun _ => ?_⟩
        rw [hc.2.1, zM_0 hc.2.2.1 hN, hc.q.2.2.2.1]
        exact ⟨fun _ => (by first | exact ⟨rfl, rfl⟩ | exact ⟨trivial, trivial⟩ | exact ⟨trivial, rfl⟩ | exact ⟨rfl, trivial⟩ | trivial), fun h0 => absurd c3 h0⟩
      · rw [if_pos c1]
        refine ⟨fun h0 => absurd h0 (by decide), fun _ => ⟨_, _, c_R_placed hm1 hp, ?_⟩⟩
        rw [zi_le0 (by omega) (by omega), am_us_c (by decide), hm.q.2.2.2.1]
        exact ⟨fun _ => (by first | exact ⟨rfl, rfl⟩ | exact ⟨trivial, trivial⟩ | exact ⟨trivial, rfl⟩ | exact ⟨rfl, trivial⟩ | trivial), fun h0 => absurd c3 h0⟩
      · obtain ⟨a1, a2, a3, a4⟩ := hp
        refine ⟨a1, a2, fun n hn h8 => absurd (cnt_0 c3 hn) (by omega), ?_⟩
        unfold qOK qu at *
        simp
        omega
      · have h9 := mOK_qu hm1 (j := 3) (by decide) p.toInt
        rw [← zi_of] at h9
        exact h9
      · have h9 := cOK_qu hc hp.1 (j := 3) p.toInt
        rw [← zi_of] at h9
        exact cOK_fr h9 (am_us_c (by omega)) (am_us_c (by omega)) (fun c _ => am_us_ne (by omega)) hp.1
      · exact rst_trans (rst_us (by omega) (by omega) (by omega)) (rst_us (by omega) (by omega) (by omega))
    · refine stay h (-4) (v_B_share_0 _ ⟨_, _, c_within _ _ _, ?_⟩) (v_R_share_0 _ ⟨_, _, c_R_in _ _ _, ?_⟩)
      · rw [if_pos c1]
        refine ⟨fun h0 => absurd h0 (by decide), fun _ => ?_⟩
        rw [hc.2.1, zM_0 hc.2.2.1 hN]
        exact ⟨fun h0 => absurd h0 c3, fun _ => (by first | exact ⟨rfl, rfl⟩ | exact ⟨trivial, trivial⟩ | exact ⟨trivial, rfl⟩ | exact ⟨rfl, trivial⟩ | trivial)⟩
      · rw [if_pos c1]
        refine ⟨fun h0 => absurd h0 (by decide), fun _ => ⟨_, _, c_R_placed hm hp, ?_⟩⟩
        rw [zi_le0 (by omega) (by omega)]
        exact ⟨fun h0 => absurd h0 c3, fun _ => (by first | exact ⟨rfl, rfl⟩ | exact ⟨trivial, trivial⟩ | exact ⟨trivial, rfl⟩ | exact ⟨rfl, trivial⟩ | trivial)⟩
  · refine stay h (-2) (v_B_share_0 _ ⟨_, _, c_within _ _ _, ?_⟩) (v_R_share_0 _ ⟨_, _, c_R_in _ _ _, ?_⟩)
    · rw [if_neg c1]; exact ⟨fun _ => (by first | exact ⟨rfl, rfl⟩ | exact ⟨trivial, trivial⟩ | exact ⟨trivial, rfl⟩ | exact ⟨rfl, trivial⟩ | trivial), fun h0 => absurd rfl h0⟩
    · rw [if_neg c1]; exact ⟨fun _ => (by first | exact ⟨rfl, rfl⟩ | exact ⟨trivial, trivial⟩ | exact ⟨trivial, rfl⟩ | exact ⟨rfl, trivial⟩ | trivial), fun h0 => absurd rfl h0⟩
theorem L_at (hd : 1 ≤ d) (h : pic σ N P Q M) (x y z : Int32) : stepOK l D DA b sz d L cu M_B_at [some (.ref 1), some (.int x), some (.int y), some (.int z), none] M_R_at [some (.ref 47), some (.int x), some (.int y), some (.int z), none, none] σ N P := by
  obtain ⟨hp, hz, hm, hc⟩ := id h
  have hN := hp.1
  refine stay h _ (c_at hd hc hp x y z) ?_
  obtain ⟨d, rfl⟩ : ∃ d', d = d' + 1 := ⟨d - 1, by omega⟩
  refine v_R_atc_0 _ _ _ ?_
  have key : ∀ (m i : Nat), i + m = N → am_Go l D DA b sz (d + 1) M_R_at (3, [some (.ref 47), some (.int x), some (.int y), some (.int z), some (.int (zi i)), none], [], (am_TT cu L, am_RR cu, σ)) (some (.int (zi (ff (fil P x.toInt y.toInt z.toInt) m i)))) (am_TT cu L, am_RR cu, σ) := by
    intro m
    induction m with
    | zero =>
      intro i hi
      refine v_R_atc_3 _ _ _ _ ?_
      try simp (disch := omega) only [zi_cl, zi_add, zi_sub, zi_mul, zi_s1, zi_s0, zi_m1, z01, z10, zi_ite, zi_eq0, zi_lt0, zi_gt0, zi_le0, zi_ge0, zi_le, zi_lt, zi_eq, hm.1]
      exact ⟨fun _ => (by first | exact ⟨rfl, rfl⟩ | exact ⟨trivial, trivial⟩ | exact ⟨trivial, rfl⟩ | exact ⟨rfl, trivial⟩ | trivial), fun h0 => absurd h0 (by omega)⟩
    | succ m ih =>
      intro i hi
      have hi20 : i < 20 := by omega
      have hb := hp.2.1 i (by omega)
      have l1 := b_lng hb
      have w1 := b_wdt hb
      have ht : tp P i = P 11 i + P 2 i := rfl
      have hb' := hb
      unfold bOK at hb'
      obtain ⟨⟨e0, e1, e2, e3, e4, e5, e6⟩, e7, e8, e9, e10, e11, e12⟩ := hm.row hi20
      have no : ¬ fil P x.toInt y.toInt z.toInt i → am_Go l D DA b sz (d + 1) M_R_at (3, [some (.ref 47), some (.int x), some (.int y), some (.int z), some (.int (zi i + 1)), none], [], (am_TT cu L, am_RR cu, σ)) (some (.int (zi (ff (fil P x.toInt y.toInt z.toInt) (m + 1) i)))) (am_TT cu L, am_RR cu, σ) := by
        intro hn
        unfold ff
        rw [if_neg hn, zi_s1]
        exact ih (i + 1) (by omega)
      have no2 : ¬ fil P x.toInt y.toInt z.toInt i → am_Go l D DA b sz (d + 1) M_R_at (62, [some (.ref 47), some (.int x), some (.int y), some (.int z), some (.int (zi i)), some (.int 0)], [], (am_TT cu L, am_RR cu, σ)) (some (.int (zi (ff (fil P x.toInt y.toInt z.toInt) (m + 1) i)))) (am_TT cu L, am_RR cu, σ) := fun hn => v_R_atc_62 _ _ _ _ _ ⟨fun _ => no hn, fun h0 => absurd rfl h0⟩
      have lt9 : ∀ (w : Int32) (k : Nat), (w < zi (P k i)) = (w.toInt < (zi (P k i)).toInt) := fun w k => propext Int32.lt_iff_toInt_lt
      refine v_R_atc_3 _ _ _ _ ?_
      simp (disch := omega) only [hm.1, zi_cl, zi_lt0, zi_le, e8, e9, e10, e11, zi_eq0, lt9, zi_toInt]
      refine ⟨fun h0 => absurd h0 (by omega), fun _ => ⟨by omega, fun h0 => no2 (fun z => z.1 h0), fun h0 => ⟨by omega, fun h1 => no2 (fun z => by have := z.2.1; omega), fun h1 => ⟨by omega, fun h2 => no2 (fun z => by have := z.2.2.1; omega), fun h2 => ⟨by omega, ?_⟩⟩⟩⟩⟩
      by_cases h3 : z.toInt < P 11 i
      · rw [if_pos h3]; exact no2 (fun z => by have := z.2.2.2; omega)
      · rw [if_neg h3]
        refine v_R_atc_62 _ _ _ _ _ ⟨fun h9 => absurd h9 (by decide), fun _ => ?_⟩
        simp (disch := omega) only [zi_cl, zi_lt0]
        refine ⟨by omega, _, _, c_R_longOf hm hi20 hb, ?_⟩
        simp (disch := omega) only [e9, e10, zi_add, Int32.le_iff_toInt_le, zi_toInt]
        refine ⟨fun h4 => no (fun z => by have := z.2.1; omega), fun h4 => ⟨by omega, _, _, c_R_wideOf hm hi20 hb, ?_⟩⟩
        simp (disch := omega) only [e9, e10, zi_add, zi_toInt]
        refine ⟨fun h5 => no (fun z => by have := z.2.2.1; omega), fun h5 => ⟨_, _, c_R_topOf hm hi20, ?_⟩⟩
        simp (disch := omega) only [zi_toInt]
        refine ⟨fun h6 => no (fun z => by have := z.2.2.2; omega), fun h6 => ?_⟩
        have yes : fil P x.toInt y.toInt z.toInt i := ⟨h0, by omega, by omega, by omega⟩
        unfold ff
        rw [if_pos yes]
        exact (by first | exact ⟨rfl, rfl⟩ | exact ⟨trivial, trivial⟩ | exact ⟨trivial, rfl⟩ | exact ⟨rfl, trivial⟩ | trivial)
  exact key N 0 (by omega)
end INV
