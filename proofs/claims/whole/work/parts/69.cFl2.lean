/-! the class: faults; wrong, place -/
section CF2
variable {l : Launch} {D : va_G} {DA : Nat → ClassId} {b sz d L : Nat} {cu : Bool} {σ σ' : Nat → Nat → Int32} {N M B : Nat} {P R : Nat → Nat → Int} {Q : Nat → Int}
theorem an_iff (p : Nat → Prop) [DecidablePred p] : ∀ m i, an p m i = 1 ↔ ∃ j, i ≤ j ∧ j < i + m ∧ p j
  | 0, i => ⟨fun h => absurd h (by unfold an; decide), fun ⟨j, h1, h2, _⟩ => absurd h2 (by omega)⟩
  | m + 1, i => by
    have ih := an_iff p m (i + 1)
    unfold an
    by_cases c : p i
    · rw [if_pos c]
      exact ⟨fun _ => ⟨i, by omega, by omega, c⟩, fun _ => rfl⟩
    · rw [if_neg c, ih]
      constructor
      · rintro ⟨j, h1, h2, h3⟩; exact ⟨j, by omega, by omega, h3⟩
      · rintro ⟨j, h1, h2, h3⟩
        have e : j ≠ i := fun z => c (z ▸ h3)
        exact ⟨j, by omega, by omega, h3⟩
theorem pOK_in (hp : pOK N P Q) {n : Nat} (hn : n < N) (hin : inQ P Q n) : pOK N (pu P 8 n 1) Q := by
  refine ⟨hp.1, fun m hm => ?_, fun m hm hm8 => ?_, hp.2.2.2⟩
  · have hb := hp.2.1 m hm
    unfold bOK pu at *
    simp
    split <;> omega
  · have h9 : inQ P Q m := by
      by_cases e : m = n
      · subst e; exact hin
      · unfold pu at hm8
        rw [if_neg (fun z => e z.2)] at hm8
        exact hp.2.2.1 m hm hm8
    obtain ⟨e1, e2, e3⟩ := lng_pu (P := P) (k := 8) (n := n) (m := m) (v := 1) rfl
    unfold inQ at *
    rw [e1, e2]
    exact h9
theorem tOK_of (hp : pOK N P Q) : tOK N P := by
  intro m hm hm8
  have hb := hp.2.1 m hm
  have h8 : P 8 m = 1 := by unfold bOK at hb; omega
  have hi := hp.2.2.1 m hm h8
  have hq := hp.2.2.2
  have ht : tp P m = P 11 m + P 2 m := rfl
  unfold bOK at hb
  unfold inQ at hi
  unfold qOK at hq
  omega
theorem lOK_of (h : cOK σ N P Q M) : lOK σ N P M := ⟨h.1, h.2.2.1, h.2.2.2.2.1, h.2.2.2.2.2⟩
theorem lOK_in (h : cOK σ N P Q M) (hN : N ≤ 20) {n : Nat} (hn : n < N) (ha : bAt σ P n) : lOK σ N (pu P 8 n 1) (M ||| 2 ^ n) := by
  refine ⟨h.1, hv_or h.2.2.1 hn hN, fun m hm k hk => ?_, fun m hm h8 => bAt_pu ?_⟩
  · unfold pu
    rw [if_neg (by omega)]
    exact h.2.2.2.2.1 m hm k hk
  · by_cases e : m = n
    · subst e; exact ha
    · unfold pu at h8
      rw [if_neg (fun z => e z.2)] at h8
      exact h.2.2.2.2.2 m hm h8
theorem hv_iff {ld : Nat → Int} {a0 : Int} : ∀ k, fo (hvF P ld) a0 k = 0 ↔ a0 = 0 ∧ ∀ i, i < k → P 8 i ≠ 0 → ld i ≤ P 4 i
  | 0 => ⟨fun h => ⟨h, fun i hi => absurd hi (by omega)⟩, fun h => h.1⟩
  | k + 1 => by
    have ih := hv_iff (ld := ld) (a0 := a0) k
    show (if fo (hvF P ld) a0 k = 0 then (if P 8 k = 0 then 0 else if ld k ≤ P 4 k then 0 else 1) else 1 : Int) = 0 ↔ _
    by_cases c : fo (hvF P ld) a0 k = 0
    · rw [if_pos c]
      obtain ⟨h1, h2⟩ := ih.mp c
      by_cases c8 : P 8 k = 0
      · rw [if_pos c8]
        refine ⟨fun _ => ⟨h1, fun i hi h8 => ?_⟩, fun _ => rfl⟩
        have e : i ≠ k := fun z => h8 (z ▸ c8)
        exact h2 i (by omega) h8
      · rw [if_neg c8]
        by_cases c4 : ld k ≤ P 4 k
        · rw [if_pos c4]
          refine ⟨fun _ => ⟨h1, fun i hi h8 => ?_⟩, fun _ => rfl⟩
          by_cases e : i = k
          · rw [e]; exact c4
          · exact h2 i (by omega) h8
        · rw [if_neg c4]
          exact ⟨fun h => absurd h (by decide), fun h => absurd (h.2 k (by omega) c8) c4⟩
    · rw [if_neg c]
      exact ⟨fun h => absurd h (by decide), fun h => absurd (ih.mpr ⟨h.1, fun i hi h8 => h.2 i (by omega) h8⟩) c⟩
theorem hvW_iff {n : Nat} (hp : pOK N (pu P 8 n 1) Q) (hn : n < N) : hvW P N n = 0 ↔ bal (pu P 8 n 1) N (12 * N) = 1 := by
  rw [bal_iff hp (tOK_of hp)]
  unfold hvW
  rw [hv_iff]
  have e4 : ∀ m, pu P 8 n 1 4 m = P 4 m := fun m => if_neg (by omega)
  have e8 : ∀ m, m ≠ n → pu P 8 n 1 8 m = P 8 m := fun m h => if_neg (fun z => h z.2)
  have e9 : pu P 8 n 1 8 n = 1 := if_pos ⟨rfl, rfl⟩
  constructor
  · rintro ⟨h1, h2⟩ m hm h8
    rw [e4]
    by_cases e : m = n
    · subst e
      by_cases c : lds (pu P 8 m 1) N m ≤ P 4 m
      · exact c
      · rw [if_neg c] at h1; exact absurd h1 (by decide)
    · rw [e8 m e] at h8
      exact h2 m hm h8
  · intro h
    refine ⟨?_, fun m hm h8 => ?_⟩
    · have h1 := h n hn (by rw [e9]; decide)
      rw [e4] at h1
      rw [if_pos h1]
    · by_cases e : m = n
      · have h1 := h n hn (by rw [e9]; decide)
        rw [e4] at h1
        rw [e]; exact h1
      · have h1 := h m hm (by rw [e8 m e]; exact h8)
        rw [e4] at h1
        exact h1
theorem c_bearT (hd : 2 ≤ d) (h : cOK σ N P Q M) (hp : pOK N P Q) {n : Nat} (hn : n < N) (ha : bAt σ P n) (hin : inQ P Q n) :
    ∃ σ', GG l D DA b sz d L cu M_Hold_bearAll [some (.ref 2), some (.int (σ 2 3 ||| ((1 : Int32) <<< (zi n &&& 31 : Int32) : Int32))), none, none, none] σ (some (.int (zi (if hvW P N n = 0 then 1 else 0)))) σ' ∧ fr56 σ σ' := by
  have hN := hp.1
  have hp1 := pOK_in hp hn hin
  obtain ⟨σ', g, p1, -⟩ := c_bearAll (l := l) (D := D) (DA := DA) (b := b) (sz := sz) (d := d) (L := L) (cu := cu) hd (lOK_in h hN hn ha) hp1 (tOK_of hp1)
  refine ⟨σ', ?_, p1⟩
  rw [h.2.1, mk_shl (by omega), mk_or]
  have h01 := bal_01 (R := pu P 8 n 1) (N := N) (12 * N)
  have hi := hvW_iff hp1 hn
  have e : (if hvW P N n = 0 then (1 : Int) else 0) = bal (pu P 8 n 1) N (12 * N) := by
    by_cases c : hvW P N n = 0
    · rw [if_pos c, hi.mp c]
    · rw [if_neg c]
      rcases h01 with h9 | h9
      · rw [h9]
      · exact absurd (hi.mpr h9) c
  rw [e]
  exact g
theorem outB_01 {n : Nat} : outB P Q n = 0 ∨ outB P Q n = 1 := by
  unfold outB
  repeat' split
  all_goals simp
theorem inQ_of {n : Nat} (ho : outB P Q n = 0) : inQ P Q n := by
  unfold outB at ho
  unfold inQ
  split at ho
  · cases ho
  · split at ho
    · cases ho
    · split at ho
      · omega
      · cases ho
theorem outB_of {n : Nat} (hi : inQ P Q n) : outB P Q n = 0 := by
  unfold inQ at hi
  unfold outB
  rw [if_neg (by omega), if_neg (by omega), if_pos (by omega)]
theorem th_spec (hN : N ≤ 20) (hb : ∀ m, m < N → bOK P m) {n : Nat} (hn : n < N) {m : Nat} : ((mX P N n &&& mY P N n) &&& mZ P N n).testBit m = true ↔ (m < N ∧ P 8 m ≠ 0 ∧ 0 < area P n m ∧ 0 < com (P 11 n) (P 2 n) (P 11 m) (P 2 m)) := by
  rw [Nat.testBit_and, Bool.and_eq_true, nr_spec hN hb hn, (mZ_spec hN hb hn).2 m]
  constructor
  · rintro ⟨a, c⟩; exact ⟨a.1, a.2.1, a.2.2, c.2.2⟩
  · rintro ⟨a, c, e, f⟩; exact ⟨⟨a, c, e⟩, a, c, f⟩
theorem b1_none (hN : N ≤ 20) (hb : ∀ m, m < N → bOK P m) {n : Nat} (hn : n < N) (h0 : (mX P N n &&& mY P N n) &&& mZ P N n = 0) : b1W P Q N n = outB P Q n := by
  refine fo_none (fun i a hi => ?_)
  unfold thrF
  by_cases c1 : P 8 i = 0
  · rw [if_pos c1]
  · rw [if_neg c1]
    by_cases c2 : area P n i ≤ 0
    · rw [if_pos c2]
    · rw [if_neg c2]
      by_cases c3 : com (P 11 n) (P 2 n) (P 11 i) (P 2 i) ≤ 0
      · rw [if_pos c3]
      · have h9 := (th_spec hN hb hn (m := i)).mpr ⟨hi, c1, by omega, by omega⟩
        rw [h0, Nat.zero_testBit] at h9
        cases h9
theorem b1_some (hN : N ≤ 20) (hb : ∀ m, m < N → bOK P m) {n : Nat} (hn : n < N) (h0 : (mX P N n &&& mY P N n) &&& mZ P N n ≠ 0) : b1W P Q N n = outB P Q n ||| 2 := by
  refine fo_some (fun i a _ => ?_) ?_
  · unfold thrF
    repeat' split
    all_goals simp
  · have h1 : ∃ i, ((mX P N n &&& mY P N n) &&& mZ P N n).testBit i = true := by
      refine Classical.byContradiction fun hno => h0 (Nat.eq_of_testBit_eq fun i => ?_)
      rw [Nat.zero_testBit]
      cases hc : ((mX P N n &&& mY P N n) &&& mZ P N n).testBit i with
      | false => rfl
      | true => exact absurd ⟨i, hc⟩ hno
    obtain ⟨i, hi⟩ := h1
    obtain ⟨a1, a2, a3, a4⟩ := (th_spec hN hb hn).mp hi
    refine ⟨i, a1, fun a => ?_⟩
    unfold thrF
    rw [if_neg a2, if_neg (by omega), if_neg (by omega)]
theorem b3_none {n : Nat} (h0 : an (iwp P n) N 0 = 0) : b3W P Q N n = b2W P Q N n := by
  refine fo_none (fun i a hi => ?_)
  unfold iwF
  by_cases c1 : P 8 i = 0
  · rw [if_pos c1]
  · rw [if_neg c1]
    by_cases c2 : iw P n i = 0
    · rw [if_pos c2]
    · have h9 := (an_iff (iwp P n) N 0).mpr ⟨i, by omega, by omega, c1, c2⟩
      rw [h0] at h9
      cases h9
theorem b3_some {n : Nat} (h0 : an (iwp P n) N 0 = 1) : b3W P Q N n = b2W P Q N n ||| 16 := by
  refine fo_some (fun i a _ => ?_) ?_
  · unfold iwF
    repeat' split
    all_goals simp
  · obtain ⟨i, a1, a2, a3, a4⟩ := (an_iff (iwp P n) N 0).mp h0
    refine ⟨i, by omega, fun a => ?_⟩
    unfold iwF
    rw [if_neg a3, if_neg a4]
theorem b2_04 {n : Nat} : b2W P Q N n = 0 ∨ b2W P Q N n = 4 := by
  unfold b2W
  repeat' split
  all_goals simp
theorem mOKc_fr {n : Nat} (h : mOKc σ P N n) (f : fr56 σ σ') : mOKc σ' P N n := by
  unfold mOKc at *
  rw [f 2 (by omega) (by omega)]
  exact h
theorem cOK_56 (h : cOK σ N P Q M) (hN : N ≤ 20) (f : fr56 σ σ') : cOK σ' N P Q M := cOK_fr h (by rw [f 2 (by omega) (by omega)]) (by rw [f 2 (by omega) (by omega)]) (fun c hc => f c (by omega) (by omega)) hN
theorem wrg_a {n : Nat} (h : b1W P Q N n ≠ 0) : wrg P Q N n = b1W P Q N n := by unfold wrg; rw [if_pos h]
theorem wrg_b {n : Nat} (h : b1W P Q N n = 0) (h2 : b3W P Q N n &&& 4 ≠ 0) : wrg P Q N n = b3W P Q N n := by unfold wrg; rw [if_neg (fun z => z h), if_pos h2]
theorem wrg_c {n : Nat} (h : b1W P Q N n = 0) (h2 : b3W P Q N n &&& 4 = 0) (h3 : hvW P N n = 0) : wrg P Q N n = b3W P Q N n := by unfold wrg; rw [if_neg (fun z => z h), if_neg (fun z => z h2), if_pos h3]
theorem wrg_d {n : Nat} (h : b1W P Q N n = 0) (h2 : b3W P Q N n &&& 4 = 0) (h3 : ¬ hvW P N n = 0) : wrg P Q N n = b3W P Q N n ||| 8 := by unfold wrg; rw [if_neg (fun z => z h), if_neg (fun z => z h2), if_neg h3]
theorem c_faults (hd : 3 ≤ d) (h : cOK σ N P Q M) (hp : pOK N P Q) {n : Nat} (hn : n < N) (h8 : P 8 n = 0) (ha : bAt σ P n) (hk : mOKc σ P N n) :
    ∃ σ', GG l D DA b sz d L cu M_Hold_faults [some (.ref 2), some (.int (zi n)), none, none] σ (some (.int (zi (wrg P Q N n)))) σ' ∧ fr56 σ σ' := by
  obtain ⟨d, rfl⟩ : ∃ d', d = d' + 1 := ⟨d - 1, by omega⟩
  have hN := hp.1
  have ho := outB_01 (P := P) (Q := Q) (n := n)
  have hr1 : (if zi (if outB P Q n = 0 then (1 : Int) else 0) = 0 then (1 : Int32) else 0) = zi (outB P Q n : Int) := by
    rcases ho with h9 | h9
    · rw [h9]; rfl
    · rw [h9]; rfl
  have hcl : Int32.toNatClampNeg (zi n) = n := zi_cl (by omega)
  have hin0 : ¬ (zi (n : Int) < 0 ∨ 20 ≤ n) := by rw [zi_lt0 (by omega) (by omega)]; omega
  have hm20 := and_lt (c := mZ P N n) (and_lt (c := mY P N n) (mX_spec hN hp.2.1 hn).1)
  have hi := c_isInside (l := l) (D := D) (DA := DA) (b := b) (sz := sz) (d := d) (L := L) (cu := cu) h hp hn ha
  by_cases c1 : (mX P N n &&& mY P N n) &&& mZ P N n = 0
  · have hb1 := b1_none (Q := Q) hN hp.2.1 hn c1
    by_cases c2 : outB P Q n = 0
    · have hinQ := inQ_of c2
      have h01 := an_01 (iwp P n) N 0
      by_cases c3 : b2W P Q N n = 0
      · obtain ⟨σ', gb, fb⟩ := c_bearT (l := l) (D := D) (DA := DA) (b := b) (sz := sz) (d := d) (L := L) (cu := cu) (by omega) h hp hn ha hinQ
        have h1 := cOK_56 h hN fb
        have hw := c_isInWay (l := l) (D := D) (DA := DA) (b := b) (sz := sz) (d := d) (L := L) (cu := cu) h1 hp hn (bAt_fr ha (fb (19 + n) (by omega) (by omega))) (mOKc_fr hk fb)
        have hh := c_isHeld (l := l) (D := D) (DA := DA) (b := b) (sz := sz) (d := d) (L := L) (cu := cu) (by omega) h hp hn h8 ha hk
        rw [if_pos c3] at hh
        refine ⟨σ', v_Hold_faults_0 _ ?_, fb⟩
        rw [hcl]
        refine ⟨hin0, _, _, hi, ?_⟩
        rw [hr1, hk.1, hk.2.1, hk.2.2, mk_andN, mk_andN, zi_eq0 (by omega) (by omega), c2]
        refine ⟨fun _ => ⟨fun _ => ⟨_, _, hh, fun h0 => absurd h0 (by decide), fun _ => ⟨_, _, gb, ?_⟩⟩, fun h0 => absurd rfl h0⟩, fun h0 => absurd (by omega) h0⟩
        have hb0 : b1W P Q N n = 0 := hb1.trans c2
        by_cases c4 : hvW P N n = 0
        · rw [if_pos c4]
          refine ⟨fun h0 => absurd h0 (by decide), fun _ => ⟨_, _, hw, ?_⟩⟩
          rcases h01 with c5 | c5
          · have hb3 := (b3_none (Q := Q) c5).trans c3
            rw [wrg_c hb0 (by rw [hb3]; rfl) c4, hb3, c5]; exact ⟨rfl, rfl⟩
          · have hb3 : b3W P Q N n = 16 := by rw [b3_some c5, c3]; rfl
            rw [wrg_c hb0 (by rw [hb3]; rfl) c4, hb3, c5]; exact ⟨rfl, rfl⟩
        · rw [if_neg c4]
          refine ⟨fun _ => ⟨_, _, hw, ?_⟩, fun h0 => absurd rfl h0⟩
          rcases h01 with c5 | c5
          · have hb3 := (b3_none (Q := Q) c5).trans c3
            rw [wrg_d hb0 (by rw [hb3]; rfl) c4, hb3, c5]; exact ⟨rfl, rfl⟩
          · have hb3 : b3W P Q N n = 16 := by rw [b3_some c5, c3]; rfl
            rw [wrg_d hb0 (by rw [hb3]; rfl) c4, hb3, c5]; exact ⟨rfl, rfl⟩
      · have hw := c_isInWay (l := l) (D := D) (DA := DA) (b := b) (sz := sz) (d := d) (L := L) (cu := cu) h hp hn ha hk
        have hh := c_isHeld (l := l) (D := D) (DA := DA) (b := b) (sz := sz) (d := d) (L := L) (cu := cu) (by omega) h hp hn h8 ha hk
        rw [if_neg c3] at hh
        have c4 : b2W P Q N n = 4 := b2_04.resolve_left c3
        refine ⟨σ, v_Hold_faults_0 _ ?_, fr56_refl⟩
        rw [hcl]
        refine ⟨hin0, _, _, hi, ?_⟩
        rw [hr1, hk.1, hk.2.1, hk.2.2, mk_andN, mk_andN, zi_eq0 (by omega) (by omega), c2]
        refine ⟨fun _ => ⟨fun _ => ⟨_, _, hh, fun _ => ⟨_, _, hw, ?_⟩, fun h0 => absurd rfl h0⟩, fun h0 => absurd rfl h0⟩, fun h0 => absurd (by omega) h0⟩
        have hb0 : b1W P Q N n = 0 := hb1.trans c2
        rcases h01 with c5 | c5
        · have hb3 := (b3_none (Q := Q) c5).trans c4
          rw [wrg_b hb0 (by rw [hb3]; decide), hb3, c5]; exact ⟨rfl, rfl⟩
        · have hb3 : b3W P Q N n = 20 := by rw [b3_some c5, c4]; rfl
          rw [wrg_b hb0 (by rw [hb3]; decide), hb3, c5]; exact ⟨rfl, rfl⟩
    · have c3 : outB P Q n = 1 := ho.resolve_left c2
      refine ⟨σ, v_Hold_faults_0 _ ?_, fr56_refl⟩
      rw [hcl]
      refine ⟨hin0, _, _, hi, ?_⟩
      rw [hr1, hk.1, hk.2.1, hk.2.2, mk_andN, mk_andN, zi_eq0 (by omega) (by omega), c3]
      refine ⟨fun _ => ⟨fun h0 => absurd h0 (by decide), fun _ => ?_⟩, fun h0 => absurd (by omega) h0⟩
      rw [wrg_a (by rw [hb1, c3]; decide), hb1, c3]
      exact ⟨rfl, rfl⟩
  · have hb1 := b1_some (Q := Q) hN hp.2.1 hn c1
    refine ⟨σ, v_Hold_faults_0 _ ?_, fr56_refl⟩
    rw [hcl]
    refine ⟨hin0, _, _, hi, ?_⟩
    rw [hr1, hk.1, hk.2.1, hk.2.2, mk_andN, mk_andN, zi_eq0 (by omega) (by omega)]
    refine ⟨fun h0 => absurd (by omega) c1, fun _ => ?_⟩
    rcases ho with h9 | h9
    · rw [wrg_a (by rw [hb1, h9]; decide), hb1, h9]; exact ⟨fun h0 => absurd h0 (by decide), fun _ => ⟨rfl, rfl⟩⟩
    · rw [wrg_a (by rw [hb1, h9]; decide), hb1, h9]; exact ⟨fun h0 => absurd h0 (by decide), fun _ => ⟨rfl, rfl⟩⟩
/-! may a place be asked at all -/
def askd (P : Nat → Nat → Int) (N : Nat) (p x y z t : Int32) : Int32 := if 0 ≤ p.toInt ∧ p.toInt < N then (if (0 : Int32) ≤ x ∧ x ≤ 40 then (if (0 : Int32) ≤ y ∧ y ≤ 40 then (if (0 : Int32) ≤ z ∧ z ≤ 40 then (if t ≠ 0 ∧ P 6 p.toInt.toNat = 0 then -2 else if P 8 p.toInt.toNat = 0 then 0 else -4) else -2) else -2) else -2) else -2
theorem c_refusal (hd : 1 ≤ d) (h : cOK σ N P Q M) (hp : pOK N P Q) (p x y z t : Int32) : GG l D DA b sz d L cu M_B_refusal [some (.ref 1), some (.int p), some (.int x), some (.int y), some (.int z), some (.int t)] σ (some (.int (askd P N p x y z t))) σ := by
  obtain ⟨d, rfl⟩ : ∃ d', d = d' + 1 := ⟨d - 1, by omega⟩
  have hN := hp.1
  refine v_B_refusal_0 _ _ _ _ _ ⟨_, _, c_knows h hN _, ?_⟩
  unfold askd
  by_cases c1 : 0 ≤ p.toInt ∧ p.toInt < N
  · rw [if_pos c1, if_pos c1]
    refine ⟨fun h0 => absurd h0 (by decide), fun _ => ⟨_, _, c_within _ _ _, ?_⟩⟩
    by_cases c2 : (0 : Int32) ≤ x ∧ x ≤ 40
    · rw [if_pos c2, if_pos c2]
      refine ⟨fun h0 => absurd h0 (by decide), fun _ => ⟨_, _, c_within _ _ _, ?_⟩⟩
      by_cases c3 : (0 : Int32) ≤ y ∧ y ≤ 40
      · rw [if_pos c3, if_pos c3]
        refine ⟨fun h0 => absurd h0 (by decide), fun _ => ⟨_, _, c_within _ _ _, ?_⟩⟩
        by_cases c4 : (0 : Int32) ≤ z ∧ z ≤ 40
        · rw [if_pos c4, if_pos c4]
          refine ⟨fun h0 => absurd h0 (by decide), fun _ => ?_⟩
          obtain ⟨n, hn, rfl⟩ := bno c1
          have hb := hp.2.1 n hn
          have hn9 : (zi (n : Int)).toInt.toNat = n := by rw [zi_toInt (by omega) (by omega)]; rfl
          rw [hn9, show Int32.toNatClampNeg (zi n) = n from zi_cl (by omega), (h.row (n := n) (by omega)).2.2.2.2.2.2.1, zi_eq0 (by unfold bOK at hb; omega) (by unfold bOK at hb; omega), zi_lt0 (by omega) (by omega)]
          have hh : (if zi (hs P n) = 0 then (0 : Int32) else -4) = if P 8 n = 0 then 0 else -4 := by
            unfold hs
            by_cases e : P 8 n = 0
            · rw [if_pos e, if_pos e]; rfl
            · rw [if_neg e, if_neg e]; rfl
          refine ⟨fun c5 => ⟨_, _, c_has h hN hn, ?_⟩, fun c5 => ⟨by omega, fun c6 => ?_, fun c6 => ⟨_, _, c_has h hN hn, ?_⟩⟩⟩
          · rw [hh, if_neg (fun z => z.1 c5)]; exact ⟨rfl, rfl⟩
          · rw [if_pos ⟨c5, c6⟩]; exact ⟨rfl, rfl⟩
          · rw [hh, if_neg (fun z => c6 z.2)]; exact ⟨rfl, rfl⟩
        · rw [if_neg c4, if_neg c4]; exact ⟨fun _ => (by first | exact ⟨rfl, rfl⟩ | exact ⟨trivial, trivial⟩ | exact ⟨trivial, rfl⟩ | exact ⟨rfl, trivial⟩ | trivial), fun h0 => absurd rfl h0⟩
      · rw [if_neg c3, if_neg c3]; exact ⟨fun _ => (by first | exact ⟨rfl, rfl⟩ | exact ⟨trivial, trivial⟩ | exact ⟨trivial, rfl⟩ | exact ⟨rfl, trivial⟩ | trivial), fun h0 => absurd rfl h0⟩
    · rw [if_neg c2, if_neg c2]; exact ⟨fun _ => (by first | exact ⟨rfl, rfl⟩ | exact ⟨trivial, trivial⟩ | exact ⟨trivial, rfl⟩ | exact ⟨rfl, trivial⟩ | trivial), fun h0 => absurd rfl h0⟩
  · rw [if_neg c1, if_neg c1]; exact ⟨fun _ => (by first | exact ⟨rfl, rfl⟩ | exact ⟨trivial, trivial⟩ | exact ⟨trivial, rfl⟩ | exact ⟨rfl, trivial⟩ | trivial), fun h0 => absurd rfl h0⟩
theorem c_R_asked (hd : 2 ≤ d) (h : mOK σ N P Q) (hp : pOK N P Q) (p x y z t : Int32) : GG l D DA b sz d L cu M_R_asked [some (.ref 47), some (.int p), some (.int x), some (.int y), some (.int z), some (.int t)] σ (some (.int (askd P N p x y z t))) σ := by
  obtain ⟨d, rfl⟩ : ∃ d', d = d' + 1 := ⟨d - 1, by omega⟩
  have hN := hp.1
  refine v_R_asked_0 _ _ _ _ _ ⟨_, _, c_R_isBox (by omega) h hp _, ?_⟩
  unfold askd
  by_cases c1 : 0 ≤ p.toInt ∧ p.toInt < N
  · rw [if_pos c1, if_pos c1]
    refine ⟨fun h0 => absurd h0 (by decide), fun _ => ⟨_, _, c_R_in _ _ _, ?_⟩⟩
    by_cases c2 : (0 : Int32) ≤ x ∧ x ≤ 40
    · rw [if_pos c2, if_pos c2]
      refine ⟨fun h0 => absurd h0 (by decide), fun _ => ⟨_, _, c_R_in _ _ _, ?_⟩⟩
      by_cases c3 : (0 : Int32) ≤ y ∧ y ≤ 40
      · rw [if_pos c3, if_pos c3]
        refine ⟨fun h0 => absurd h0 (by decide), fun _ => ⟨_, _, c_R_in _ _ _, ?_⟩⟩
        by_cases c4 : (0 : Int32) ≤ z ∧ z ≤ 40
        · rw [if_pos c4, if_pos c4]
          refine ⟨fun h0 => absurd h0 (by decide), fun _ => ?_⟩
          obtain ⟨n, hn, rfl⟩ := bno c1
          have hn20 : n < 20 := by omega
          have hb := hp.2.1 n hn
          obtain ⟨⟨e0, e1, e2, e3, e4, e5, e6⟩, e7, e8, e9, e10, e11, e12⟩ := h.row hn20
          have hn9 : (zi (n : Int)).toInt.toNat = n := by rw [zi_toInt (by omega) (by omega)]; rfl
          have h86 : zi (P 6 n) = 0 ↔ P 6 n = 0 := zi_eq0 (by unfold bOK at hb; omega) (by unfold bOK at hb; omega)
          have h88 : zi (P 8 n) = 0 ↔ P 8 n = 0 := zi_eq0 (by unfold bOK at hb; omega) (by unfold bOK at hb; omega)
          rw [hn9, show Int32.toNatClampNeg (zi n) = n from zi_cl (by omega), e6, e8, zi_lt0 (by omega) (by omega)]
          simp only [h86, h88]
          refine ⟨fun c5 => ⟨by omega, ?_⟩, fun c5 => ⟨by omega, fun c6 => ?_, fun c6 => ⟨by omega, ?_⟩⟩⟩
          · rw [if_neg (fun z => z.1 c5)]; exact (by first | exact ⟨rfl, rfl⟩ | exact ⟨trivial, trivial⟩ | exact ⟨trivial, rfl⟩ | exact ⟨rfl, trivial⟩ | trivial)
          · rw [if_pos ⟨c5, c6⟩]; exact (by first | exact ⟨rfl, rfl⟩ | exact ⟨trivial, trivial⟩ | exact ⟨trivial, rfl⟩ | exact ⟨rfl, trivial⟩ | trivial)
          · rw [if_neg (fun z => c6 z.2)]; exact (by first | exact ⟨rfl, rfl⟩ | exact ⟨trivial, trivial⟩ | exact ⟨trivial, rfl⟩ | exact ⟨rfl, trivial⟩ | trivial)
        · rw [if_neg c4, if_neg c4]; exact ⟨fun _ => (by first | exact ⟨rfl, rfl⟩ | exact ⟨trivial, trivial⟩ | exact ⟨trivial, rfl⟩ | exact ⟨rfl, trivial⟩ | trivial), fun h0 => absurd rfl h0⟩
      · rw [if_neg c3, if_neg c3]; exact ⟨fun _ => (by first | exact ⟨rfl, rfl⟩ | exact ⟨trivial, trivial⟩ | exact ⟨trivial, rfl⟩ | exact ⟨rfl, trivial⟩ | trivial), fun h0 => absurd rfl h0⟩
    · rw [if_neg c2, if_neg c2]; exact ⟨fun _ => (by first | exact ⟨rfl, rfl⟩ | exact ⟨trivial, trivial⟩ | exact ⟨trivial, rfl⟩ | exact ⟨rfl, trivial⟩ | trivial), fun h0 => absurd rfl h0⟩
  · rw [if_neg c1, if_neg c1]; exact ⟨fun _ => (by first | exact ⟨rfl, rfl⟩ | exact ⟨trivial, trivial⟩ | exact ⟨trivial, rfl⟩ | exact ⟨rfl, trivial⟩ | trivial), fun h0 => absurd rfl h0⟩
theorem askd_0 {p x y z t : Int32} (h : askd P N p x y z t = 0) : ∃ n : Nat, n < N ∧ p = zi n ∧ P 8 n = 0 ∧ (0 ≤ x.toInt ∧ x.toInt ≤ 40) ∧ (0 ≤ y.toInt ∧ y.toInt ≤ 40) ∧ (0 ≤ z.toInt ∧ z.toInt ≤ 40) := by
  unfold askd at h
  by_cases c1 : 0 ≤ p.toInt ∧ p.toInt < N
  · rw [if_pos c1] at h
    by_cases c2 : (0 : Int32) ≤ x ∧ x ≤ 40
    · rw [if_pos c2] at h
      by_cases c3 : (0 : Int32) ≤ y ∧ y ≤ 40
      · rw [if_pos c3] at h
        by_cases c4 : (0 : Int32) ≤ z ∧ z ≤ 40
        · rw [if_pos c4] at h
          by_cases c5 : t ≠ 0 ∧ P 6 p.toInt.toNat = 0
          · rw [if_pos c5] at h; exact absurd h (by decide)
          · rw [if_neg c5] at h
            by_cases c6 : P 8 p.toInt.toNat = 0
            · exact ⟨p.toInt.toNat, by omega, by rw [show ((p.toInt.toNat : Nat) : Int) = p.toInt by omega]; exact zi_of p, c6, le_i (lo := 0) (hi := 40) (by decide) (by decide) (by decide) c2, le_i (lo := 0) (hi := 40) (by decide) (by decide) (by decide) c3, le_i (lo := 0) (hi := 40) (by decide) (by decide) (by decide) c4⟩
            · rw [if_neg c6] at h; exact absurd h (by decide)
        · rw [if_neg c4] at h; exact absurd h (by decide)
      · rw [if_neg c3] at h; exact absurd h (by decide)
    · rw [if_neg c2] at h; exact absurd h (by decide)
  · rw [if_neg c1] at h; exact absurd h (by decide)
end CF2
