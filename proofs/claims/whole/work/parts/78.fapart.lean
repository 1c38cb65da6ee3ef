/-! TRUCKS: who is apart from whom, as bits; the least sizes measured -/
def amF (P : Nat → Nat → Int) (Q : Nat → Int) (S n m a : Nat) : Nat := if m = n then a else if S.testBit n = false then a else if S.testBit m = false then a else if apr P Q n m then a ||| 2 ^ m else a
def amk (P : Nat → Nat → Int) (Q : Nat → Int) (N S n : Nat) : Nat := fo (amF P Q S n) 0 N
section FAP
variable {l : Launch} {D : va_G} {DA : Nat → ClassId} {b sz d L : Nat} {cu : Bool} {σ σ' : Nat → Nat → Int32} {N M S : Nat} {P : Nat → Nat → Int} {Q : Nat → Int}
theorem amk_lt {n k : Nat} (hk : k ≤ 20) : fo (amF P Q S n) 0 k < 2 ^ 20 ∧ (fo (amF P Q S n) 0 k).testBit n = false := by
  refine fo_inv (fun _ (a : Nat) => a < 2 ^ 20 ∧ a.testBit n = false) ⟨by decide, Nat.zero_testBit n⟩ (fun i a hi ha => ?_)
  unfold amF
  by_cases c1 : i = n
  · rw [if_pos c1]; exact ha
  · rw [if_neg c1]
    repeat' split
    all_goals first | exact ha | skip
    refine ⟨mk_lt ha.1 (by omega), ?_⟩
    rw [mk_set, ha.2, Bool.false_or]
    exact decide_eq_false c1
theorem ll_bd (hp : pOK N P Q) {n : Nat} (hn : n < N) : (1 ≤ ll P Q n ∧ ll P Q n ≤ 12) ∧ (1 ≤ lw P Q n ∧ lw P Q n ≤ 12) := by
  have hb := hp.2.1 n hn
  unfold bOK at hb
  unfold ll lw
  constructor
  · repeat' split
    all_goals omega
  · repeat' split
    all_goals omega
theorem c_areApart (h : cOK σ N P Q M) (hp : pOK N P Q) {n m : Nat} (hn : n < N) (hm : m < N) (en : σ 44 n = zi (ll P Q n) ∧ σ 45 n = zi (lw P Q n)) (em : σ 44 m = zi (ll P Q m) ∧ σ 45 m = zi (lw P Q m)) : GG l D DA b sz d L cu M_Bounds_areApart [some (.ref 43), some (.ref 2), some (.int (zi n)), some (.int (zi m)), none] σ (some (.int (if apr P Q n m then 1 else 0))) σ := by
  have hN := hp.1
  obtain ⟨g0, g1, g2, g3, g4, g5, g6, g7, g8⟩ := h.q
  have rn := (h.row (n := n) (by omega)).2.2.1
  have rm := (h.row (n := m) (by omega)).2.2.1
  have hb := hp.2.1 n hn
  have hb2 := hp.2.1 m hm
  have hq := hp.2.2.2
  have b1 := ll_bd hp hn
  have b2 := ll_bd hp hm
  unfold bOK at hb hb2
  unfold qOK at hq
  refine v_Bounds_areApart_0 _ _ ?_
  rw [show Int32.toNatClampNeg (zi n) = n from zi_cl (by omega), show Int32.toNatClampNeg (zi m) = m from zi_cl (by omega), en.1, en.2, em.1, em.2, rn, rm, g0, g1, g2, zi_add, zi_add, zi_add, zi_lt0 (by omega) (by omega), zi_lt0 (by omega) (by omega)]
  have i0 : zi (ll P Q n + ll P Q m) ≤ zi (Q 0) ↔ ll P Q n + ll P Q m ≤ Q 0 := zi_le (by omega) (by omega) (by omega) (by omega)
  have i1 : zi (lw P Q n + lw P Q m) ≤ zi (Q 1) ↔ lw P Q n + lw P Q m ≤ Q 1 := zi_le (by omega) (by omega) (by omega) (by omega)
  have i2 : zi (P 2 n + P 2 m) ≤ zi (Q 2) ↔ P 2 n + P 2 m ≤ Q 2 := zi_le (by omega) (by omega) (by omega) (by omega)
  refine ⟨by omega, by omega, fun c => ?_, fun c => ⟨by omega, by omega, fun c1 => ?_, fun c1 => ⟨by omega, by omega, ?_⟩⟩⟩
  · rw [if_neg (show ¬ apr P Q n m from fun z => absurd (i0.mp c) (by have := z.1; omega))]; exact (by first | exact ⟨rfl, rfl⟩ | exact ⟨trivial, trivial⟩ | exact ⟨trivial, rfl⟩ | exact ⟨rfl, trivial⟩ | trivial)
  · rw [if_neg (show ¬ apr P Q n m from fun z => absurd (i1.mp c1) (by have := z.2.1; omega))]; exact (by first | exact ⟨rfl, rfl⟩ | exact ⟨trivial, trivial⟩ | exact ⟨trivial, rfl⟩ | exact ⟨rfl, trivial⟩ | trivial)
  · by_cases c2 : P 2 n + P 2 m ≤ Q 2
    · rw [if_pos (i2.mpr c2), if_neg (show ¬ apr P Q n m from fun z => absurd c2 (by have := z.2.2; omega))]; exact ⟨Or.inl rfl, rfl, rfl⟩
    · rw [if_neg (fun z => c2 (i2.mp z)), if_pos (show apr P Q n m from ⟨Int.not_le.mp (fun z => c (i0.mpr z)), Int.not_le.mp (fun z => c1 (i1.mpr z)), by omega⟩)]; exact ⟨Or.inr rfl, rfl, rfl⟩
/-- the least sizes of the set's boxes stand in the cells -/
def meas (σ : Nat → Nat → Int32) (P : Nat → Nat → Int) (Q : Nat → Int) (N S : Nat) : Prop := ∀ n, n < N → S.testBit n = true → σ 44 n = zi (ll P Q n) ∧ σ 45 n = zi (lw P Q n)
theorem c_findApart (hd : 1 ≤ d) (h : cOK σ N P Q M) (hp : pOK N P Q) (hS : S < 2 ^ 20) (hm : meas σ P Q N S) : ∃ σ', GG l D DA b sz d L cu M_Bounds_findApart [some (.ref 43), some (.ref 2), some (.int (zi (S : Int))), none, none] σ none σ' ∧ (∀ n, n < N → σ' 46 n = zi (amk P Q N S n : Int)) ∧ ∀ c, c ≠ 46 → σ' c = σ c := by
  obtain ⟨d, rfl⟩ : ∃ d', d = d' + 1 := ⟨d - 1, by omega⟩
  have hN := hp.1
  have hc1 : ∀ {σ1 : Nat → Nat → Int32}, (∀ c, c ≠ 46 → σ1 c = σ c) → cOK σ1 N P Q M := fun f => cOK_fr h (by rw [f 2 (by omega)]) (by rw [f 2 (by omega)]) (fun c hc => f c (by omega)) hN
  have key : ∀ (k i : Nat) (σ1 : Nat → Nat → Int32), i + k = N → (∀ n, n < i → σ1 46 n = zi (amk P Q N S n : Int)) → (∀ c, c ≠ 46 → σ1 c = σ c) → ∃ σ', am_Go l D DA b sz (d + 1) M_Bounds_findApart (2, [some (.ref 43), some (.ref 2), some (.int (zi (S : Int))), some (.int (zi i)), none], [], (am_TT cu L, am_RR cu, σ1)) none (am_TT cu L, am_RR cu, σ') ∧ (∀ n, n < N → σ' 46 n = zi (amk P Q N S n : Int)) ∧ ∀ c, c ≠ 46 → σ' c = σ c := by
    intro k
    induction k with
    | zero =>
      intro i σ1 hi hv hf
      have e : i = N := by omega
      subst e
      refine ⟨σ1, v_Bounds_findApart_2 _ _ ?_, hv, hf⟩
      rw [(hc1 hf).1]
      exact ⟨fun _ => (by first | exact ⟨rfl, rfl⟩ | exact ⟨trivial, trivial⟩ | exact ⟨trivial, rfl⟩ | exact ⟨rfl, trivial⟩ | trivial), fun h0 => absurd (Int32.le_refl _) h0⟩
    | succ k ih =>
      intro i σ1 hi hv hf
      have hiN : i < N := by omega
      have hcl : Int32.toNatClampNeg (zi i) = i := zi_cl (by omega)
      have ni : ¬ (zi (i : Int) < 0 ∨ 20 ≤ i) := by rw [zi_lt0 (by omega) (by omega)]; omega
      have inner : ∀ (k2 j : Nat) (σ2 : Nat → Nat → Int32), j + k2 = N → σ2 46 i = zi ((fo (amF P Q S i) 0 j : Nat) : Int) → (∀ n, n < i → σ2 46 n = zi (amk P Q N S n : Int)) → (∀ c, c ≠ 46 → σ2 c = σ c) → ∃ σ', am_Go l D DA b sz (d + 1) M_Bounds_findApart (20, [some (.ref 43), some (.ref 2), some (.int (zi (S : Int))), some (.int (zi i)), some (.int (zi j))], [], (am_TT cu L, am_RR cu, σ2)) none (am_TT cu L, am_RR cu, σ') ∧ (∀ n, n < N → σ' 46 n = zi (amk P Q N S n : Int)) ∧ ∀ c, c ≠ 46 → σ' c = σ c := by
        intro k2
        induction k2 with
        | zero =>
          intro j σ2 hj hv2 hv3 hf2
          have e : j = N := by omega
          subst e
          obtain ⟨σ', g, p⟩ := ih (i + 1) σ2 (by omega) (fun n hn => by
            by_cases e : n = i
            · rw [e]; exact hv2
            · exact hv3 n (by omega)) hf2
          refine ⟨σ', v_Bounds_findApart_20 _ _ _ ?_, p⟩
          rw [(hc1 hf2).1]
          exact ⟨fun _ => by rw [zi_s1]; exact g, fun h0 => absurd (Int32.le_refl _) h0⟩
        | succ k2 ih2 =>
          intro j σ2 hj hv2 hv3 hf2
          have hjN : j < N := by omega
          have hnle : ¬ zi (N : Int) ≤ zi (j : Int) := by rw [zi_le (by omega) (by omega) (by omega) (by omega)]; omega
          have ih3 := ih2 (j + 1)
          have q0 : fo (amF P Q S i) 0 (j + 1) = amF P Q S i j (fo (amF P Q S i) 0 j) := rfl
          rw [q0] at ih3
          have ijq : zi (j : Int) = zi (i : Int) ↔ j = i := by rw [zi_eq (by omega) (by omega) (by omega) (by omega)]; omega
          have skip : amF P Q S i j (fo (amF P Q S i) 0 j) = fo (amF P Q S i) 0 j → ∃ σ', am_Go l D DA b sz (d + 1) M_Bounds_findApart (20, [some (.ref 43), some (.ref 2), some (.int (zi (S : Int))), some (.int (zi i)), some (.int (zi j + 1))], [], (am_TT cu L, am_RR cu, σ2)) none (am_TT cu L, am_RR cu, σ') ∧ (∀ n, n < N → σ' 46 n = zi (amk P Q N S n : Int)) ∧ ∀ c, c ≠ 46 → σ' c = σ c := by
            intro e
            rw [e] at ih3
            rw [zi_s1]
            exact ih3 σ2 (by omega) hv2 hv3 hf2
          by_cases c0 : j = i
          · obtain ⟨σ', g, p⟩ := skip (by unfold amF; rw [if_pos c0])
            refine ⟨σ', v_Bounds_findApart_20 _ _ _ ?_, p⟩
            rw [(hc1 hf2).1]
            exact ⟨fun h0 => absurd h0 hnle, fun _ => ⟨fun _ => g, fun h0 => absurd (ijq.mpr c0) h0⟩⟩
          · by_cases c1 : S.testBit i = false
            · obtain ⟨σ', g, p⟩ := skip (by unfold amF; rw [if_neg c0, if_pos c1])
              refine ⟨σ', v_Bounds_findApart_20 _ _ _ ?_, p⟩
              rw [(hc1 hf2).1, mk_bit0 (by omega) (by omega)]
              exact ⟨fun h0 => absurd h0 hnle, fun _ => ⟨fun h0 => absurd (ijq.mp h0) c0, fun _ => ⟨fun _ => g, fun h0 => absurd c1 h0⟩⟩⟩
            · by_cases c2 : S.testBit j = false
              · obtain ⟨σ', g, p⟩ := skip (by unfold amF; rw [if_neg c0, if_neg c1, if_pos c2])
                refine ⟨σ', v_Bounds_findApart_20 _ _ _ ?_, p⟩
                rw [(hc1 hf2).1, mk_bit0 (by omega) (by omega), mk_bit0 (by omega) (by omega)]
                exact ⟨fun h0 => absurd h0 hnle, fun _ => ⟨fun h0 => absurd (ijq.mp h0) c0, fun _ => ⟨fun h0 => absurd h0 c1, fun _ => ⟨fun _ => g, fun h0 => absurd c2 h0⟩⟩⟩⟩
              · have b1 : S.testBit i = true := by cases h9 : S.testBit i; exact absurd h9 c1; rfl
                have b2 : S.testBit j = true := by cases h9 : S.testBit j; exact absurd h9 c2; rfl
                have ga := c_areApart (l := l) (D := D) (DA := DA) (b := b) (sz := sz) (d := d) (L := L) (cu := cu) (hc1 hf2) hp hiN hjN (by rw [hf2 44 (by omega), hf2 45 (by omega)]; exact hm i hiN b1) (by rw [hf2 44 (by omega), hf2 45 (by omega)]; exact hm j hjN b2)
                by_cases c3 : apr P Q i j
                · rw [if_pos c3] at ga
                  have ea : amF P Q S i j (fo (amF P Q S i) 0 j) = fo (amF P Q S i) 0 j ||| 2 ^ j := by unfold amF; rw [if_neg c0, if_neg c1, if_neg c2, if_pos c3]
                  rw [ea] at ih3
                  obtain ⟨σ', g, p⟩ := ih3 (am_us σ2 46 i (zi ((fo (amF P Q S i) 0 j ||| 2 ^ j : Nat) : Int))) (by omega) (by rw [am_us_s]) (fun n hn => by rw [am_us_k (by omega)]; exact hv3 n hn) (fun c hc => by rw [am_us_ne hc]; exact hf2 c hc)
                  refine ⟨σ', v_Bounds_findApart_20 _ _ _ ?_, p⟩
                  rw [(hc1 hf2).1, mk_bit0 (by omega) (by omega), mk_bit0 (by omega) (by omega)]
                  refine ⟨fun h0 => absurd h0 hnle, fun _ => ⟨fun h0 => absurd (ijq.mp h0) c0, fun _ => ⟨fun h0 => absurd h0 c1, fun _ => ⟨fun h0 => absurd h0 c2, fun _ => ⟨_, _, ga, fun h0 => absurd h0 (by decide), fun _ => ?_⟩⟩⟩⟩⟩
                  rw [hcl, hv2, mk_shl (by omega), mk_or, zi_s1]
                  exact ⟨ni, ni, g⟩
                · rw [if_neg c3] at ga
                  obtain ⟨σ', g, p⟩ := skip (by unfold amF; rw [if_neg c0, if_neg c1, if_neg c2, if_neg c3])
                  refine ⟨σ', v_Bounds_findApart_20 _ _ _ ?_, p⟩
                  rw [(hc1 hf2).1, mk_bit0 (by omega) (by omega), mk_bit0 (by omega) (by omega)]
                  exact ⟨fun h0 => absurd h0 hnle, fun _ => ⟨fun h0 => absurd (ijq.mp h0) c0, fun _ => ⟨fun h0 => absurd h0 c1, fun _ => ⟨fun h0 => absurd h0 c2, fun _ => ⟨_, _, ga, fun _ => g, fun h0 => absurd rfl h0⟩⟩⟩⟩⟩
      obtain ⟨σ', g, p⟩ := inner N 0 (am_us σ1 46 i 0) (by omega) (by rw [am_us_s]; rfl) (fun n hn => by rw [am_us_k (by omega)]; exact hv n hn) (fun c hc => by rw [am_us_ne hc]; exact hf c hc)
      refine ⟨σ', v_Bounds_findApart_2 _ _ ?_, p⟩
      rw [(hc1 hf).1, hcl, zi_le (by omega) (by omega) (by omega) (by omega)]
      exact ⟨fun h0 => absurd h0 (by omega), fun _ => ⟨ni, g⟩⟩
  obtain ⟨σ', g, p⟩ := key N 0 σ (by omega) (fun n hn => absurd hn (by omega)) (fun _ _ => rfl)
  exact ⟨σ', v_Bounds_findApart_0 _ g, p⟩
/-- the same of the reference, in trucks -/
theorem c_R_apart (hd : 2 ≤ d) (h : mOK σ N P Q) (hp : pOK N P Q) (hS : S < 2 ^ 20) (hft : ∀ n, n < N → S.testBit n = true → f0 P Q n ∨ f1 P Q n) {V : Int32} {r : Option Value} {Post : (Nat → Nat → Int32) → Prop}
    (G : ∀ σ1, (∀ n, n < N → σ1 68 n = zi (amk P Q N S n : Int)) → (∀ c, c ≠ 68 → σ1 c = σ c) → ∃ σ', am_Go l D DA b sz d M_R_trucks (86, [some (.ref 47), some (.int (zi (S : Int))), some (.int V), some (.int (zi N)), none], [], (am_TT cu L, am_RR cu, σ1)) r (am_TT cu L, am_RR cu, σ') ∧ Post σ') :
    ∃ σ', am_Go l D DA b sz d M_R_trucks (86, [some (.ref 47), some (.int (zi (S : Int))), some (.int V), some (.int 0), none], [], (am_TT cu L, am_RR cu, σ)) r (am_TT cu L, am_RR cu, σ') ∧ Post σ' := by
  obtain ⟨d, rfl⟩ : ∃ d', d = d' + 1 := ⟨d - 1, by omega⟩
  have hN := hp.1
  have hm1 : ∀ {σ1 : Nat → Nat → Int32}, (∀ c, c ≠ 68 → σ1 c = σ c) → mOK σ1 N P Q := fun f => mOK_fr h (fun c _ _ => f c (by omega)) (fun k _ => by rw [f 47 (by omega)])
  have key : ∀ (k i : Nat) (σ1 : Nat → Nat → Int32), i + k = N → (∀ n, n < i → σ1 68 n = zi (amk P Q N S n : Int)) → (∀ c, c ≠ 68 → σ1 c = σ c) → ∃ σ', am_Go l D DA b sz (d + 1) M_R_trucks (86, [some (.ref 47), some (.int (zi (S : Int))), some (.int V), some (.int (zi i)), none], [], (am_TT cu L, am_RR cu, σ1)) r (am_TT cu L, am_RR cu, σ') ∧ Post σ' := by
    intro k
    induction k with
    | zero =>
      intro i σ1 hi hv hf
      have e : i = N := by omega
      subst e
      exact G σ1 hv hf
    | succ k ih =>
      intro i σ1 hi hv hf
      have hiN : i < N := by omega
      have hcl : Int32.toNatClampNeg (zi i) = i := zi_cl (by omega)
      have ni : ¬ (zi (i : Int) < 0 ∨ 20 ≤ i) := by rw [zi_lt0 (by omega) (by omega)]; omega
      have inner : ∀ (k2 j : Nat) (σ2 : Nat → Nat → Int32), j + k2 = N → σ2 68 i = zi ((fo (amF P Q S i) 0 j : Nat) : Int) → (∀ n, n < i → σ2 68 n = zi (amk P Q N S n : Int)) → (∀ c, c ≠ 68 → σ2 c = σ c) → ∃ σ', am_Go l D DA b sz (d + 1) M_R_trucks (104, [some (.ref 47), some (.int (zi (S : Int))), some (.int V), some (.int (zi i)), some (.int (zi j))], [], (am_TT cu L, am_RR cu, σ2)) r (am_TT cu L, am_RR cu, σ') ∧ Post σ' := by
        intro k2
        induction k2 with
        | zero =>
          intro j σ2 hj hv2 hv3 hf2
          have e : j = N := by omega
          subst e
          obtain ⟨σ', g, p⟩ := ih (i + 1) σ2 (by omega) (fun n hn => by
            by_cases e : n = i
            · rw [e]; exact hv2
            · exact hv3 n (by omega)) hf2
          refine ⟨σ', v_R_trucks_104 _ _ _ _ ?_, p⟩
          rw [(hm1 hf2).1]
          exact ⟨fun _ => by rw [zi_s1]; exact g, fun h0 => absurd (Int32.le_refl _) h0⟩
        | succ k2 ih2 =>
          intro j σ2 hj hv2 hv3 hf2
          have hjN : j < N := by omega
          have hnle : ¬ zi (N : Int) ≤ zi (j : Int) := by rw [zi_le (by omega) (by omega) (by omega) (by omega)]; omega
          have ih3 := ih2 (j + 1)
          have q0 : fo (amF P Q S i) 0 (j + 1) = amF P Q S i j (fo (amF P Q S i) 0 j) := rfl
          rw [q0] at ih3
          have ijq : zi (i : Int) = zi (j : Int) ↔ j = i := by rw [zi_eq (by omega) (by omega) (by omega) (by omega)]; omega
          have skip : amF P Q S i j (fo (amF P Q S i) 0 j) = fo (amF P Q S i) 0 j → ∃ σ', am_Go l D DA b sz (d + 1) M_R_trucks (104, [some (.ref 47), some (.int (zi (S : Int))), some (.int V), some (.int (zi i)), some (.int (zi j + 1))], [], (am_TT cu L, am_RR cu, σ2)) r (am_TT cu L, am_RR cu, σ') ∧ Post σ' := by
            intro e
            rw [e] at ih3
            rw [zi_s1]
            exact ih3 σ2 (by omega) hv2 hv3 hf2
          by_cases c0 : j = i
          · obtain ⟨σ', g, p⟩ := skip (by unfold amF; rw [if_pos c0])
            refine ⟨σ', v_R_trucks_104 _ _ _ _ ?_, p⟩
            rw [(hm1 hf2).1]
            exact ⟨fun h0 => absurd h0 hnle, fun _ => ⟨fun _ => g, fun h0 => absurd (ijq.mpr c0) h0⟩⟩
          · by_cases c1 : S.testBit i = false
            · obtain ⟨σ', g, p⟩ := skip (by unfold amF; rw [if_neg c0, if_pos c1])
              refine ⟨σ', v_R_trucks_104 _ _ _ _ ?_, p⟩
              rw [(hm1 hf2).1, mk_bit1 (by omega) (by omega), mk_bit1 (by omega) (by omega)]
              exact ⟨fun h0 => absurd h0 hnle, fun _ => ⟨fun h0 => absurd (ijq.mp h0) c0, fun _ => ⟨fun h0 => absurd (h0.symm.trans c1) (by decide), fun _ => g⟩⟩⟩
            · have b1 : S.testBit i = true := by cases h9 : S.testBit i; exact absurd h9 c1; rfl
              by_cases c2 : S.testBit j = false
              · obtain ⟨σ', g, p⟩ := skip (by unfold amF; rw [if_neg c0, if_neg c1, if_pos c2])
                refine ⟨σ', v_R_trucks_104 _ _ _ _ ?_, p⟩
                rw [(hm1 hf2).1, mk_bit1 (by omega) (by omega), mk_bit1 (by omega) (by omega)]
                exact ⟨fun h0 => absurd h0 hnle, fun _ => ⟨fun h0 => absurd (ijq.mp h0) c0, fun _ => ⟨fun _ => ⟨fun h0 => absurd (h0.symm.trans c2) (by decide), fun _ => g⟩, fun h0 => absurd b1 h0⟩⟩⟩
              · have b2 : S.testBit j = true := by cases h9 : S.testBit j; exact absurd h9 c2; rfl
                have ga := c_R_isApart (l := l) (D := D) (DA := DA) (b := b) (sz := sz) (d := d) (L := L) (cu := cu) (by omega) (hm1 hf2) hp hiN hjN (hft i hiN b1) (hft j hjN b2)
                by_cases c3 : apr P Q i j
                · rw [if_pos c3] at ga
                  have ea : amF P Q S i j (fo (amF P Q S i) 0 j) = fo (amF P Q S i) 0 j ||| 2 ^ j := by unfold amF; rw [if_neg c0, if_neg c1, if_neg c2, if_pos c3]
                  rw [ea] at ih3
                  obtain ⟨σ', g, p⟩ := ih3 (am_us σ2 68 i (zi ((fo (amF P Q S i) 0 j ||| 2 ^ j : Nat) : Int))) (by omega) (by rw [am_us_s]) (fun n hn => by rw [am_us_k (by omega)]; exact hv3 n hn) (fun c hc => by rw [am_us_ne hc]; exact hf2 c hc)
                  refine ⟨σ', v_R_trucks_104 _ _ _ _ ?_, p⟩
                  rw [(hm1 hf2).1, mk_bit1 (by omega) (by omega), mk_bit1 (by omega) (by omega)]
                  refine ⟨fun h0 => absurd h0 hnle, fun _ => ⟨fun h0 => absurd (ijq.mp h0) c0, fun _ => ⟨fun _ => ⟨fun _ => ⟨_, _, ga, fun h0 => absurd h0 (by decide), fun _ => ?_⟩, fun h0 => absurd b2 h0⟩, fun h0 => absurd b1 h0⟩⟩⟩
                  rw [hcl, hv2, mk_shl (by omega), mk_or, zi_s1]
                  exact ⟨ni, ni, g⟩
                · rw [if_neg c3] at ga
                  obtain ⟨σ', g, p⟩ := skip (by unfold amF; rw [if_neg c0, if_neg c1, if_neg c2, if_neg c3])
                  refine ⟨σ', v_R_trucks_104 _ _ _ _ ?_, p⟩
                  rw [(hm1 hf2).1, mk_bit1 (by omega) (by omega), mk_bit1 (by omega) (by omega)]
                  exact ⟨fun h0 => absurd h0 hnle, fun _ => ⟨fun h0 => absurd (ijq.mp h0) c0, fun _ => ⟨fun _ => ⟨fun _ => ⟨_, _, ga, fun _ => g, fun h0 => absurd rfl h0⟩, fun h0 => absurd b2 h0⟩, fun h0 => absurd b1 h0⟩⟩⟩
      obtain ⟨σ', g, p⟩ := inner N 0 (am_us σ1 68 i 0) (by omega) (by rw [am_us_s]; rfl) (fun n hn => by rw [am_us_k (by omega)]; exact hv n hn) (fun c hc => by rw [am_us_ne hc]; exact hf c hc)
      refine ⟨σ', v_R_trucks_86 _ _ _ ?_, p⟩
      rw [(hm1 hf).1, hcl, zi_le (by omega) (by omega) (by omega) (by omega)]
      exact ⟨fun h0 => absurd h0 (by omega), fun _ => ⟨ni, g⟩⟩
  exact key N 0 σ (by omega) (fun n hn => absurd hn (by omega)) (fun _ _ => rfl)
theorem c_measure (hd : 1 ≤ d) (h : cOK σ N P Q M) (hp : pOK N P Q) {n : Nat} (hn : n < N) : ∃ σ', GG l D DA b sz d L cu M_Bounds_measure [some (.ref 43), some (.ref 2), some (.int (zi n)), none, none, none] σ none σ' ∧ (σ' 44 n = zi (ll P Q n) ∧ σ' 45 n = zi (lw P Q n)) ∧ (∀ k, k ≠ n → σ' 44 k = σ 44 k ∧ σ' 45 k = σ 45 k) ∧ ∀ c, c ≠ 44 → c ≠ 45 → σ' c = σ c := by
  obtain ⟨d, rfl⟩ : ∃ d', d = d' + 1 := ⟨d - 1, by omega⟩
  have hN := hp.1
  have hcl : Int32.toNatClampNeg (zi n) = n := zi_cl (by omega)
  have nn : ¬ (zi (n : Int) < 0 ∨ 20 ≤ n) := by rw [zi_lt0 (by omega) (by omega)]; omega
  obtain ⟨r0, r1, r2, r3, r4, r5, r6, r7⟩ := h.row (n := n) (by omega)
  have hb := hp.2.1 n hn
  unfold bOK at hb
  have x0 := c_fits0 (l := l) (D := D) (DA := DA) (b := b) (sz := sz) (d := d) (L := L) (cu := cu) h hp hn
  have x1 := c_fits1 (l := l) (D := D) (DA := DA) (b := b) (sz := sz) (d := d) (L := L) (cu := cu) h hp hn
  have h4 : ∀ (τ : Nat → Nat → Int32) (k : Nat) (v : Int32) (k' : Nat), am_us τ 44 k v (19 + n) k' = τ (19 + n) k' := fun τ k v k' => am_us_c (by omega)
  have h5 : ∀ (τ : Nat → Nat → Int32) (k : Nat) (v : Int32) (k' : Nat), am_us τ 45 k v (19 + n) k' = τ (19 + n) k' := fun τ k v k' => am_us_c (by omega)
  have t0 : ((0 : Int32) = 0) = True := eq_true rfl
  have t1 : ((1 : Int32) = 0) = False := eq_false (by decide)
  have i01 : zi (P 1 n) < zi (P 0 n) ↔ P 1 n < P 0 n := zi_lt (by omega) (by omega) (by omega) (by omega)
  have fin : ∀ (u v : Int), ((am_us (am_us σ 44 n (zi u)) 45 n (zi v) 44 n = zi u ∧ am_us (am_us σ 44 n (zi u)) 45 n (zi v) 45 n = zi v) ∧ (∀ k, k ≠ n → am_us (am_us σ 44 n (zi u)) 45 n (zi v) 44 k = σ 44 k ∧ am_us (am_us σ 44 n (zi u)) 45 n (zi v) 45 k = σ 45 k) ∧ ∀ c, c ≠ 44 → c ≠ 45 → am_us (am_us σ 44 n (zi u)) 45 n (zi v) c = σ c) := fun u v => ⟨⟨by rw [am_us_c (by omega), am_us_s], by rw [am_us_s]⟩, fun k hk => ⟨by rw [am_us_k hk, am_us_k hk], by rw [am_us_k hk, am_us_k hk]⟩, fun c c1 c2 => by rw [am_us_ne c2, am_us_ne c1]⟩
  by_cases c0 : f0 P Q n
  · rw [if_pos c0] at x0
    by_cases c1 : f1 P Q n
    · rw [if_pos c1] at x1
      have el : ll P Q n = if P 1 n < P 0 n then P 1 n else P 0 n := by unfold ll; rw [if_pos c0, if_pos c1]
      have ew : lw P Q n = if P 1 n < P 0 n then P 1 n else P 0 n := by unfold lw; rw [if_pos c0, if_pos c1]
      rw [el, ew]
      refine ⟨am_us (am_us (am_us (am_us σ 44 n (zi (P 0 n))) 45 n (zi (P 1 n))) 44 n (zi (if P 1 n < P 0 n then P 1 n else P 0 n))) 45 n (zi (if P 1 n < P 0 n then P 1 n else P 0 n)), v_Bounds_measure_0 _ ?_, ⟨by rw [am_us_c (by omega), am_us_s], by rw [am_us_s]⟩, fun k hk => ⟨by rw [am_us_k hk, am_us_k hk, am_us_k hk, am_us_k hk], by rw [am_us_k hk, am_us_k hk, am_us_k hk, am_us_k hk]⟩, fun c c1 c2 => by rw [am_us_ne c2, am_us_ne c1, am_us_ne c2, am_us_ne c1]⟩
      rw [hcl]
      refine ⟨nn, _, _, x0, _, _, x1, nn, nn, fun h0 => absurd h0 (by decide), fun _ => ⟨fun h0 => absurd h0 (by decide), fun _ => ⟨nn, nn, nn, rfl, ?_⟩⟩⟩
      simp only [h4, h5, t1, if_false, r0, r1, i01, am_us_s, zi_ite]
    · rw [if_neg c1] at x1
      have el : ll P Q n = P 0 n := by unfold ll; rw [if_pos c0, if_neg c1]
      have ew : lw P Q n = P 1 n := by unfold lw; rw [if_pos c0, if_neg c1]
      rw [el, ew]
      refine ⟨_, v_Bounds_measure_0 _ ?_, fin (P 0 n) (P 1 n)⟩
      rw [hcl]
      refine ⟨nn, _, _, x0, _, _, x1, nn, nn, fun h0 => absurd h0 (by decide), fun _ => ⟨fun _ => ⟨rfl, ?_⟩, fun h0 => absurd rfl h0⟩⟩
      simp only [h4, t1, if_false, r0, r1]
  · rw [if_neg c0] at x0
    have el : ll P Q n = P 1 n := by unfold ll; rw [if_neg c0]
    have ew : lw P Q n = P 0 n := by unfold lw; rw [if_neg c0]
    rw [el, ew]
    refine ⟨_, v_Bounds_measure_0 _ ?_, fin (P 1 n) (P 0 n)⟩
    rw [hcl]
    refine ⟨nn, _, _, x0, _, _, x1, nn, nn, fun _ => ⟨rfl, ?_⟩, fun h0 => absurd rfl h0⟩
    simp only [h4, t0, if_true, r0, r1]
end FAP
