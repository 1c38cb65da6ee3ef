/-! TRUCKS: the most that are apart, of as many the least set -/
def gB (ap : Nat → Nat) : Nat → Nat → Nat → Nat × Nat → Nat × Nat
  | 0, _, taken, st => if pcn taken 20 ≤ st.1 then st else (pcn taken 20, taken)
  | n + 1, left, taken, st => if pcn taken 20 + pcn left (n + 1) ≤ st.1 then st else (if left.testBit n then gB ap n (left &&& ap n) (taken ||| 2 ^ n) (gB ap n left taken st) else gB ap n left taken st)
theorem pcn_bd (M : Nat) : ∀ k, pcn M k ≤ k
  | 0 => Nat.le_refl 0
  | k + 1 => by
    have := pcn_bd M k
    rw [pcn_s]
    split <;> omega
theorem pcn_cg {M M' : Nat} : ∀ {n : Nat}, (∀ i, i < n → M.testBit i = M'.testBit i) → pcn M n = pcn M' n
  | 0, _ => rfl
  | n + 1, h => by rw [pcn_s, pcn_s, pcn_cg (fun i hi => h i (by omega)), h n (by omega)]
theorem bit_hi {M n i : Nat} (h : M < 2 ^ n) (hi : n ≤ i) : M.testBit i = false := Nat.testBit_lt_two_pow (Nat.lt_of_lt_of_le h (Nat.pow_le_pow_right (by decide) hi))
theorem pcn_top {M n : Nat} (h : M < 2 ^ n) : ∀ k, pcn M (n + k) = pcn M n
  | 0 => rfl
  | k + 1 => by
    show pcn M (n + k + 1) = _
    rw [pcn_f (bit_hi h (by omega)), pcn_top h k]
theorem pcn_20 {M n : Nat} (h : M < 2 ^ n) (hn : n ≤ 20) : pcn M 20 = pcn M n := by
  have h9 := pcn_top h (20 - n)
  rw [show n + (20 - n) = 20 by omega] at h9
  exact h9
theorem pcn_set {M n : Nat} (h : M.testBit n = false) : ∀ k, pcn (M ||| 2 ^ n) k = pcn M k + (if n < k then 1 else 0)
  | 0 => by simp [pcn]
  | k + 1 => by
    rw [pcn_s, pcn_s, pcn_set h k, mk_set]
    by_cases c1 : n = k
    · subst c1
      simp [h]
    · have c2 : decide (n = k) = false := decide_eq_false c1
      rw [c2, Bool.or_false]
      by_cases c3 : n < k
      · rw [if_pos c3, if_pos (show n < k + 1 by omega)]; omega
      · rw [if_neg c3, if_neg (show ¬ n < k + 1 by omega)]
        omega
theorem lt_bits {M n : Nat} (h : ∀ i, n ≤ i → M.testBit i = false) : M < 2 ^ n := Nat.lt_pow_two_of_testBit M h
theorem gB_stop {ap : Nat → Nat} {n left taken : Nat} {st : Nat × Nat} (h : pcn taken 20 + pcn left n ≤ st.1) : gB ap n left taken st = st := by
  cases n with
  | zero => exact if_pos (by have : pcn left 0 = 0 := rfl; omega)
  | succ n => exact if_pos h
theorem gB_skip {ap : Nat → Nat} {n left taken : Nat} {st : Nat × Nat} (h : left.testBit n = false) : gB ap (n + 1) left taken st = gB ap n left taken st := by
  by_cases c : pcn taken 20 + pcn left (n + 1) ≤ st.1
  · rw [gB_stop c]
    rw [pcn_f h] at c
    rw [gB_stop c]
  · show (if pcn taken 20 + pcn left (n + 1) ≤ st.1 then st else _) = _
    rw [if_neg c, h]
    rfl
theorem gB_take {ap : Nat → Nat} {n left taken : Nat} {st : Nat × Nat} (c : ¬ pcn taken 20 + pcn left (n + 1) ≤ st.1) (h : left.testBit n = true) : gB ap (n + 1) left taken st = gB ap n (left &&& ap n) (taken ||| 2 ^ n) (gB ap n left taken st) := by
  show (if pcn taken 20 + pcn left (n + 1) ≤ st.1 then st else _) = _
  rw [if_neg c, h]
  rfl
theorem gB_cg {ap : Nat → Nat} : ∀ {n : Nat} {left left' taken : Nat} {st : Nat × Nat}, (∀ i, i < n → left.testBit i = left'.testBit i) → gB ap n left taken st = gB ap n left' taken st
  | 0, _, _, _, _, _ => rfl
  | n + 1, left, left', taken, st, h => by
    show (if pcn taken 20 + pcn left (n + 1) ≤ st.1 then st else (if left.testBit n then gB ap n (left &&& ap n) (taken ||| 2 ^ n) (gB ap n left taken st) else gB ap n left taken st)) = (if pcn taken 20 + pcn left' (n + 1) ≤ st.1 then st else (if left'.testBit n then gB ap n (left' &&& ap n) (taken ||| 2 ^ n) (gB ap n left' taken st) else gB ap n left' taken st))
    rw [pcn_cg h, h n (by omega), gB_cg (n := n) (left := left) (left' := left') (fun i hi => h i (by omega)), gB_cg (n := n) (left := left &&& ap n) (left' := left' &&& ap n) (fun i hi => by rw [Nat.testBit_and, Nat.testBit_and, h i (by omega)])]
theorem gB_bd {ap : Nat → Nat} : ∀ {n left taken : Nat} {st : Nat × Nat}, st.1 ≤ 20 → (gB ap n left taken st).1 ≤ 20
  | 0, _, taken, st, h => by
    show (if pcn taken 20 ≤ st.1 then st else (pcn taken 20, taken)).1 ≤ 20
    split
    · exact h
    · exact pcn_bd taken 20
  | n + 1, left, taken, st, h => by
    show (if pcn taken 20 + pcn left (n + 1) ≤ st.1 then st else (if left.testBit n then gB ap n (left &&& ap n) (taken ||| 2 ^ n) (gB ap n left taken st) else gB ap n left taken st)).1 ≤ 20
    split
    · exact h
    · split
      · exact gB_bd (gB_bd h)
      · exact gB_bd h
section BIG
variable {l : Launch} {D : va_G} {DA : Nat → ClassId} {b sz L : Nat} {cu : Bool} {N : Nat}
theorem tk_bits {taken m : Nat} (h : ∀ i, i < m + 1 → taken.testBit i = false) : ∀ i, i < m → (taken ||| 2 ^ m).testBit i = false := fun i hi => by
  rw [mk_set, h i (by omega), Bool.false_or]
  exact decide_eq_false (by omega)
/-- what a search leaves -/
def bOut (σ σ' : Nat → Nat → Int32) (c0 k0 : Nat) (x : Nat × Nat) : Prop := (σ' c0 k0 = zi (x.1 : Int) ∧ σ' c0 (k0 + 1) = zi (x.2 : Int)) ∧ (∀ c, c ≠ c0 → σ' c = σ c) ∧ ∀ k, k ≠ k0 → k ≠ k0 + 1 → σ' c0 k = σ c0 k
theorem bOut_trans {σ σ1 σ2 : Nat → Nat → Int32} {c0 k0 : Nat} {x y : Nat × Nat} (h1 : bOut σ σ1 c0 k0 x) (h2 : bOut σ1 σ2 c0 k0 y) : bOut σ σ2 c0 k0 y :=
  ⟨h2.1, fun c hc => (h2.2.1 c hc).trans (h1.2.1 c hc), fun k a e => (h2.2.2 k a e).trans (h1.2.2 k a e)⟩
theorem c_R_bigs (hN : N ≤ 20) {ap : Nat → Nat} : ∀ (n d left taken : Nat) (st : Nat × Nat) (σ : Nat → Nat → Int32), n ≤ N → n + 1 ≤ d → left < 2 ^ 20 → taken < 2 ^ 20 → (∀ i, i < n → taken.testBit i = false) → st.1 ≤ 20 → (σ 47 35 = zi (st.1 : Int) ∧ σ 47 36 = zi (st.2 : Int)) → (∀ k, k < N → σ 68 k = zi (ap k : Int)) →
    ∃ σ', GG l D DA b sz d L cu M_R_bigs [some (.ref 47), some (.int (zi ((n : Int) - 1))), some (.int (zi (taken : Int))), some (.int (zi (pcn taken 20 : Int))), some (.int (zi (left : Int))), none, none] σ none σ' ∧ bOut σ σ' 47 35 (gB ap n left taken st) := by
  intro n
  induction n with
  | zero =>
    intro d left taken st σ hn hd hl ht hb hst hv hap
    obtain ⟨d, rfl⟩ : ∃ d', d = d' + 1 := ⟨d - 1, by omega⟩
    have hpt := pcn_bd taken 20
    by_cases c : pcn taken 20 ≤ st.1
    · have e : gB ap 0 left taken st = st := if_pos c
      rw [e]
      refine ⟨σ, v_R_bigs_0 _ _ _ _ (v_R_bigs_6 _ _ _ _ _ _ ?_), hv, fun _ _ => rfl, fun _ _ _ => rfl⟩
      rw [hv.1, zi_s0, zi_lt (a := (st.1 : Int)) (by omega) (by omega) (by omega) (by omega)]
      exact ⟨fun _ => ⟨fun h0 => absurd h0 (by omega), fun _ => (by first | exact ⟨rfl, rfl⟩ | exact ⟨trivial, trivial⟩ | exact ⟨trivial, rfl⟩ | exact ⟨rfl, trivial⟩ | trivial)⟩, fun h0 => absurd (by decide) h0⟩
    · have e : gB ap 0 left taken st = (pcn taken 20, taken) := if_neg c
      rw [e]
      refine ⟨am_us (am_us σ 47 35 (zi (pcn taken 20 : Int))) 47 36 (zi (taken : Int)), v_R_bigs_0 _ _ _ _ (v_R_bigs_6 _ _ _ _ _ _ ?_), ⟨by rw [am_us_k (by omega), am_us_s], by rw [am_us_s]⟩, fun c hc => by rw [am_us_ne hc, am_us_ne hc], fun k a1 a2 => by rw [am_us_k a2, am_us_k a1]⟩
      rw [hv.1, zi_s0, zi_lt (a := (st.1 : Int)) (by omega) (by omega) (by omega) (by omega)]
      exact ⟨fun _ => ⟨fun _ => ⟨fun h0 => absurd h0 (by decide), fun _ => (by first | exact ⟨rfl, rfl⟩ | exact ⟨trivial, trivial⟩ | exact ⟨trivial, rfl⟩ | exact ⟨rfl, trivial⟩ | trivial)⟩, fun h0 => absurd h0 (by omega)⟩, fun h0 => absurd (by decide) h0⟩
  | succ m ih =>
    intro d left taken st σ hn hd hl ht hb hst hv hap
    obtain ⟨d, rfl⟩ : ∃ d', d = d' + 1 := ⟨d - 1, by omega⟩
    have hpt := pcn_bd taken 20
    have hpl := pcn_bd left (m + 1)
    have em : ((m + 1 : Nat) : Int) - 1 = m := by omega
    rw [em]
    -- the rest is counted
    have rest : ∀ {r : Option Value} {X' : am_X}, am_Go l D DA b sz (d + 1) M_R_bigs (6, [some (.ref 47), some (.int (zi (m : Int))), some (.int (zi (taken : Int))), some (.int (zi (pcn taken 20 : Int))), some (.int (zi (left : Int))), some (.int (zi (pcn left (m + 1) : Int))), some (.int (zi ((m + 1 : Nat) : Int)))], [], (am_TT cu L, am_RR cu, σ)) r X' → am_Go l D DA b sz (d + 1) M_R_bigs (0, [some (.ref 47), some (.int (zi (m : Int))), some (.int (zi (taken : Int))), some (.int (zi (pcn taken 20 : Int))), some (.int (zi (left : Int))), none, none], [], (am_TT cu L, am_RR cu, σ)) r X' := by
      intro r X' G
      refine v_R_bigs_0 _ _ _ _ ?_
      have up := up_loop (fun j => am_Go l D DA b sz (d + 1) M_R_bigs (6, [some (.ref 47), some (.int (zi (m : Int))), some (.int (zi (taken : Int))), some (.int (zi (pcn taken 20 : Int))), some (.int (zi (left : Int))), some (.int (zi (pcn left j : Int))), some (.int (zi (j : Int)))], [], (am_TT cu L, am_RR cu, σ)) r X') (m + 1) G (fun j hj g => by
        have hnlt : ¬ zi (m : Int) < zi (j : Int) := by rw [zi_lt (by omega) (by omega) (by omega) (by omega)]; omega
        refine v_R_bigs_6 _ _ _ _ _ _ ⟨fun h0 => absurd h0 hnlt, fun _ => ?_⟩
        rw [mk_bit (by omega) (by omega), zi_add, zi_s1]
        have e9 : ((pcn left (j + 1) : Nat) : Int) = (pcn left j : Int) + ((if left.testBit j then 1 else 0 : Nat) : Int) := by rw [pcn_s]; omega
        rw [← e9]
        exact g)
      exact up
    have hlt : zi (m : Int) < zi ((m + 1 : Nat) : Int) := by rw [zi_lt (by omega) (by omega) (by omega) (by omega)]; omega
    have i1 : σ 47 35 < zi (pcn taken 20 : Int) + zi (pcn left (m + 1) : Int) ↔ ¬ (pcn taken 20 + pcn left (m + 1) ≤ st.1) := by
      rw [hv.1, zi_add, zi_lt (by omega) (by omega) (by omega) (by omega)]; omega
    have hge : (0 : Int32) ≤ zi (m : Int) := by rw [zi_ge0 (by omega) (by omega)]; omega
    by_cases c : pcn taken 20 + pcn left (m + 1) ≤ st.1
    · rw [gB_stop c]
      exact ⟨σ, rest (v_R_bigs_6 _ _ _ _ _ _ ⟨fun _ => ⟨fun h0 => absurd c (i1.mp h0), fun _ => (by first | exact ⟨rfl, rfl⟩ | exact ⟨trivial, trivial⟩ | exact ⟨trivial, rfl⟩ | exact ⟨rfl, trivial⟩ | trivial)⟩, fun h0 => absurd hlt h0⟩), hv, fun _ _ => rfl, fun _ _ _ => rfl⟩
    · obtain ⟨σ1, g1, o1⟩ := ih d left taken st σ (by omega) (by omega) hl ht (fun i hi => hb i (by omega)) hst hv hap
      have hb1 := gB_bd (ap := ap) (n := m) (left := left) (taken := taken) hst
      have em1 : zi (m : Int) - 1 = zi ((m : Int) - 1) := zi_m1 _
      cases hbit : left.testBit m with
      | false =>
        rw [gB_skip hbit]
        refine ⟨σ1, rest (v_R_bigs_6 _ _ _ _ _ _ ?_), o1⟩
        rw [em1, mk_bit1 (by omega) (by omega)]
        exact ⟨fun _ => ⟨fun _ => ⟨fun _ => ⟨σ1, g1, fun h0 => absurd (h0.symm.trans hbit) (by decide), fun _ => (by first | exact ⟨rfl, rfl⟩ | exact ⟨trivial, trivial⟩ | exact ⟨trivial, rfl⟩ | exact ⟨rfl, trivial⟩ | trivial)⟩, fun h0 => absurd hge h0⟩, fun h0 => absurd (i1.mpr c) h0⟩, fun h0 => absurd hlt h0⟩
      | true =>
        rw [gB_take c hbit]
        have hps : pcn (taken ||| 2 ^ m) 20 = pcn taken 20 + 1 := by rw [pcn_set (hb m (by omega)), if_pos (by omega)]
        obtain ⟨σ2, g2, o2⟩ := ih d (left &&& ap m) (taken ||| 2 ^ m) (gB ap m left taken st) σ1 (by omega) (by omega) (and_lt hl) (mk_lt ht (by omega)) (tk_bits hb) hb1 o1.1 (fun k hk => by rw [o1.2.1 68 (by omega)]; exact hap k hk)
        refine ⟨σ2, rest (v_R_bigs_6 _ _ _ _ _ _ ?_), bOut_trans o1 o2⟩
        rw [em1, mk_bit1 (by omega) (by omega)]
        refine ⟨fun _ => ⟨fun _ => ⟨fun _ => ⟨σ1, g1, fun _ => ?_, fun h0 => absurd hbit h0⟩, fun h0 => absurd hge h0⟩, fun h0 => absurd (i1.mpr c) h0⟩, fun h0 => absurd hlt h0⟩
        rw [show Int32.toNatClampNeg (zi (m : Int)) = m from zi_cl (by omega), o1.2.1 68 (by omega), hap m (by omega), mk_shl (by omega), mk_or, mk_andN, zi_s1, zi_lt0 (by omega) (by omega)]
        rw [hps] at g2
        exact ⟨by omega, σ2, g2, rfl, rfl⟩
theorem c_findBig (hN : N ≤ 20) {ap : Nat → Nat} (hself : ∀ k, (ap k).testBit k = false) : ∀ (n d op ch : Nat) (st : Nat × Nat) (σ : Nat → Nat → Int32), n ≤ N → n + 1 ≤ d → op < 2 ^ n → ch < 2 ^ 20 → (∀ i, i < n → ch.testBit i = false) → st.1 ≤ 20 → (σ 43 2 = zi (st.1 : Int) ∧ σ 43 3 = zi (st.2 : Int)) → (∀ k, k < N → σ 46 k = zi (ap k : Int)) →
    ∃ σ', GG l D DA b sz d L cu M_Bounds_findBig [some (.ref 43), some (.int (zi (op : Int))), some (.int (zi (ch : Int))), some (.int (zi (n : Int))), none, none] σ none σ' ∧ bOut σ σ' 43 2 (gB ap n op ch st) := by
  intro n
  induction n using Nat.strongRecOn with
  | _ n ih =>
    intro d op ch st σ hn hd ho hc hb hst hv hap
    obtain ⟨d, rfl⟩ : ∃ d', d = d' + 1 := ⟨d - 1, by omega⟩
    have hpc := pcn_bd ch 20
    have hpo := pcn_bd op n
    have ho20 : op < 2 ^ 20 := Nat.lt_of_lt_of_le ho (Nat.pow_le_pow_right (by decide) (by omega))
    have k1 := c_bitCount (l := l) (D := D) (DA := DA) (b := b) (sz := sz) (d := d) (L := L) (cu := cu) (σ := σ) hc
    have k2 := c_bitCount (l := l) (D := D) (DA := DA) (b := b) (sz := sz) (d := d) (L := L) (cu := cu) (σ := σ) ho20
    rw [pcn_20 ho (by omega)] at k2
    have i1 : σ 43 2 < zi (pcn ch 20 : Int) + zi (pcn op n : Int) ↔ ¬ (pcn ch 20 + pcn op n ≤ st.1) := by
      rw [hv.1, zi_add, zi_lt (by omega) (by omega) (by omega) (by omega)]; omega
    by_cases c : pcn ch 20 + pcn op n ≤ st.1
    · rw [gB_stop c]
      exact ⟨σ, v_Bounds_findBig_0 _ _ _ ⟨_, _, k1, _, _, k2, fun h0 => absurd c (i1.mp h0), fun _ => (by first | exact ⟨rfl, rfl⟩ | exact ⟨trivial, trivial⟩ | exact ⟨trivial, rfl⟩ | exact ⟨rfl, trivial⟩ | trivial)⟩, hv, fun _ _ => rfl, fun _ _ _ => rfl⟩
    · have loop : ∀ h, h ≤ n → op < 2 ^ h → ¬ (pcn ch 20 + pcn op h ≤ st.1) → ∃ σ', am_Go l D DA b sz (d + 1) M_Bounds_findBig (26, [some (.ref 43), some (.int (zi (op : Int))), some (.int (zi (ch : Int))), none, some (.int (zi (pcn ch 20 : Int))), some (.int (zi ((h : Int) - 1)))], [], (am_TT cu L, am_RR cu, σ)) none (am_TT cu L, am_RR cu, σ') ∧ bOut σ σ' 43 2 (gB ap h op ch st) := by
        intro h
        induction h with
        | zero =>
          intro _ h1 h2
          have e : gB ap 0 op ch st = (pcn ch 20, ch) := if_neg (by have : pcn op 0 = 0 := rfl; omega)
          rw [e]
          refine ⟨am_us (am_us σ 43 2 (zi (pcn ch 20 : Int))) 43 3 (zi (ch : Int)), v_Bounds_findBig_26 _ _ _ _ ⟨fun _ => ⟨fun h0 => absurd h0 (by decide), fun _ => (by first | exact ⟨rfl, rfl⟩ | exact ⟨trivial, trivial⟩ | exact ⟨trivial, rfl⟩ | exact ⟨rfl, trivial⟩ | trivial)⟩, fun h0 => absurd (by decide) h0⟩, ⟨by rw [am_us_k (by omega), am_us_s], by rw [am_us_s]⟩, fun c hc => by rw [am_us_ne hc, am_us_ne hc], fun k a1 a2 => by rw [am_us_k a2, am_us_k a1]⟩
        | succ m ihm =>
          intro hm h1 h2
          have em : ((m + 1 : Nat) : Int) - 1 = m := by omega
          rw [em]
          have nlt : ¬ zi (m : Int) < 0 := by rw [zi_lt0 (by omega) (by omega)]; omega
          have hge : (0 : Int32) ≤ zi (m : Int) := by rw [zi_ge0 (by omega) (by omega)]; omega
          cases hbit : op.testBit m with
          | false =>
            have h3 : op < 2 ^ m := lt_bits (fun i hi => by
              by_cases e : i = m
              · rw [e]; exact hbit
              · exact bit_hi h1 (by omega))
            obtain ⟨σ', g, o⟩ := ihm (by omega) h3 (by rw [pcn_f hbit] at h2; exact h2)
            rw [gB_skip hbit]
            refine ⟨σ', v_Bounds_findBig_26 _ _ _ _ ?_, o⟩
            rw [mk_bit0 (by omega) (by omega), zm1, zi_add]
            exact ⟨fun h0 => absurd h0 nlt, fun _ => ⟨fun _ => g, fun h0 => absurd hbit h0⟩⟩
          | true =>
            rw [gB_take h2 hbit]
            have hb1 := gB_bd (ap := ap) (n := m) (left := op) (taken := ch) hst
            have hu : ub op m < 2 ^ m := lt_bits (fun i hi => by
              rw [ub_bit ho20 (by omega)]
              by_cases e : i = m
              · rw [decide_eq_false (fun z => z e), Bool.and_false]
              · rw [bit_hi h1 (by omega), Bool.false_and])
            have hcg : gB ap m (ub op m) ch st = gB ap m op ch st := gB_cg (fun i hi => by rw [ub_bit ho20 (by omega), decide_eq_true (show i ≠ m by omega), Bool.and_true])
            obtain ⟨σ1, g1, o1⟩ := ih m (by omega) d (ub op m) ch st σ (by omega) (by omega) hu hc (fun i hi => hb i (by omega)) hst hv hap
            rw [hcg] at o1
            have ha : op &&& ap m < 2 ^ m := lt_bits (fun i hi => by
              rw [Nat.testBit_and]
              by_cases e : i = m
              · rw [e, hself m, Bool.and_false]
              · rw [bit_hi h1 (by omega), Bool.false_and])
            obtain ⟨σ2, g2, o2⟩ := ih m (by omega) d (op &&& ap m) (ch ||| 2 ^ m) (gB ap m op ch st) σ1 (by omega) (by omega) ha (mk_lt hc (by omega)) (tk_bits (fun i hi => hb i (by omega))) hb1 o1.1 (fun k hk => by rw [o1.2.1 46 (by omega)]; exact hap k hk)
            refine ⟨σ2, v_Bounds_findBig_26 _ _ _ _ ?_, bOut_trans o1 o2⟩
            rw [mk_bit0 (by omega) (by omega), mk_ub (by omega)]
            refine ⟨fun h0 => absurd h0 nlt, fun _ => ⟨fun h0 => absurd (hbit.symm.trans h0) (by decide), fun _ => ⟨fun _ => ⟨σ1, g1, ?_⟩, fun h0 => absurd hge h0⟩⟩⟩
            rw [show Int32.toNatClampNeg (zi (m : Int)) = m from zi_cl (by omega), o1.2.1 46 (by omega), hap m (by omega), mk_shl (by omega), mk_or, mk_andN, zi_lt0 (by omega) (by omega)]
            exact ⟨by omega, σ2, g2, rfl, rfl⟩
      obtain ⟨σ', g, o⟩ := loop n (Nat.le_refl n) ho c
      refine ⟨σ', v_Bounds_findBig_0 _ _ _ ⟨_, _, k1, _, _, k2, fun _ => ?_, fun h0 => absurd (i1.mpr c) h0⟩, o⟩
      rw [zi_m1]
      exact g
end BIG
