/-! CORNERS of the class: the ends as bits of a long; how many bits; Edges.list -/
theorem wb_tb (n : Nat) : (lN n).toBitVec = BitVec.ofNat 64 n := rfl
theorem wb_inj {a b : Int64} (h : a.toBitVec = b.toBitVec) : a = b := Int64.toBitVec_inj.mp h
theorem wb_c : ∀ k, k < 64 → ((nI k).toInt64 &&& 63) = lN k := by decide +kernel
theorem wb_sm : ∀ k, k < 64 → (BitVec.ofNat 64 k).smod 64 = BitVec.ofNat 64 k := by decide +kernel
theorem wb_lt2 {a b : Nat} (h : a < b) : 2 ^ a < 2 ^ b := Nat.pow_lt_pow_right (by decide) h
theorem wb_shl (n : Nat) {k : Nat} (hk : k < 64) : lN n <<< ((nI k).toInt64 &&& 63) = lN (n * 2 ^ k) := by
  rw [wb_c k hk]
  apply wb_inj
  rw [Int64.toBitVec_shiftLeft, wb_tb, wb_tb, wb_tb, wb_sm k hk]
  apply BitVec.eq_of_toNat_eq
  rw [BitVec.shiftLeft_eq', BitVec.toNat_shiftLeft, BitVec.toNat_ofNat, BitVec.toNat_ofNat, BitVec.toNat_ofNat, Nat.mod_eq_of_lt (show k < 2 ^ 64 by omega), Nat.shiftLeft_eq, Nat.mul_mod, Nat.mod_mod, ← Nat.mul_mod]
theorem wb_and {a b : Nat} (ha : a < 2 ^ 64) (hb : b < 2 ^ 64) : lN a &&& lN b = lN (a &&& b) := by
  apply wb_inj
  rw [Int64.toBitVec_and, wb_tb, wb_tb, wb_tb]
  apply BitVec.eq_of_toNat_eq
  rw [BitVec.toNat_and, BitVec.toNat_ofNat, BitVec.toNat_ofNat, BitVec.toNat_ofNat, Nat.mod_eq_of_lt ha, Nat.mod_eq_of_lt hb, Nat.mod_eq_of_lt (Nat.and_lt_two_pow _ hb)]
theorem wb_or {a b : Nat} (ha : a < 2 ^ 64) (hb : b < 2 ^ 64) : lN a ||| lN b = lN (a ||| b) := by
  apply wb_inj
  rw [Int64.toBitVec_or, wb_tb, wb_tb, wb_tb]
  apply BitVec.eq_of_toNat_eq
  rw [BitVec.toNat_or, BitVec.toNat_ofNat, BitVec.toNat_ofNat, BitVec.toNat_ofNat, Nat.mod_eq_of_lt ha, Nat.mod_eq_of_lt hb, Nat.mod_eq_of_lt (Nat.or_lt_two_pow ha hb)]
theorem pf_lI {a : Nat} (h : a < 2 ^ 63) : (lN a).toInt = (a : Int) := lg_ofNat_toInt h
theorem pf_shr {a d : Nat} {D : Int64} (hD : (D.toBitVec.smod 64).toNat = d) (h : a < 2 ^ 62) : lN a >>> D = lN (a / 2 ^ d) := by
  have hd : a / 2 ^ d ≤ a := Nat.div_le_self _ _
  apply Int64.toInt_inj.mp
  have e : (lN a >>> D).toInt = (lN a).toInt >>> d := by
    rw [← hD]
    exact BitVec.toInt_sshiftRight ..
  rw [e, Int.shiftRight_eq_div_pow, pf_lI (by omega), pf_lI (by omega)]
  rfl
theorem lb_bit {E c : Nat} (hE : E < 2 ^ 41) (hc : c < 41) : (lg_cmp ((Int64.ofNat E >>> (Int32.toInt64 (zi c) &&& 63)) &&& (Int64.ofNat 1)) (Int64.ofNat 0) = (0 : Int32)) ↔ E.testBit c = false := by
  have e1 : Int32.toInt64 (zi (c : Int)) &&& 63 = lN c := wb_c c (by omega)
  have e2 : (lN E >>> lN c) = lN (E / 2 ^ c) := pf_shr (by rw [wb_tb, wb_sm c (by omega), BitVec.toNat_ofNat, Nat.mod_eq_of_lt (by omega)]) (by omega)
  have hd : E / 2 ^ c ≤ E := Nat.div_le_self _ _
  have e3 : lN (E / 2 ^ c) &&& lN 1 = lN (E / 2 ^ c % 2) := by rw [wb_and (by omega) (by omega), Nat.and_one_is_mod]
  rw [e1]
  show (lg_cmp ((lN E >>> lN c) &&& lN 1) (lN 0) = (0 : Int32)) ↔ _
  rw [e2, e3]
  have e4 : E.testBit c = decide (E / 2 ^ c % 2 = 1) := by
    rw [Nat.testBit, Nat.shiftRight_eq_div_pow, Nat.one_and_eq_mod_two]
    have : E / 2 ^ c % 2 = 0 ∨ E / 2 ^ c % 2 = 1 := by omega
    rcases this with h | h <;> simp [h]
  rw [e4]
  have : E / 2 ^ c % 2 = 0 ∨ E / 2 ^ c % 2 = 1 := by omega
  rcases this with h | h
  · rw [h]; decide
  · rw [h]; decide
theorem lb_or {E e : Nat} (hE : E < 2 ^ 41) (he : e < 41) : Int64.ofNat E ||| (Int64.ofNat 1 <<< (Int32.toInt64 (zi e) &&& 63)) = Int64.ofNat (E ||| 2 ^ e) := by
  have h1 : (lN 1 <<< (Int32.toInt64 (nI e) &&& 63)) = lN (1 * 2 ^ e) := wb_shl 1 (by omega)
  have h2 : 2 ^ e < 2 ^ 41 := wb_lt2 he
  show lN E ||| (lN 1 <<< (Int32.toInt64 (nI e) &&& 63)) = lN (E ||| 2 ^ e)
  rw [h1, Nat.one_mul, wb_or (by omega) (by omega)]
theorem pcn_s {M n : Nat} : pcn M (n + 1) = pcn M n + (if M.testBit n then 1 else 0) := rfl
theorem pcn_t {M n : Nat} (h : M.testBit n = true) : pcn M (n + 1) = pcn M n + 1 := by rw [pcn_s, if_pos h]
theorem pcn_f {M n : Nat} (h : M.testBit n = false) : pcn M (n + 1) = pcn M n := by rw [pcn_s, h]; rfl
theorem pcn_mono {M a : Nat} : ∀ {k : Nat}, pcn M a ≤ pcn M (a + k)
  | 0 => Nat.le_refl _
  | k + 1 => Nat.le_trans (pcn_mono (k := k)) (Nat.le_add_right _ _)
theorem pcn_le {M a c : Nat} (h : a ≤ c) : pcn M a ≤ pcn M c := by
  have h9 := pcn_mono (M := M) (a := a) (k := c - a)
  rw [show a + (c - a) = c by omega] at h9
  exact h9
theorem pcn_lt {M a c : Nat} (h : a < c) (hb : M.testBit a = true) : pcn M a < pcn M c := by
  have h1 := pcn_le (M := M) (show a + 1 ≤ c by omega)
  rw [pcn_t hb] at h1
  omega
theorem pcn_or (M e : Nat) : ∀ n, pcn (M ||| 2 ^ e) n ≤ pcn M n + (if e < n then 1 else 0)
  | 0 => Nat.zero_le _
  | n + 1 => by
    have ih := pcn_or M e n
    rw [pcn_s, pcn_s, mk_set]
    by_cases c1 : e = n
    · rw [if_neg (by omega)] at ih
      rw [if_pos (show e < n + 1 by omega)]
      split <;> split <;> omega
    · have c2 : decide (e = n) = false := decide_eq_false c1
      rw [c2, Bool.or_false]
      by_cases c3 : e < n
      · rw [if_pos c3] at ih
        rw [if_pos (show e < n + 1 by omega)]
        omega
      · rw [if_neg c3] at ih
        rw [if_neg (show ¬ e < n + 1 by omega)]
        omega
/-- from v on: the next bit, or none -/
theorem pcn_nxt (E : Nat) : ∀ (k v : Nat), v + k = 41 → (pcn E v = pcn E 41 ∧ ∀ c, v ≤ c → c < 41 → E.testBit c = false) ∨ ∃ c, v ≤ c ∧ c < 41 ∧ E.testBit c = true ∧ pcn E c = pcn E v ∧ ∀ c', v ≤ c' → c' < c → E.testBit c' = false
  | 0, v, h => Or.inl ⟨by rw [show v = 41 by omega], fun c h1 h2 => absurd h1 (by omega)⟩
  | k + 1, v, h => by
    cases hb : E.testBit v with
    | true => exact Or.inr ⟨v, Nat.le_refl _, by omega, hb, rfl, fun c' h1 h2 => absurd h1 (by omega)⟩
    | false =>
      rcases pcn_nxt E k (v + 1) (by omega) with ⟨h1, h2⟩ | ⟨c, h1, h2, h3, h4, h5⟩
      · rw [pcn_f hb] at h1
        refine Or.inl ⟨h1, fun c a1 a2 => ?_⟩
        by_cases e : c = v
        · rw [e]; exact hb
        · exact h2 c (by omega) a2
      · rw [pcn_f hb] at h4
        refine Or.inr ⟨c, by omega, h2, h3, h4, fun c' a1 a2 => ?_⟩
        by_cases e : c' = v
        · rw [e]; exact hb
        · exact h5 c' (by omega) a2
def cmE (P : Nat → Nat → Int) (k : Int) (i a : Nat) : Nat := if P 8 i = 0 then a else a ||| 2 ^ (en P k i).toNat
def cmM (P : Nat → Nat → Int) (N : Nat) (k : Int) : Nat := fo (cmE P k) 1 N
section EDG
variable {l : Launch} {D : va_G} {DA : Nat → ClassId} {b sz d L : Nat} {cu : Bool} {σ σ' : Nat → Nat → Int32} {N M : Nat} {P : Nat → Nat → Int} {Q : Nat → Int}
theorem en_40 (hp : pOK N P Q) {k : Int} {i : Nat} (hi : i < N) (h8 : P 8 i ≠ 0) : 0 ≤ en P k i ∧ en P k i ≤ 40 := cor_40 hp (Or.inr ⟨i, hi, h8, rfl⟩)
theorem cmM_spec (hp : pOK N P Q) (k : Int) {n : Nat} (hn : n ≤ N) : cmM P n k < 2 ^ 41 ∧ pcn (cmM P n k) 41 ≤ n + 1 ∧ ∀ c : Nat, (cmM P n k).testBit c = true ↔ cor P n k c := by
  refine fo_inv (fun i (a : Nat) => a < 2 ^ 41 ∧ pcn a 41 ≤ i + 1 ∧ ∀ c : Nat, a.testBit c = true ↔ cor P i k c) ⟨by decide, by decide, fun c => ?_⟩ (fun i a hi ha => ?_)
  · have h1 : (1 : Nat).testBit c = decide (0 = c) := Nat.testBit_two_pow (n := 0)
    rw [h1, decide_eq_true_eq]
    constructor
    · intro h; left; omega
    · rintro (h | ⟨m, hm, _⟩)
      · omega
      · omega
  · obtain ⟨h1, h2, h3⟩ := ha
    unfold cmE
    by_cases c8 : P 8 i = 0
    · rw [if_pos c8]
      refine ⟨h1, by omega, fun c => (h3 c).trans ?_⟩
      constructor
      · rintro (z | ⟨m, a1, a2, a3⟩)
        · exact Or.inl z
        · exact Or.inr ⟨m, by omega, a2, a3⟩
      · rintro (z | ⟨m, a1, a2, a3⟩)
        · exact Or.inl z
        · have e : m ≠ i := fun z => a2 (z ▸ c8)
          exact Or.inr ⟨m, by omega, a2, a3⟩
    · rw [if_neg c8]
      have he := en_40 hp (k := k) (i := i) (by omega) c8
      have h4 := pcn_or a (en P k i).toNat 41
      refine ⟨mk_lt h1 (by omega), ?_, fun c => ?_⟩
      · have : (if (en P k i).toNat < 41 then 1 else 0) ≤ 1 := by split <;> omega
        omega
      · rw [mk_set, Bool.or_eq_true, h3 c, decide_eq_true_eq]
        constructor
        · rintro ((z | ⟨m, a1, a2, a3⟩) | z)
          · exact Or.inl z
          · exact Or.inr ⟨m, by omega, a2, a3⟩
          · exact Or.inr ⟨i, by omega, c8, by omega⟩
        · rintro (z | ⟨m, a1, a2, a3⟩)
          · exact Or.inl (Or.inl z)
          · by_cases e : m = i
            · subst e; right; omega
            · exact Or.inl (Or.inr ⟨m, by omega, a2, a3⟩)
/-- an Edges' places -/
def eOK (σ : Nat → Nat → Int32) (e E : Nat) : Prop := σ e 3 = zi (pcn E 41) ∧ ∀ c, c < 41 → E.testBit c = true → σ (e + 1) (pcn E c) = zi c
theorem c_list_7 {E : Nat} (hE : E < 2 ^ 41) (h21 : pcn E 41 ≤ 21) : ∃ σ', GG l D DA b sz d L cu M_Edges_list [some (.ref 7), some (.long (Int64.ofNat E)), none, none] σ none σ' ∧ eOK σ' 7 E ∧ ∀ c, c ≠ 7 → c ≠ 8 → σ' c = σ c := by
  have key : ∀ (k c : Nat) (σ1 : Nat → Nat → Int32), c + k = 41 → σ1 7 3 = zi (pcn E c) → (∀ c', c' < c → E.testBit c' = true → σ1 8 (pcn E c') = zi c') → (∀ c, c ≠ 7 → c ≠ 8 → σ1 c = σ c) → ∃ σ', am_Go l D DA b sz d M_Edges_list (7, [some (.ref 7), some (.long (Int64.ofNat E)), none, some (.int (zi c))], [], (am_TT cu L, am_RR cu, σ1)) none (am_TT cu L, am_RR cu, σ') ∧ eOK σ' 7 E ∧ ∀ c, c ≠ 7 → c ≠ 8 → σ' c = σ c := by
    intro k
    induction k with
    | zero =>
      intro c σ1 hc h3 hp hf
      have e : c = 41 := by omega
      subst e
      exact ⟨σ1, v_Edges_list_7_7 _ _ ⟨fun _ => (by first | exact ⟨rfl, rfl⟩ | exact ⟨trivial, trivial⟩ | exact ⟨trivial, rfl⟩ | exact ⟨rfl, trivial⟩ | trivial), fun h0 => absurd (by decide) h0⟩, ⟨h3, fun c a1 a2 => hp c a1 a2⟩, hf⟩
    | succ k ih =>
      intro c σ1 hc h3 hp hf
      have hc41 : c < 41 := by omega
      have hle := pcn_le (M := E) (show c ≤ 41 by omega)
      by_cases c1 : pcn E c = 21
      · refine ⟨σ1, v_Edges_list_7_7 _ _ ?_, ⟨by rw [h3, show pcn E 41 = pcn E c by omega], fun c' a1 a2 => ?_⟩, hf⟩
        · rw [h3, show (40 : Int32) = zi 40 from rfl, show Int32.ofNat 21 = zi ((21 : Nat) : Int) from rfl]
          simp (disch := omega) only [zi_lt, zi_le]
          exact ⟨fun h0 => absurd h0 (by omega), fun _ => ⟨fun _ => (by first | exact ⟨rfl, rfl⟩ | exact ⟨trivial, trivial⟩ | exact ⟨trivial, rfl⟩ | exact ⟨rfl, trivial⟩ | trivial), fun h0 => absurd h0 (by omega)⟩⟩
        · by_cases e : c' < c
          · exact hp c' e a2
          · have h8 := pcn_lt a1 a2
            have h9 := pcn_le (M := E) (show c ≤ c' by omega)
            omega
      · cases hb : E.testBit c with
        | false =>
          obtain ⟨σ', g, p1, p2⟩ := ih (c + 1) σ1 (by omega) (by rw [pcn_f hb]; exact h3) (fun c' a1 a2 => by
            by_cases e : c' = c
            · rw [e, hb] at a2; cases a2
            · exact hp c' (by omega) a2) hf
          refine ⟨σ', v_Edges_list_7_7 _ _ ?_, p1, p2⟩
          rw [lb_bit hE hc41, h3, show (40 : Int32) = zi 40 from rfl, show Int32.ofNat 21 = zi ((21 : Nat) : Int) from rfl]
          simp (disch := omega) only [zi_lt, zi_le, zi_s1]
          exact ⟨fun h0 => absurd h0 (by omega), fun _ => ⟨fun h0 => absurd h0 (by omega), fun _ => ⟨fun _ => g, fun h0 => absurd hb h0⟩⟩⟩
        | true =>
          obtain ⟨σ', g, p1, p2⟩ := ih (c + 1) (am_us (am_us σ1 8 (pcn E c) (zi c)) 7 3 (zi ((pcn E c : Int) + 1))) (by omega) (by rw [pcn_t hb, am_us_s]; rfl) (fun c' a1 a2 => by
            rw [am_us_c (by omega)]
            by_cases e : c' = c
            · rw [e, am_us_s]
            · have h9 := pcn_lt (M := E) (show c' < c by omega) a2
              rw [am_us_k (by omega)]
              exact hp c' (by omega) a2) (fun c' a1 a2 => by rw [am_us_ne a1, am_us_ne a2]; exact hf c' a1 a2)
          refine ⟨σ', v_Edges_list_7_7 _ _ ?_, p1, p2⟩
          rw [lb_bit hE hc41, h3, show (40 : Int32) = zi 40 from rfl, show Int32.ofNat 21 = zi ((21 : Nat) : Int) from rfl, show Int32.toNatClampNeg (zi (pcn E c : Nat)) = pcn E c from zi_cl (by omega)]
          simp (disch := omega) only [zi_lt, zi_le, zi_s1, zi_lt0]
          exact ⟨fun h0 => absurd h0 (by omega), fun _ => ⟨fun h0 => absurd h0 (by omega), fun _ => ⟨fun h0 => absurd (hb.symm.trans h0) (by decide), fun _ => ⟨by omega, g⟩⟩⟩⟩
  obtain ⟨σ', g, p1, p2⟩ := key 41 0 (am_us σ 7 3 0) (by omega) (by rw [am_us_s]; rfl) (fun c' a1 _ => absurd a1 (by omega)) (fun c a1 _ => am_us_ne a1)
  exact ⟨σ', v_Edges_list_7_0 _ g, p1, p2⟩
theorem c_list_11 {E : Nat} (hE : E < 2 ^ 41) (h21 : pcn E 41 ≤ 21) : ∃ σ', GG l D DA b sz d L cu M_Edges_list [some (.ref 11), some (.long (Int64.ofNat E)), none, none] σ none σ' ∧ eOK σ' 11 E ∧ ∀ c, c ≠ 11 → c ≠ 12 → σ' c = σ c := by
  have key : ∀ (k c : Nat) (σ1 : Nat → Nat → Int32), c + k = 41 → σ1 11 3 = zi (pcn E c) → (∀ c', c' < c → E.testBit c' = true → σ1 12 (pcn E c') = zi c') → (∀ c, c ≠ 11 → c ≠ 12 → σ1 c = σ c) → ∃ σ', am_Go l D DA b sz d M_Edges_list (7, [some (.ref 11), some (.long (Int64.ofNat E)), none, some (.int (zi c))], [], (am_TT cu L, am_RR cu, σ1)) none (am_TT cu L, am_RR cu, σ') ∧ eOK σ' 11 E ∧ ∀ c, c ≠ 11 → c ≠ 12 → σ' c = σ c := by
    intro k
    induction k with
    | zero =>
      intro c σ1 hc h3 hp hf
      have e : c = 41 := by omega
      subst e
      exact ⟨σ1, v_Edges_list_11_7 _ _ ⟨fun _ => (by first | exact ⟨rfl, rfl⟩ | exact ⟨trivial, trivial⟩ | exact ⟨trivial, rfl⟩ | exact ⟨rfl, trivial⟩ | trivial), fun h0 => absurd (by decide) h0⟩, ⟨h3, fun c a1 a2 => hp c a1 a2⟩, hf⟩
    | succ k ih =>
      intro c σ1 hc h3 hp hf
      have hc41 : c < 41 := by omega
      have hle := pcn_le (M := E) (show c ≤ 41 by omega)
      by_cases c1 : pcn E c = 21
      · refine ⟨σ1, v_Edges_list_11_7 _ _ ?_, ⟨by rw [h3, show pcn E 41 = pcn E c by omega], fun c' a1 a2 => ?_⟩, hf⟩
        · rw [h3, show (40 : Int32) = zi 40 from rfl, show Int32.ofNat 21 = zi ((21 : Nat) : Int) from rfl]
          simp (disch := omega) only [zi_lt, zi_le]
          exact ⟨fun h0 => absurd h0 (by omega), fun _ => ⟨fun _ => (by first | exact ⟨rfl, rfl⟩ | exact ⟨trivial, trivial⟩ | exact ⟨trivial, rfl⟩ | exact ⟨rfl, trivial⟩ | trivial), fun h0 => absurd h0 (by omega)⟩⟩
        · by_cases e : c' < c
          · exact hp c' e a2
          · have h8 := pcn_lt a1 a2
            have h9 := pcn_le (M := E) (show c ≤ c' by omega)
            omega
      · cases hb : E.testBit c with
        | false =>
          obtain ⟨σ', g, p1, p2⟩ := ih (c + 1) σ1 (by omega) (by rw [pcn_f hb]; exact h3) (fun c' a1 a2 => by
            by_cases e : c' = c
            · rw [e, hb] at a2; cases a2
            · exact hp c' (by omega) a2) hf
          refine ⟨σ', v_Edges_list_11_7 _ _ ?_, p1, p2⟩
          rw [lb_bit hE hc41, h3, show (40 : Int32) = zi 40 from rfl, show Int32.ofNat 21 = zi ((21 : Nat) : Int) from rfl]
          simp (disch := omega) only [zi_lt, zi_le, zi_s1]
          exact ⟨fun h0 => absurd h0 (by omega), fun _ => ⟨fun h0 => absurd h0 (by omega), fun _ => ⟨fun _ => g, fun h0 => absurd hb h0⟩⟩⟩
        | true =>
          obtain ⟨σ', g, p1, p2⟩ := ih (c + 1) (am_us (am_us σ1 12 (pcn E c) (zi c)) 11 3 (zi ((pcn E c : Int) + 1))) (by omega) (by rw [pcn_t hb, am_us_s]; rfl) (fun c' a1 a2 => by
            rw [am_us_c (by omega)]
            by_cases e : c' = c
            · rw [e, am_us_s]
            · have h9 := pcn_lt (M := E) (show c' < c by omega) a2
              rw [am_us_k (by omega)]
              exact hp c' (by omega) a2) (fun c' a1 a2 => by rw [am_us_ne a1, am_us_ne a2]; exact hf c' a1 a2)
          refine ⟨σ', v_Edges_list_11_7 _ _ ?_, p1, p2⟩
          rw [lb_bit hE hc41, h3, show (40 : Int32) = zi 40 from rfl, show Int32.ofNat 21 = zi ((21 : Nat) : Int) from rfl, show Int32.toNatClampNeg (zi (pcn E c : Nat)) = pcn E c from zi_cl (by omega)]
          simp (disch := omega) only [zi_lt, zi_le, zi_s1, zi_lt0]
          exact ⟨fun h0 => absurd h0 (by omega), fun _ => ⟨fun h0 => absurd h0 (by omega), fun _ => ⟨fun h0 => absurd (hb.symm.trans h0) (by decide), fun _ => ⟨by omega, g⟩⟩⟩⟩
  obtain ⟨σ', g, p1, p2⟩ := key 41 0 (am_us σ 11 3 0) (by omega) (by rw [am_us_s]; rfl) (fun c' a1 _ => absurd a1 (by omega)) (fun c a1 _ => am_us_ne a1)
  exact ⟨σ', v_Edges_list_11_0 _ g, p1, p2⟩
theorem c_list_15 {E : Nat} (hE : E < 2 ^ 41) (h21 : pcn E 41 ≤ 21) : ∃ σ', GG l D DA b sz d L cu M_Edges_list [some (.ref 15), some (.long (Int64.ofNat E)), none, none] σ none σ' ∧ eOK σ' 15 E ∧ ∀ c, c ≠ 15 → c ≠ 16 → σ' c = σ c := by
  have key : ∀ (k c : Nat) (σ1 : Nat → Nat → Int32), c + k = 41 → σ1 15 3 = zi (pcn E c) → (∀ c', c' < c → E.testBit c' = true → σ1 16 (pcn E c') = zi c') → (∀ c, c ≠ 15 → c ≠ 16 → σ1 c = σ c) → ∃ σ', am_Go l D DA b sz d M_Edges_list (7, [some (.ref 15), some (.long (Int64.ofNat E)), none, some (.int (zi c))], [], (am_TT cu L, am_RR cu, σ1)) none (am_TT cu L, am_RR cu, σ') ∧ eOK σ' 15 E ∧ ∀ c, c ≠ 15 → c ≠ 16 → σ' c = σ c := by
    intro k
    induction k with
    | zero =>
      intro c σ1 hc h3 hp hf
      have e : c = 41 := by omega
      subst e
      exact ⟨σ1, v_Edges_list_15_7 _ _ ⟨fun _ => (by first | exact ⟨rfl, rfl⟩ | exact ⟨trivial, trivial⟩ | exact ⟨trivial, rfl⟩ | exact ⟨rfl, trivial⟩ | trivial), fun h0 => absurd (by decide) h0⟩, ⟨h3, fun c a1 a2 => hp c a1 a2⟩, hf⟩
    | succ k ih =>
      intro c σ1 hc h3 hp hf
      have hc41 : c < 41 := by omega
      have hle := pcn_le (M := E) (show c ≤ 41 by omega)
      by_cases c1 : pcn E c = 21
      · refine ⟨σ1, v_Edges_list_15_7 _ _ ?_, ⟨by rw [h3, show pcn E 41 = pcn E c by omega], fun c' a1 a2 => ?_⟩, hf⟩
        · rw [h3, show (40 : Int32) = zi 40 from rfl, show Int32.ofNat 21 = zi ((21 : Nat) : Int) from rfl]
          simp (disch := omega) only [zi_lt, zi_le]
          exact ⟨fun h0 => absurd h0 (by omega), fun _ => ⟨fun _ => (by first | exact ⟨rfl, rfl⟩ | exact ⟨trivial, trivial⟩ | exact ⟨trivial, rfl⟩ | exact ⟨rfl, trivial⟩ | trivial), fun h0 => absurd h0 (by omega)⟩⟩
        · by_cases e : c' < c
          · exact hp c' e a2
          · have h8 := pcn_lt a1 a2
            have h9 := pcn_le (M := E) (show c ≤ c' by omega)
            omega
      · cases hb : E.testBit c with
        | false =>
          obtain ⟨σ', g, p1, p2⟩ := ih (c + 1) σ1 (by omega) (by rw [pcn_f hb]; exact h3) (fun c' a1 a2 => by
            by_cases e : c' = c
            · rw [e, hb] at a2; cases a2
            · exact hp c' (by omega) a2) hf
          refine ⟨σ', v_Edges_list_15_7 _ _ ?_, p1, p2⟩
          rw [lb_bit hE hc41, h3, show (40 : Int32) = zi 40 from rfl, show Int32.ofNat 21 = zi ((21 : Nat) : Int) from rfl]
          simp (disch := omega) only [zi_lt, zi_le, zi_s1]
          exact ⟨fun h0 => absurd h0 (by omega), fun _ => ⟨fun h0 => absurd h0 (by omega), fun _ => ⟨fun _ => g, fun h0 => absurd hb h0⟩⟩⟩
        | true =>
          obtain ⟨σ', g, p1, p2⟩ := ih (c + 1) (am_us (am_us σ1 16 (pcn E c) (zi c)) 15 3 (zi ((pcn E c : Int) + 1))) (by omega) (by rw [pcn_t hb, am_us_s]; rfl) (fun c' a1 a2 => by
            rw [am_us_c (by omega)]
            by_cases e : c' = c
            · rw [e, am_us_s]
            · have h9 := pcn_lt (M := E) (show c' < c by omega) a2
              rw [am_us_k (by omega)]
              exact hp c' (by omega) a2) (fun c' a1 a2 => by rw [am_us_ne a1, am_us_ne a2]; exact hf c' a1 a2)
          refine ⟨σ', v_Edges_list_15_7 _ _ ?_, p1, p2⟩
          rw [lb_bit hE hc41, h3, show (40 : Int32) = zi 40 from rfl, show Int32.ofNat 21 = zi ((21 : Nat) : Int) from rfl, show Int32.toNatClampNeg (zi (pcn E c : Nat)) = pcn E c from zi_cl (by omega)]
          simp (disch := omega) only [zi_lt, zi_le, zi_s1, zi_lt0]
          exact ⟨fun h0 => absurd h0 (by omega), fun _ => ⟨fun h0 => absurd h0 (by omega), fun _ => ⟨fun h0 => absurd (hb.symm.trans h0) (by decide), fun _ => ⟨by omega, g⟩⟩⟩⟩
  obtain ⟨σ', g, p1, p2⟩ := key 41 0 (am_us σ 15 3 0) (by omega) (by rw [am_us_s]; rfl) (fun c' a1 _ => absurd a1 (by omega)) (fun c a1 _ => am_us_ne a1)
  exact ⟨σ', v_Edges_list_15_0 _ g, p1, p2⟩
end EDG
