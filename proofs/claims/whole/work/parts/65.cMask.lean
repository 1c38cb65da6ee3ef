-- need: 41 42 43 44 45 46 48 49 50 53 60 61 62 63
/-! the class: masks of those that have something in common with a stretch; a box moved -/
section CMK
variable {l : Launch} {D : va_G} {DA : Nat → ClassId} {b sz d L : Nat} {cu : Bool} {σ σ' : Nat → Nat → Int32} {N M : Nat} {P : Nat → Nat → Int} {Q : Nat → Int}
/-- direction k (0 x, 1 y, 2 z): the boxes in that begin before e and end behind f -/
def cmF (P : Nat → Nat → Int) (k : Nat) (f e : Int) (m a : Nat) : Nat := if P 8 m = 0 then a else if e ≤ P (9 + k) m then a else if en P k m ≤ f then a else a ||| 2 ^ m
def cmk (P : Nat → Nat → Int) (N k : Nat) (f e : Int) : Nat := fo (cmF P k f e) 0 N
theorem cmk_spec (hN : N ≤ 20) (k : Nat) (f e : Int) : ∀ {n : Nat}, n ≤ N → cmk P n k f e < 2 ^ 20 ∧ ∀ m, (cmk P n k f e).testBit m = true ↔ (m < n ∧ P 8 m ≠ 0 ∧ P (9 + k) m < e ∧ f < en P k m) := by
  intro n hn
  refine fo_inv (fun i (a : Nat) => a < 2 ^ 20 ∧ ∀ m, a.testBit m = true ↔ (m < i ∧ P 8 m ≠ 0 ∧ P (9 + k) m < e ∧ f < en P k m)) ⟨by decide, fun m => by simp⟩ (fun i a hi ha => ?_)
  obtain ⟨h1, h2⟩ := ha
  unfold cmF
  have lt1 : ∀ m, m < i + 1 ↔ (m < i ∨ m = i) := fun m => by omega
  by_cases c1 : P 8 i = 0
  · rw [if_pos c1]
    refine ⟨h1, fun m => (h2 m).trans ⟨fun z => ⟨by omega, z.2⟩, fun z => ⟨?_, z.2⟩⟩⟩
    rcases (lt1 m).mp z.1 with h | h
    · exact h
    · exact absurd (h ▸ c1) z.2.1
  · rw [if_neg c1]
    by_cases c2 : e ≤ P (9 + k) i
    · rw [if_pos c2]
      refine ⟨h1, fun m => (h2 m).trans ⟨fun z => ⟨by omega, z.2⟩, fun z => ⟨?_, z.2⟩⟩⟩
      rcases (lt1 m).mp z.1 with h | h
      · exact h
      · have := z.2.2.1; rw [h] at this; omega
    · rw [if_neg c2]
      by_cases c3 : en P k i ≤ f
      · rw [if_pos c3]
        refine ⟨h1, fun m => (h2 m).trans ⟨fun z => ⟨by omega, z.2⟩, fun z => ⟨?_, z.2⟩⟩⟩
        rcases (lt1 m).mp z.1 with h | h
        · exact h
        · have := z.2.2.2; rw [h] at this; omega
      · rw [if_neg c3]
        refine ⟨mk_lt h1 (by omega), fun m => ?_⟩
        rw [mk_set, Bool.or_eq_true, h2 m, decide_eq_true_eq]
        constructor
        · rintro (z | z)
          · exact ⟨by omega, z.2⟩
          · subst z; exact ⟨by omega, c1, by omega, by omega⟩
        · intro z
          rcases (lt1 m).mp z.1 with h | h
          · exact Or.inl ⟨h, z.2⟩
          · exact Or.inr h.symm
theorem c_commonInX (hd : 1 ≤ d) (h : cOK σ N P Q M) (hp : pOK N P Q) {f e : Int} (hf : -1000 ≤ f ∧ f ≤ 1000) (he : -1000 ≤ e ∧ e ≤ 1000) : GG l D DA b sz d L cu M_Hold_commonInX [some (.ref 2), some (.int (zi f)), some (.int (zi e)), none, none] σ (some (.int (zi ((cmk P N 0 f e : Nat) : Int)))) σ := by
  obtain ⟨d, rfl⟩ : ∃ d', d = d' + 1 := ⟨d - 1, by omega⟩
  have hN := hp.1
  refine v_Hold_commonInX_0 _ _ ?_
  refine fo_loop (fun i (a : Nat) => am_Go l D DA b sz (d + 1) M_Hold_commonInX (5, [some (.ref 2), some (.int (zi f)), some (.int (zi e)), some (.int (zi (a : Int))), some (.int (zi i))], [], (am_TT cu L, am_RR cu, σ)) (some (.int (zi ((cmk P N 0 f e : Nat) : Int)))) (am_TT cu L, am_RR cu, σ)) (cmF P 0 f e) 0 N ?_ (fun i a hi ha ih => ?_)
  · refine v_Hold_commonInX_5 _ _ _ _ ?_
    try simp (disch := omega) only [zi_cl, zi_add, zi_sub, zi_mul, zi_s1, zi_s0, zi_m1, z01, z10, zi_ite, zi_eq0, zi_lt0, zi_gt0, zi_le0, zi_ge0, zi_le, zi_lt, zi_eq, h.1]
    exact ⟨fun _ => (by first | exact ⟨rfl, rfl⟩ | exact ⟨trivial, trivial⟩ | exact ⟨trivial, rfl⟩ | exact ⟨rfl, trivial⟩ | trivial), fun h0 => absurd h0 (by omega)⟩
  · have hb := hp.2.1 i hi
    have l1 := b_lng hb
    have w1 := b_wdt hb
    have ht : tp P i = P 11 i + P 2 i := rfl
    unfold bOK at hb
    refine v_Hold_commonInX_5 _ _ _ _ ?_
    have hx := hs_01 (P := P) i
    simp (disch := omega) only [h.1, zi_le]
    refine ⟨fun h0 => absurd h0 (by omega), fun _ => ⟨_, _, c_has h hN hi, ?_⟩⟩
    unfold cmF at ih
    by_cases c : P 8 i = 0
    · rw [if_pos c] at ih
      have hh : hs P i = 0 := if_pos c
      rw [hh]
      exact ⟨fun _ => by rw [zi_s1]; exact ih, fun h0 => absurd rfl h0⟩
    · rw [if_neg c] at ih
      have hh : hs P i = 1 := if_neg c
      rw [hh]
      refine ⟨fun h0 => absurd h0 (by decide), fun _ => ?_⟩
      obtain ⟨f8, f9, f10, f11, f12, f13, f14⟩ := h.2.2.2.2.2 i hi c
      have ee : en P (0 : Nat) i = P 9 i + lng P i := rfl
      rw [ee] at ih
      simp (disch := omega) only [f8, f11, zi_cl, zi_lt0, zi_le]
      refine ⟨by omega, fun h0 => ?_, fun h0 => ⟨by omega, fun h1 => ?_, fun h1 => ?_⟩⟩
      · rw [if_pos h0] at ih; rw [zi_s1]; exact ih
      · rw [if_neg h0, if_pos h1] at ih; rw [zi_s1]; exact ih
      · rw [if_neg h0, if_neg h1] at ih; rw [zi_s1, mk_shl (by omega), mk_or]; exact ih
theorem c_commonInY (hd : 1 ≤ d) (h : cOK σ N P Q M) (hp : pOK N P Q) {f e : Int} (hf : -1000 ≤ f ∧ f ≤ 1000) (he : -1000 ≤ e ∧ e ≤ 1000) : GG l D DA b sz d L cu M_Hold_commonInY [some (.ref 2), some (.int (zi f)), some (.int (zi e)), none, none] σ (some (.int (zi ((cmk P N 1 f e : Nat) : Int)))) σ := by
  obtain ⟨d, rfl⟩ : ∃ d', d = d' + 1 := ⟨d - 1, by omega⟩
  have hN := hp.1
  refine v_Hold_commonInY_0 _ _ ?_
  refine fo_loop (fun i (a : Nat) => am_Go l D DA b sz (d + 1) M_Hold_commonInY (5, [some (.ref 2), some (.int (zi f)), some (.int (zi e)), some (.int (zi (a : Int))), some (.int (zi i))], [], (am_TT cu L, am_RR cu, σ)) (some (.int (zi ((cmk P N 1 f e : Nat) : Int)))) (am_TT cu L, am_RR cu, σ)) (cmF P 1 f e) 0 N ?_ (fun i a hi ha ih => ?_)
  · refine v_Hold_commonInY_5 _ _ _ _ ?_
    try simp (disch := omega) only [zi_cl, zi_add, zi_sub, zi_mul, zi_s1, zi_s0, zi_m1, z01, z10, zi_ite, zi_eq0, zi_lt0, zi_gt0, zi_le0, zi_ge0, zi_le, zi_lt, zi_eq, h.1]
    exact ⟨fun _ => (by first | exact ⟨rfl, rfl⟩ | exact ⟨trivial, trivial⟩ | exact ⟨trivial, rfl⟩ | exact ⟨rfl, trivial⟩ | trivial), fun h0 => absurd h0 (by omega)⟩
  · have hb := hp.2.1 i hi
    have l1 := b_lng hb
    have w1 := b_wdt hb
    have ht : tp P i = P 11 i + P 2 i := rfl
    unfold bOK at hb
    refine v_Hold_commonInY_5 _ _ _ _ ?_
    have hx := hs_01 (P := P) i
    simp (disch := omega) only [h.1, zi_le]
    refine ⟨fun h0 => absurd h0 (by omega), fun _ => ⟨_, _, c_has h hN hi, ?_⟩⟩
    unfold cmF at ih
    by_cases c : P 8 i = 0
    · rw [if_pos c] at ih
      have hh : hs P i = 0 := if_pos c
      rw [hh]
      exact ⟨fun _ => by rw [zi_s1]; exact ih, fun h0 => absurd rfl h0⟩
    · rw [if_neg c] at ih
      have hh : hs P i = 1 := if_neg c
      rw [hh]
      refine ⟨fun h0 => absurd h0 (by decide), fun _ => ?_⟩
      obtain ⟨f8, f9, f10, f11, f12, f13, f14⟩ := h.2.2.2.2.2 i hi c
      have ee : en P (1 : Nat) i = P 10 i + wdt P i := rfl
      rw [ee] at ih
      simp (disch := omega) only [f9, f12, zi_cl, zi_lt0, zi_le]
      refine ⟨by omega, fun h0 => ?_, fun h0 => ⟨by omega, fun h1 => ?_, fun h1 => ?_⟩⟩
      · rw [if_pos h0] at ih; rw [zi_s1]; exact ih
      · rw [if_neg h0, if_pos h1] at ih; rw [zi_s1]; exact ih
      · rw [if_neg h0, if_neg h1] at ih; rw [zi_s1, mk_shl (by omega), mk_or]; exact ih
theorem c_commonInZ (hd : 1 ≤ d) (h : cOK σ N P Q M) (hp : pOK N P Q) {f e : Int} (hf : -1000 ≤ f ∧ f ≤ 1000) (he : -1000 ≤ e ∧ e ≤ 1000) : GG l D DA b sz d L cu M_Hold_commonInZ [some (.ref 2), some (.int (zi f)), some (.int (zi e)), none, none] σ (some (.int (zi ((cmk P N 2 f e : Nat) : Int)))) σ := by
  obtain ⟨d, rfl⟩ : ∃ d', d = d' + 1 := ⟨d - 1, by omega⟩
  have hN := hp.1
  refine v_Hold_commonInZ_0 _ _ ?_
  refine fo_loop (fun i (a : Nat) => am_Go l D DA b sz (d + 1) M_Hold_commonInZ (5, [some (.ref 2), some (.int (zi f)), some (.int (zi e)), some (.int (zi (a : Int))), some (.int (zi i))], [], (am_TT cu L, am_RR cu, σ)) (some (.int (zi ((cmk P N 2 f e : Nat) : Int)))) (am_TT cu L, am_RR cu, σ)) (cmF P 2 f e) 0 N ?_ (fun i a hi ha ih => ?_)
  · refine v_Hold_commonInZ_5 _ _ _ _ ?_
    try simp (disch := omega) only [zi_cl, zi_add, zi_sub, zi_mul, zi_s1, zi_s0, zi_m1, z01, z10, zi_ite, zi_eq0, zi_lt0, zi_gt0, zi_le0, zi_ge0, zi_le, zi_lt, zi_eq, h.1]
    exact ⟨fun _ => (by first | exact ⟨rfl, rfl⟩ | exact ⟨trivial, trivial⟩ | exact ⟨trivial, rfl⟩ | exact ⟨rfl, trivial⟩ | trivial), fun h0 => absurd h0 (by omega)⟩
  · have hb := hp.2.1 i hi
    have l1 := b_lng hb
    have w1 := b_wdt hb
    have ht : tp P i = P 11 i + P 2 i := rfl
    unfold bOK at hb
    refine v_Hold_commonInZ_5 _ _ _ _ ?_
    have hx := hs_01 (P := P) i
    simp (disch := omega) only [h.1, zi_le]
    refine ⟨fun h0 => absurd h0 (by omega), fun _ => ⟨_, _, c_has h hN hi, ?_⟩⟩
    unfold cmF at ih
    by_cases c : P 8 i = 0
    · rw [if_pos c] at ih
      have hh : hs P i = 0 := if_pos c
      rw [hh]
      exact ⟨fun _ => by rw [zi_s1]; exact ih, fun h0 => absurd rfl h0⟩
    · rw [if_neg c] at ih
      have hh : hs P i = 1 := if_neg c
      rw [hh]
      refine ⟨fun h0 => absurd h0 (by decide), fun _ => ?_⟩
      obtain ⟨f8, f9, f10, f11, f12, f13, f14⟩ := h.2.2.2.2.2 i hi c
      have ee : en P (2 : Nat) i = tp P i := rfl
      rw [ee] at ih
      simp (disch := omega) only [f10, f13, zi_cl, zi_lt0, zi_le]
      refine ⟨by omega, fun h0 => ?_, fun h0 => ⟨by omega, fun h1 => ?_, fun h1 => ?_⟩⟩
      · rw [if_pos h0] at ih; rw [zi_s1]; exact ih
      · rw [if_neg h0, if_pos h1] at ih; rw [zi_s1]; exact ih
      · rw [if_neg h0, if_neg h1] at ih; rw [zi_s1, mk_shl (by omega), mk_or]; exact ih
theorem com_pos {a n c m : Int} (hn : 0 < n) (hm : 0 < m) : 0 < com a n c m ↔ (c < a + n ∧ a < c + m) := by
  unfold com
  repeat' split
  all_goals omega
/-- the tried box n's masks -/
def mX (P : Nat → Nat → Int) (N n : Nat) : Nat := cmk P N 0 (P 9 n) (P 9 n + lng P n)
def mY (P : Nat → Nat → Int) (N n : Nat) : Nat := cmk P N 1 (P 10 n) (P 10 n + wdt P n)
def mZ (P : Nat → Nat → Int) (N n : Nat) : Nat := cmk P N 2 (P 11 n) (tp P n)
theorem mX_spec (hN : N ≤ 20) (hb : ∀ m, m < N → bOK P m) {n : Nat} (hn : n < N) : mX P N n < 2 ^ 20 ∧ ∀ m, (mX P N n).testBit m = true ↔ (m < N ∧ P 8 m ≠ 0 ∧ 0 < com (P 9 n) (lng P n) (P 9 m) (lng P m)) := by
  obtain ⟨h1, h2⟩ := cmk_spec (P := P) hN 0 (P 9 n) (P 9 n + lng P n) (Nat.le_refl N)
  refine ⟨h1, fun m => (h2 m).trans ⟨fun z => ⟨z.1, z.2.1, ?_⟩, fun z => ⟨z.1, z.2.1, ?_⟩⟩⟩
  · exact (com_pos (by have := b_lng (hb n hn); omega) (by have := b_lng (hb m z.1); omega)).mpr z.2.2
  · exact (com_pos (by have := b_lng (hb n hn); omega) (by have := b_lng (hb m z.1); omega)).mp z.2.2
theorem mY_spec (hN : N ≤ 20) (hb : ∀ m, m < N → bOK P m) {n : Nat} (hn : n < N) : mY P N n < 2 ^ 20 ∧ ∀ m, (mY P N n).testBit m = true ↔ (m < N ∧ P 8 m ≠ 0 ∧ 0 < com (P 10 n) (wdt P n) (P 10 m) (wdt P m)) := by
  obtain ⟨h1, h2⟩ := cmk_spec (P := P) hN 1 (P 10 n) (P 10 n + wdt P n) (Nat.le_refl N)
  refine ⟨h1, fun m => (h2 m).trans ⟨fun z => ⟨z.1, z.2.1, ?_⟩, fun z => ⟨z.1, z.2.1, ?_⟩⟩⟩
  · exact (com_pos (by have := b_wdt (hb n hn); omega) (by have := b_wdt (hb m z.1); omega)).mpr z.2.2
  · exact (com_pos (by have := b_wdt (hb n hn); omega) (by have := b_wdt (hb m z.1); omega)).mp z.2.2
theorem mZ_spec (hN : N ≤ 20) (hb : ∀ m, m < N → bOK P m) {n : Nat} (hn : n < N) : mZ P N n < 2 ^ 20 ∧ ∀ m, (mZ P N n).testBit m = true ↔ (m < N ∧ P 8 m ≠ 0 ∧ 0 < com (P 11 n) (P 2 n) (P 11 m) (P 2 m)) := by
  obtain ⟨h1, h2⟩ := cmk_spec (P := P) hN 2 (P 11 n) (tp P n) (Nat.le_refl N)
  have hh : ∀ m, m < N → 0 < P 2 m := fun m hm => by have := hb m hm; unfold bOK at this; omega
  refine ⟨h1, fun m => (h2 m).trans ⟨fun z => ⟨z.1, z.2.1, ?_⟩, fun z => ⟨z.1, z.2.1, ?_⟩⟩⟩
  · exact (com_pos (hh n hn) (hh m z.1)).mpr z.2.2
  · exact (com_pos (hh n hn) (hh m z.1)).mp z.2.2
/-- box n's cells as moved -/
def mv (σ : Nat → Nat → Int32) (n : Nat) (x y z t ex ey tt : Int32) : Nat → Nat → Int32 := am_us (am_us (am_us (am_us (am_us (am_us (am_us σ (19 + n) 8 x) (19 + n) 9 y) (19 + n) 10 z) (19 + n) 14 t) (19 + n) 11 ex) (19 + n) 12 ey) (19 + n) 13 tt
theorem mv_c {n c : Nat} {x y z t ex ey tt : Int32} (h : c ≠ 19 + n) : mv σ n x y z t ex ey tt c = σ c := by
  unfold mv
  rw [am_us_ne h, am_us_ne h, am_us_ne h, am_us_ne h, am_us_ne h, am_us_ne h, am_us_ne h]
theorem mv_k {n k : Nat} {x y z t ex ey tt : Int32} (h : k < 8) : mv σ n x y z t ex ey tt (19 + n) k = σ (19 + n) k := by
  unfold mv
  rw [am_us_k (by omega), am_us_k (by omega), am_us_k (by omega), am_us_k (by omega), am_us_k (by omega), am_us_k (by omega), am_us_k (by omega)]
/-- the class's cells hold the picture, and box n stands (or is tried) where the picture says -/
def tOKc (σ : Nat → Nat → Int32) (N : Nat) (P : Nat → Nat → Int) (Q : Nat → Int) (M n : Nat) : Prop := cOK σ N P Q M ∧ bAt σ P n
theorem bAt_o {n m : Nat} (h : bAt σ P m) (e : m ≠ n) {x y z t : Int} : bAt σ (pp P n x y z t) m := by
  unfold bAt lng wdt tp at *
  rw [pp_o (by omega), pp_o (by omega), pp_o (by omega), pp_o (by omega), pp_o (by omega), pp_o (by omega), pp_o (by omega)]
  exact h
/-- a box that is not in: where it stands is nobody's matter -/
theorem cOK_pp (h : cOK σ N P Q M) {n : Nat} (h8 : P 8 n = 0) (x y z t : Int) : cOK σ N (pp P n x y z t) Q M := by
  obtain ⟨h1, h2, h3, h4, h5, h6⟩ := h
  refine ⟨h1, h2, ⟨h3.1, fun m => by rw [pp_o (by omega)]; exact h3.2 m⟩, h4, fun m hm k hk => by rw [pp_o (by omega)]; exact h5 m hm k hk, fun m hm h8m => ?_⟩
  rw [pp_o (by omega)] at h8m
  exact bAt_o (h6 m hm h8m) (fun z => h8m (z ▸ h8))
theorem c_moveTo (h : cOK σ N P Q M) (hN : N ≤ 20) {n : Nat} (hn : n < N) (h8 : P 8 n = 0) {x y z t : Int} (ht : t = 0 ∨ t = 1) :
    ∃ σ', GG l D DA b sz d L cu M_Box_moveTo [some (.ref (19 + n)), some (.int (zi x)), some (.int (zi y)), some (.int (zi z)), some (.int (zi t))] σ none σ' ∧ tOKc σ' N (pp P n x y z t) Q M n ∧ ∀ c, c ≠ 19 + n → σ' c = σ c := by
  obtain ⟨e0, e1, e2, e3, e4, e5, e6, e7⟩ := h.row (n := n) (by omega)
  obtain ⟨a1, a2, a3, a4⟩ := pp_at (P := P) n x y z t
  have hlg : lng (pp P n x y z t) n = if t = 0 then P 0 n else P 1 n := by unfold lng; rw [a4, pp_o (by omega), pp_o (by omega)]
  have hwd : wdt (pp P n x y z t) n = if t = 0 then P 1 n else P 0 n := by unfold wdt; rw [a4, pp_o (by omega), pp_o (by omega)]
  have htp : tp (pp P n x y z t) n = z + P 2 n := by unfold tp; rw [a3, pp_o (by omega)]
  have ht2 : zi t = 0 ∨ zi t = 1 := by rcases ht with rfl | rfl; exact Or.inl rfl; exact Or.inr rfl
  have ht3 : zi t = 0 ↔ t = 0 := by rcases ht with rfl | rfl <;> decide
  refine ⟨mv σ n (zi x) (zi y) (zi z) (zi t) (zi (x + lng (pp P n x y z t) n)) (zi (y + wdt (pp P n x y z t) n)) (zi (tp (pp P n x y z t) n)), v_Box_moveTo_0 _ _ _ _ n (by omega) ⟨ht2, rfl, ?_⟩, ⟨?_, ?_⟩, fun c hc => mv_c hc⟩
  · have k0 : ∀ k, k < 8 → am_us (am_us (am_us (am_us σ (19 + n) 8 (zi x)) (19 + n) 9 (zi y)) (19 + n) 10 (zi z)) (19 + n) 14 (zi t) (19 + n) k = σ (19 + n) k := fun k hk => by rw [am_us_k (by omega), am_us_k (by omega), am_us_k (by omega), am_us_k (by omega)]
    have q1 : (zi x + (if zi t = 0 then zi (P 0 n) else zi (P 1 n) : Int32)) = zi (x + lng (pp P n x y z t) n) := by
      rw [hlg]; simp only [ht3]; split <;> rw [zi_add]
    have q2 : (zi y + (if zi t = 0 then zi (P 1 n) else zi (P 0 n) : Int32)) = zi (y + wdt (pp P n x y z t) n) := by
      rw [hwd]; simp only [ht3]; split <;> rw [zi_add]
    rw [k0 0 (by omega), k0 1 (by omega), e0, e1, q1, am_us_k (k' := 1) (by omega), am_us_k (k' := 0) (by omega), k0 0 (by omega), k0 1 (by omega), e0, e1, q2, am_us_k (k' := 2) (by omega), am_us_k (k' := 2) (by omega), k0 2 (by omega), e2, zi_add, htp]
    rfl
  · have h9 := cOK_pp h h8 x y z t
    obtain ⟨h1, h2, h3, h4, h5, h6⟩ := h9
    refine ⟨by rw [mv_c (by omega)]; exact h1, by rw [mv_c (by omega)]; exact h2, h3, fun j hj => by rw [mv_c (by omega)]; exact h4 j hj, fun m hm k hk => ?_, fun m hm h8m => ?_⟩
    · by_cases e : m = n
      · subst e; rw [mv_k hk]; exact h5 m hm k hk
      · rw [mv_c (by omega)]; exact h5 m hm k hk
    · have e : m ≠ n := fun z => by rw [pp_o (by omega), z] at h8m; exact h8m h8
      have h9 := h6 m hm h8m
      unfold bAt at *
      rw [mv_c (by omega)]
      exact h9
  · unfold bAt
    rw [a1, a2, a3, a4]
    unfold mv am_us
    simp
/-- the masks stand in Hold's cells -/
def mOKc (σ : Nat → Nat → Int32) (P : Nat → Nat → Int) (N n : Nat) : Prop := σ 2 9 = zi (mX P N n) ∧ σ 2 10 = zi (mY P N n) ∧ σ 2 11 = zi (mZ P N n)
theorem cOK_2 (h : cOK σ N P Q M) (hN : N ≤ 20) {k : Nat} (hk : 4 ≤ k) (v : Int32) : cOK (am_us σ 2 k v) N P Q M := cOK_fr h (am_us_k (by omega)) (am_us_k (by omega)) (fun c hc => am_us_ne (by omega)) hN
theorem bAt_fr {n : Nat} (h : bAt σ P n) (e : σ' (19 + n) = σ (19 + n)) : bAt σ' P n := by unfold bAt at *; rw [e]; exact h
theorem c_stand (hd : 2 ≤ d) (h : cOK σ N P Q M) (hp : pOK N P Q) {n : Nat} (hn : n < N) (h8 : P 8 n = 0) {x y z t : Int} (hx : 0 ≤ x ∧ x ≤ 40) (hy : 0 ≤ y ∧ y ≤ 40) (hz : 0 ≤ z ∧ z ≤ 40) (ht : t = 0 ∨ t = 1) :
    ∃ σ', GG l D DA b sz d L cu M_Hold_stand [some (.ref 2), some (.int (zi n)), some (.int (zi x)), some (.int (zi y)), some (.int (zi z)), some (.int (zi t)), none] σ none σ' ∧ tOKc σ' N (pp P n x y z t) Q M n ∧ mOKc σ' (pp P n x y z t) N n ∧ (∀ c, c ≠ 19 + n → c ≠ 2 → σ' c = σ c) ∧ ∀ k, k < 9 → σ' 2 k = σ 2 k := by
  have hN := hp.1
  have hp1 := pp_pOK hp hn h8 hx hy hz ht
  obtain ⟨a1, a2, a3, a4⟩ := pp_at (P := P) n x y z t
  obtain ⟨d, rfl⟩ : ∃ d', d = d' + 1 := ⟨d - 1, by omega⟩
  obtain ⟨σ1, g1, ⟨c1, t1⟩, f1⟩ := c_moveTo (l := l) (D := D) (DA := DA) (b := b) (sz := sz) (d := d) (L := L) (cu := cu) h hN hn h8 (x := x) (y := y) (z := z) ht
  have hb := hp1.2.1 n hn
  have l1 := b_lng hb
  have w1 := b_wdt hb
  have tt : tp (pp P n x y z t) n = z + P 2 n := by unfold tp; rw [a3, pp_o (by omega)]
  have hh : 1 ≤ P 2 n ∧ P 2 n ≤ 12 := by have h9 := hp.2.1 n hn; unfold bOK at h9; omega
  obtain ⟨e8, e9, e10, e11, e12, e13, e14⟩ := id t1
  have gx := c_commonInX (l := l) (D := D) (DA := DA) (b := b) (sz := sz) (d := d) (L := L) (cu := cu) (by omega) c1 hp1 (f := x) (e := x + lng (pp P n x y z t) n) (by omega) (by omega)
  have c2 := cOK_2 c1 hN (k := 9) (by omega) (zi (mX (pp P n x y z t) N n))
  have gy := c_commonInY (l := l) (D := D) (DA := DA) (b := b) (sz := sz) (d := d) (L := L) (cu := cu) (by omega) c2 hp1 (f := y) (e := y + wdt (pp P n x y z t) n) (by omega) (by omega)
  have c3 := cOK_2 c2 hN (k := 10) (by omega) (zi (mY (pp P n x y z t) N n))
  have gz := c_commonInZ (l := l) (D := D) (DA := DA) (b := b) (sz := sz) (d := d) (L := L) (cu := cu) (by omega) c3 hp1 (f := z) (e := tp (pp P n x y z t) n) (by omega) (by omega)
  have c4 := cOK_2 c3 hN (k := 11) (by omega) (zi (mZ (pp P n x y z t) N n))
  have m1 : mX (pp P n x y z t) N n = cmk (pp P n x y z t) N 0 x (x + lng (pp P n x y z t) n) := by unfold mX; rw [a1]
  have m2 : mY (pp P n x y z t) N n = cmk (pp P n x y z t) N 1 y (y + wdt (pp P n x y z t) n) := by unfold mY; rw [a2]
  have m3 : mZ (pp P n x y z t) N n = cmk (pp P n x y z t) N 2 z (tp (pp P n x y z t) n) := by unfold mZ; rw [a3]
  rw [← m1] at gx
  rw [← m2] at gy
  rw [← m3] at gz
  refine ⟨am_us (am_us (am_us σ1 2 9 (zi (mX (pp P n x y z t) N n))) 2 10 (zi (mY (pp P n x y z t) N n))) 2 11 (zi (mZ (pp P n x y z t) N n)), v_Hold_stand_0 _ _ _ _ _ ?_, ⟨c4, bAt_fr t1 (by rw [am_us_ne (by omega), am_us_ne (by omega), am_us_ne (by omega)])⟩, ⟨?_, ?_, ?_⟩, fun c hc1 hc2 => by rw [am_us_ne (by omega), am_us_ne (by omega), am_us_ne (by omega)]; exact f1 c hc1, fun k hk => by rw [am_us_k (by omega), am_us_k (by omega), am_us_k (by omega), f1 2 (by omega)]⟩
  · rw [zi_cl (by omega), zi_lt0 (by omega) (by omega)]
    refine ⟨by omega, σ1, g1, ?_⟩
    rw [e8, e11, a1]
    refine ⟨_, _, gx, ?_⟩
    rw [am_us_c (c' := 19 + n) (by omega), am_us_c (c' := 19 + n) (by omega), e9, e12, a2]
    refine ⟨_, _, gy, ?_⟩
    rw [am_us_c (c' := 19 + n) (by omega), am_us_c (c' := 19 + n) (by omega), am_us_c (c' := 19 + n) (by omega), am_us_c (c' := 19 + n) (by omega), e10, e13, a3]
    exact ⟨_, _, gz, rfl, rfl⟩
  · rw [am_us_k (by omega), am_us_k (by omega), am_us_s]
  · rw [am_us_k (by omega), am_us_s]
  · rw [am_us_s]
end CMK
