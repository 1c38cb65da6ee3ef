/-! loops that count up to N: fo f a n: what a has become behind n rounds -/
def fo {α : Type} (f : Nat → α → α) (a : α) : Nat → α
  | 0 => a
  | n + 1 => f n (fo f a n)
theorem fo_loop {α : Type} (K : Nat → α → Prop) (f : Nat → α → α) (a : α) (N : Nat) (h1 : K N (fo f a N)) (h2 : ∀ i x, i < N → x = fo f a i → K (i + 1) (f i x) → K i x) : K 0 a := by
  have key : ∀ (m i : Nat), i + m = N → K i (fo f a i) := by
    intro m
    induction m with
    | zero => intro i hi; rw [show i = N by omega]; exact h1
    | succ m ih => intro i hi; exact h2 i _ (by omega) rfl (ih (i + 1) (by omega))
  exact key N 0 (by omega)
theorem fo_inv {α : Type} {f : Nat → α → α} {a : α} (I : Nat → α → Prop) (h0 : I 0 a) : ∀ {n : Nat}, (∀ i x, i < n → I i x → I (i + 1) (f i x)) → I n (fo f a n)
  | 0, _ => h0
  | n + 1, hs => hs n _ (by omega) (fo_inv I h0 (fun i x hi hx => hs i x (by omega) hx))
theorem fo_congr {α : Type} {f g : Nat → α → α} {a : α} : ∀ {n : Nat}, (∀ i x, i < n → f i x = g i x) → fo f a n = fo g a n
  | 0, _ => rfl
  | n + 1, h => by
    show f n (fo f a n) = g n (fo g a n)
    rw [fo_congr (fun i x hi => h i x (by omega)), h n _ (by omega)]
theorem fo_eq {α : Type} {f g : Nat → α → α} {a : α} (I : Nat → α → Prop) (h0 : I 0 a) : ∀ {n : Nat}, (∀ i x, i < n → I i x → f i x = g i x ∧ I (i + 1) (f i x)) → fo f a n = fo g a n ∧ I n (fo f a n)
  | 0, _ => ⟨rfl, h0⟩
  | n + 1, h => by
    obtain ⟨h1, h2⟩ := fo_eq I h0 (n := n) (fun i x hi hx => h i x (by omega) hx)
    obtain ⟨h3, h4⟩ := h n _ (by omega) h2
    show f n (fo f a n) = g n (fo g a n) ∧ I (n + 1) (f n (fo f a n))
    exact ⟨by rw [h3, h1], h4⟩
theorem mul_bd {a c A C : Int} (h1 : 0 ≤ a) (h2 : a ≤ A) (h3 : -C ≤ c) (h4 : c ≤ C) : -(A * C) ≤ a * c ∧ a * c ≤ A * C := by
  by_cases h9 : 0 ≤ c
  · have := Int.mul_le_mul h2 h4 h9 (by omega)
    have := Int.mul_nonneg h1 h9
    omega
  · have e1 := Int.mul_le_mul (a := a) (c := A) (b := -c) (d := C) h2 (by omega) (by omega) (by omega)
    have e2 := Int.mul_nonneg (a := a) (b := -c) h1 (by omega)
    rw [Int.mul_neg] at e1 e2
    omega
def farF (P : Nat → Nat → Int) (n : Nat) (a : Int) : Int := if P 8 n = 0 then a else if P 9 n + lng P n ≤ a then a else P 9 n + lng P n
def far (P : Nat → Nat → Int) (N : Nat) : Int := fo (farF P) 0 N
def lft (P : Nat → Nat → Int) (n : Nat) (e : Int) : Int := if P 8 n = 0 then 0 else if P 5 n < e then 0 else 1
def wtsF (P : Nat → Nat → Int) (e : Int) (n : Nat) (a : Int) : Int := if lft P n e = 0 then a else a + P 3 n
def wts (P : Nat → Nat → Int) (N : Nat) (e : Int) : Int := fo (wtsF P e) 0 N
def levF (P : Nat → Nat → Int) (Q : Nat → Int) (e : Int) (n : Nat) (a : Int) : Int := if lft P n e = 0 then a else a + P 3 n * (2 * P 9 n + lng P n - 2 * Q 4)
def lev (P : Nat → Nat → Int) (Q : Nat → Int) (N : Nat) (e : Int) : Int := fo (levF P Q e) 0 N
def axl (P : Nat → Nat → Int) (Q : Nat → Int) (N : Nat) (k e : Int) : Int := if k = 1 then lev P Q N e else wts P N e * 2 * (Q 5 - Q 4) - lev P Q N e
section MB
variable {l : Launch} {D : va_G} {DA : Nat → ClassId} {b sz d L : Nat} {cu : Bool} {σ : Nat → Nat → Int32} {N : Nat} {P : Nat → Nat → Int} {Q : Nat → Int}
theorem mOK.q (h : mOK σ N P Q) : σ 47 14 = zi (Q 0) ∧ σ 47 15 = zi (Q 1) ∧ σ 47 16 = zi (Q 2) ∧ σ 47 17 = zi (Q 3) ∧ σ 47 18 = zi (Q 4) ∧ σ 47 19 = zi (Q 5) ∧ σ 47 20 = zi (Q 6) ∧ σ 47 21 = zi (Q 7) ∧ σ 47 22 = zi (Q 8) :=
  ⟨h.2.2 0 (by decide), h.2.2 1 (by decide), h.2.2 2 (by decide), h.2.2 3 (by decide), h.2.2 4 (by decide), h.2.2 5 (by decide), h.2.2 6 (by decide), h.2.2 7 (by decide), h.2.2 8 (by decide)⟩
theorem far_bd (hp : pOK N P Q) {n : Nat} (hn : n ≤ N) : 0 ≤ far P n ∧ far P n ≤ 60 := by
  refine fo_inv (fun _ a => 0 ≤ a ∧ a ≤ 60) ⟨by decide, by decide⟩ (fun i x hi hx => ?_)
  have hb := hp.2.1 i (by omega)
  have hl := b_lng hb
  unfold bOK at hb
  unfold farF
  repeat' split
  all_goals omega
theorem c_R_farthest (hd : 1 ≤ d) (h : mOK σ N P Q) (hp : pOK N P Q) : GG l D DA b sz d L cu M_R_farthest [some (.ref 47), none, none] σ (some (.int (zi (far P N)))) σ := by
  obtain ⟨d, rfl⟩ : ∃ d', d = d' + 1 := ⟨d - 1, by omega⟩
  have hN := hp.1
  refine v_R_farthest_0 ?_
  refine fo_loop (fun i a => am_Go l D DA b sz (d + 1) M_R_farthest (4, [some (.ref 47), some (.int (zi a)), some (.int (zi i))], [], (am_TT cu L, am_RR cu, σ)) (some (.int (zi (far P N)))) (am_TT cu L, am_RR cu, σ)) (farF P) 0 N ?_ (fun i a hi ha ih => ?_)
  · refine v_R_farthest_4 _ _ ?_
    try simp (disch := omega) only [zi_cl, zi_add, zi_sub, zi_mul, zi_s1, zi_s0, zi_m1, z01, z10, zi_ite, zi_eq0, zi_lt0, zi_gt0, zi_le0, zi_ge0, zi_le, zi_lt, zi_eq, h.1]
    exact ⟨fun _ => (by first | exact ⟨rfl, rfl⟩ | exact ⟨trivial, trivial⟩ | exact ⟨trivial, rfl⟩ | exact ⟨rfl, trivial⟩ | trivial), fun h0 => absurd h0 (by omega)⟩
  · have hb := hp.2.1 i (by omega)
    have hl := b_lng hb
    have hf : 0 ≤ a ∧ a ≤ 60 := by rw [ha]; exact far_bd hp (by omega)
    have hi20 : i < 20 := by omega
    obtain ⟨⟨e0, e1, e2, e3, e4, e5, e6⟩, e7, e8, e9, e10, e11, e12⟩ := h.row hi20
    have hb' := hb
    unfold bOK at hb'
    refine v_R_farthest_4 _ _ ?_
    try simp (disch := omega) only [zi_cl, zi_add, zi_sub, zi_mul, zi_s1, zi_s0, zi_m1, z01, z10, zi_ite, zi_eq0, zi_lt0, zi_gt0, zi_le0, zi_ge0, zi_le, zi_lt, zi_eq, h.1, e8]
    refine ⟨fun h0 => absurd h0 (by omega), fun _ => ⟨by omega, fun h0 => ?_, fun h0 => ⟨by omega, _, _, c_R_longOf h hi20 hb, ?_⟩⟩⟩
    · unfold farF at ih
      rw [if_pos h0] at ih
      exact ih
    · try simp (disch := omega) only [zi_cl, zi_add, zi_sub, zi_mul, zi_s1, zi_s0, zi_m1, z01, z10, zi_ite, zi_eq0, zi_lt0, zi_gt0, zi_le0, zi_ge0, zi_le, zi_lt, zi_eq, e9]
      unfold farF at ih
      rw [if_neg h0] at ih
      refine ⟨fun h1 => ?_, fun h1 => ⟨by omega, _, _, c_R_longOf h hi20 hb, ?_⟩⟩
      · rw [if_pos h1] at ih; exact ih
      · rw [if_neg h1] at ih; try simp (disch := omega) only [zi_cl, zi_add, zi_sub, zi_mul, zi_s1, zi_s0, zi_m1, z01, z10, zi_ite, zi_eq0, zi_lt0, zi_gt0, zi_le0, zi_ge0, zi_le, zi_lt, zi_eq, e9]; exact ih
theorem c_R_isLeft (h : mOK σ N P Q) (hp : pOK N P Q) {n : Nat} (hn : n < N) {e : Int} (he : -10 ≤ e ∧ e ≤ 10) : GG l D DA b sz d L cu M_R_isLeft [some (.ref 47), some (.int (zi n)), some (.int (zi e))] σ (some (.int (zi (lft P n e)))) σ := by
  have hN := hp.1
  have hb := hp.2.1 n hn
  unfold bOK at hb
  have hn20 : n < 20 := by omega
  obtain ⟨⟨e0, e1, e2, e3, e4, e5, e6⟩, e7, e8, e9, e10, e11, e12⟩ := h.row hn20
  refine v_R_isLeft_0 _ _ ?_
  unfold lft
  try simp (disch := omega) only [zi_cl, zi_add, zi_sub, zi_mul, zi_s1, zi_s0, zi_m1, z01, z10, zi_ite, zi_eq0, zi_lt0, zi_gt0, zi_le0, zi_ge0, zi_le, zi_lt, zi_eq, e8, e5]
  refine ⟨by omega, fun h0 => (by rw [if_pos h0]; exact (by first | exact ⟨rfl, rfl⟩ | exact ⟨trivial, trivial⟩ | exact ⟨trivial, rfl⟩ | exact ⟨rfl, trivial⟩ | trivial)), fun h0 => ⟨by omega, by split <;> simp [zi_0, zi_1], by rw [if_neg h0]; exact (by first | exact ⟨rfl, rfl⟩ | exact ⟨trivial, trivial⟩ | exact ⟨trivial, rfl⟩ | exact ⟨rfl, trivial⟩ | trivial)⟩⟩
theorem wts_bd (hp : pOK N P Q) (e : Int) {n : Nat} (hn : n ≤ N) : 0 ≤ wts P n e ∧ wts P n e ≤ 1000 * n := by
  refine fo_inv (fun i a => 0 ≤ a ∧ a ≤ 1000 * (i : Int)) ⟨by decide, by decide⟩ (fun i x hi hx => ?_)
  have hb := hp.2.1 i (by omega)
  unfold bOK at hb
  unfold wtsF
  split <;> omega
theorem c_R_weights (hd : 1 ≤ d) (h : mOK σ N P Q) (hp : pOK N P Q) {e : Int} (he : -10 ≤ e ∧ e ≤ 10) : GG l D DA b sz d L cu M_R_weights [some (.ref 47), some (.int (zi e)), none, none] σ (some (.int (zi (wts P N e)))) σ := by
  obtain ⟨d, rfl⟩ : ∃ d', d = d' + 1 := ⟨d - 1, by omega⟩
  have hN := hp.1
  refine v_R_weights_0 _ ?_
  refine fo_loop (fun i a => am_Go l D DA b sz (d + 1) M_R_weights (4, [some (.ref 47), some (.int (zi e)), some (.int (zi a)), some (.int (zi i))], [], (am_TT cu L, am_RR cu, σ)) (some (.int (zi (wts P N e)))) (am_TT cu L, am_RR cu, σ)) (wtsF P e) 0 N ?_ (fun i a hi ha ih => ?_)
  · refine v_R_weights_4 _ _ _ ?_
    try simp (disch := omega) only [zi_cl, zi_add, zi_sub, zi_mul, zi_s1, zi_s0, zi_m1, z01, z10, zi_ite, zi_eq0, zi_lt0, zi_gt0, zi_le0, zi_ge0, zi_le, zi_lt, zi_eq, h.1]
    exact ⟨fun _ => (by first | exact ⟨rfl, rfl⟩ | exact ⟨trivial, trivial⟩ | exact ⟨trivial, rfl⟩ | exact ⟨rfl, trivial⟩ | trivial), fun h0 => absurd h0 (by omega)⟩
  · have hi20 : i < 20 := by omega
    obtain ⟨⟨e0, e1, e2, e3, e4, e5, e6⟩, e7, e8, e9, e10, e11, e12⟩ := h.row hi20
    refine v_R_weights_4 _ _ _ ?_
    try simp (disch := omega) only [zi_cl, zi_add, zi_sub, zi_mul, zi_s1, zi_s0, zi_m1, z01, z10, zi_ite, zi_eq0, zi_lt0, zi_gt0, zi_le0, zi_ge0, zi_le, zi_lt, zi_eq, h.1]
    have hl : 0 ≤ lft P i e ∧ lft P i e ≤ 1 := by unfold lft; repeat' split; all_goals omega
    refine ⟨fun h0 => absurd h0 (by omega), fun _ => ⟨_, _, c_R_isLeft h hp hi he, ?_⟩⟩
    try simp (disch := omega) only [zi_cl, zi_add, zi_sub, zi_mul, zi_s1, zi_s0, zi_m1, z01, z10, zi_ite, zi_eq0, zi_lt0, zi_gt0, zi_le0, zi_ge0, zi_le, zi_lt, zi_eq, e3]
    unfold wtsF at ih
    refine ⟨fun h0 => ?_, fun h0 => ⟨by omega, ?_⟩⟩
    · rw [if_pos h0] at ih; exact ih
    · rw [if_neg h0] at ih; exact ih
theorem lev_bd (hp : pOK N P Q) (e : Int) {n : Nat} (hn : n ≤ N) : -100000 * (n : Int) ≤ lev P Q n e ∧ lev P Q n e ≤ 100000 * n := by
  refine fo_inv (fun i a => -100000 * (i : Int) ≤ a ∧ a ≤ 100000 * (i : Int)) ⟨by decide, by decide⟩ (fun i x hi hx => ?_)
  have hb := hp.2.1 i (by omega)
  have hl := b_lng hb
  have hq := hp.2.2.2
  unfold bOK at hb
  unfold qOK at hq
  unfold levF
  split
  · omega
  · have := mul_bd (a := P 3 i) (c := 2 * P 9 i + lng P i - 2 * Q 4) (A := 1000) (C := 100) (by omega) (by omega) (by omega) (by omega)
    omega
theorem c_R_axleOf (hd : 2 ≤ d) (h : mOK σ N P Q) (hp : pOK N P Q) {k e : Int} (hk : -10 ≤ k ∧ k ≤ 10) (he : -10 ≤ e ∧ e ≤ 10) : GG l D DA b sz d L cu M_R_axleOf [some (.ref 47), some (.int (zi k)), some (.int (zi e)), none, none] σ (some (.int (zi (axl P Q N k e)))) σ := by
  obtain ⟨d, rfl⟩ : ∃ d', d = d' + 1 := ⟨d - 1, by omega⟩
  have hN := hp.1
  obtain ⟨g0, g1, g2, g3, g4, g5, g6, g7, g8⟩ := h.q
  have z2 : (2 : Int32) = zi 2 := rfl
  refine v_R_axleOf_0 _ _ ?_
  refine fo_loop (fun i a => am_Go l D DA b sz (d + 1) M_R_axleOf (5, [some (.ref 47), some (.int (zi k)), some (.int (zi e)), some (.int (zi a)), some (.int (zi i))], [], (am_TT cu L, am_RR cu, σ)) (some (.int (zi (axl P Q N k e)))) (am_TT cu L, am_RR cu, σ)) (levF P Q e) 0 N ?_ (fun i a hi ha ih => ?_)
  · refine v_R_axleOf_5 _ _ _ _ ?_
    rw [show (1 : Int32) = zi 1 from rfl]
    try simp (disch := omega) only [zi_cl, zi_add, zi_sub, zi_mul, zi_s1, zi_s0, zi_m1, z01, z10, zi_ite, zi_eq0, zi_lt0, zi_gt0, zi_le0, zi_ge0, zi_le, zi_lt, zi_eq, h.1]
    unfold axl
    refine ⟨fun _ => ⟨fun h0 => (by rw [if_pos h0]; exact (by first | exact ⟨rfl, rfl⟩ | exact ⟨trivial, trivial⟩ | exact ⟨trivial, rfl⟩ | exact ⟨rfl, trivial⟩ | trivial)), fun h0 => ⟨_, _, c_R_weights (by omega) h hp he, ?_⟩⟩, fun h0 => absurd h0 (by omega)⟩
    try simp (disch := omega) only [zi_cl, zi_add, zi_sub, zi_mul, zi_s1, zi_s0, zi_m1, z01, z10, zi_ite, zi_eq0, zi_lt0, zi_gt0, zi_le0, zi_ge0, zi_le, zi_lt, zi_eq, g4, g5, z2]
    rw [if_neg h0]; exact (by first | exact ⟨rfl, rfl⟩ | exact ⟨trivial, trivial⟩ | exact ⟨trivial, rfl⟩ | exact ⟨rfl, trivial⟩ | trivial)
  · have hi20 : i < 20 := by omega
    obtain ⟨⟨e0, e1, e2, e3, e4, e5, e6⟩, e7, e8, e9, e10, e11, e12⟩ := h.row hi20
    refine v_R_axleOf_5 _ _ _ _ ?_
    have hl : 0 ≤ lft P i e ∧ lft P i e ≤ 1 := by unfold lft; repeat' split; all_goals omega
    try simp (disch := omega) only [zi_cl, zi_add, zi_sub, zi_mul, zi_s1, zi_s0, zi_m1, z01, z10, zi_ite, zi_eq0, zi_lt0, zi_gt0, zi_le0, zi_ge0, zi_le, zi_lt, zi_eq, h.1]
    refine ⟨fun h0 => absurd h0 (by omega), fun _ => ⟨_, _, c_R_isLeft h hp hi he, ?_⟩⟩
    unfold levF at ih
    try simp (disch := omega) only [zi_cl, zi_add, zi_sub, zi_mul, zi_s1, zi_s0, zi_m1, z01, z10, zi_ite, zi_eq0, zi_lt0, zi_gt0, zi_le0, zi_ge0, zi_le, zi_lt, zi_eq, e3]
    refine ⟨fun h0 => ?_, fun h0 => ⟨by omega, by omega, _, _, c_R_longOf h hi20 (hp.2.1 i hi), ?_⟩⟩
    · rw [if_pos h0] at ih; exact ih
    · rw [if_neg h0] at ih; try simp (disch := omega) only [zi_cl, zi_add, zi_sub, zi_mul, zi_s1, zi_s0, zi_m1, z01, z10, zi_ite, zi_eq0, zi_lt0, zi_gt0, zi_le0, zi_ge0, zi_le, zi_lt, zi_eq, e9, g4, z2]; exact ih
end MB
