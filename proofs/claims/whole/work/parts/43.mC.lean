/-! the reference: in the way, the next end, taken out, cleared, at, count -/
theorem up_loop (K : Nat → Prop) (N : Nat) (h1 : K N) (h2 : ∀ i, i < N → K (i + 1) → K i) : K 0 := by
  have key : ∀ (m i : Nat), i + m = N → K i := by
    intro m
    induction m with
    | zero => intro i hi; rw [show i = N by omega]; exact h1
    | succ m ih => intro i hi; exact h2 i (by omega) (ih (i + 1) (by omega))
  exact key N 0 (by omega)
/-- later, other: the one that is unloaded later, and the other one -/
def iwB (P : Nat → Nat → Int) (a c la ot : Nat) : Int := if P 9 ot + lng P ot ≤ P 9 la ∧ 0 < com (P 10 a) (wdt P a) (P 10 c) (wdt P c) ∧ 0 < com (P 11 a) (P 2 a) (P 11 c) (P 2 c) then 1 else if tp P ot ≤ P 11 la ∧ 0 < area P a c then 1 else 0
def iw (P : Nat → Nat → Int) (a c : Nat) : Int := if P 5 a = P 5 c then 0 else if P 5 a ≤ P 5 c then iwB P a c c a else iwB P a c a c
def en (P : Nat → Nat → Int) (k : Int) (n : Nat) : Int := if k = 0 then P 9 n + lng P n else if k = 1 then P 10 n + wdt P n else tp P n
def neF (P : Nat → Nat → Int) (k v : Int) (n : Nat) (a : Int) : Int := if P 8 n = 0 then a else if en P k n ≤ v then a else if a = -1 then en P k n else if a ≤ en P k n then a else en P k n
def ne (P : Nat → Nat → Int) (N : Nat) (k v : Int) : Int := fo (neF P k v) (-1) N
def pu (P : Nat → Nat → Int) (k n : Nat) (v : Int) : Nat → Nat → Int := fun k' n' => if k' = k ∧ n' = n then v else P k' n'
section MC
variable {l : Launch} {D : va_G} {DA : Nat → ClassId} {b sz d L : Nat} {cu : Bool} {σ : Nat → Nat → Int32} {N : Nat} {P : Nat → Nat → Int} {Q : Nat → Int}
theorem en_bd (hp : pOK N P Q) (k : Int) {n : Nat} (hn : n < N) : 0 ≤ en P k n ∧ en P k n ≤ 60 := by
  have hb := hp.2.1 n hn
  have h1 := b_lng hb
  have h2 := b_wdt hb
  have h3 : tp P n = P 11 n + P 2 n := rfl
  unfold bOK at hb
  unfold en
  repeat' split
  all_goals omega
theorem ne_bd (hp : pOK N P Q) (k v : Int) {n : Nat} (hn : n ≤ N) : -1 ≤ ne P n k v ∧ ne P n k v ≤ 60 := by
  refine fo_inv (fun _ a => -1 ≤ a ∧ a ≤ 60) ⟨by decide, by decide⟩ (fun i x hi hx => ?_)
  have := en_bd hp k (n := i) (by omega)
  unfold neF
  repeat' split
  all_goals omega
theorem zm1 : (-1 : Int32) = zi (-1) := rfl
theorem z1 : (1 : Int32) = zi 1 := rfl
theorem z2 : (2 : Int32) = zi 2 := rfl
theorem c_R_iwE (hd : 2 ≤ d) (h : mOK σ N P Q) {n m : Nat} (hn : n < 20) (hm : m < 20) (hb : bOK P n) (hc : bOK P m) {la ot : Nat} (hla : la < 20) (hot : ot < 20) (hbl : bOK P la) (hbo : bOK P ot) (hcond : ¬ (P 9 ot + lng P ot ≤ P 9 la ∧ 0 < com (P 10 n) (wdt P n) (P 10 m) (wdt P m) ∧ 0 < com (P 11 n) (P 2 n) (P 11 m) (P 2 m))) :
    am_Go l D DA b sz d M_R_isInWay (157, [some (.ref 47), some (.int (zi n)), some (.int (zi m)), some (.int (zi la)), some (.int (zi ot)), none, none], [], (am_TT cu L, am_RR cu, σ)) (some (.int (zi (iwB P n m la ot)))) (am_TT cu L, am_RR cu, σ) := by
  obtain ⟨d, rfl⟩ : ∃ d', d = d' + 1 := ⟨d - 1, by omega⟩
  obtain ⟨⟨e0, e1, e2, e3, e4, e5, e6⟩, e7, e8, e9, e10, e11, e12⟩ := h.row hla
  have ha := area_bd (c := m) hb
  have ht : tp P ot = P 11 ot + P 2 ot := rfl
  unfold bOK at hbl hbo
  refine v_R_isInWayc_157 _ _ _ _ ?_
  try simp (disch := omega) only [zi_cl, zi_add, zi_sub, zi_mul, zi_s1, zi_s0, zi_m1, z01, z10, zi_ite, zi_eq0, zi_lt0, zi_gt0, zi_le0, zi_ge0, zi_le, zi_lt, zi_eq, e11]
  unfold iwB
  rw [if_neg hcond]
  refine ⟨by omega, _, _, c_R_topOf h hot, ?_⟩
  try simp (disch := omega) only [zi_cl, zi_add, zi_sub, zi_mul, zi_s1, zi_s0, zi_m1, z01, z10, zi_ite, zi_eq0, zi_lt0, zi_gt0, zi_le0, zi_ge0, zi_le, zi_lt, zi_eq]
  refine ⟨fun h0 => (by rw [if_neg (fun z => absurd z.1 (by omega))]; exact (by first | exact ⟨rfl, rfl⟩ | exact ⟨trivial, trivial⟩ | exact ⟨trivial, rfl⟩ | exact ⟨rfl, trivial⟩ | trivial)), fun h0 => ⟨_, _, c_R_area (by omega) h hn hm hb hc, ?_⟩⟩
  try simp (disch := omega) only [zi_cl, zi_add, zi_sub, zi_mul, zi_s1, zi_s0, zi_m1, z01, z10, zi_ite, zi_eq0, zi_lt0, zi_gt0, zi_le0, zi_ge0, zi_le, zi_lt, zi_eq]
  refine ⟨by split <;> simp [zi_0, zi_1], ?_, by first | rfl | trivial⟩
  by_cases h1 : area P n m ≤ 0
  · rw [if_pos h1, if_neg (fun z => absurd z.2 (by omega))]
  · rw [if_neg h1, if_pos ⟨by omega, by omega⟩]
theorem c_R_iwM (hd : 2 ≤ d) (h : mOK σ N P Q) {n m : Nat} (hn : n < 20) (hm : m < 20) (hb : bOK P n) (hc : bOK P m) {la ot : Nat} (hla : la < 20) (hot : ot < 20) (hbl : bOK P la) (hbo : bOK P ot) :
    am_Go l D DA b sz d M_R_isInWay (50, [some (.ref 47), some (.int (zi n)), some (.int (zi m)), some (.int (zi la)), some (.int (zi ot)), none, none], [], (am_TT cu L, am_RR cu, σ)) (some (.int (zi (iwB P n m la ot)))) (am_TT cu L, am_RR cu, σ) := by
  obtain ⟨d, rfl⟩ : ∃ d', d = d' + 1 := ⟨d - 1, by omega⟩
  obtain ⟨⟨e0, e1, e2, e3, e4, e5, e6⟩, e7, e8, e9, e10, e11, e12⟩ := h.row hla
  obtain ⟨⟨f0, f1, f2, f3, f4, f5, f6⟩, f7, f8, f9, f10, f11, f12⟩ := h.row hn
  obtain ⟨⟨g0, g1, g2, g3, g4, g5, g6⟩, g7, g8, g9, g10, g11, g12⟩ := h.row hm
  obtain ⟨⟨k0, k1, k2, k3, k4, k5, k6⟩, k7, k8, k9, k10, k11, k12⟩ := h.row hot
  have w1 := b_wdt hb
  have w2 := b_wdt hc
  have l2 := b_lng hbo
  have hb' := hb
  have hc' := hc
  have hbl' := hbl
  have hbo' := hbo
  unfold bOK at hb' hc' hbl' hbo'
  have x1 := c_R_common (l := l) (D := D) (DA := DA) (b := b) (sz := sz) (d := d) (L := L) (cu := cu) (σ := σ) (a := P 10 n) (n := wdt P n) (c := P 10 m) (m := wdt P m) (by omega) (by omega) (by omega) (by omega)
  have x2 := c_R_common (l := l) (D := D) (DA := DA) (b := b) (sz := sz) (d := d) (L := L) (cu := cu) (σ := σ) (a := P 11 n) (n := P 2 n) (c := P 11 m) (m := P 2 m) (by omega) (by omega) (by omega) (by omega)
  have y1 := com_le (a := P 10 n) (n := wdt P n) (c := P 10 m) (m := wdt P m) (by omega)
  have y2 := com_le (a := P 11 n) (n := P 2 n) (c := P 11 m) (m := P 2 m) (by omega)
  have y3 := com_nn (P 10 n) (wdt P n) (P 10 m) (wdt P m)
  have y4 := com_nn (P 11 n) (P 2 n) (P 11 m) (P 2 m)
  rw [← f10, ← g10] at x1
  rw [← f11, ← g11, ← f2, ← g2] at x2
  refine v_R_isInWayc_50 _ _ _ _ ?_
  simp (disch := omega) only [zi_cl, zi_lt0]
  refine ⟨by omega, _, _, c_R_wideOf h hn hb, by omega, _, _, c_R_wideOf h hm hc, _, _, x1, by omega, by omega, by omega, by omega, _, _, x2, by omega, by omega, _, _, c_R_longOf h hot hbo, ?_⟩
  try simp (disch := omega) only [zi_cl, zi_add, zi_sub, zi_mul, zi_s1, zi_s0, zi_m1, z01, z10, zi_ite, zi_eq0, zi_lt0, zi_gt0, zi_le0, zi_ge0, zi_le, zi_lt, zi_eq, e9, k9]
  refine ⟨fun h0 => c_R_iwE (by omega) h hn hm hb hc hla hot hbl hbo (fun z => absurd z.1 (by omega)), fun h0 => ⟨fun h1 => ?_, fun h1 => ⟨fun h2 => ?_, fun h2 => ?_⟩⟩⟩
  · refine c_R_iwE (by omega) h hn hm hb hc hla hot hbl hbo (fun z => ?_)
    rw [if_neg (by omega)] at h1
    exact absurd h1 (by decide)
  · refine c_R_iwE (by omega) h hn hm hb hc hla hot hbl hbo (fun z => ?_)
    rw [if_neg (by omega)] at h2
    exact absurd h2 (by decide)
  · unfold iwB
    have h3 : 0 < com (P 10 n) (wdt P n) (P 10 m) (wdt P m) := by
      by_cases h9 : com (P 10 n) (wdt P n) (P 10 m) (wdt P m) ≤ 0
      · rw [if_pos h9] at h1; exact absurd rfl h1
      · omega
    have h4 : 0 < com (P 11 n) (P 2 n) (P 11 m) (P 2 m) := by
      by_cases h9 : com (P 11 n) (P 2 n) (P 11 m) (P 2 m) ≤ 0
      · rw [if_pos h9] at h2; exact absurd rfl h2
      · omega
    rw [if_pos ⟨by omega, h3, h4⟩]
    exact (by first | exact ⟨rfl, rfl⟩ | exact ⟨trivial, trivial⟩ | exact ⟨trivial, rfl⟩ | exact ⟨rfl, trivial⟩ | trivial)
theorem c_R_isInWay (hd : 2 ≤ d) (h : mOK σ N P Q) {n m : Nat} (hn : n < 20) (hm : m < 20) (hb : bOK P n) (hc : bOK P m) (hne : n ≠ m) :
    GG l D DA b sz d L cu M_R_isInWay [some (.ref 47), some (.int (zi n)), some (.int (zi m)), none, none, none, none] σ (some (.int (zi (iw P n m)))) σ := by
  obtain ⟨d, rfl⟩ : ∃ d', d = d' + 1 := ⟨d - 1, by omega⟩
  obtain ⟨⟨f0, f1, f2, f3, f4, f5, f6⟩, f7, f8, f9, f10, f11, f12⟩ := h.row hn
  obtain ⟨⟨g0, g1, g2, g3, g4, g5, g6⟩, g7, g8, g9, g10, g11, g12⟩ := h.row hm
  have hb' := hb
  have hc' := hc
  unfold bOK at hb' hc'
  refine v_R_isInWayc_0 _ _ ?_
  simp (disch := omega) only [zi_cl, zi_lt0, f5, g5, zi_eq, zi_le]
  unfold iw
  refine ⟨by omega, by omega, fun h0 => (by rw [if_pos h0]; exact (by first | exact ⟨rfl, rfl⟩ | exact ⟨trivial, trivial⟩ | exact ⟨trivial, rfl⟩ | exact ⟨rfl, trivial⟩ | trivial)), fun h0 => ⟨by omega, by omega, ?_⟩⟩
  by_cases h1 : P 5 n ≤ P 5 m
  · rw [if_neg h0, if_pos h1]
    simp (disch := omega) only [if_pos h1, zi_eq, if_neg (show ¬ (m : Int) = n by omega)]
    exact c_R_iwM (by omega) h hn hm hb hc hm hn hc hb
  · rw [if_neg h0, if_neg h1]
    simp (disch := omega) only [if_neg h1, if_pos rfl]
    exact c_R_iwM (by omega) h hn hm hb hc hn hm hb hc
theorem c_R_nextEnd (hd : 1 ≤ d) (h : mOK σ N P Q) (hp : pOK N P Q) {k v : Int} (hk : 0 ≤ k ∧ k ≤ 2) (hv : -10 ≤ v ∧ v ≤ 100) : GG l D DA b sz d L cu M_R_nextEnd [some (.ref 47), some (.int (zi k)), some (.int (zi v)), none, none, none] σ (some (.int (zi (ne P N k v)))) σ := by
  obtain ⟨d, rfl⟩ : ∃ d', d = d' + 1 := ⟨d - 1, by omega⟩
  have hN := hp.1
  refine v_R_nextEndc_0 _ _ ?_
  refine fo_loop (fun i a => am_Go l D DA b sz (d + 1) M_R_nextEnd (5, [some (.ref 47), some (.int (zi k)), some (.int (zi v)), some (.int (zi a)), some (.int (zi i)), none], [], (am_TT cu L, am_RR cu, σ)) (some (.int (zi (ne P N k v)))) (am_TT cu L, am_RR cu, σ)) (neF P k v) (-1) N ?_ (fun i a hi ha ih => ?_)
  · refine v_R_nextEndc_5 _ _ _ _ ?_
    try simp (disch := omega) only [zi_cl, zi_add, zi_sub, zi_mul, zi_s1, zi_s0, zi_m1, z01, z10, zi_ite, zi_eq0, zi_lt0, zi_gt0, zi_le0, zi_ge0, zi_le, zi_lt, zi_eq, h.1]
    exact ⟨fun _ => (by first | exact ⟨rfl, rfl⟩ | exact ⟨trivial, trivial⟩ | exact ⟨trivial, rfl⟩ | exact ⟨rfl, trivial⟩ | trivial), fun h0 => absurd h0 (by omega)⟩
  · have hb := hp.2.1 i (by omega)
    have hf : -1 ≤ a ∧ a ≤ 60 := by rw [ha]; exact ne_bd hp k v (by omega)
    have hi20 : i < 20 := by omega
    have he := en_bd hp k hi
    obtain ⟨⟨e0, e1, e2, e3, e4, e5, e6⟩, e7, e8, e9, e10, e11, e12⟩ := h.row hi20
    have hb' := hb
    unfold bOK at hb'
    have key : ∀ {x : Int}, x = en P k i → P 8 i ≠ 0 → am_Go l D DA b sz (d + 1) M_R_nextEnd (78, [some (.ref 47), some (.int (zi k)), some (.int (zi v)), some (.int (zi a)), some (.int (zi i)), some (.int (zi x))], [], (am_TT cu L, am_RR cu, σ)) (some (.int (zi (ne P N k v)))) (am_TT cu L, am_RR cu, σ) := by
      intro x hx h0
      subst hx
      refine v_R_nextEndc_78 _ _ _ _ _ ?_
      rw [zm1]
      try simp (disch := omega) only [zi_cl, zi_add, zi_sub, zi_mul, zi_s1, zi_s0, zi_m1, z01, z10, zi_ite, zi_eq0, zi_lt0, zi_gt0, zi_le0, zi_ge0, zi_le, zi_lt, zi_eq]
      unfold neF at ih
      rw [if_neg h0] at ih
      refine ⟨fun h1 => ?_, fun h1 => ⟨fun h2 => ?_, fun h2 => ⟨fun h3 => ?_, fun h3 => ?_⟩⟩⟩
      · rw [if_pos h1] at ih; exact ih
      · rw [if_neg h1, if_pos h2] at ih; exact ih
      · rw [if_neg h1, if_neg h2, if_pos h3] at ih; exact ih
      · rw [if_neg h1, if_neg h2, if_neg h3] at ih; exact ih
    refine v_R_nextEndc_5 _ _ _ _ ?_
    rw [show (zi k = 1) = (zi k = zi 1) from rfl]
    try simp (disch := omega) only [zi_cl, zi_add, zi_sub, zi_mul, zi_s1, zi_s0, zi_m1, z01, z10, zi_ite, zi_eq0, zi_lt0, zi_gt0, zi_le0, zi_ge0, zi_le, zi_lt, zi_eq, h.1, e8]
    refine ⟨fun h0 => absurd h0 (by omega), fun _ => ⟨by omega, fun h0 => ?_, fun h0 => ⟨fun h1 => ⟨by omega, _, _, c_R_longOf h hi20 hb, ?_⟩, fun h1 => ⟨fun h2 => ⟨by omega, _, _, c_R_wideOf h hi20 hb, ?_⟩, fun h2 => ⟨_, _, c_R_topOf h hi20, ?_⟩⟩⟩⟩⟩
    · unfold neF at ih
      rw [if_pos h0] at ih
      exact ih
    · try simp (disch := omega) only [zi_cl, zi_add, zi_sub, zi_mul, zi_s1, zi_s0, zi_m1, z01, z10, zi_ite, zi_eq0, zi_lt0, zi_gt0, zi_le0, zi_ge0, zi_le, zi_lt, zi_eq, e9]; exact key (by unfold en; rw [if_pos h1]) h0
    · try simp (disch := omega) only [zi_cl, zi_add, zi_sub, zi_mul, zi_s1, zi_s0, zi_m1, z01, z10, zi_ite, zi_eq0, zi_lt0, zi_gt0, zi_le0, zi_ge0, zi_le, zi_lt, zi_eq, e10]; exact key (by unfold en; rw [if_neg h1, if_pos h2]) h0
    · exact key (by unfold en; rw [if_neg h1, if_neg h2]) h0
theorem mOK_pu (h : mOK σ N P Q) {k n : Nat} (hk : k < 13) (v : Int) : mOK (am_us σ (48 + k) n (zi v)) N (pu P k n v) Q := by
  obtain ⟨h1, h2, h3⟩ := h
  refine ⟨?_, fun k' hk' n' hn' => ?_, fun j hj => ?_⟩
  · rw [am_us_c (by omega)]; exact h1
  · unfold am_us pu
    by_cases h9 : k' = k ∧ n' = n
    · rw [if_pos ⟨by omega, h9.2⟩, if_pos h9]
    · rw [if_neg (by omega), if_neg h9]; exact h2 k' hk' n' hn'
  · rw [am_us_c (by omega)]; exact h3 j hj
end MC
