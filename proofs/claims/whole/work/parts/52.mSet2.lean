/-! the reference: sets, loop by loop -/
section MS2
variable {l : Launch} {D : va_G} {DA : Nat → ClassId} {b sz d L : Nat} {cu : Bool} {σ σ1 : Nat → Nat → Int32} {N : Nat} {P : Nat → Nat → Int} {Q : Nat → Int}
/-- there is a run of sets from here, and it ends as it should -/
def sGo (l : Launch) (D : va_G) (DA : Nat → ClassId) (b sz d L : Nat) (cu : Bool) (P : Nat → Nat → Int) (Q : Nat → Int) (N n : Nat) (σ : Nat → Nat → Int32) (pc : Nat) (A : am_L) (σ1 : Nat → Nat → Int32) : Prop :=
  ∃ rr σ', am_Go l D DA b sz d M_R_sets (pc, A, [], (am_TT cu L, am_RR cu, σ1)) (some (.int (zi rr))) (am_TT cu L, am_RR cu, σ') ∧ sOut P Q N n σ rr σ'
theorem stp {k v : Int} (hp : pOK N P Q) (NO : Int → Prop) (hc : ∀ w, ¬ NO w → cor P N k w) (hv : 0 ≤ v) (h : ∀ w, w < v → NO w) (h0 : NO v) : (ne P N k v = -1 ∧ ∀ w, NO w) ∨ (v < ne P N k v ∧ cor P N k (ne P N k v) ∧ ∀ w, w < ne P N k v → NO w) := by
  rcases ne_cor hp (k := k) hv with ⟨h1, h2⟩ | ⟨h1, h2, h3⟩
  · refine Or.inl ⟨h1, fun w => Classical.byContradiction fun hn => ?_⟩
    have h4 := h2 w (hc w hn)
    by_cases e : w = v
    · exact hn (e ▸ h0)
    · exact hn (h w (by omega))
  · refine Or.inr ⟨h1, h2, fun w hw => Classical.byContradiction fun hn => ?_⟩
    rcases h3 w (hc w hn) with h4 | h4
    · by_cases e : w = v
      · exact hn (e ▸ h0)
      · exact hn (h w (by omega))
    · omega
theorem sIn_mOK {n : Nat} (hs : sIn P Q N n σ σ1) : ∃ P1, mOK σ1 N P1 Q ∧ (∃ x y z t, P1 = pp P n x y z t) ∧ (∀ x y z t, pp P1 n x y z t = pp P n x y z t) ∧ (∀ k m, k < 9 → P1 k m = P k m) ∧ (pOK N P Q → n < N → P 8 n = 0 → pOK N P1 Q) := by
  obtain ⟨_, x, y, z, t, a1, a2, a3, a4, a5⟩ := hs
  exact ⟨_, a5, ⟨x, y, z, t, rfl⟩, fun x' y' z' t' => pp_pp n x y z t x' y' z' t', fun k m hk => pp_o (by omega), fun hp hn h8 => pp_pOK hp hn h8 a1 a2 a3 a4⟩
theorem s26 (hd : 6 ≤ d) (hp : pOK N P Q) {n : Nat} (hn : n < N) (h8 : P 8 n = 0) {x y z t : Int} (hx : 0 ≤ x ∧ x ≤ 40) (hy : 0 ≤ y ∧ y ≤ 40) (hz : 0 ≤ z ∧ z ≤ 40) (ht : 0 ≤ t ∧ t ≤ 2) (hs : sIn P Q N n σ σ1)
    (h1 : trn P n ≤ t → sGo l D DA b sz d L cu P Q N n σ 17 [some (.ref 47), some (.int (zi n)), some (.int (zi z)), some (.int (zi x)), some (.int (zi (ne P N 1 y))), none] σ1)
    (h2 : t < trn P n → ∀ σ2, sIn P Q N n σ σ2 → wrg (pp P n x y z t) Q N n ≠ 0 → sGo l D DA b sz d L cu P Q N n σ 26 [some (.ref 47), some (.int (zi n)), some (.int (zi z)), some (.int (zi x)), some (.int (zi y)), some (.int (zi (t + 1)))] σ2)
    (h3 : t < trn P n → wrg (pp P n x y z t) Q N n = 0 → fstc P Q N n x y z t) :
    sGo l D DA b sz d L cu P Q N n σ 26 [some (.ref 47), some (.int (zi n)), some (.int (zi z)), some (.int (zi x)), some (.int (zi y)), some (.int (zi t))] σ1 := by
  obtain ⟨d, rfl⟩ : ∃ d', d = d' + 1 := ⟨d - 1, by omega⟩
  have hN := hp.1
  have hn20 : n < 20 := by omega
  obtain ⟨P1, m1, ⟨xo, yo, zo, to, e1⟩, m2, m3, m4⟩ := sIn_mOK hs
  have hp1 := m4 hp hn h8
  have hne : ne P1 N 1 y = ne P N 1 y := by rw [e1]; exact ne_pp h8
  clear e1
  have hb := hp.2.1 n hn
  unfold bOK at hb
  obtain ⟨⟨e0, e1, e2, e3, e4, e5, e6⟩, e7, e8, e9, e10, e11, e12⟩ := m1.row hn20
  rw [m3 0 n (by decide)] at e0
  rw [m3 1 n (by decide)] at e1
  rw [m3 6 n (by decide)] at e6
  have htr : trn P n = if P 6 n = 0 then 1 else if P 0 n = P 1 n then 1 else 2 := rfl
  by_cases c : trn P n ≤ t
  · obtain ⟨rr, σ', g1, g2⟩ := h1 c
    refine ⟨rr, σ', v_R_sets_26 _ _ _ _ _ ?_, g2⟩
    have hcall := c_R_nextEnd (l := l) (D := D) (DA := DA) (b := b) (sz := sz) (d := d) (L := L) (cu := cu) (by omega) m1 hp1 (k := 1) (v := y) (by decide) (by omega)
    rw [hne] at hcall
    rw [z1, z2]
    try simp (disch := omega) only [zi_cl, zi_add, zi_sub, zi_mul, zi_s1, zi_s0, zi_m1, z01, z10, zi_ite, zi_eq0, zi_lt0, zi_gt0, zi_le0, zi_ge0, zi_le, zi_lt, zi_eq, e0, e1, e6]
    refine ⟨by omega, fun c1 => ⟨fun c2 => ⟨_, _, hcall, g1⟩, fun c2 => ?_⟩, fun c1 => ⟨by omega, by omega, fun c2 => ⟨_, _, hcall, g1⟩, fun c2 => ?_⟩⟩
    · rw [if_pos c1] at htr; exact absurd c2 (by omega)
    · rw [if_neg c1] at htr; rw [← htr] at c2; exact absurd c c2
  · have ht2 : t = 0 ∨ t = 1 := by
      have : trn P n ≤ 2 := by rw [htr]; repeat' split; all_goals omega
      omega
    have hi : (if zi t = 1 then (1 : Int32) else 0) = zi t := by
      rcases ht2 with rfl | rfl
      · rfl
      · rfl
    obtain ⟨σ2, w1, w2, w3⟩ := c_R_wrongAt (l := l) (D := D) (DA := DA) (b := b) (sz := sz) (d := d) (L := L) (cu := cu) (by omega) m1 hp1 hn (by rw [m3 8 n (by decide)]; exact h8) hx hy hz ht2
    rw [m2] at w1 w2
    have hfr : ∀ c, c < 56 ∨ 62 ≤ c → σ2 c = σ c := fun c hc => (w3 c hc).trans (hs.1 c hc)
    have hwl : wrg (pp P n x y z t) Q N n < 32 := by
      unfold wrg
      repeat' split
      · exact b1W_lt N
      · exact b3W_lt N
      · exact b3W_lt N
      · exact or_lt32 (b3W_lt N) (by decide)
    by_cases cw : wrg (pp P n x y z t) Q N n = 0
    · refine ⟨1, am_us σ2 56 n (zi 1), v_R_sets_26 _ _ _ _ _ ?_, fun c hc => ?_, Or.inl ⟨rfl, x, y, z, t, h3 (by omega) cw, mOK_pu w2 (k := 8) (by decide) 1⟩⟩
      · rw [hi]
        rw [z1, z2]
        try simp (disch := omega) only [zi_cl, zi_add, zi_sub, zi_mul, zi_s1, zi_s0, zi_m1, z01, z10, zi_ite, zi_eq0, zi_lt0, zi_gt0, zi_le0, zi_ge0, zi_le, zi_lt, zi_eq, e0, e1, e6]
        refine ⟨by omega, fun c1 => ⟨fun c2 => ?_, fun c2 => ⟨_, _, w1, ?_⟩⟩, fun c1 => ⟨by omega, by omega, fun c2 => ?_, fun c2 => ⟨_, _, w1, ?_⟩⟩⟩
        · rw [if_pos c1] at htr; exact absurd c2 (by omega)
        · try simp (disch := omega) only [zi_cl, zi_add, zi_sub, zi_mul, zi_s1, zi_s0, zi_m1, z01, z10, zi_ite, zi_eq0, zi_lt0, zi_gt0, zi_le0, zi_ge0, zi_le, zi_lt, zi_eq]
          exact ⟨fun _ => ⟨by omega, (by first | exact ⟨rfl, rfl⟩ | exact ⟨trivial, trivial⟩ | exact ⟨trivial, rfl⟩ | exact ⟨rfl, trivial⟩ | trivial)⟩, fun c3 => absurd cw (by omega)⟩
        · rw [if_neg c1] at htr; rw [← htr] at c2; exact absurd c2 c
        · try simp (disch := omega) only [zi_cl, zi_add, zi_sub, zi_mul, zi_s1, zi_s0, zi_m1, z01, z10, zi_ite, zi_eq0, zi_lt0, zi_gt0, zi_le0, zi_ge0, zi_le, zi_lt, zi_eq]
          exact ⟨fun _ => ⟨by omega, (by first | exact ⟨rfl, rfl⟩ | exact ⟨trivial, trivial⟩ | exact ⟨trivial, rfl⟩ | exact ⟨rfl, trivial⟩ | trivial)⟩, fun c3 => absurd cw (by omega)⟩
      · rw [am_us_ne (by omega)]; exact hfr c hc
    · obtain ⟨rr, σ', g1, g2⟩ := h2 (by omega) σ2 ⟨hfr, x, y, z, t, hx, hy, hz, ht2, w2⟩ cw
      refine ⟨rr, σ', v_R_sets_26 _ _ _ _ _ ?_, g2⟩
      rw [hi]
      rw [z1, z2]
      try simp (disch := omega) only [zi_cl, zi_add, zi_sub, zi_mul, zi_s1, zi_s0, zi_m1, z01, z10, zi_ite, zi_eq0, zi_lt0, zi_gt0, zi_le0, zi_ge0, zi_le, zi_lt, zi_eq, e0, e1, e6]
      refine ⟨by omega, fun c1 => ⟨fun c2 => ?_, fun c2 => ⟨_, _, w1, ?_⟩⟩, fun c1 => ⟨by omega, by omega, fun c2 => ?_, fun c2 => ⟨_, _, w1, ?_⟩⟩⟩
      · rw [if_pos c1] at htr; exact absurd c2 (by omega)
      · try simp (disch := omega) only [zi_cl, zi_add, zi_sub, zi_mul, zi_s1, zi_s0, zi_m1, z01, z10, zi_ite, zi_eq0, zi_lt0, zi_gt0, zi_le0, zi_ge0, zi_le, zi_lt, zi_eq]
        exact ⟨fun c3 => absurd c3 (by omega), fun _ => g1⟩
      · rw [if_neg c1] at htr; rw [← htr] at c2; exact absurd c2 c
      · try simp (disch := omega) only [zi_cl, zi_add, zi_sub, zi_mul, zi_s1, zi_s0, zi_m1, z01, z10, zi_ite, zi_eq0, zi_lt0, zi_gt0, zi_le0, zi_ge0, zi_le, zi_lt, zi_eq]
        exact ⟨fun c3 => absurd c3 (by omega), fun _ => g1⟩
/-- both ways at one corner -/
theorem sT (hd : 6 ≤ d) (hp : pOK N P Q) {n : Nat} (hn : n < N) (h8 : P 8 n = 0) {x y z : Int} (hx : cor P N 0 x) (hy : cor P N 1 y) (hz : cor P N 2 z) (hs : sIn P Q N n σ σ1)
    (nz : ∀ z', z' < z → ∀ x y t, ¬ okc P Q N n x y z' t) (nx : ∀ x', x' < x → ∀ y t, ¬ okc P Q N n x' y z t) (ny : ∀ y', y' < y → ∀ t, ¬ okc P Q N n x y' z t)
    (G : ∀ σ2, sIn P Q N n σ σ2 → (∀ t, ¬ okc P Q N n x y z t) → sGo l D DA b sz d L cu P Q N n σ 17 [some (.ref 47), some (.int (zi n)), some (.int (zi z)), some (.int (zi x)), some (.int (zi (ne P N 1 y))), none] σ2) :
    sGo l D DA b sz d L cu P Q N n σ 26 [some (.ref 47), some (.int (zi n)), some (.int (zi z)), some (.int (zi x)), some (.int (zi y)), some (.int 0)] σ1 := by
  have hx4 := cor_40 hp hx
  have hy4 := cor_40 hp hy
  have hz4 := cor_40 hp hz
  have htr : trn P n = if P 6 n = 0 then 1 else if P 0 n = P 1 n then 1 else 2 := rfl
  have ht1 : 1 ≤ trn P n ∧ trn P n ≤ 2 := by rw [htr]; repeat' split; all_goals omega
  have nok : ∀ t, 0 ≤ t → t < trn P n → wrg (pp P n x y z t) Q N n ≠ 0 → ¬ okc P Q N n x y z t := fun t _ _ h h2 => h h2.2.2.2.2
  have nok2 : ∀ t, t < 0 ∨ trn P n ≤ t → ¬ okc P Q N n x y z t := fun t ht h2 => by have := h2.2.2.2.1; omega
  refine s26 (t := 0) hd hp hn h8 hx4 hy4 hz4 (by decide) hs (fun h => by omega) (fun h0 σ2 hs2 w0 => ?_) (fun h0 w0 => ⟨⟨hx, hy, hz, by omega, w0⟩, nz, nx, ny, fun t' ht' => nok2 t' (by omega)⟩)
  have n0 := nok 0 (by decide) h0 w0
  refine s26 (t := 1) hd hp hn h8 hx4 hy4 hz4 (by decide) hs2 (fun h => G σ2 hs2 (fun t => ?_)) (fun h1 σ3 hs3 w1 => ?_) (fun h1 w1 => ⟨⟨hx, hy, hz, by omega, w1⟩, nz, nx, ny, fun t' ht' => ?_⟩)
  · by_cases e : t = 0
    · rw [e]; exact n0
    · exact nok2 t (by omega)
  · have n1 := nok 1 (by decide) h1 w1
    refine s26 (t := 2) hd hp hn h8 hx4 hy4 hz4 (by decide) hs3 (fun h => G σ3 hs3 (fun t => ?_)) (fun h => by omega) (fun h => by omega)
    by_cases e : t = 0
    · rw [e]; exact n0
    · by_cases e2 : t = 1
      · rw [e2]; exact n1
      · exact nok2 t (by omega)
  · by_cases e : t' = 0
    · rw [e]; exact n0
    · exact nok2 t' (by omega)
theorem sY (hd : 6 ≤ d) (hp : pOK N P Q) {n : Nat} (hn : n < N) (h8 : P 8 n = 0) {x z : Int} (hx : cor P N 0 x) (hz : cor P N 2 z)
    (nz : ∀ z', z' < z → ∀ x y t, ¬ okc P Q N n x y z' t) (nx : ∀ x', x' < x → ∀ y t, ¬ okc P Q N n x' y z t)
    (G : ∀ σ2, sIn P Q N n σ σ2 → (∀ y t, ¬ okc P Q N n x y z t) → sGo l D DA b sz d L cu P Q N n σ 9 [some (.ref 47), some (.int (zi n)), some (.int (zi z)), some (.int (zi (ne P N 0 x))), none, none] σ2) :
    ∀ (m : Nat) (y : Int) (σ1 : Nat → Nat → Int32), (y = -1 ∨ 100 - y ≤ m) → sIn P Q N n σ σ1 → ((y = -1 ∧ ∀ y t, ¬ okc P Q N n x y z t) ∨ (cor P N 1 y ∧ ∀ y', y' < y → ∀ t, ¬ okc P Q N n x y' z t)) → sGo l D DA b sz d L cu P Q N n σ 17 [some (.ref 47), some (.int (zi n)), some (.int (zi z)), some (.int (zi x)), some (.int (zi y)), none] σ1 := by
  have fin : ∀ (y : Int) (σ1 : Nat → Nat → Int32), sIn P Q N n σ σ1 → y = -1 → (∀ y t, ¬ okc P Q N n x y z t) → sGo l D DA b sz d L cu P Q N n σ 17 [some (.ref 47), some (.int (zi n)), some (.int (zi z)), some (.int (zi x)), some (.int (zi y)), none] σ1 := by
    intro y σ1 hs h1 h2
    have hx4 := cor_40 hp hx
    obtain ⟨rr, σ', g1, g2⟩ := G σ1 hs h2
    obtain ⟨P1, m1, ⟨xo, yo, zo, to, e1⟩, m2, m3, m4⟩ := sIn_mOK hs
    have hne : ne P1 N 0 x = ne P N 0 x := by rw [e1]; exact ne_pp h8
    obtain ⟨d, rfl⟩ : ∃ d', d = d' + 1 := ⟨d - 1, by omega⟩
    have hcall := c_R_nextEnd (l := l) (D := D) (DA := DA) (b := b) (sz := sz) (d := d) (L := L) (cu := cu) (by omega) m1 (m4 hp hn h8) (k := 0) (v := x) (by decide) (by omega)
    rw [hne] at hcall
    refine ⟨rr, σ', v_R_sets_17 _ _ _ _ ⟨fun _ => ⟨_, _, hcall, g1⟩, fun h0 => absurd (by rw [h1]; rfl) h0⟩, g2⟩
  intro m
  induction m with
  | zero =>
    intro y σ1 hm hs hh
    rcases hh with ⟨h1, h2⟩ | h
    · exact fin _ _ hs h1 h2
    · have := cor_40 hp h.1; omega
  | succ m ih =>
    intro y σ1 hm hs hy
    have hx4 := cor_40 hp hx
    rcases hy with ⟨h1, h2⟩ | ⟨h1, h2⟩
    · exact fin _ _ hs h1 h2
    · have hy4 := cor_40 hp h1
      obtain ⟨rr, σ', g1, g2⟩ := sT (l := l) (D := D) (DA := DA) (b := b) (sz := sz) (L := L) (cu := cu) hd hp hn h8 hx h1 hz hs nz nx h2 (fun σ2 hs2 h0 => by
        rcases stp hp (fun w => ∀ t, ¬ okc P Q N n x w z t) (fun w hw => Classical.byContradiction fun h9 => hw (fun t ht => h9 ht.2.1)) hy4.1 h2 h0 with ⟨a1, a2⟩ | ⟨a1, a2, a3⟩
        · exact ih _ σ2 (Or.inl a1) hs2 (Or.inl ⟨a1, a2⟩)
        · exact ih _ σ2 (Or.inr (by omega)) hs2 (Or.inr ⟨a2, a3⟩))
      obtain ⟨d, rfl⟩ : ∃ d', d = d' + 1 := ⟨d - 1, by omega⟩
      exact ⟨rr, σ', v_R_sets_17 _ _ _ _ ⟨fun h0 => absurd ((zi_eq (b := -1) (by omega) (by omega) (by omega) (by omega)).mp h0) (by omega), fun _ => g1⟩, g2⟩
theorem sX (hd : 6 ≤ d) (hp : pOK N P Q) {n : Nat} (hn : n < N) (h8 : P 8 n = 0) {z : Int} (hz : cor P N 2 z)
    (nz : ∀ z', z' < z → ∀ x y t, ¬ okc P Q N n x y z' t)
    (G : ∀ σ2, sIn P Q N n σ σ2 → (∀ x y t, ¬ okc P Q N n x y z t) → sGo l D DA b sz d L cu P Q N n σ 2 [some (.ref 47), some (.int (zi n)), some (.int (zi (ne P N 2 z))), none, none, none] σ2) :
    ∀ (m : Nat) (x : Int) (σ1 : Nat → Nat → Int32), (x = -1 ∨ 100 - x ≤ m) → sIn P Q N n σ σ1 → ((x = -1 ∧ ∀ x y t, ¬ okc P Q N n x y z t) ∨ (cor P N 0 x ∧ ∀ x', x' < x → ∀ y t, ¬ okc P Q N n x' y z t)) → sGo l D DA b sz d L cu P Q N n σ 9 [some (.ref 47), some (.int (zi n)), some (.int (zi z)), some (.int (zi x)), none, none] σ1 := by
  have fin : ∀ (x : Int) (σ1 : Nat → Nat → Int32), sIn P Q N n σ σ1 → x = -1 → (∀ x y t, ¬ okc P Q N n x y z t) → sGo l D DA b sz d L cu P Q N n σ 9 [some (.ref 47), some (.int (zi n)), some (.int (zi z)), some (.int (zi x)), none, none] σ1 := by
    intro x σ1 hs h1 h2
    have hz4 := cor_40 hp hz
    obtain ⟨rr, σ', g1, g2⟩ := G σ1 hs h2
    obtain ⟨P1, m1, ⟨xo, yo, zo, to, e1⟩, m2, m3, m4⟩ := sIn_mOK hs
    have hne : ne P1 N 2 z = ne P N 2 z := by rw [e1]; exact ne_pp h8
    obtain ⟨d, rfl⟩ : ∃ d', d = d' + 1 := ⟨d - 1, by omega⟩
    have hcall := c_R_nextEnd (l := l) (D := D) (DA := DA) (b := b) (sz := sz) (d := d) (L := L) (cu := cu) (by omega) m1 (m4 hp hn h8) (k := 2) (v := z) (by decide) (by omega)
    rw [hne] at hcall
    refine ⟨rr, σ', v_R_sets_9 _ _ _ ⟨fun _ => ⟨_, _, hcall, g1⟩, fun h0 => absurd (by rw [h1]; rfl) h0⟩, g2⟩
  intro m
  induction m with
  | zero =>
    intro x σ1 hm hs hh
    rcases hh with ⟨h1, h2⟩ | h
    · exact fin _ _ hs h1 h2
    · have := cor_40 hp h.1; omega
  | succ m ih =>
    intro x σ1 hm hs hx
    have hz4 := cor_40 hp hz
    rcases hx with ⟨h1, h2⟩ | ⟨h1, h2⟩
    · exact fin _ _ hs h1 h2
    · have hx4 := cor_40 hp h1
      obtain ⟨rr, σ', g1, g2⟩ := sY (l := l) (D := D) (DA := DA) (b := b) (sz := sz) (L := L) (cu := cu) hd hp hn h8 h1 hz nz h2 (fun σ2 hs2 h0 => by
        rcases stp hp (fun w => ∀ y t, ¬ okc P Q N n w y z t) (fun w hw => Classical.byContradiction fun h9 => hw (fun y t ht => h9 ht.1)) hx4.1 h2 h0 with ⟨a1, a2⟩ | ⟨a1, a2, a3⟩
        · exact ih _ σ2 (Or.inl a1) hs2 (Or.inl ⟨a1, a2⟩)
        · exact ih _ σ2 (Or.inr (by omega)) hs2 (Or.inr ⟨a2, a3⟩)) 100 0 σ1 (Or.inr (by decide)) hs (Or.inr ⟨Or.inl rfl, fun y' hy' t ht => by have := cor_40 hp ht.2.1; omega⟩)
      obtain ⟨d, rfl⟩ : ∃ d', d = d' + 1 := ⟨d - 1, by omega⟩
      exact ⟨rr, σ', v_R_sets_9 _ _ _ ⟨fun h0 => absurd ((zi_eq (b := -1) (by omega) (by omega) (by omega) (by omega)).mp h0) (by omega), fun _ => g1⟩, g2⟩
theorem sZ (hd : 6 ≤ d) (hp : pOK N P Q) {n : Nat} (hn : n < N) (h8 : P 8 n = 0) :
    ∀ (m : Nat) (z : Int) (σ1 : Nat → Nat → Int32), (z = -1 ∨ 100 - z ≤ m) → sIn P Q N n σ σ1 → ((z = -1 ∧ ∀ z x y t, ¬ okc P Q N n x y z t) ∨ (cor P N 2 z ∧ ∀ z', z' < z → ∀ x y t, ¬ okc P Q N n x y z' t)) → sGo l D DA b sz d L cu P Q N n σ 2 [some (.ref 47), some (.int (zi n)), some (.int (zi z)), none, none, none] σ1 := by
  have fin : ∀ (z : Int) (σ1 : Nat → Nat → Int32), sIn P Q N n σ σ1 → z = -1 → (∀ z x y t, ¬ okc P Q N n x y z t) → sGo l D DA b sz d L cu P Q N n σ 2 [some (.ref 47), some (.int (zi n)), some (.int (zi z)), none, none, none] σ1 := by
    intro z σ1 hs h1 h2
    obtain ⟨d, rfl⟩ : ∃ d', d = d' + 1 := ⟨d - 1, by omega⟩
    refine ⟨0, σ1, v_R_sets_2 _ _ ⟨fun _ => (by first | exact ⟨rfl, rfl⟩ | exact ⟨trivial, trivial⟩ | exact ⟨trivial, rfl⟩ | exact ⟨rfl, trivial⟩ | trivial), fun h0 => absurd (by rw [h1]; rfl) h0⟩, hs.1, Or.inr ⟨rfl, fun x y z t => h2 z x y t, hs.2⟩⟩
  intro m
  induction m with
  | zero =>
    intro z σ1 hm hs hh
    rcases hh with ⟨h1, h2⟩ | h
    · exact fin _ _ hs h1 h2
    · have := cor_40 hp h.1; omega
  | succ m ih =>
    intro z σ1 hm hs hz
    rcases hz with ⟨h1, h2⟩ | ⟨h1, h2⟩
    · exact fin _ _ hs h1 h2
    · have hz4 := cor_40 hp h1
      obtain ⟨rr, σ', g1, g2⟩ := sX (l := l) (D := D) (DA := DA) (b := b) (sz := sz) (L := L) (cu := cu) hd hp hn h8 h1 h2 (fun σ2 hs2 h0 => by
        rcases stp hp (fun w => ∀ x y t, ¬ okc P Q N n x y w t) (fun w hw => Classical.byContradiction fun h9 => hw (fun x y t ht => h9 ht.2.2.1)) hz4.1 h2 h0 with ⟨a1, a2⟩ | ⟨a1, a2, a3⟩
        · exact ih _ σ2 (Or.inl a1) hs2 (Or.inl ⟨a1, a2⟩)
        · exact ih _ σ2 (Or.inr (by omega)) hs2 (Or.inr ⟨a2, a3⟩)) 100 0 σ1 (Or.inr (by decide)) hs (Or.inr ⟨Or.inl rfl, fun x' hx' y t ht => by have := cor_40 hp ht.1; omega⟩)
      obtain ⟨d, rfl⟩ : ∃ d', d = d' + 1 := ⟨d - 1, by omega⟩
      exact ⟨rr, σ', v_R_sets_2 _ _ ⟨fun h0 => absurd ((zi_eq (b := -1) (by omega) (by omega) (by omega) (by omega)).mp h0) (by omega), fun _ => g1⟩, g2⟩
theorem pp_self (P : Nat → Nat → Int) (n : Nat) : pp P n (P 9 n) (P 10 n) (P 11 n) (P 12 n) = P := by
  funext k m
  unfold pp pu
  repeat' split
  all_goals first | rfl | (rename_i h; rw [h.1, h.2])
theorem c_R_sets (hd : 6 ≤ d) (h : mOK σ N P Q) (hp : pOK N P Q) {n : Nat} (hn : n < N) (h8 : P 8 n = 0) :
    ∃ rr σ', GG l D DA b sz d L cu M_R_sets [some (.ref 47), some (.int (zi n)), none, none, none, none] σ (some (.int (zi rr))) σ' ∧ sOut P Q N n σ rr σ' := by
  have hb := hp.2.1 n hn
  unfold bOK at hb
  obtain ⟨rr, σ', g1, g2⟩ := sZ (l := l) (D := D) (DA := DA) (b := b) (sz := sz) (L := L) (cu := cu) (σ := σ) hd hp hn h8 100 0 σ (Or.inr (by decide)) ⟨fun _ _ => rfl, P 9 n, P 10 n, P 11 n, P 12 n, by omega, by omega, by omega, by omega, by rw [pp_self]; exact h⟩ (Or.inr ⟨Or.inl rfl, fun z' hz' x y t ht => by have := cor_40 hp ht.2.2.1; omega⟩)
  obtain ⟨d, rfl⟩ : ∃ d', d = d' + 1 := ⟨d - 1, by omega⟩
  exact ⟨rr, σ', v_R_sets_0 _ g1, g2⟩
end MS2
