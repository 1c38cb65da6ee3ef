/-! the reference: wrongAt -/
def pp (P : Nat → Nat → Int) (n : Nat) (x y z t : Int) : Nat → Nat → Int := pu (pu (pu (pu P 9 n x) 10 n y) 11 n z) 12 n t
def outB (P : Nat → Nat → Int) (Q : Nat → Int) (n : Nat) : Nat := if Q 0 < P 9 n + lng P n then 1 else if Q 1 < P 10 n + wdt P n then 1 else if P 11 n + P 2 n ≤ Q 2 then 0 else 1
def thrF (P : Nat → Nat → Int) (n i a : Nat) : Nat := if P 8 i = 0 then a else if area P n i ≤ 0 then a else if com (P 11 n) (P 2 n) (P 11 i) (P 2 i) ≤ 0 then a else a ||| 2
def b1W (P : Nat → Nat → Int) (Q : Nat → Int) (N n : Nat) : Nat := fo (thrF P n) (outB P Q n) N
def b2W (P : Nat → Nat → Int) (Q : Nat → Int) (N n : Nat) : Nat := if P 11 n ≤ 0 then 0 else if Q 3 * lng P n * wdt P n ≤ 100 * sm (stn P n) N then 0 else 4
def iwF (P : Nat → Nat → Int) (n i a : Nat) : Nat := if P 8 i = 0 then a else if iw P n i = 0 then a else a ||| 16
def b3W (P : Nat → Nat → Int) (Q : Nat → Int) (N n : Nat) : Nat := fo (iwF P n) (b2W P Q N n) N
def hvF (P : Nat → Nat → Int) (ld : Nat → Int) (i : Nat) (a : Int) : Int := if a = 0 then (if P 8 i = 0 then 0 else if ld i ≤ P 4 i then 0 else 1) else 1
def hvW (P : Nat → Nat → Int) (N n : Nat) : Int := fo (hvF P (lds (pu P 8 n 1) N)) (if lds (pu P 8 n 1) N n ≤ P 4 n then 0 else 1) N
def wrg (P : Nat → Nat → Int) (Q : Nat → Int) (N n : Nat) : Nat := if b1W P Q N n ≠ 0 then b1W P Q N n else if b3W P Q N n &&& 4 ≠ 0 then b3W P Q N n else if hvW P N n = 0 then b3W P Q N n else b3W P Q N n ||| 8
theorem or_lt32 {a c : Nat} (h : a < 32) (h2 : c < 32) : a ||| c < 32 := Nat.or_lt_two_pow (n := 5) h h2
theorem outB_lt {P : Nat → Nat → Int} {Q : Nat → Int} {n : Nat} : outB P Q n < 32 := by
  unfold outB
  repeat' split
  all_goals omega
theorem b1W_lt {P : Nat → Nat → Int} {Q : Nat → Int} {n : Nat} (N : Nat) : fo (thrF P n) (outB P Q n) N < 32 := by
  refine fo_inv (fun _ (a : Nat) => a < 32) outB_lt (fun i a _ ha => ?_)
  unfold thrF
  repeat' split
  all_goals first | exact ha | exact or_lt32 ha (by decide)
theorem b2W_lt {P : Nat → Nat → Int} {Q : Nat → Int} {N n : Nat} : b2W P Q N n < 32 := by
  unfold b2W
  repeat' split
  all_goals omega
theorem b3W_lt {P : Nat → Nat → Int} {Q : Nat → Int} {N n : Nat} (k : Nat) : fo (iwF P n) (b2W P Q N n) k < 32 := by
  refine fo_inv (fun _ (a : Nat) => a < 32) b2W_lt (fun i a _ ha => ?_)
  unfold iwF
  repeat' split
  all_goals first | exact ha | exact or_lt32 ha (by decide)
theorem mk_o2 (a : Nat) : zi a ||| 2 = zi ((a ||| 2 : Nat) : Int) := mk_or a 2
theorem mk_o4 (a : Nat) : zi a ||| 4 = zi ((a ||| 4 : Nat) : Int) := mk_or a 4
theorem mk_o8 (a : Nat) : zi a ||| 8 = zi ((a ||| 8 : Nat) : Int) := mk_or a 8
theorem mk_o16 (a : Nat) : zi a ||| 16 = zi ((a ||| 16 : Nat) : Int) := mk_or a 16
theorem mk_a4 (a : Nat) : zi a &&& 4 = zi ((a &&& 4 : Nat) : Int) := mk_andN a 4
section MWR
variable {l : Launch} {D : va_G} {DA : Nat → ClassId} {b sz d L : Nat} {cu : Bool} {σ : Nat → Nat → Int32} {N : Nat} {P : Nat → Nat → Int} {Q : Nat → Int} {r : Option Value} {X' : am_X}
/-- all but box n's own place and whether it is in -/
def bx (P : Nat → Nat → Int) (N : Nat) : Prop := ∀ n, n < N → bOK P n
theorem iw_01 (n i : Nat) : 0 ≤ iw P n i ∧ iw P n i ≤ 1 := by
  unfold iw iwB
  repeat' split
  all_goals omega
theorem w84 (hd : 2 ≤ d) (h : mOK σ N P Q) (hN : N ≤ 20) (hbx : bx P N) {n : Nat} (hn : n < N)
    (G1 : b1W P Q N n ≠ 0 → r = some (.int (zi (b1W P Q N n))) ∧ X' = (am_TT cu L, am_RR cu, σ))
    (G2 : b1W P Q N n = 0 → am_Go l D DA b sz d M_R_wrongAt (167, [some (.ref 47), some (.int (zi n)), none, none, some (.int (zi (P 11 n))), none, some (.int 0), some (.int 0), some (.int 0), none], [], (am_TT cu L, am_RR cu, σ)) r X') :
    am_Go l D DA b sz d M_R_wrongAt (84, [some (.ref 47), some (.int (zi n)), none, none, some (.int (zi (P 11 n))), none, some (.int (zi (outB P Q n))), some (.int 0), none, none], [], (am_TT cu L, am_RR cu, σ)) r X' := by
  obtain ⟨d, rfl⟩ : ∃ d', d = d' + 1 := ⟨d - 1, by omega⟩
  have hn20 : n < 20 := by omega
  have hbn := hbx n hn
  obtain ⟨⟨f0, f1, f2, f3, f4, f5, f6⟩, f7, f8, f9, f10, f11, f12⟩ := h.row hn20
  refine fo_loop (fun i (a : Nat) => am_Go l D DA b sz (d + 1) M_R_wrongAt (84, [some (.ref 47), some (.int (zi n)), none, none, some (.int (zi (P 11 n))), none, some (.int (zi a)), some (.int (zi i)), none, none], [], (am_TT cu L, am_RR cu, σ)) r X') (thrF P n) (outB P Q n) N ?_ (fun i a hi ha ih => ?_)
  · have hlt : fo (thrF P n) (outB P Q n) N < 32 := b1W_lt N
    refine v_R_wrongAt_84 _ _ _ _ ?_
    simp (disch := omega) only [h.1, zi_le, zi_eq0]
    refine ⟨fun _ => ⟨fun h0 => ?_, fun h0 => G1 (fun z => h0 ?_)⟩, fun h0 => absurd h0 (by omega)⟩
    · have h9 : b1W P Q N n = 0 := by unfold b1W; omega
      have := G2 h9
      have e : fo (thrF P n) (outB P Q n) N = 0 := h9
      rw [e]
      exact this
    · have e : fo (thrF P n) (outB P Q n) N = 0 := z
      rw [e]; rfl
  · have hlt : a < 32 := by rw [ha]; exact b1W_lt i
    have hi20 : i < 20 := by omega
    have hbi := hbx i hi
    obtain ⟨⟨e0, e1, e2, e3, e4, e5, e6⟩, e7, e8, e9, e10, e11, e12⟩ := h.row hi20
    have har := area_bd (c := i) hbn
    have x2 := c_R_common (l := l) (D := D) (DA := DA) (b := b) (sz := sz) (d := d) (L := L) (cu := cu) (σ := σ) (a := P 11 n) (n := P 2 n) (c := P 11 i) (m := P 2 i) (by unfold bOK at hbn; omega) (by unfold bOK at hbn; omega) (by unfold bOK at hbi; omega) (by unfold bOK at hbi; omega)
    have y2 := com_le (a := P 11 n) (n := P 2 n) (c := P 11 i) (m := P 2 i) (by unfold bOK at hbn; omega)
    have y4 := com_nn (P 11 n) (P 2 n) (P 11 i) (P 2 i)
    rw [← e11, ← f2, ← e2] at x2
    have h8 : 0 ≤ P 8 i ∧ P 8 i ≤ 1 := by unfold bOK at hbi; omega
    have hh : P 2 n ≤ 12 := by unfold bOK at hbn; omega
    unfold thrF at ih
    refine v_R_wrongAt_84 _ _ _ _ ?_
    simp (disch := omega) only [h.1, zi_le, zi_cl, e8, zi_eq0, zi_lt0, zi_s1]
    refine ⟨fun h0 => absurd h0 (by omega), fun _ => ⟨by omega, fun h1 => ?_, fun h1 => ⟨_, _, c_R_area (by omega) h hn20 hi20 hbn hbi, ?_⟩⟩⟩
    · rw [if_pos h1] at ih; exact ih
    · simp (disch := omega) only [zi_le0]
      rw [if_neg h1] at ih
      refine ⟨fun h2 => ?_, fun h2 => ⟨by omega, by omega, by omega, _, _, x2, ?_⟩⟩
      · rw [if_pos h2] at ih; exact ih
      · simp (disch := omega) only [zi_le0]
        rw [if_neg h2] at ih
        refine ⟨fun h3 => ?_, fun h3 => ?_⟩
        · rw [if_pos h3] at ih; exact ih
        · rw [if_neg h3] at ih; rw [mk_o2]; exact ih
theorem w167 (hd : 3 ≤ d) (h : mOK σ N P Q) (hp : pOK N P Q) {n : Nat} (hn : n < N)
    (G : am_Go l D DA b sz d M_R_wrongAt (232, [some (.ref 47), some (.int (zi n)), none, none, none, none, some (.int (zi (b2W P Q N n))), none, some (.int 0), none], [], (am_TT cu L, am_RR cu, σ)) r X') :
    am_Go l D DA b sz d M_R_wrongAt (167, [some (.ref 47), some (.int (zi n)), none, none, some (.int (zi (P 11 n))), none, some (.int 0), some (.int 0), some (.int 0), none], [], (am_TT cu L, am_RR cu, σ)) r X' := by
  obtain ⟨d, rfl⟩ : ∃ d', d = d' + 1 := ⟨d - 1, by omega⟩
  have hN := hp.1
  have hn20 : n < 20 := by omega
  have hbn := hp.2.1 n hn
  obtain ⟨g0, g1, g2, g3, g4, g5, g6, g7, g8⟩ := h.q
  have hl := b_lng hbn
  have hw := b_wdt hbn
  have hq := hp.2.2.2
  unfold qOK at hq
  have hsm : ∀ k, fo (fun m x => x + stn P n m) 0 k = sm (stn P n) k := by
    intro k
    induction k with
    | zero => rfl
    | succ k ihk => show fo (fun m x => x + stn P n m) 0 k + stn P n k = _; rw [ihk]; rfl
  refine fo_loop (fun i x => am_Go l D DA b sz (d + 1) M_R_wrongAt (167, [some (.ref 47), some (.int (zi n)), none, none, some (.int (zi (P 11 n))), none, some (.int 0), some (.int (zi x)), some (.int (zi i)), none], [], (am_TT cu L, am_RR cu, σ)) r X') (fun m x => x + stn P n m) 0 N ?_ (fun i x hi hx ih => ?_)
  · rw [hsm]
    have hs := sm_stn hp hn (Nat.le_refl N)
    have hz : 0 ≤ P 11 n ∧ P 11 n ≤ 40 := by unfold bOK at hbn; omega
    have m1 := mul_bd (a := Q 3) (c := lng P n) (A := 100) (C := 12) (by omega) (by omega) (by omega) (by omega)
    have m0 := Int.mul_nonneg (a := Q 3) (b := lng P n) (by omega) (by omega)
    have m2 := mul_bd (a := Q 3 * lng P n) (c := wdt P n) (A := 1200) (C := 12) (by omega) (by omega) (by omega) (by omega)
    refine v_R_wrongAt_167 _ _ _ _ _ ?_
    rw [show (100 : Int32) = zi 100 from rfl]
    simp (disch := omega) only [h.1, zi_le, zi_le0, g3, zi_mul]
    unfold b2W at G
    refine ⟨fun _ => ⟨fun h1 => ?_, fun h1 => ⟨_, _, c_R_longOf h hn20 hbn, _, _, c_R_wideOf h hn20 hbn, ?_⟩⟩, fun h0 => absurd h0 (by omega)⟩
    · rw [if_pos h1] at G; exact G
    · simp (disch := omega) only [zi_mul, zi_le]
      rw [if_neg h1] at G
      refine ⟨fun h2 => ?_, fun h2 => ?_⟩
      · rw [if_pos h2] at G; exact G
      · rw [if_neg h2] at G; exact G
  · refine v_R_wrongAt_167 _ _ _ _ _ ?_
    simp (disch := omega) only [h.1, zi_le]
    refine ⟨fun h0 => absurd h0 (by omega), fun _ => ⟨_, _, c_R_stands (by omega) h hn20 (by omega) hbn (hp.2.1 i hi), ?_⟩⟩
    rw [zi_add, zi_s1]
    exact ih
theorem w232 (hd : 5 ≤ d) (h : mOK σ N P Q) (hp : pOK N P Q) {n : Nat} (hn : n < N) (h8n : P 8 n = 0) (hin : inQ P Q n)
    (G1 : b3W P Q N n &&& 4 ≠ 0 → r = some (.int (zi (b3W P Q N n))) ∧ X' = (am_TT cu L, am_RR cu, σ))
    (G2 : b3W P Q N n &&& 4 = 0 → am_Go l D DA b sz d M_R_wrongAt (327, [some (.ref 47), none, none, none, none, none, some (.int (zi (b3W P Q N n))), none, some (.int (zi (if lds (pu P 8 n 1) N n ≤ P 4 n then 0 else 1))), some (.int 0)], [], (am_TT cu L, am_RR cu, am_us (wLd (am_us σ 56 n 1) 61 N (lds (pu P 8 n 1) N)) 56 n 0)) r X') :
    am_Go l D DA b sz d M_R_wrongAt (232, [some (.ref 47), some (.int (zi n)), none, none, none, none, some (.int (zi (b2W P Q N n))), none, some (.int 0), none], [], (am_TT cu L, am_RR cu, σ)) r X' := by
  obtain ⟨d, rfl⟩ : ∃ d', d = d' + 1 := ⟨d - 1, by omega⟩
  have hN := hp.1
  have hn20 : n < 20 := by omega
  have hbn := hp.2.1 n hn
  obtain ⟨⟨f0, f1, f2, f3, f4, f5, f6⟩, f7, f8, f9, f10, f11, f12⟩ := h.row hn20
  -- the picture with box n in
  have hm1 : mOK (am_us σ 56 n 1) N (pu P 8 n 1) Q := mOK_pu h (k := 8) (by decide) 1
  have hP1 : ∀ k m, k ≠ 8 → pu P 8 n 1 k m = P k m := fun k m hk => if_neg (fun z => hk z.1)
  have hP2 : ∀ m, pu P 8 n 1 8 m = if m = n then 1 else P 8 m := fun m => by
    unfold pu
    by_cases e : m = n
    · rw [if_pos ⟨rfl, e⟩, if_pos e]
    · rw [if_neg (fun z => e z.2), if_neg e]
  have hlng : ∀ m, lng (pu P 8 n 1) m = lng P m := fun m => by unfold lng; rw [hP1 _ _ (by decide), hP1 _ _ (by decide), hP1 _ _ (by decide)]
  have hwdt : ∀ m, wdt (pu P 8 n 1) m = wdt P m := fun m => by unfold wdt; rw [hP1 _ _ (by decide), hP1 _ _ (by decide), hP1 _ _ (by decide)]
  have htp : ∀ m, tp (pu P 8 n 1) m = tp P m := fun m => by unfold tp; rw [hP1 _ _ (by decide), hP1 _ _ (by decide)]
  have hpOK1 : pOK N (pu P 8 n 1) Q := by
    refine ⟨hN, fun m hm => ?_, fun m hm hm8 => ?_, hp.2.2.2⟩
    · have hb := hp.2.1 m hm
      unfold bOK at hb ⊢
      rw [hP2]
      simp only [hP1 _ _ (show (0 : Nat) ≠ 8 by decide), hP1 _ _ (show (1 : Nat) ≠ 8 by decide), hP1 _ _ (show (2 : Nat) ≠ 8 by decide), hP1 _ _ (show (3 : Nat) ≠ 8 by decide), hP1 _ _ (show (4 : Nat) ≠ 8 by decide), hP1 _ _ (show (5 : Nat) ≠ 8 by decide), hP1 _ _ (show (6 : Nat) ≠ 8 by decide), hP1 _ _ (show (7 : Nat) ≠ 8 by decide), hP1 _ _ (show (9 : Nat) ≠ 8 by decide), hP1 _ _ (show (10 : Nat) ≠ 8 by decide), hP1 _ _ (show (11 : Nat) ≠ 8 by decide), hP1 _ _ (show (12 : Nat) ≠ 8 by decide)]
      split <;> omega
    · have hin2 : inQ P Q m := by
        rw [hP2] at hm8
        by_cases e : m = n
        · subst e; exact hin
        · rw [if_neg e] at hm8; exact hp.2.2.1 m hm hm8
      unfold inQ at hin2 ⊢
      rw [hlng, hwdt, hP1 _ _ (by decide), hP1 _ _ (by decide), hP1 _ _ (by decide), hP1 _ _ (by decide)]
      exact hin2
  have htOK1 : tOK N (pu P 8 n 1) := by
    intro m hm hm8
    have hb := hpOK1.2.1 m hm
    have h8 : pu P 8 n 1 8 m = 1 := by unfold bOK at hb; omega
    have hi := hpOK1.2.2.1 m hm h8
    have hq := hp.2.2.2
    have ht : tp (pu P 8 n 1) m = pu P 8 n 1 11 m + pu P 8 n 1 2 m := rfl
    unfold bOK at hb
    unfold inQ at hi
    unfold qOK at hq
    omega
  refine fo_loop (fun i (a : Nat) => am_Go l D DA b sz (d + 1) M_R_wrongAt (232, [some (.ref 47), some (.int (zi n)), none, none, none, none, some (.int (zi a)), none, some (.int (zi i)), none], [], (am_TT cu L, am_RR cu, σ)) r X') (iwF P n) (b2W P Q N n) N ?_ (fun i a hi ha ih => ?_)
  · have hlt : fo (iwF P n) (b2W P Q N n) N < 32 := b3W_lt N
    have hlt2 : fo (iwF P n) (b2W P Q N n) N &&& 4 ≤ fo (iwF P n) (b2W P Q N n) N := Nat.and_le_left
    refine v_R_wrongAt_232 _ _ _ ?_
    rw [mk_a4, show Int32.toNatClampNeg (zi n) = n from zi_cl (by omega)]
    simp (disch := omega) only [h.1, zi_le, zi_eq0, zi_lt0]
    refine ⟨fun _ => ⟨fun h0 => ⟨by omega, _, c_R_makeLoads (by omega) hm1 hpOK1 htOK1, by omega, by omega, by omega, ?_⟩, fun h0 => G1 (fun z => h0 ?_)⟩, fun h0 => absurd h0 (by omega)⟩
    · have hG := G2 (by unfold b3W; omega)
      have hld := ldP_bd hpOK1 htOK1 (Nat.le_refl (12 * N))
      have e1 : am_us (wLd (am_us σ 56 n 1) 61 N (lds (pu P 8 n 1) N)) 56 n 0 61 n = zi (lds (pu P 8 n 1) N n) := by rw [am_us_c (by decide), wLd_at hn]
      have e2 : am_us (wLd (am_us σ 56 n 1) 61 N (lds (pu P 8 n 1) N)) 56 n 0 52 n = zi (P 4 n) := by rw [am_us_c (by decide), wLd_c (by decide), am_us_c (by decide)]; exact f4
      rw [wLd_at hn, wLd_c (by decide), am_us_c (by decide), f4]
      have hbd := lds_bd hpOK1 htOK1 n
      have hb4 : 0 ≤ P 4 n ∧ P 4 n ≤ 20000 := by unfold bOK at hbn; omega
      simp (disch := omega) only [zi_le, z01]
      exact hG
    · have e : fo (iwF P n) (b2W P Q N n) N &&& 4 = 0 := z
      rw [e]; rfl
  · have hlt : a < 32 := by rw [ha]; exact b3W_lt i
    have hi20 : i < 20 := by omega
    have hbi := hp.2.1 i hi
    obtain ⟨⟨e0, e1, e2, e3, e4, e5, e6⟩, e7, e8, e9, e10, e11, e12⟩ := h.row hi20
    have h01 := iw_01 (P := P) n i
    have h8 : 0 ≤ P 8 i ∧ P 8 i ≤ 1 := by unfold bOK at hbi; omega
    unfold iwF at ih
    refine v_R_wrongAt_232 _ _ _ ?_
    simp (disch := omega) only [h.1, zi_le, zi_cl, e8, zi_eq0, zi_lt0, zi_s1]
    refine ⟨fun h0 => absurd h0 (by omega), fun _ => ⟨by omega, fun h1 => ?_, fun h1 => ⟨_, _, c_R_isInWay (by omega) h hn20 hi20 hbn hbi (fun z => h1 (z ▸ h8n)), ?_⟩⟩⟩
    · rw [if_pos h1] at ih; exact ih
    · simp (disch := omega) only [zi_eq0]
      rw [if_neg h1] at ih
      refine ⟨fun h2 => ?_, fun h2 => ?_⟩
      · rw [if_pos h2] at ih; exact ih
      · rw [if_neg h2] at ih; rw [mk_o16]; exact ih
theorem w327 (h : mOK σ N P Q) (hp : pOK N P Q) {ld : Nat → Int} {a0 : Int} {B : Nat} (hB : B < 32) (ha0 : a0 = 0 ∨ a0 = 1) (hld : ∀ m, m < N → σ 61 m = zi (ld m)) (hbd : ∀ m, m < N → 0 ≤ ld m ∧ ld m ≤ 6000000) :
    am_Go l D DA b sz (d + 1) M_R_wrongAt (327, [some (.ref 47), none, none, none, none, none, some (.int (zi B)), none, some (.int (zi a0)), some (.int 0)], [], (am_TT cu L, am_RR cu, σ)) (some (.int (zi (if fo (hvF P ld) a0 N = 0 then B else B ||| 8 : Nat)))) (am_TT cu L, am_RR cu, σ) := by
  have hN := hp.1
  have h01 : ∀ k, fo (hvF P ld) a0 k = 0 ∨ fo (hvF P ld) a0 k = 1 := by
    intro k
    refine fo_inv (fun _ a => a = 0 ∨ a = 1) ha0 (fun i x _ hx => ?_)
    unfold hvF
    repeat' split
    all_goals simp
  refine fo_loop (fun i a => am_Go l D DA b sz (d + 1) M_R_wrongAt (327, [some (.ref 47), none, none, none, none, none, some (.int (zi B)), none, some (.int (zi a)), some (.int (zi i))], [], (am_TT cu L, am_RR cu, σ)) (some (.int (zi (if fo (hvF P ld) a0 N = 0 then B else B ||| 8 : Nat)))) (am_TT cu L, am_RR cu, σ)) (hvF P ld) a0 N ?_ (fun i a hi ha ih => ?_)
  · have h9 := h01 N
    refine v_R_wrongAt_327 _ _ _ ?_
    rw [mk_o8]
    simp (disch := omega) only [h.1, zi_le, zi_eq0]
    refine ⟨fun _ => ⟨?_, by first | rfl | trivial⟩, fun h0 => absurd h0 (by omega)⟩
    by_cases e : fo (hvF P ld) a0 N = 0
    · rw [if_pos e, if_pos e]
    · rw [if_neg e, if_neg e]
  · have ha1 : a = 0 ∨ a = 1 := by rw [ha]; exact h01 i
    have hi20 : i < 20 := by omega
    have hbi := hp.2.1 i hi
    obtain ⟨⟨e0, e1, e2, e3, e4, e5, e6⟩, e7, e8, e9, e10, e11, e12⟩ := h.row hi20
    have hb2 := hbd i hi
    unfold bOK at hbi
    unfold hvF at ih
    refine v_R_wrongAt_327 _ _ _ ?_
    rw [show Int32.toNatClampNeg (zi i) = i from zi_cl (by omega), hld i hi]
    simp (disch := omega) only [h.1, zi_le, e8, e4, zi_eq0, zi_lt0, zi_s1, z01]
    refine ⟨fun h0 => absurd h0 (by omega), fun _ => ⟨fun h1 => ⟨by omega, fun h2 => ?_, fun h2 => ⟨by omega, by omega, ?_⟩⟩, fun h1 => ?_⟩⟩
    · rw [if_pos h1, if_pos h2] at ih; exact ih
    · rw [if_pos h1, if_neg h2] at ih; exact ih
    · rw [if_neg h1] at ih; exact ih
end MWR
