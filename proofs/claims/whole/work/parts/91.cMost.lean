/-! CUTS: the class's most worth; its pieces -/
theorem sp_13 : ∀ k, k < 20 → (nI k <<< (13 &&& 31 : Int32) : Int32) = nI (k * 8192) := by decide +kernel
theorem sp_12 : ∀ k, k < 2 → (nI k <<< (12 &&& 31 : Int32) : Int32) = nI (k * 4096) := by decide +kernel
theorem sp_o : ∀ n, n < 20 → ∀ t, t < 2 → n * 8192 ||| t * 4096 = 4096 * (2 * n + t) := by decide +kernel
def oI (o : Nat → Nat) : Nat := o 0 * 256 + o 1 * 16 + o 2
def cdP (p : Pce) : Nat := p.1 * 8192 + p.2.1 * 4096 + oI p.2.2
theorem cd_eq {n t s : Nat} (hn : n < 20) (ht : t < 2) (hs : s < 4096) : (((zi (n : Int) <<< (13 &&& 31 : Int32) : Int32) ||| (zi (t : Int) <<< (12 &&& 31 : Int32) : Int32)) ||| zi (s : Int) : Int32) = zi ((n * 8192 + t * 4096 + s : Nat) : Int) := by
  have h1 : (zi (n : Int) <<< (13 &&& 31 : Int32) : Int32) = zi ((n * 8192 : Nat) : Int) := sp_13 n hn
  have h2 : (zi (t : Int) <<< (12 &&& 31 : Int32) : Int32) = zi ((t * 4096 : Nat) : Int) := sp_12 t ht
  rw [h1, h2, mk_or, mk_or, sp_o n hn t ht]
  have h3 : 2 ^ 12 * (2 * n + t) + s = 2 ^ 12 * (2 * n + t) ||| s := Nat.two_pow_add_eq_or_of_lt (by omega) _
  have h4 : (4096 * (2 * n + t) ||| s) = n * 8192 + t * 4096 + s := by
    rw [show 4096 * (2 * n + t) = 2 ^ 12 * (2 * n + t) from rfl, ← h3]
    omega
  rw [h4]
def pC (σ : Nat → Nat → Int32) (c : Nat) (p : Pce) : Nat → Nat → Int32 := am_us (am_us σ 71 c (zi (cdP p : Int))) 69 4 (zi ((c + 1 : Nat) : Int))
def lC : (Nat → Nat → Int32) → Nat → List Pce → (Nat → Nat → Int32)
  | σ, _, [] => σ
  | σ, c, p :: ps => lC (pC σ c p) (c + 1) ps
theorem lC_app : ∀ (a e : List Pce) (σ : Nat → Nat → Int32) (c : Nat), lC σ c (a ++ e) = lC (lC σ c a) (c + a.length) e
  | [], _, _, _ => rfl
  | p :: a, e, σ, c => by
    show lC (pC σ c p) (c + 1) (a ++ e) = lC (lC (pC σ c p) (c + 1) a) (c + (a.length + 1)) e
    rw [lC_app a e, show c + 1 + a.length = c + (a.length + 1) by omega]
theorem pC_fr {σ : Nat → Nat → Int32} {c : Nat} {p : Pce} {x : Nat} (h1 : x ≠ 69) (h2 : x ≠ 71) : pC σ c p x = σ x := by
  unfold pC
  rw [am_us_ne h1, am_us_ne h2]
theorem pC_69 {σ : Nat → Nat → Int32} {c : Nat} {p : Pce} {k : Nat} (h : k ≠ 4) : pC σ c p 69 k = σ 69 k := by
  unfold pC
  rw [am_us_k h, am_us_c (by decide)]
theorem lC_fr {x : Nat} (h1 : x ≠ 69) (h2 : x ≠ 71) : ∀ (ps : List Pce) (σ : Nat → Nat → Int32) (c : Nat), lC σ c ps x = σ x
  | [], _, _ => rfl
  | p :: ps, σ, c => (lC_fr h1 h2 ps (pC σ c p) (c + 1)).trans (pC_fr h1 h2)
theorem lC_69 {k : Nat} (h : k ≠ 4) : ∀ (ps : List Pce) (σ : Nat → Nat → Int32) (c : Nat), lC σ c ps 69 k = σ 69 k
  | [], _, _ => rfl
  | p :: ps, σ, c => (lC_69 h ps (pC σ c p) (c + 1)).trans (pC_69 h)
theorem lC_4 : ∀ (ps : List Pce) (σ : Nat → Nat → Int32) (c : Nat), σ 69 4 = zi (c : Int) → lC σ c ps 69 4 = zi ((c + ps.length : Nat) : Int)
  | [], _, _, h => h
  | p :: ps, σ, c, h => by
    have h9 := lC_4 ps (pC σ c p) (c + 1) (by unfold pC; rw [am_us_s])
    rw [show c + 1 + ps.length = c + (p :: ps).length by rw [List.length_cons]; omega] at h9
    exact h9
theorem lC_lt : ∀ (ps : List Pce) (σ : Nat → Nat → Int32) (c j : Nat), j < c → lC σ c ps 71 j = σ 71 j
  | [], _, _, _, _ => rfl
  | p :: ps, σ, c, j, h => by
    show lC (pC σ c p) (c + 1) ps 71 j = σ 71 j
    rw [lC_lt ps (pC σ c p) (c + 1) j (by omega)]
    unfold pC
    rw [am_us_c (by decide), am_us_k (by omega)]
theorem lC_get : ∀ (ps : List Pce) (σ : Nat → Nat → Int32) (c i : Nat), i < ps.length → lC σ c ps 71 (c + i) = zi (cdP (nthP ps i) : Int)
  | [], _, _, i, h => absurd h (by simp)
  | p :: ps, σ, c, 0, _ => by
    show lC (pC σ c p) (c + 1) ps 71 c = _
    rw [lC_lt ps _ _ _ (by omega)]
    unfold pC
    rw [am_us_c (by decide), am_us_s]
    rfl
  | p :: ps, σ, c, i + 1, h => by
    have h9 := lC_get ps (pC σ c p) (c + 1) i (Nat.lt_of_succ_lt_succ h)
    rw [show c + 1 + i = c + (i + 1) by omega] at h9
    exact h9
section CMO
variable {l : Launch} {D : va_G} {DA : Nat → ClassId} {b sz d L : Nat} {σ : Nat → Nat → Int32} {N : Nat} {P : Nat → Nat → Int}
theorem nb_e {v : Nat → Nat} (h : vOK v) {e : Nat} (he : e < 3) : ((zi (cI v : Int) >>> (shE e &&& 31 : Int32) : Int32) &&& 15 : Int32) = zi ((v e - 1 : Nat) : Int) := by
  obtain ⟨h0, h1, h2, -⟩ := h
  rcases e3 he with rfl | rfl | rfl
  · exact nb_8 (v 0 - 1) (by omega) (v 1 - 1) (by omega) (v 2 - 1) (by omega)
  · exact nb_4 (v 0 - 1) (by omega) (v 1 - 1) (by omega) (v 2 - 1) (by omega)
  · exact nb_0 (v 0 - 1) (by omega) (v 1 - 1) (by omega) (v 2 - 1) (by omega)
theorem vmx_OK {u v : Nat → Nat} (hu : vOK u) (hv : vOK v) : vOK (vmx u v) ∧ vle u (vmx u v) ∧ vle v (vmx u v) := by
  obtain ⟨u0, u1, u2, -⟩ := hu
  obtain ⟨v0, v1, v2, -⟩ := hv
  refine ⟨v3_OK (by split <;> omega) (by split <;> omega) (by split <;> omega), ⟨?_, ?_, ?_⟩, ⟨?_, ?_, ?_⟩⟩
  · show u 0 ≤ if u 0 < v 0 then v 0 else u 0; split <;> omega
  · show u 1 ≤ if u 1 < v 1 then v 1 else u 1; split <;> omega
  · show u 2 ≤ if u 2 < v 2 then v 2 else u 2; split <;> omega
  · show v 0 ≤ if u 0 < v 0 then v 0 else u 0; split <;> omega
  · show v 1 ≤ if u 1 < v 1 then v 1 else u 1; split <;> omega
  · show v 2 ≤ if u 2 < v 2 then v 2 else u 2; split <;> omega
theorem c_greaterOf {u v : Nat → Nat} (hu : vOK u) (hv : vOK v) : GG l D DA b sz d L true M_Cutter_greaterOf [some (.int (zi (cI u : Int))), some (.int (zi (cI v : Int))), none, none, none] σ (some (.int (zi (cI (vmx u v) : Int)))) σ := by
  have mx : ∀ e, e < 3 → (if ((zi (cI u : Int) >>> (shE e &&& 31 : Int32) : Int32) &&& 15 : Int32) < ((zi (cI v : Int) >>> (shE e &&& 31 : Int32) : Int32) &&& 15 : Int32) then ((zi (cI v : Int) >>> (shE e &&& 31 : Int32) : Int32) &&& 15 : Int32) else ((zi (cI u : Int) >>> (shE e &&& 31 : Int32) : Int32) &&& 15 : Int32)) = zi (((if u e < v e then v e else u e) - 1 : Nat) : Int) := fun e he => by
    have he1 := vOK_e hu he
    have he2 := vOK_e hv he
    rw [nb_e hu he, nb_e hv he]
    have i1 : zi ((u e - 1 : Nat) : Int) < zi ((v e - 1 : Nat) : Int) ↔ u e < v e := by rw [zi_lt (by omega) (by omega) (by omega) (by omega)]; omega
    by_cases c : u e < v e
    · rw [if_pos (i1.mpr c), if_pos c]
    · rw [if_neg (fun z => c (i1.mp z)), if_neg c]
  have st : ∀ (e : Nat) (p : Int32) {r : Option Value} {X' : am_X}, e < 3 → am_Go l D DA b sz d M_Cutter_greaterOf (5, [some (.int (zi (cI u : Int))), some (.int (zi (cI v : Int))), some (.int (p ||| (zi (((if u e < v e then v e else u e) - 1 : Nat) : Int) <<< (shE e &&& 31 : Int32) : Int32))), some (.int (shE e + (-4))), none], [], (am_TT true L, am_RR true, σ)) r X' → am_Go l D DA b sz d M_Cutter_greaterOf (5, [some (.int (zi (cI u : Int))), some (.int (zi (cI v : Int))), some (.int p), some (.int (shE e)), none], [], (am_TT true L, am_RR true, σ)) r X' := fun e p r X' he g => by
    refine v_Cutter_greaterOf_5 _ _ _ _ ?_
    rw [mx e he]
    refine ⟨fun h0 => absurd h0 ?_, fun _ => g⟩
    rcases e3 he with rfl | rfl | rfl <;> decide
  refine v_Cutter_greaterOf_0 _ _ ?_
  refine st 0 0 (by decide) (st 1 _ (by decide) (st 2 _ (by decide) ?_))
  refine v_Cutter_greaterOf_5 _ _ _ _ ⟨fun _ => ⟨?_, rfl⟩, fun h0 => absurd (by decide) h0⟩
  obtain ⟨u0, u1, u2, -⟩ := hu
  obtain ⟨v0, v1, v2, -⟩ := hv
  exact congrArg (fun w => some (Value.int w)) (bk_2 ((if u 0 < v 0 then v 0 else u 0) - 1) (by split <;> omega) ((if u 1 < v 1 then v 1 else u 1) - 1) (by split <;> omega) ((if u 2 < v 2 then v 2 else u 2) - 1) (by split <;> omega)).symm
/-- the worths of all blocks up to u stand -/
def knw (σ : Nat → Nat → Int32) (P : Nat → Nat → Int) (N : Nat) (u : Nat → Nat) : Prop := vOK u ∧ σ 69 2 = zi (cI u : Int) ∧ ∀ y, vOK y → vle y u → σ 70 (cI y) = zi (Tw P N y)
theorem v3_e {v : Nat → Nat} (h : vOK v) : v3 (v 0) (v 1) (v 2) = v := v_ext (v3_OK h.1 h.2.1 h.2.2.1) h rfl rfl rfl
theorem C_most (hd : 4 ≤ d) (h : cR σ N P) (hb : pB N P) {v : Nat → Nat} (hv : vOK v) (hk : σ 69 2 = -1 ∨ ∃ u, knw σ P N u) :
    ∃ σ' u, GG l D DA b sz d L true M_Cutter_mostWorth [some (.ref 69), some (.ref 2), some (.int (zi (v 0 : Int))), some (.int (zi (v 1 : Int))), some (.int (zi (v 2 : Int))), none] σ (some (.int (zi (Tw P N v)))) σ' ∧ knw σ' P N u ∧ vle v u ∧ σ' 69 3 = zi (cI v : Int) ∧ σ' 69 4 = -1 ∧ ∀ c, c ≠ 69 → c ≠ 70 → σ' c = σ c := by
  obtain ⟨d, rfl⟩ : ∃ d', d = d' + 1 := ⟨d - 1, by omega⟩
  have g1 := c_blockOf (l := l) (D := D) (DA := DA) (b := b) (sz := sz) (d := d) (L := L) (σ := σ) hv.1 hv.2.1 hv.2.2.1
  rw [v3_e hv] at g1
  obtain ⟨hcl, ni⟩ := idx hv
  have hlt := cI_lt hv
  have ha : ∀ {w : Nat → Nat}, vOK w → vle v w → ∃ σ2, GG l D DA b sz d L true M_Cutter_fillWorths [some (.ref 69), some (.ref 2), some (.int (zi (cI w : Int))), none, none, none, none] (am_us (am_us σ 69 3 (zi (cI v : Int))) 69 4 (-1)) none σ2 ∧ σ2 69 3 = zi (cI v : Int) ∧ σ2 70 (cI v) = zi (Tw P N v) ∧ knw (am_us σ2 69 2 (zi (cI w : Int))) P N w ∧ (am_us σ2 69 2 (zi (cI w : Int))) 69 3 = zi (cI v : Int) ∧ (am_us σ2 69 2 (zi (cI w : Int))) 69 4 = -1 ∧ ∀ c, c ≠ 69 → c ≠ 70 → (am_us σ2 69 2 (zi (cI w : Int))) c = σ c := fun {w} hw hvw => by
    obtain ⟨σ2, g2, t2, f2⟩ := F_fill (l := l) (D := D) (DA := DA) (b := b) (sz := sz) (d := d) (L := L) (σ := am_us (am_us σ 69 3 (zi (cI v : Int))) 69 4 (-1)) (by omega) ⟨by rw [am_us_c (by decide), am_us_c (by decide)]; exact h.1, fun n hn => by rw [am_us_ne (by omega), am_us_ne (by omega)]; exact h.2 n hn⟩ hb hw
    have e3 : σ2 69 3 = zi (cI v : Int) := by rw [f2 69 (by decide), am_us_k (by decide), am_us_s]
    have e4 : σ2 69 4 = -1 := by rw [f2 69 (by decide), am_us_s]
    refine ⟨σ2, g2, e3, t2 v hv hvw, ⟨hw, by rw [am_us_s], fun y hy hyw => by rw [am_us_c (by decide)]; exact t2 y hy hyw⟩, by rw [am_us_k (by decide)]; exact e3, by rw [am_us_k (by decide)]; exact e4, fun c c1 c2 => ?_⟩
    rw [am_us_ne c1, f2 c c2, am_us_ne c1, am_us_ne c1]
  rcases hk with hk | ⟨u, ku⟩
  · obtain ⟨σ2, g2, e3, t2, k2, k3, k4, f2⟩ := ha hv ⟨Nat.le_refl _, Nat.le_refl _, Nat.le_refl _⟩
    refine ⟨_, v, v_Cutter_mostWorth_0 _ _ _ ⟨_, _, g1, ?_⟩, k2, ⟨Nat.le_refl _, Nat.le_refl _, Nat.le_refl _⟩, k3, k4, f2⟩
    rw [hk]
    refine ⟨fun _ => ⟨fun h0 => absurd h0 ?_, fun _ => ⟨σ2, g2, ?_⟩⟩, fun h0 => absurd rfl h0⟩
    · rw [zm1, zi_eq (by omega) (by omega) (by omega) (by omega)]; omega
    · rw [e3, hcl, t2]
      exact ⟨ni, rfl, rfl⟩
  · obtain ⟨hu, u2, ut⟩ := id ku
    obtain ⟨m1, m2, m3⟩ := vmx_OK hu hv
    have hul := cI_lt hu
    have hml := cI_lt m1
    have g3 := c_greaterOf (l := l) (D := D) (DA := DA) (b := b) (sz := sz) (d := d) (L := L) (σ := am_us (am_us σ 69 3 (zi (cI v : Int))) 69 4 (-1)) hu hv
    have n1 : ¬ zi (cI u : Int) = -1 := by rw [zm1, zi_eq (by omega) (by omega) (by omega) (by omega)]; omega
    have a2 : am_us (am_us σ 69 3 (zi (cI v : Int))) 69 4 (-1) 69 2 = zi (cI u : Int) := by rw [am_us_k (by decide), am_us_k (by decide)]; exact u2
    have a3 : am_us (am_us σ 69 3 (zi (cI v : Int))) 69 4 (-1) 69 3 = zi (cI v : Int) := by rw [am_us_k (by decide), am_us_s]
    by_cases c : cI (vmx u v) = cI u
    · have ex := cI_inj m1 hu c
      rw [ex] at m3
      refine ⟨am_us (am_us σ 69 3 (zi (cI v : Int))) 69 4 (-1), u, v_Cutter_mostWorth_0 _ _ _ ⟨_, _, g1, ?_⟩, ⟨hu, a2, fun y hy hyu => by rw [am_us_c (by decide), am_us_c (by decide)]; exact ut y hy hyu⟩, m3, a3, by rw [am_us_s], fun c c1 c2 => by rw [am_us_ne c1, am_us_ne c1]⟩
      rw [u2]
      refine ⟨fun h0 => absurd h0 n1, fun _ => ⟨_, _, g3, ?_⟩⟩
      rw [a2, a3, hcl, c]
      refine ⟨fun _ => ⟨ni, ?_, rfl⟩, fun h0 => absurd rfl h0⟩
      rw [am_us_c (by decide), am_us_c (by decide), ut v hv m3]
    · obtain ⟨σ2, g2, e3, t2, k2, k3, k4, f2⟩ := ha m1 m3
      refine ⟨_, vmx u v, v_Cutter_mostWorth_0 _ _ _ ⟨_, _, g1, ?_⟩, k2, m3, k3, k4, f2⟩
      rw [u2]
      refine ⟨fun h0 => absurd h0 n1, fun _ => ⟨_, _, g3, ?_⟩⟩
      rw [a2]
      refine ⟨fun h0 => absurd ((zi_eq (by omega) (by omega) (by omega) (by omega)).mp h0) (by omega), fun _ => ⟨σ2, g2, ?_⟩⟩
      rw [e3, hcl, t2]
      exact ⟨ni, rfl, rfl⟩
/-- which box is the piece -/
theorem C_3 {v o : Nat → Nat} {c : Nat} (h : cR σ N P) (hb : pB N P) (hv : vOK v) (hT : σ 70 (cI v) = zi (Tw P N v)) (h4 : σ 69 4 = zi (c : Int)) (hc : c < 4096) (ho : oI o < 4096) :
    ∀ (m i : Nat), i + m = N → (∀ n : Nat, ff (fun n => P 7 n = Tw P N v ∧ fitV P n v) m i = n → am_Go l D DA b sz (d + 1) M_Cutter_layPiece (3, [some (.ref 69), some (.ref 2), some (.int (zi (cI v : Int))), some (.int (zi (oI o : Int))), some (.int (zi (i : Int))), none, none], [], (am_TT true L, am_RR true, σ)) (some (.int 1)) (am_TT true L, am_RR true, pC σ c (n, tnd P n v, o))) ∧ (ff (fun n => P 7 n = Tw P N v ∧ fitV P n v) m i = -1 → am_Go l D DA b sz (d + 1) M_Cutter_layPiece (3, [some (.ref 69), some (.ref 2), some (.int (zi (cI v : Int))), some (.int (zi (oI o : Int))), some (.int (zi (i : Int))), none, none], [], (am_TT true L, am_RR true, σ)) (some (.int 0)) (am_TT true L, am_RR true, σ)) := by
  have hN := hb.1
  have hTb := Tw_bd (pB_7 hb) hv
  intro m
  induction m with
  | zero =>
    intro i hi
    have e : i = N := by omega
    subst e
    refine ⟨fun n hn => absurd (show (-1 : Int) = n from hn) (by omega), fun _ => v_Cutter_layPiece_3 _ _ _ ?_⟩
    rw [h.1]
    exact ⟨fun _ => (by first | exact ⟨rfl, rfl⟩ | exact ⟨trivial, trivial⟩ | exact ⟨trivial, rfl⟩ | exact ⟨rfl, trivial⟩ | trivial), fun h0 => absurd (Int32.le_refl _) h0⟩
  | succ m ih =>
    intro i hi
    have hiN : i < N := by omega
    have hbn := hb.2 i hiN
    obtain ⟨o1, o2⟩ := bxV_OK hb hiN
    obtain ⟨r0, r1, r2, r6, r7⟩ := h.2 i (by omega)
    obtain ⟨hcl, ni⟩ := idx hv
    have hcli : Int32.toNatClampNeg (zi i) = i := zi_cl (by omega)
    have nii : ¬ (zi (i : Int) < 0 ∨ 20 ≤ i) := by rw [zi_lt0 (by omega) (by omega)]; omega
    have hnle : ¬ zi (N : Int) ≤ zi (i : Int) := by rw [zi_le (by omega) (by omega) (by omega) (by omega)]; omega
    have e0 : P 0 i = ((P 0 i).toNat : Int) := by omega
    have e1 : P 1 i = ((P 1 i).toNat : Int) := by omega
    have e2 : P 2 i = ((P 2 i).toNat : Int) := by omega
    have g1 := c_blockOf (l := l) (D := D) (DA := DA) (b := b) (sz := sz) (d := d) (L := L) (σ := σ) (x := (P 0 i).toNat) (y := (P 1 i).toNat) (z := (P 2 i).toNat) (by omega) (by omega) (by omega)
    rw [← e0, ← e1, ← e2] at g1
    have g2 := c_blockOf (l := l) (D := D) (DA := DA) (b := b) (sz := sz) (d := d) (L := L) (σ := σ) (x := (P 1 i).toNat) (y := (P 0 i).toNat) (z := (P 2 i).toNat) (by omega) (by omega) (by omega)
    rw [← e0, ← e1, ← e2] at g2
    have l1 := cI_lt o1
    have l2 := cI_lt o2
    have lv := cI_lt hv
    have i7 : zi (P 7 i) = zi (Tw P N v) ↔ P 7 i = Tw P N v := zi_eq (by omega) (by omega) (by omega) (by omega)
    have i6 : zi (P 6 i) = 0 ↔ P 6 i = 0 := zi_eq0 (by omega) (by omega)
    have ib : zi (cI (bxV P i) : Int) = zi (cI v : Int) ↔ cI (bxV P i) = cI v := by rw [zi_eq (by omega) (by omega) (by omega) (by omega)]; omega
    have it : zi (cI (txV P i) : Int) = zi (cI v : Int) ↔ cI (txV P i) = cI v := by rw [zi_eq (by omega) (by omega) (by omega) (by omega)]; omega
    have hfit := fit_iff hb hiN hv
    have hcc : Int32.toNatClampNeg (zi (c : Int)) = c := zi_cl (by omega)
    have nc : ¬ (zi (c : Int) < 0 ∨ 4096 ≤ c) := by rw [zi_lt0 (by omega) (by omega)]; omega
    have nc1 : ¬ zi (c : Int) < 0 := by rw [zi_lt0 (by omega) (by omega)]; omega
    have nc2 : ¬ (4096 : Int32) ≤ zi (c : Int) := by rw [show (4096 : Int32) = zi 4096 from rfl, zi_le (by omega) (by omega) (by omega) (by omega)]; omega
    have t0 : cI (bxV P i) = cI v → tnd P i v = 0 := fun e => by
      have ex := cI_inj o1 hv e
      refine if_pos ⟨?_, ?_, ?_⟩
      · rw [← ex]; exact e2
      · rw [← ex]; exact e0
      · rw [← ex]; exact e1
    have t1 : cI (bxV P i) ≠ cI v → tnd P i v = 1 := fun e => if_neg (fun z => e (congrArg cI (v_ext o1 hv (by show (P 0 i).toNat = v 0; omega) (by show (P 1 i).toNat = v 1; omega) (by show (P 2 i).toNat = v 2; omega))))
    by_cases hp : P 7 i = Tw P N v ∧ fitV P i v
    · have e9 : ff (fun n => P 7 n = Tw P N v ∧ fitV P n v) (m + 1) i = (i : Int) := if_pos hp
      rw [e9]
      refine ⟨fun n hn => ?_, fun hn => absurd hn (by omega)⟩
      have en : n = i := by omega
      subst en
      refine v_Cutter_layPiece_3 _ _ _ ?_
      rw [h.1, hcli, hcl, r7, hT, i7, r0, r1, r2]
      refine ⟨fun h0 => absurd h0 hnle, fun _ => ⟨nii, ni, fun _ => ⟨_, _, g1, ?_⟩, fun h0 => absurd hp.1 h0⟩⟩
      by_cases cb : cI (bxV P n) = cI v
      · rw [show (if zi (cI (v3 (P 0 n).toNat (P 1 n).toNat (P 2 n).toNat) : Int) = zi (cI v : Int) then (1 : Int32) else 0) = 1 from if_pos (ib.mpr cb), h4, hcc]
        refine ⟨fun h0 => absurd h0 (by decide), fun _ => ⟨fun h0 => absurd h0 nc1, fun _ => ⟨fun h0 => absurd h0 nc2, fun _ => ⟨nc, rfl, ?_⟩⟩⟩⟩
        have hcd := cd_eq (n := n) (t := 0) (s := oI o) (by omega) (by decide) ho
        rw [if_neg (show ¬ (1 : Int32) = 0 by decide), zi_s1]
        unfold pC cdP
        rw [t0 cb, ← hcd]
        rfl
      · have f6 : P 6 n ≠ 0 ∧ cI v = cI (txV P n) := (hfit.mp hp.2).resolve_left (fun z => cb z.symm)
        rw [show (if zi (cI (v3 (P 0 n).toNat (P 1 n).toNat (P 2 n).toNat) : Int) = zi (cI v : Int) then (1 : Int32) else 0) = 0 from if_neg (fun z => cb (ib.mp z)), r6, i6, r0, r1, r2]
        refine ⟨fun _ => ⟨fun h0 => absurd h0 f6.1, fun _ => ⟨_, _, g2, fun _ => ?_, fun h0 => absurd (it.mpr f6.2.symm) h0⟩⟩, fun h0 => absurd rfl h0⟩
        rw [h4, hcc]
        refine ⟨fun h0 => absurd h0 nc1, fun _ => ⟨fun h0 => absurd h0 nc2, fun _ => ⟨nc, rfl, ?_⟩⟩⟩
        have hcd := cd_eq (n := n) (t := 1) (s := oI o) (by omega) (by decide) ho
        rw [if_pos rfl, zi_s1]
        unfold pC cdP
        rw [t1 cb, ← hcd]
        rfl
    · have e9 : ff (fun n => P 7 n = Tw P N v ∧ fitV P n v) (m + 1) i = ff (fun n => P 7 n = Tw P N v ∧ fitV P n v) m (i + 1) := if_neg hp
      rw [e9]
      have nx : ∀ {r : Option Value} {X' : am_X}, am_Go l D DA b sz (d + 1) M_Cutter_layPiece (3, [some (.ref 69), some (.ref 2), some (.int (zi (cI v : Int))), some (.int (zi (oI o : Int))), some (.int (zi ((i + 1 : Nat) : Int))), none, none], [], (am_TT true L, am_RR true, σ)) r X' → am_Go l D DA b sz (d + 1) M_Cutter_layPiece (3, [some (.ref 69), some (.ref 2), some (.int (zi (cI v : Int))), some (.int (zi (oI o : Int))), some (.int (zi (i : Int))), none, none], [], (am_TT true L, am_RR true, σ)) r X' := fun {r X'} g => by
        refine v_Cutter_layPiece_3 _ _ _ ?_
        rw [h.1, hcli, hcl, r7, hT, i7, r0, r1, r2, zi_s1]
        refine ⟨fun h0 => absurd h0 hnle, fun _ => ⟨nii, ni, fun c7 => ⟨_, _, g1, ?_⟩, fun _ => g⟩⟩
        have cb : cI (bxV P i) ≠ cI v := fun z => hp ⟨c7, hfit.mpr (Or.inl z.symm)⟩
        rw [show (if zi (cI (v3 (P 0 i).toNat (P 1 i).toNat (P 2 i).toNat) : Int) = zi (cI v : Int) then (1 : Int32) else 0) = 0 from if_neg (fun z => cb (ib.mp z)), r6, i6, r0, r1, r2]
        exact ⟨fun _ => ⟨fun _ => g, fun c6 => ⟨_, _, g2, fun h0 => absurd ((hfit.mpr (Or.inr ⟨c6, (it.mp h0).symm⟩))) (fun z => hp ⟨c7, z⟩), fun _ => g⟩⟩, fun h0 => absurd rfl h0⟩
      exact ⟨fun n hn => nx ((ih (i + 1) (by omega)).1 n hn), fun hn => nx ((ih (i + 1) (by omega)).2 hn)⟩
end CMO
