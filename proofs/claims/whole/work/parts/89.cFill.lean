/-! CUTS: the class's blocks and worths -/
def cI (v : Nat → Nat) : Nat := (v 0 - 1) * 256 + (v 1 - 1) * 16 + (v 2 - 1)
def cR (σ : Nat → Nat → Int32) (N : Nat) (P : Nat → Nat → Int) : Prop := σ 2 2 = zi N ∧ ∀ n, n < 20 → σ (19 + n) 0 = zi (P 0 n) ∧ σ (19 + n) 1 = zi (P 1 n) ∧ σ (19 + n) 2 = zi (P 2 n) ∧ σ (19 + n) 6 = zi (P 6 n) ∧ σ (19 + n) 7 = zi (P 7 n)
theorem cI_lt {v : Nat → Nat} (h : vOK v) : cI v < 4096 := by
  obtain ⟨h0, h1, h2, -⟩ := h
  unfold cI
  omega
theorem cI_inj {v u : Nat → Nat} (h : vOK v) (g : vOK u) (e : cI v = cI u) : v = u := by
  obtain ⟨h0, h1, h2, -⟩ := id h
  obtain ⟨g0, g1, g2, -⟩ := id g
  unfold cI at e
  exact v_ext h g (by omega) (by omega) (by omega)
theorem bk_1 : ∀ a, a < 16 → ∀ c, c < 16 → ∀ e, e < 16 → (((nI a <<< (8 &&& 31 : Int32) : Int32) ||| (nI c <<< (4 &&& 31 : Int32) : Int32)) ||| nI e : Int32) = nI (a * 256 + c * 16 + e) := by decide +kernel
theorem bk_2 : ∀ a, a < 16 → ∀ c, c < 16 → ∀ e, e < 16 → (((0 ||| (nI a <<< (8 &&& 31 : Int32) : Int32)) ||| (nI c <<< (4 &&& 31 : Int32) : Int32)) ||| (nI e <<< (0 &&& 31 : Int32) : Int32) : Int32) = nI (a * 256 + c * 16 + e) := by decide +kernel
theorem nb_8 : ∀ a, a < 16 → ∀ c, c < 16 → ∀ e, e < 16 → ((nI (a * 256 + c * 16 + e) >>> (8 &&& 31 : Int32) : Int32) &&& 15 : Int32) = nI a := by decide +kernel
theorem nb_8' : ∀ a, a < 16 → ∀ c, c < 16 → ∀ e, e < 16 → (nI (a * 256 + c * 16 + e) >>> (8 &&& 31 : Int32) : Int32) = nI a := by decide +kernel
theorem nb_4 : ∀ a, a < 16 → ∀ c, c < 16 → ∀ e, e < 16 → ((nI (a * 256 + c * 16 + e) >>> (4 &&& 31 : Int32) : Int32) &&& 15 : Int32) = nI c := by decide +kernel
theorem nb_0 : ∀ a, a < 16 → ∀ c, c < 16 → ∀ e, e < 16 → ((nI (a * 256 + c * 16 + e) >>> (0 &&& 31 : Int32) : Int32) &&& 15 : Int32) = nI e := by decide +kernel
theorem nb_0' : ∀ a, a < 16 → ∀ c, c < 16 → ∀ e, e < 16 → (nI (a * 256 + c * 16 + e) &&& 15 : Int32) = nI e := by decide +kernel
theorem am_8 : ∀ a, a < 16 → ∀ c, c < 16 → ∀ e, e < 16 → (nI (a * 256 + c * 16 + e) &&& ((15 <<< (8 &&& 31 : Int32) : Int32) ^^^ (-1)) : Int32) = nI (0 * 256 + c * 16 + e) := by decide +kernel
theorem am_4 : ∀ a, a < 16 → ∀ c, c < 16 → ∀ e, e < 16 → (nI (a * 256 + c * 16 + e) &&& ((15 <<< (4 &&& 31 : Int32) : Int32) ^^^ (-1)) : Int32) = nI (a * 256 + 0 * 16 + e) := by decide +kernel
theorem am_0 : ∀ a, a < 16 → ∀ c, c < 16 → ∀ e, e < 16 → (nI (a * 256 + c * 16 + e) &&& ((15 <<< (0 &&& 31 : Int32) : Int32) ^^^ (-1)) : Int32) = nI (a * 256 + c * 16 + 0) := by decide +kernel
theorem ao_8 : ∀ a, a < 16 → ∀ c, c < 16 → ∀ e, e < 16 → (nI (0 * 256 + c * 16 + e) ||| (nI a <<< (8 &&& 31 : Int32) : Int32) : Int32) = nI (a * 256 + c * 16 + e) := by decide +kernel
theorem ao_4 : ∀ a, a < 16 → ∀ c, c < 16 → ∀ e, e < 16 → (nI (a * 256 + 0 * 16 + e) ||| (nI c <<< (4 &&& 31 : Int32) : Int32) : Int32) = nI (a * 256 + c * 16 + e) := by decide +kernel
theorem ao_0 : ∀ a, a < 16 → ∀ c, c < 16 → ∀ e, e < 16 → (nI (a * 256 + c * 16 + 0) ||| (nI e <<< (0 &&& 31 : Int32) : Int32) : Int32) = nI (a * 256 + c * 16 + e) := by decide +kernel
theorem sl_8 : ∀ k, k < 17 → (nI k <<< (8 &&& 31 : Int32) : Int32) = nI (k * 256) := by decide +kernel
theorem sl_4 : ∀ k, k < 17 → (nI k <<< (4 &&& 31 : Int32) : Int32) = nI (k * 16) := by decide +kernel
theorem sl_0 : ∀ k, k < 17 → (nI k <<< (0 &&& 31 : Int32) : Int32) = nI (k * 1) := by decide +kernel
/-- a direction's shift and its weight -/
def shE (e : Nat) : Int32 := if e = 0 then 8 else if e = 1 then 4 else 0
def pwE (e : Nat) : Nat := if e = 0 then 256 else if e = 1 then 16 else 1
theorem zi_pred {a : Nat} (h : 1 ≤ a) : zi (a : Int) - 1 = zi ((a - 1 : Nat) : Int) := by
  rw [zi_m1]
  congr 1
  omega
section CFI
variable {l : Launch} {D : va_G} {DA : Nat → ClassId} {b sz d L : Nat} {σ : Nat → Nat → Int32} {N : Nat} {P : Nat → Nat → Int}
theorem c_blockOf {x y z : Nat} (hx : 1 ≤ x ∧ x ≤ 16) (hy : 1 ≤ y ∧ y ≤ 16) (hz : 1 ≤ z ∧ z ≤ 16) : GG l D DA b sz d L true M_Cutter_blockOf [some (.int (zi (x : Int))), some (.int (zi (y : Int))), some (.int (zi (z : Int)))] σ (some (.int (zi (cI (v3 x y z) : Int)))) σ := by
  refine v_Cutter_blockOf_0 _ _ _ ⟨?_, rfl⟩
  rw [zi_pred hx.1, zi_pred hy.1, zi_pred hz.1]
  exact congrArg (fun w => some (Value.int w)) (bk_1 (x - 1) (by omega) (y - 1) (by omega) (z - 1) (by omega)).symm
theorem sz_e {v : Nat → Nat} (h : vOK v) {e : Nat} (he : e < 3) : (((zi (cI v : Int) >>> (shE e &&& 31 : Int32) : Int32) &&& 15) + 1 : Int32) = zi (v e : Int) := by
  obtain ⟨h0, h1, h2, -⟩ := h
  rcases e3 he with rfl | rfl | rfl
  · have h9 : ((zi (cI v : Int) >>> (8 &&& 31 : Int32) : Int32) &&& 15 : Int32) = zi ((v 0 - 1 : Nat) : Int) := nb_8 (v 0 - 1) (by omega) (v 1 - 1) (by omega) (v 2 - 1) (by omega)
    show (((zi (cI v : Int) >>> (8 &&& 31 : Int32) : Int32) &&& 15) + 1 : Int32) = _
    rw [h9, zi_s1]
    congr 1
    omega
  · have h9 : ((zi (cI v : Int) >>> (4 &&& 31 : Int32) : Int32) &&& 15 : Int32) = zi ((v 1 - 1 : Nat) : Int) := nb_4 (v 0 - 1) (by omega) (v 1 - 1) (by omega) (v 2 - 1) (by omega)
    show (((zi (cI v : Int) >>> (4 &&& 31 : Int32) : Int32) &&& 15) + 1 : Int32) = _
    rw [h9, zi_s1]
    congr 1
    omega
  · have h9 : ((zi (cI v : Int) >>> (0 &&& 31 : Int32) : Int32) &&& 15 : Int32) = zi ((v 2 - 1 : Nat) : Int) := nb_0 (v 0 - 1) (by omega) (v 1 - 1) (by omega) (v 2 - 1) (by omega)
    show (((zi (cI v : Int) >>> (0 &&& 31 : Int32) : Int32) &&& 15) + 1 : Int32) = _
    rw [h9, zi_s1]
    congr 1
    omega
theorem c_aheadOf {v : Nat → Nat} (h : vOK v) {e k : Nat} (he : e < 3) (hk : 1 ≤ k ∧ k ≤ 16) : GG l D DA b sz d L true M_Cutter_aheadOf [some (.int (zi (cI v : Int))), some (.int (zi (k : Int))), some (.int (shE e))] σ (some (.int (zi (cI (vu v e k) : Int)))) σ := by
  obtain ⟨h0, h1, h2, -⟩ := h
  refine v_Cutter_aheadOf_0 _ _ _ ⟨?_, rfl⟩
  rw [zi_pred hk.1]
  rcases e3 he with rfl | rfl | rfl
  · have h9 : (zi (cI v : Int) &&& ((15 <<< (8 &&& 31 : Int32) : Int32) ^^^ (-1)) : Int32) = nI (0 * 256 + (v 1 - 1) * 16 + (v 2 - 1)) := am_8 (v 0 - 1) (by omega) (v 1 - 1) (by omega) (v 2 - 1) (by omega)
    show _ = some (Value.int ((zi (cI v : Int) &&& ((15 <<< (8 &&& 31 : Int32) : Int32) ^^^ (-1))) ||| (nI (k - 1) <<< (8 &&& 31 : Int32) : Int32)))
    rw [h9, ao_8 (k - 1) (by omega) (v 1 - 1) (by omega) (v 2 - 1) (by omega)]
    rfl
  · have h9 : (zi (cI v : Int) &&& ((15 <<< (4 &&& 31 : Int32) : Int32) ^^^ (-1)) : Int32) = nI ((v 0 - 1) * 256 + 0 * 16 + (v 2 - 1)) := am_4 (v 0 - 1) (by omega) (v 1 - 1) (by omega) (v 2 - 1) (by omega)
    show _ = some (Value.int ((zi (cI v : Int) &&& ((15 <<< (4 &&& 31 : Int32) : Int32) ^^^ (-1))) ||| (nI (k - 1) <<< (4 &&& 31 : Int32) : Int32)))
    rw [h9, ao_4 (v 0 - 1) (by omega) (k - 1) (by omega) (v 2 - 1) (by omega)]
    rfl
  · have h9 : (zi (cI v : Int) &&& ((15 <<< (0 &&& 31 : Int32) : Int32) ^^^ (-1)) : Int32) = nI ((v 0 - 1) * 256 + (v 1 - 1) * 16 + 0) := am_0 (v 0 - 1) (by omega) (v 1 - 1) (by omega) (v 2 - 1) (by omega)
    show _ = some (Value.int ((zi (cI v : Int) &&& ((15 <<< (0 &&& 31 : Int32) : Int32) ^^^ (-1))) ||| (nI (k - 1) <<< (0 &&& 31 : Int32) : Int32)))
    rw [h9, ao_0 (v 0 - 1) (by omega) (v 1 - 1) (by omega) (k - 1) (by omega)]
    rfl
theorem sh_k {e k : Nat} (he : e < 3) (hk : k ≤ 16) : (zi (k : Int) <<< (shE e &&& 31 : Int32) : Int32) = zi ((k * pwE e : Nat) : Int) := by
  rcases e3 he with rfl | rfl | rfl
  · exact sl_8 k (by omega)
  · exact sl_4 k (by omega)
  · exact sl_0 k (by omega)
theorem cI_r {v : Nat → Nat} (h : vOK v) {e k : Nat} (he : e < 3) (hk : k < v e) : cI (vu v e (v e - k)) + k * pwE e = cI v := by
  obtain ⟨h0, h1, h2, -⟩ := h
  rcases e3 he with rfl | rfl | rfl
  · show (v 0 - k - 1) * 256 + (v 1 - 1) * 16 + (v 2 - 1) + k * 256 = (v 0 - 1) * 256 + (v 1 - 1) * 16 + (v 2 - 1)
    omega
  · show (v 0 - 1) * 256 + (v 1 - k - 1) * 16 + (v 2 - 1) + k * 16 = (v 0 - 1) * 256 + (v 1 - 1) * 16 + (v 2 - 1)
    omega
  · show (v 0 - 1) * 256 + (v 1 - 1) * 16 + (v 2 - k - 1) + k * 1 = (v 0 - 1) * 256 + (v 1 - 1) * 16 + (v 2 - 1)
    omega
theorem rest_e {v : Nat → Nat} (h : vOK v) {e k : Nat} (he : e < 3) (hk : k < v e) : zi (cI v : Int) - (zi (k : Int) <<< (shE e &&& 31 : Int32) : Int32) = zi (cI (vu v e (v e - k)) : Int) := by
  have h9 := vOK_e h he
  have h8 := cI_r h he hk
  rw [sh_k he (by omega), zi_sub]
  congr 1
  omega
/-- the table of worths -/
def tab (σ : Nat → Nat → Int32) (A : (Nat → Nat) → Int) : Prop := ∀ x, vOK x → σ 70 (cI x) = zi (A x)
theorem idx {v : Nat → Nat} (h : vOK v) : Int32.toNatClampNeg (zi (cI v : Int)) = cI v ∧ ¬ (zi (cI v : Int) < 0 ∨ 4096 ≤ cI v) := by
  have h9 := cI_lt h
  refine ⟨zi_cl (by omega), ?_⟩
  rw [zi_lt0 (by omega) (by omega)]
  omega
theorem us_id {c k : Nat} {v : Int32} (h : σ c k = v) : am_us σ c k v = σ := by
  funext c' k'
  unfold am_us
  by_cases e : c' = c ∧ k' = k
  · rw [if_pos e, e.1, e.2, h]
  · rw [if_neg e]
theorem c_offer {v : Nat → Nat} (h : vOK v) {a w : Int} (ha : σ 70 (cI v) = zi a) (hb : -100000000 ≤ a ∧ a ≤ 100000000) (hw : -100000000 ≤ w ∧ w ≤ 100000000) : GG l D DA b sz d L true M_Cutter_offer [some (.ref 69), some (.int (zi (cI v : Int))), some (.int (zi w))] σ none (am_us σ 70 (cI v) (zi (mxi w a))) := by
  obtain ⟨hcl, ni⟩ := idx h
  refine v_Cutter_offer_0 _ _ ?_
  have i1 : zi w ≤ zi a ↔ w ≤ a := zi_le (by omega) (by omega) (by omega) (by omega)
  rw [hcl, ha, i1]
  unfold mxi
  by_cases c : w ≤ a
  · rw [if_pos c, us_id ha]
    exact ⟨ni, fun _ => ⟨rfl, rfl⟩, fun h0 => absurd c h0⟩
  · rw [if_neg c]
    exact ⟨ni, fun h0 => absurd h0 c, fun _ => ⟨ni, rfl, rfl⟩⟩
/-- one direction of worthCut -/
theorem W_22 {r : Option Value} {X' : am_X} {v : Nat → Nat} (hv : vOK v) {e : Nat} (he : e < 3) (ht : ∀ k, 1 ≤ k → k < v e → σ 70 (cI (vu v e k)) = zi (Tw P N (vu v e k))) (hT : ∀ k, 1 ≤ k → k < v e → 0 ≤ Tw P N (vu v e k) ∧ Tw P N (vu v e k) ≤ 4096000) {a : Int} (ha : 0 ≤ a ∧ a ≤ 8192000)
    (G : am_Go l D DA b sz (d + 1) M_Cutter_worthCut (5, [some (.ref 69), some (.int (zi (cI v : Int))), some (.int (zi (halfF (Tw P N) v e a))), some (.int (shE e + (-4))), none, none, none], [], (am_TT true L, am_RR true, σ)) r X') :
    am_Go l D DA b sz (d + 1) M_Cutter_worthCut (22, [some (.ref 69), some (.int (zi (cI v : Int))), some (.int (zi a)), some (.int (shE e)), some (.int (zi (v e : Int))), some (.int 1), none], [], (am_TT true L, am_RR true, σ)) r X' := by
  have hve := vOK_e hv he
  have hg : ∀ i, i < v e / 2 → 0 ≤ ctv (Tw P N) v e (i + 1) ∧ ctv (Tw P N) v e (i + 1) ≤ 8192000 := fun i hi => by
    have h1 := hT (i + 1) (by omega) (by omega)
    have h2 := hT (v e - (i + 1)) (by omega) (by omega)
    unfold ctv
    omega
  have z2m : ∀ j : Nat, (2 : Int32) * zi ((j + 1 : Nat) : Int) = zi ((2 * (j + 1) : Nat) : Int) := fun j => by
    rw [z2, zi_mul]
    congr 1
  have up := up_loop (fun j => am_Go l D DA b sz (d + 1) M_Cutter_worthCut (22, [some (.ref 69), some (.int (zi (cI v : Int))), some (.int (zi (mxf (fun i => ctv (Tw P N) v e (i + 1)) a j))), some (.int (shE e)), some (.int (zi (v e : Int))), some (.int (zi ((j + 1 : Nat) : Int))), none], [], (am_TT true L, am_RR true, σ)) r X') (v e / 2) (by
    refine v_Cutter_worthCut_22 _ _ _ _ _ ?_
    rw [z2m, zi_lt (by omega) (by omega) (by omega) (by omega)]
    exact ⟨fun _ => G, fun h0 => absurd (by omega) h0⟩) (fun j hj ih => by
    have hm := mxf_bd (g := fun i => ctv (Tw P N) v e (i + 1)) (n := j) ha (fun i hi => hg i (by omega))
    have hgj := hg j hj
    rw [mxf_s] at ih
    generalize mxf (fun i => ctv (Tw P N) v e (i + 1)) a j = m at ih hm ⊢
    have o1 := vOK_u hv he (k := j + 1) (by omega) (by omega)
    have o2 := vOK_u hv he (k := v e - (j + 1)) (by omega) (by omega)
    obtain ⟨c1, n1⟩ := idx o1
    obtain ⟨c2, n2⟩ := idx o2
    have t1 := ht (j + 1) (by omega) (by omega)
    have t2 := ht (v e - (j + 1)) (by omega) (by omega)
    have g1 := c_aheadOf (l := l) (D := D) (DA := DA) (b := b) (sz := sz) (d := d) (L := L) (σ := σ) hv he (k := j + 1) (by omega)
    refine v_Cutter_worthCut_22 _ _ _ _ _ ?_
    rw [z2m, zi_lt (by omega) (by omega) (by omega) (by omega), rest_e hv he (by omega), c2, zi_s1]
    refine ⟨fun h0 => absurd h0 (by omega), fun _ => ⟨_, _, g1, ?_⟩⟩
    rw [c1, t1, t2, zi_add]
    have ic : zi (Tw P N (vu v e (j + 1)) + Tw P N (vu v e (v e - (j + 1)))) ≤ zi m ↔ ctv (Tw P N) v e (j + 1) ≤ m := by
      show zi (ctv (Tw P N) v e (j + 1)) ≤ zi m ↔ _
      rw [zi_le (by omega) (by omega) (by omega) (by omega)]
    rw [ic]
    refine ⟨n1, n2, fun c => ?_, fun c => ?_⟩
    · have e9 : mxi m (ctv (Tw P N) v e (j + 1)) = m := by unfold mxi; split <;> omega
      have ih2 : am_Go l D DA b sz (d + 1) M_Cutter_worthCut (22, [some (.ref 69), some (.int (zi (cI v : Int))), some (.int (zi (mxi m (ctv (Tw P N) v e (j + 1))))), some (.int (shE e)), some (.int (zi (v e : Int))), some (.int (zi ((j + 1 + 1 : Nat) : Int))), none], [], (am_TT true L, am_RR true, σ)) r X' := ih
      rw [e9] at ih2
      exact ih2
    · have e9 : mxi m (ctv (Tw P N) v e (j + 1)) = ctv (Tw P N) v e (j + 1) := by unfold mxi; split <;> omega
      have ih2 : am_Go l D DA b sz (d + 1) M_Cutter_worthCut (22, [some (.ref 69), some (.int (zi (cI v : Int))), some (.int (zi (mxi m (ctv (Tw P N) v e (j + 1))))), some (.int (shE e)), some (.int (zi (v e : Int))), some (.int (zi ((j + 1 + 1 : Nat) : Int))), none], [], (am_TT true L, am_RR true, σ)) r X' := ih
      rw [e9] at ih2
      exact ih2)
  exact up
theorem c_worthCut {v : Nat → Nat} (hd : 1 ≤ d) (hb : pB N P) (hv : vOK v) (ht : ∀ e, e < 3 → ∀ k, 1 ≤ k → k < v e → σ 70 (cI (vu v e k)) = zi (Tw P N (vu v e k))) :
    GG l D DA b sz d L true M_Cutter_worthCut [some (.ref 69), some (.int (zi (cI v : Int))), none, none, none, none, none] σ (some (.int (zi (halfF (Tw P N) v 2 (halfF (Tw P N) v 1 (halfF (Tw P N) v 0 0)))))) σ := by
  obtain ⟨d, rfl⟩ : ∃ d', d = d' + 1 := ⟨d - 1, by omega⟩
  have ok : ∀ e, e < 3 → ∀ k, 1 ≤ k → k < v e → vOK (vu v e k) := fun e he k hk hk2 => vOK_u hv he hk (by have := vOK_e hv he; omega)
  have bd : ∀ e, e < 3 → ∀ k, 1 ≤ k → k < v e → 0 ≤ Tw P N (vu v e k) ∧ Tw P N (vu v e k) ≤ 4096000 := fun e he k hk hk2 => Tw_bd (pB_7 hb) (ok e he k hk hk2)
  have ctb : ∀ e, e < 3 → ∀ i, i < v e / 2 → 0 ≤ ctv (Tw P N) v e (i + 1) ∧ ctv (Tw P N) v e (i + 1) ≤ 8192000 := fun e he i hi => by
    have h1 := bd e he (i + 1) (by omega) (by omega)
    have h2 := bd e he (v e - (i + 1)) (by omega) (by omega)
    unfold ctv
    omega
  have b1 : 0 ≤ halfF (Tw P N) v 0 0 ∧ halfF (Tw P N) v 0 0 ≤ 8192000 := mxf_bd (by omega) (ctb 0 (by decide))
  have b2 : 0 ≤ halfF (Tw P N) v 1 (halfF (Tw P N) v 0 0) ∧ halfF (Tw P N) v 1 (halfF (Tw P N) v 0 0) ≤ 8192000 := mxf_bd b1 (ctb 1 (by decide))
  have st : ∀ (e : Nat) (a : Int) {r : Option Value} {X' : am_X}, e < 3 → am_Go l D DA b sz (d + 1) M_Cutter_worthCut (22, [some (.ref 69), some (.int (zi (cI v : Int))), some (.int (zi a)), some (.int (shE e)), some (.int (zi (v e : Int))), some (.int 1), none], [], (am_TT true L, am_RR true, σ)) r X' → am_Go l D DA b sz (d + 1) M_Cutter_worthCut (5, [some (.ref 69), some (.int (zi (cI v : Int))), some (.int (zi a)), some (.int (shE e)), none, none, none], [], (am_TT true L, am_RR true, σ)) r X' := fun e a r X' he g => by
    refine v_Cutter_worthCut_5 _ _ _ ?_
    rw [sz_e hv he]
    refine ⟨fun h0 => absurd h0 ?_, fun _ => g⟩
    rcases e3 he with rfl | rfl | rfl <;> decide
  refine v_Cutter_worthCut_0 _ ?_
  refine st 0 0 (by decide) (W_22 hv (by decide) (ht 0 (by decide)) (bd 0 (by decide)) (by omega) ?_)
  refine st 1 _ (by decide) (W_22 hv (by decide) (ht 1 (by decide)) (bd 1 (by decide)) b1 ?_)
  refine st 2 _ (by decide) (W_22 hv (by decide) (ht 2 (by decide)) (bd 2 (by decide)) b2 ?_)
  exact v_Cutter_worthCut_5 _ _ _ ⟨fun _ => (by first | exact ⟨rfl, rfl⟩ | exact ⟨trivial, trivial⟩ | exact ⟨trivial, rfl⟩ | exact ⟨rfl, trivial⟩ | trivial), fun h0 => absurd (by decide) h0⟩
end CFI
