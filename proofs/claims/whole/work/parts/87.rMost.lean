/-! CUTS: the reference's table -/
def mR (σ : Nat → Nat → Int32) (N : Nat) (P : Nat → Nat → Int) : Prop := σ 47 0 = zi N ∧ ∀ n, n < 20 → σ 48 n = zi (P 0 n) ∧ σ 49 n = zi (P 1 n) ∧ σ 50 n = zi (P 2 n) ∧ σ 54 n = zi (P 6 n) ∧ σ 55 n = zi (P 7 n)
def pB (N : Nat) (P : Nat → Nat → Int) : Prop := N ≤ 20 ∧ ∀ n, n < N → (1 ≤ P 0 n ∧ P 0 n ≤ 12) ∧ (1 ≤ P 1 n ∧ P 1 n ≤ 12) ∧ (1 ≤ P 2 n ∧ P 2 n ≤ 12) ∧ (0 ≤ P 6 n ∧ P 6 n ≤ 1) ∧ (0 ≤ P 7 n ∧ P 7 n ≤ 1000)
theorem pB_7 {N : Nat} {P : Nat → Nat → Int} (h : pB N P) : ∀ n, n < N → P 7 n ≤ 1000 := fun n hn => (h.2 n hn).2.2.2.2.2
def rI (v : Nat → Nat) : Nat := 17 * (17 * v 0 + v 1) + v 2
def v3 (a c e : Nat) : Nat → Nat := fun i => match i with
  | 0 => a
  | 1 => c
  | 2 => e
  | _ => 0
theorem v3_OK {a c e : Nat} (h0 : 1 ≤ a ∧ a ≤ 16) (h1 : 1 ≤ c ∧ c ≤ 16) (h2 : 1 ≤ e ∧ e ≤ 16) : vOK (v3 a c e) := ⟨h0, h1, h2, fun i hi => by
  match i, hi with
  | i + 3, _ => rfl⟩
theorem rI_lt {v : Nat → Nat} (h : vOK v) : rI v < 4913 := by
  obtain ⟨h0, h1, h2, -⟩ := h
  unfold rI
  omega
theorem rI_inj {v u : Nat → Nat} (h : vOK v) (g : vOK u) (e : rI v = rI u) : v = u := by
  obtain ⟨h0, h1, h2, -⟩ := id h
  obtain ⟨g0, g1, g2, -⟩ := id g
  unfold rI at e
  exact v_ext h g (by omega) (by omega) (by omega)
def lx (a c e : Nat) (y : Nat → Nat) : Prop := y 0 < a ∨ (y 0 = a ∧ (y 1 < c ∨ (y 1 = c ∧ y 2 < e)))
def vle (y w : Nat → Nat) : Prop := y 0 ≤ w 0 ∧ y 1 ≤ w 1 ∧ y 2 ≤ w 2
theorem z17 : (17 : Int32) = zi 17 := rfl
theorem zi_subN {a c : Nat} (h : c ≤ a) : zi (a : Int) - zi (c : Int) = zi ((a - c : Nat) : Int) := by
  rw [zi_sub]
  congr 1
  omega
theorem mxf_bd {g : Nat → Int} {a lo hi : Int} {n : Nat} (ha : lo ≤ a ∧ a ≤ hi) (hg : ∀ i, i < n → lo ≤ g i ∧ g i ≤ hi) : lo ≤ mxf g a n ∧ mxf g a n ≤ hi := by
  rcases (mxf_spec g a n).2.2 with h | ⟨i, hi2, h⟩
  · rw [h]; exact ha
  · rw [h]; exact hg i hi2
section RMO
variable {l : Launch} {D : va_G} {DA : Nat → ClassId} {b sz d L : Nat} {cu : Bool} {σ : Nat → Nat → Int32} {N : Nat} {P : Nat → Nat → Int}
theorem c_R_block (x y z : Nat) : GG l D DA b sz d L cu M_R_block [some (.int (zi (x : Int))), some (.int (zi (y : Int))), some (.int (zi (z : Int)))] σ (some (.int (zi ((17 * (17 * x + y) + z : Nat) : Int)))) σ := by
  refine v_R_block_0 _ _ _ ⟨?_, rfl⟩
  rw [z17, zi_mul, zi_add, zi_mul, zi_add]
  simp
theorem c_R_isP0 (h : mR σ N P) (hb : pB N P) {n : Nat} (hn : n < N) {x y z : Nat} (hx : x ≤ 16) (hy : y ≤ 16) (hz : z ≤ 16) : GG l D DA b sz d L cu M_R_isPiece [some (.ref 47), some (.int (zi (n : Int))), some (.int (zi (x : Int))), some (.int (zi (y : Int))), some (.int (zi (z : Int))), some (.int 0)] σ (some (.int (if P 2 n = (z : Int) ∧ P 0 n = (x : Int) ∧ P 1 n = (y : Int) then 1 else 0))) σ := by
  have hN := hb.1
  have hbn := hb.2 n hn
  obtain ⟨r0, r1, r2, r6, r7⟩ := h.2 n (by omega)
  have hcl : Int32.toNatClampNeg (zi n) = n := zi_cl (by omega)
  have ni : ¬ (zi (n : Int) < 0 ∨ 20 ≤ n) := by rw [zi_lt0 (by omega) (by omega)]; omega
  have i2 : zi (P 2 n) = zi (z : Int) ↔ P 2 n = z := zi_eq (by omega) (by omega) (by omega) (by omega)
  have i0 : zi (P 0 n) = zi (x : Int) ↔ P 0 n = x := zi_eq (by omega) (by omega) (by omega) (by omega)
  have i1 : zi (P 1 n) = zi (y : Int) ↔ P 1 n = y := zi_eq (by omega) (by omega) (by omega) (by omega)
  refine v_R_isPiece_0 _ _ _ _ _ ?_
  rw [hcl, r0, r1, r2, r6]
  refine ⟨ni, fun c2 => ⟨fun _ => ⟨ni, fun c0 => ⟨ni, ?_⟩, fun c0 => ?_⟩, fun h0 => absurd rfl h0⟩, fun c2 => ?_⟩
  · by_cases c1 : P 1 n = (y : Int)
    · rw [if_pos (i1.mpr c1), if_pos ⟨i2.mp c2, i0.mp c0, c1⟩]; exact ⟨Or.inr rfl, rfl, rfl⟩
    · rw [if_neg (fun z => c1 (i1.mp z)), if_neg (fun z => c1 z.2.2)]; exact ⟨Or.inl rfl, rfl, rfl⟩
  · rw [if_neg (fun z => c0 (i0.mpr z.2.1))]; exact ⟨rfl, rfl⟩
  · rw [if_neg (fun z => c2 (i2.mpr z.1))]; exact ⟨rfl, rfl⟩
theorem c_R_isP1 (h : mR σ N P) (hb : pB N P) {n : Nat} (hn : n < N) {x y z : Nat} (hx : x ≤ 16) (hy : y ≤ 16) (hz : z ≤ 16) : GG l D DA b sz d L cu M_R_isPiece [some (.ref 47), some (.int (zi (n : Int))), some (.int (zi (x : Int))), some (.int (zi (y : Int))), some (.int (zi (z : Int))), some (.int 1)] σ (some (.int (if P 2 n = (z : Int) ∧ P 6 n ≠ 0 ∧ P 1 n = (x : Int) ∧ P 0 n = (y : Int) then 1 else 0))) σ := by
  have hN := hb.1
  have hbn := hb.2 n hn
  obtain ⟨r0, r1, r2, r6, r7⟩ := h.2 n (by omega)
  have hcl : Int32.toNatClampNeg (zi n) = n := zi_cl (by omega)
  have ni : ¬ (zi (n : Int) < 0 ∨ 20 ≤ n) := by rw [zi_lt0 (by omega) (by omega)]; omega
  have i2 : zi (P 2 n) = zi (z : Int) ↔ P 2 n = z := zi_eq (by omega) (by omega) (by omega) (by omega)
  have i0 : zi (P 0 n) = zi (y : Int) ↔ P 0 n = y := zi_eq (by omega) (by omega) (by omega) (by omega)
  have i1 : zi (P 1 n) = zi (x : Int) ↔ P 1 n = x := zi_eq (by omega) (by omega) (by omega) (by omega)
  have i6 : zi (P 6 n) = 0 ↔ P 6 n = 0 := zi_eq0 (by omega) (by omega)
  refine v_R_isPiece_0 _ _ _ _ _ ?_
  rw [hcl, r0, r1, r2, r6]
  refine ⟨ni, fun c2 => ⟨fun h0 => absurd h0 (by decide), fun _ => ⟨ni, fun c6 => ?_, fun c6 => ⟨ni, fun c1 => ⟨ni, ?_⟩, fun c1 => ?_⟩⟩⟩, fun c2 => ?_⟩
  · rw [if_neg (fun z => z.2.1 (i6.mp c6))]; exact ⟨rfl, rfl⟩
  · by_cases c0 : P 0 n = (y : Int)
    · rw [if_pos (i0.mpr c0), if_pos ⟨i2.mp c2, fun z => c6 (i6.mpr z), i1.mp c1, c0⟩]; exact ⟨Or.inr rfl, rfl, rfl⟩
    · rw [if_neg (fun z => c0 (i0.mp z)), if_neg (fun z => c0 z.2.2.2)]; exact ⟨Or.inl rfl, rfl, rfl⟩
  · rw [if_neg (fun z => c1 (i1.mpr z.2.2.1))]; exact ⟨rfl, rfl⟩
  · rw [if_neg (fun z => c2 (i2.mpr z.1))]; exact ⟨rfl, rfl⟩
theorem c_R_greater {x y : Int} (hx : -100000000 ≤ x ∧ x ≤ 100000000) (hy : -100000000 ≤ y ∧ y ≤ 100000000) : GG l D DA b sz d L cu M_R_greater [some (.int (zi x)), some (.int (zi y))] σ (some (.int (zi (mxi x y)))) σ := by
  refine v_R_greater_0 _ _ ⟨?_, rfl⟩
  have i1 : zi x ≤ zi y ↔ x ≤ y := zi_le (by omega) (by omega) (by omega) (by omega)
  unfold mxi
  by_cases c : x ≤ y
  · rw [if_pos (i1.mpr c), if_pos c]
  · rw [if_neg (fun z => c (i1.mp z)), if_neg c]
/-- the best single piece -/
theorem R_bv {r : Option Value} {X' : am_X} {W0 W1 W2 : Int32} {x : Nat → Nat} (h : mR σ N P) (hb : pB N P) (hx : vOK x)
    (G : am_Go l D DA b sz (d + 1) M_R_makeMost (104, [some (.ref 47), some (.int W0), some (.int W1), some (.int W2), some (.int (zi (x 0 : Int))), some (.int (zi (x 1 : Int))), some (.int (zi (x 2 : Int))), some (.int (zi (bvV P N x))), some (.int 1)], [], (am_TT cu L, am_RR cu, σ)) r X') :
    am_Go l D DA b sz (d + 1) M_R_makeMost (33, [some (.ref 47), some (.int W0), some (.int W1), some (.int W2), some (.int (zi (x 0 : Int))), some (.int (zi (x 1 : Int))), some (.int (zi (x 2 : Int))), some (.int 0), some (.int 0)], [], (am_TT cu L, am_RR cu, σ)) r X' := by
  have hN := hb.1
  obtain ⟨x0, x1, x2, -⟩ := id hx
  have up := up_loop (fun i => am_Go l D DA b sz (d + 1) M_R_makeMost (33, [some (.ref 47), some (.int W0), some (.int W1), some (.int W2), some (.int (zi (x 0 : Int))), some (.int (zi (x 1 : Int))), some (.int (zi (x 2 : Int))), some (.int (zi (fo (bvF P x) 0 i))), some (.int (zi (i : Int)))], [], (am_TT cu L, am_RR cu, σ)) r X') N (by
    refine v_R_makeMost_33 _ _ _ _ _ _ _ _ ?_
    rw [h.1]
    exact ⟨fun _ => G, fun h0 => absurd (Int32.le_refl _) h0⟩) (fun i hi ih => by
    have hbn := hb.2 i hi
    obtain ⟨r0, r1, r2, r6, r7⟩ := h.2 i (by omega)
    have hcl : Int32.toNatClampNeg (zi i) = i := zi_cl (by omega)
    have ni : ¬ (zi (i : Int) < 0 ∨ 20 ≤ i) := by rw [zi_lt0 (by omega) (by omega)]; omega
    have hnle : ¬ zi (N : Int) ≤ zi (i : Int) := by rw [zi_le (by omega) (by omega) (by omega) (by omega)]; omega
    have hbv : 0 ≤ fo (bvF P x) 0 i ∧ fo (bvF P x) 0 i ≤ 1000 := ⟨bv_nn P x i, bv_ub (pB_7 hb) i (by omega)⟩
    have q0 : fo (bvF P x) 0 (i + 1) = bvF P x i (fo (bvF P x) 0 i) := rfl
    rw [q0] at ih
    generalize fo (bvF P x) 0 i = a at ih hbv ⊢
    have g0 := c_R_isP0 (l := l) (D := D) (DA := DA) (b := b) (sz := sz) (d := d) (L := L) (cu := cu) h hb hi x0.2 x1.2 x2.2
    have g1 := c_R_isP1 (l := l) (D := D) (DA := DA) (b := b) (sz := sz) (d := d) (L := L) (cu := cu) h hb hi x0.2 x1.2 x2.2
    refine v_R_makeMost_33 _ _ _ _ _ _ _ _ ?_
    have i7 : zi (P 7 i) ≤ zi a ↔ P 7 i ≤ a := zi_le (by omega) (by omega) (by omega) (by omega)
    rw [h.1, hcl, r7, zi_s1, i7]
    refine ⟨fun h0 => absurd h0 hnle, fun _ => ⟨ni, fun c => ?_, fun c => ?_⟩⟩
    · rw [show bvF P x i a = a from if_pos c] at ih
      exact ih
    · by_cases f : fitV P i x
      · rw [show bvF P x i a = P 7 i by unfold bvF; rw [if_neg c, if_pos f]] at ih
        by_cases f0 : P 2 i = (x 2 : Int) ∧ P 0 i = (x 0 : Int) ∧ P 1 i = (x 1 : Int)
        · rw [if_pos f0] at g0
          exact ⟨_, _, g0, fun h0 => absurd h0 (by decide), fun _ => ⟨ni, by rw [r7]; exact ih⟩⟩
        · rw [if_neg f0] at g0
          rw [if_pos ⟨f.1, f.2.resolve_left (fun z => f0 ⟨f.1, z⟩)⟩] at g1
          exact ⟨_, _, g0, fun _ => ⟨_, _, g1, fun h0 => absurd h0 (by decide), fun _ => ⟨ni, by rw [r7]; exact ih⟩⟩, fun h0 => absurd rfl h0⟩
      · rw [show bvF P x i a = a by unfold bvF; rw [if_neg c, if_neg f]] at ih
        rw [if_neg (fun z => f ⟨z.1, Or.inl z.2⟩)] at g0
        rw [if_neg (fun z => f ⟨z.1, Or.inr z.2⟩)] at g1
        exact ⟨_, _, g0, fun _ => ⟨_, _, g1, fun _ => ih, fun h0 => absurd rfl h0⟩, fun h0 => absurd rfl h0⟩)
  exact up
theorem R_d0 {r : Option Value} {X' : am_X} {W0 W1 W2 : Int32} {x : Nat → Nat} (hx : vOK x) (ht : ∀ k, 1 ≤ k → k < x 0 → σ 62 (rI (vu x 0 k)) = zi (Tw P N (vu x 0 k))) (hT : ∀ k, 1 ≤ k → k < x 0 → 0 ≤ Tw P N (vu x 0 k) ∧ Tw P N (vu x 0 k) ≤ 4096000) {a : Int} (ha : 0 ≤ a ∧ a ≤ 8192000)
    (G : am_Go l D DA b sz (d + 1) M_R_makeMost (159, [some (.ref 47), some (.int W0), some (.int W1), some (.int W2), some (.int (zi (x 0 : Int))), some (.int (zi (x 1 : Int))), some (.int (zi (x 2 : Int))), some (.int (zi (cutF (Tw P N) x 0 a))), some (.int 1)], [], (am_TT cu L, am_RR cu, σ)) r X') :
    am_Go l D DA b sz (d + 1) M_R_makeMost (104, [some (.ref 47), some (.int W0), some (.int W1), some (.int W2), some (.int (zi (x 0 : Int))), some (.int (zi (x 1 : Int))), some (.int (zi (x 2 : Int))), some (.int (zi a)), some (.int 1)], [], (am_TT cu L, am_RR cu, σ)) r X' := by
  obtain ⟨x0, x1, x2, -⟩ := id hx
  have hg : ∀ i, i < x 0 - 1 → 0 ≤ ctv (Tw P N) x 0 (i + 1) ∧ ctv (Tw P N) x 0 (i + 1) ≤ 8192000 := fun i hi => by
    have h1 := hT (i + 1) (by omega) (by omega)
    have h2 := hT (x 0 - (i + 1)) (by omega) (by omega)
    unfold ctv
    omega
  have up := up_loop (fun j => am_Go l D DA b sz (d + 1) M_R_makeMost (104, [some (.ref 47), some (.int W0), some (.int W1), some (.int W2), some (.int (zi (x 0 : Int))), some (.int (zi (x 1 : Int))), some (.int (zi (x 2 : Int))), some (.int (zi (mxf (fun i => ctv (Tw P N) x 0 (i + 1)) a j))), some (.int (zi ((j + 1 : Nat) : Int)))], [], (am_TT cu L, am_RR cu, σ)) r X') (x 0 - 1) (by
    refine v_R_makeMost_104 _ _ _ _ _ _ _ _ ?_
    rw [show x 0 - 1 + 1 = x 0 by omega]
    exact ⟨fun _ => G, fun h0 => absurd (Int32.le_refl _) h0⟩) (fun j hj ih => by
    have hm := mxf_bd (g := fun i => ctv (Tw P N) x 0 (i + 1)) (n := j) ha (fun i hi => hg i (by omega))
    have hgj := hg j hj
    rw [mxf_s] at ih
    generalize mxf (fun i => ctv (Tw P N) x 0 (i + 1)) a j = m at ih hm ⊢
    have g1 := c_R_block (l := l) (D := D) (DA := DA) (b := b) (sz := sz) (d := d) (L := L) (cu := cu) (σ := σ) (j + 1) (x 1) (x 2)
    have g2 := c_R_block (l := l) (D := D) (DA := DA) (b := b) (sz := sz) (d := d) (L := L) (cu := cu) (σ := σ) (x 0 - (j + 1)) (x 1) (x 2)
    have o1 := vOK_u hx (e := 0) (k := j + 1) (by decide) (by omega) (by omega)
    have o2 := vOK_u hx (e := 0) (k := x 0 - (j + 1)) (by decide) (by omega) (by omega)
    have l1 := rI_lt o1
    have l2 := rI_lt o2
    have t1 := ht (j + 1) (by omega) (by omega)
    have t2 := ht (x 0 - (j + 1)) (by omega) (by omega)
    have c1 : Int32.toNatClampNeg (zi (rI (vu x 0 (j + 1)) : Int)) = rI (vu x 0 (j + 1)) := zi_cl (by omega)
    have c2 : Int32.toNatClampNeg (zi (rI (vu x 0 (x 0 - (j + 1))) : Int)) = rI (vu x 0 (x 0 - (j + 1))) := zi_cl (by omega)
    have n1 : ¬ (zi (rI (vu x 0 (j + 1)) : Int) < 0 ∨ 4913 ≤ rI (vu x 0 (j + 1))) := by rw [zi_lt0 (by omega) (by omega)]; omega
    have n2 : ¬ (zi (rI (vu x 0 (x 0 - (j + 1))) : Int) < 0 ∨ 4913 ≤ rI (vu x 0 (x 0 - (j + 1)))) := by rw [zi_lt0 (by omega) (by omega)]; omega
    have g3 := c_R_greater (l := l) (D := D) (DA := DA) (b := b) (sz := sz) (d := d) (L := L) (cu := cu) (σ := σ) (x := m) (y := ctv (Tw P N) x 0 (j + 1)) (by omega) (by omega)
    refine v_R_makeMost_104 _ _ _ _ _ _ _ _ ?_
    rw [zi_le (by omega) (by omega) (by omega) (by omega), zi_subN (by omega)]
    refine ⟨fun h0 => absurd h0 (by omega), fun _ => ⟨_, _, g1, ?_, _, _, g2, ?_, zi (mxi m (ctv (Tw P N) x 0 (j + 1))), σ, ?_, ?_⟩⟩
    · show ¬ (zi (rI (vu x 0 (j + 1)) : Int) < 0 ∨ 4913 ≤ Int32.toNatClampNeg (zi (rI (vu x 0 (j + 1)) : Int)))
      rw [c1]; exact n1
    · show ¬ (zi (rI (vu x 0 (x 0 - (j + 1))) : Int) < 0 ∨ 4913 ≤ Int32.toNatClampNeg (zi (rI (vu x 0 (x 0 - (j + 1))) : Int)))
      rw [c2]; exact n2
    · show GG l D DA b sz d L cu M_R_greater [some (.int (zi m)), some (.int (σ 62 (Int32.toNatClampNeg (zi (rI (vu x 0 (j + 1)) : Int))) + σ 62 (Int32.toNatClampNeg (zi (rI (vu x 0 (x 0 - (j + 1))) : Int)))))] σ (some (.int (zi (mxi m (ctv (Tw P N) x 0 (j + 1)))))) σ
      rw [c1, c2, t1, t2, zi_add]
      exact g3
    · rw [zi_s1]
      exact ih)
  exact up
theorem R_d1 {r : Option Value} {X' : am_X} {W0 W1 W2 : Int32} {x : Nat → Nat} (hx : vOK x) (ht : ∀ k, 1 ≤ k → k < x 1 → σ 62 (rI (vu x 1 k)) = zi (Tw P N (vu x 1 k))) (hT : ∀ k, 1 ≤ k → k < x 1 → 0 ≤ Tw P N (vu x 1 k) ∧ Tw P N (vu x 1 k) ≤ 4096000) {a : Int} (ha : 0 ≤ a ∧ a ≤ 8192000)
    (G : am_Go l D DA b sz (d + 1) M_R_makeMost (214, [some (.ref 47), some (.int W0), some (.int W1), some (.int W2), some (.int (zi (x 0 : Int))), some (.int (zi (x 1 : Int))), some (.int (zi (x 2 : Int))), some (.int (zi (cutF (Tw P N) x 1 a))), some (.int 1)], [], (am_TT cu L, am_RR cu, σ)) r X') :
    am_Go l D DA b sz (d + 1) M_R_makeMost (159, [some (.ref 47), some (.int W0), some (.int W1), some (.int W2), some (.int (zi (x 0 : Int))), some (.int (zi (x 1 : Int))), some (.int (zi (x 2 : Int))), some (.int (zi a)), some (.int 1)], [], (am_TT cu L, am_RR cu, σ)) r X' := by
  obtain ⟨x0, x1, x2, -⟩ := id hx
  have hg : ∀ i, i < x 1 - 1 → 0 ≤ ctv (Tw P N) x 1 (i + 1) ∧ ctv (Tw P N) x 1 (i + 1) ≤ 8192000 := fun i hi => by
    have h1 := hT (i + 1) (by omega) (by omega)
    have h2 := hT (x 1 - (i + 1)) (by omega) (by omega)
    unfold ctv
    omega
  have up := up_loop (fun j => am_Go l D DA b sz (d + 1) M_R_makeMost (159, [some (.ref 47), some (.int W0), some (.int W1), some (.int W2), some (.int (zi (x 0 : Int))), some (.int (zi (x 1 : Int))), some (.int (zi (x 2 : Int))), some (.int (zi (mxf (fun i => ctv (Tw P N) x 1 (i + 1)) a j))), some (.int (zi ((j + 1 : Nat) : Int)))], [], (am_TT cu L, am_RR cu, σ)) r X') (x 1 - 1) (by
    refine v_R_makeMost_159 _ _ _ _ _ _ _ _ ?_
    rw [show x 1 - 1 + 1 = x 1 by omega]
    exact ⟨fun _ => G, fun h0 => absurd (Int32.le_refl _) h0⟩) (fun j hj ih => by
    have hm := mxf_bd (g := fun i => ctv (Tw P N) x 1 (i + 1)) (n := j) ha (fun i hi => hg i (by omega))
    have hgj := hg j hj
    rw [mxf_s] at ih
    generalize mxf (fun i => ctv (Tw P N) x 1 (i + 1)) a j = m at ih hm ⊢
    have g1 := c_R_block (l := l) (D := D) (DA := DA) (b := b) (sz := sz) (d := d) (L := L) (cu := cu) (σ := σ) (x 0) (j + 1) (x 2)
    have g2 := c_R_block (l := l) (D := D) (DA := DA) (b := b) (sz := sz) (d := d) (L := L) (cu := cu) (σ := σ) (x 0) (x 1 - (j + 1)) (x 2)
    have o1 := vOK_u hx (e := 1) (k := j + 1) (by decide) (by omega) (by omega)
    have o2 := vOK_u hx (e := 1) (k := x 1 - (j + 1)) (by decide) (by omega) (by omega)
    have l1 := rI_lt o1
    have l2 := rI_lt o2
    have t1 := ht (j + 1) (by omega) (by omega)
    have t2 := ht (x 1 - (j + 1)) (by omega) (by omega)
    have c1 : Int32.toNatClampNeg (zi (rI (vu x 1 (j + 1)) : Int)) = rI (vu x 1 (j + 1)) := zi_cl (by omega)
    have c2 : Int32.toNatClampNeg (zi (rI (vu x 1 (x 1 - (j + 1))) : Int)) = rI (vu x 1 (x 1 - (j + 1))) := zi_cl (by omega)
    have n1 : ¬ (zi (rI (vu x 1 (j + 1)) : Int) < 0 ∨ 4913 ≤ rI (vu x 1 (j + 1))) := by rw [zi_lt0 (by omega) (by omega)]; omega
    have n2 : ¬ (zi (rI (vu x 1 (x 1 - (j + 1))) : Int) < 0 ∨ 4913 ≤ rI (vu x 1 (x 1 - (j + 1)))) := by rw [zi_lt0 (by omega) (by omega)]; omega
    have g3 := c_R_greater (l := l) (D := D) (DA := DA) (b := b) (sz := sz) (d := d) (L := L) (cu := cu) (σ := σ) (x := m) (y := ctv (Tw P N) x 1 (j + 1)) (by omega) (by omega)
    refine v_R_makeMost_159 _ _ _ _ _ _ _ _ ?_
    rw [zi_le (by omega) (by omega) (by omega) (by omega), zi_subN (by omega)]
    refine ⟨fun h0 => absurd h0 (by omega), fun _ => ⟨_, _, g1, ?_, _, _, g2, ?_, zi (mxi m (ctv (Tw P N) x 1 (j + 1))), σ, ?_, ?_⟩⟩
    · show ¬ (zi (rI (vu x 1 (j + 1)) : Int) < 0 ∨ 4913 ≤ Int32.toNatClampNeg (zi (rI (vu x 1 (j + 1)) : Int)))
      rw [c1]; exact n1
    · show ¬ (zi (rI (vu x 1 (x 1 - (j + 1))) : Int) < 0 ∨ 4913 ≤ Int32.toNatClampNeg (zi (rI (vu x 1 (x 1 - (j + 1))) : Int)))
      rw [c2]; exact n2
    · show GG l D DA b sz d L cu M_R_greater [some (.int (zi m)), some (.int (σ 62 (Int32.toNatClampNeg (zi (rI (vu x 1 (j + 1)) : Int))) + σ 62 (Int32.toNatClampNeg (zi (rI (vu x 1 (x 1 - (j + 1))) : Int)))))] σ (some (.int (zi (mxi m (ctv (Tw P N) x 1 (j + 1)))))) σ
      rw [c1, c2, t1, t2, zi_add]
      exact g3
    · rw [zi_s1]
      exact ih)
  exact up
theorem R_d2 {r : Option Value} {X' : am_X} {W0 W1 W2 : Int32} {x : Nat → Nat} (hx : vOK x) (ht : ∀ k, 1 ≤ k → k < x 2 → σ 62 (rI (vu x 2 k)) = zi (Tw P N (vu x 2 k))) (hT : ∀ k, 1 ≤ k → k < x 2 → 0 ≤ Tw P N (vu x 2 k) ∧ Tw P N (vu x 2 k) ≤ 4096000) {a : Int} (ha : 0 ≤ a ∧ a ≤ 8192000)
    (G : am_Go l D DA b sz (d + 1) M_R_makeMost (21, [some (.ref 47), some (.int W0), some (.int W1), some (.int W2), some (.int (zi (x 0 : Int))), some (.int (zi (x 1 : Int))), some (.int (zi ((x 2 + 1 : Nat) : Int))), none, none], [], (am_TT cu L, am_RR cu, am_us σ 62 (rI x) (zi (cutF (Tw P N) x 2 a)))) r X') :
    am_Go l D DA b sz (d + 1) M_R_makeMost (214, [some (.ref 47), some (.int W0), some (.int W1), some (.int W2), some (.int (zi (x 0 : Int))), some (.int (zi (x 1 : Int))), some (.int (zi (x 2 : Int))), some (.int (zi a)), some (.int 1)], [], (am_TT cu L, am_RR cu, σ)) r X' := by
  obtain ⟨x0, x1, x2, -⟩ := id hx
  have hg : ∀ i, i < x 2 - 1 → 0 ≤ ctv (Tw P N) x 2 (i + 1) ∧ ctv (Tw P N) x 2 (i + 1) ≤ 8192000 := fun i hi => by
    have h1 := hT (i + 1) (by omega) (by omega)
    have h2 := hT (x 2 - (i + 1)) (by omega) (by omega)
    unfold ctv
    omega
  have up := up_loop (fun j => am_Go l D DA b sz (d + 1) M_R_makeMost (214, [some (.ref 47), some (.int W0), some (.int W1), some (.int W2), some (.int (zi (x 0 : Int))), some (.int (zi (x 1 : Int))), some (.int (zi (x 2 : Int))), some (.int (zi (mxf (fun i => ctv (Tw P N) x 2 (i + 1)) a j))), some (.int (zi ((j + 1 : Nat) : Int)))], [], (am_TT cu L, am_RR cu, σ)) r X') (x 2 - 1) (by
    refine v_R_makeMost_214 _ _ _ _ _ _ _ _ ?_
    rw [show x 2 - 1 + 1 = x 2 by omega]
    have gb := c_R_block (l := l) (D := D) (DA := DA) (b := b) (sz := sz) (d := d) (L := L) (cu := cu) (σ := σ) (x 0) (x 1) (x 2)
    have hr := rI_lt hx
    have hcl : Int32.toNatClampNeg (zi (rI x : Int)) = rI x := zi_cl (by omega)
    have ni : ¬ (zi (rI x : Int) < 0 ∨ 4913 ≤ rI x) := by rw [zi_lt0 (by omega) (by omega)]; omega
    refine ⟨fun _ => ⟨_, _, gb, ?_⟩, fun h0 => absurd (Int32.le_refl _) h0⟩
    show ¬ (zi (rI x : Int) < 0 ∨ 4913 ≤ Int32.toNatClampNeg (zi (rI x : Int))) ∧ am_Go l D DA b sz (d + 1) M_R_makeMost (21, _, [], (am_TT cu L, am_RR cu, am_us σ 62 (Int32.toNatClampNeg (zi (rI x : Int))) _)) r X'
    rw [hcl, zi_s1]
    exact ⟨ni, G⟩) (fun j hj ih => by
    have hm := mxf_bd (g := fun i => ctv (Tw P N) x 2 (i + 1)) (n := j) ha (fun i hi => hg i (by omega))
    have hgj := hg j hj
    rw [mxf_s] at ih
    generalize mxf (fun i => ctv (Tw P N) x 2 (i + 1)) a j = m at ih hm ⊢
    have g1 := c_R_block (l := l) (D := D) (DA := DA) (b := b) (sz := sz) (d := d) (L := L) (cu := cu) (σ := σ) (x 0) (x 1) (j + 1)
    have g2 := c_R_block (l := l) (D := D) (DA := DA) (b := b) (sz := sz) (d := d) (L := L) (cu := cu) (σ := σ) (x 0) (x 1) (x 2 - (j + 1))
    have o1 := vOK_u hx (e := 2) (k := j + 1) (by decide) (by omega) (by omega)
    have o2 := vOK_u hx (e := 2) (k := x 2 - (j + 1)) (by decide) (by omega) (by omega)
    have l1 := rI_lt o1
    have l2 := rI_lt o2
    have t1 := ht (j + 1) (by omega) (by omega)
    have t2 := ht (x 2 - (j + 1)) (by omega) (by omega)
    have c1 : Int32.toNatClampNeg (zi (rI (vu x 2 (j + 1)) : Int)) = rI (vu x 2 (j + 1)) := zi_cl (by omega)
    have c2 : Int32.toNatClampNeg (zi (rI (vu x 2 (x 2 - (j + 1))) : Int)) = rI (vu x 2 (x 2 - (j + 1))) := zi_cl (by omega)
    have n1 : ¬ (zi (rI (vu x 2 (j + 1)) : Int) < 0 ∨ 4913 ≤ rI (vu x 2 (j + 1))) := by rw [zi_lt0 (by omega) (by omega)]; omega
    have n2 : ¬ (zi (rI (vu x 2 (x 2 - (j + 1))) : Int) < 0 ∨ 4913 ≤ rI (vu x 2 (x 2 - (j + 1)))) := by rw [zi_lt0 (by omega) (by omega)]; omega
    have g3 := c_R_greater (l := l) (D := D) (DA := DA) (b := b) (sz := sz) (d := d) (L := L) (cu := cu) (σ := σ) (x := m) (y := ctv (Tw P N) x 2 (j + 1)) (by omega) (by omega)
    refine v_R_makeMost_214 _ _ _ _ _ _ _ _ ?_
    rw [zi_le (by omega) (by omega) (by omega) (by omega), zi_subN (by omega)]
    refine ⟨fun h0 => absurd h0 (by omega), fun _ => ⟨_, _, g1, ?_, _, _, g2, ?_, zi (mxi m (ctv (Tw P N) x 2 (j + 1))), σ, ?_, ?_⟩⟩
    · show ¬ (zi (rI (vu x 2 (j + 1)) : Int) < 0 ∨ 4913 ≤ Int32.toNatClampNeg (zi (rI (vu x 2 (j + 1)) : Int)))
      rw [c1]; exact n1
    · show ¬ (zi (rI (vu x 2 (x 2 - (j + 1))) : Int) < 0 ∨ 4913 ≤ Int32.toNatClampNeg (zi (rI (vu x 2 (x 2 - (j + 1))) : Int)))
      rw [c2]; exact n2
    · show GG l D DA b sz d L cu M_R_greater [some (.int (zi m)), some (.int (σ 62 (Int32.toNatClampNeg (zi (rI (vu x 2 (j + 1)) : Int))) + σ 62 (Int32.toNatClampNeg (zi (rI (vu x 2 (x 2 - (j + 1))) : Int)))))] σ (some (.int (zi (mxi m (ctv (Tw P N) x 2 (j + 1)))))) σ
      rw [c1, c2, t1, t2, zi_add]
      exact g3
    · rw [zi_s1]
      exact ih)
  exact up
/-- one block more -/
theorem R_cell {r : Option Value} {X' : am_X} {W0 W1 W2 : Int32} {x w : Nat → Nat} (h : mR σ N P) (hb : pB N P) (hx : vOK x) (hxw : vle x w) (ht : ∀ y, vOK y → vle y w → lx (x 0) (x 1) (x 2) y → σ 62 (rI y) = zi (Tw P N y))
    (G : am_Go l D DA b sz (d + 1) M_R_makeMost (21, [some (.ref 47), some (.int W0), some (.int W1), some (.int W2), some (.int (zi (x 0 : Int))), some (.int (zi (x 1 : Int))), some (.int (zi ((x 2 + 1 : Nat) : Int))), none, none], [], (am_TT cu L, am_RR cu, am_us σ 62 (rI x) (zi (Tw P N x)))) r X') :
    am_Go l D DA b sz (d + 1) M_R_makeMost (33, [some (.ref 47), some (.int W0), some (.int W1), some (.int W2), some (.int (zi (x 0 : Int))), some (.int (zi (x 1 : Int))), some (.int (zi (x 2 : Int))), some (.int 0), some (.int 0)], [], (am_TT cu L, am_RR cu, σ)) r X' := by
  obtain ⟨x0, x1, x2, -⟩ := id hx
  have ok : ∀ e, e < 3 → ∀ k, 1 ≤ k → k < x e → vOK (vu x e k) := fun e he k hk hk2 => vOK_u hx he hk (by have := vOK_e hx he; omega)
  have bd : ∀ e, e < 3 → ∀ k, 1 ≤ k → k < x e → 0 ≤ Tw P N (vu x e k) ∧ Tw P N (vu x e k) ≤ 4096000 := fun e he k hk hk2 => Tw_bd (pB_7 hb) (ok e he k hk hk2)
  have tb : ∀ e, e < 3 → ∀ k, 1 ≤ k → k < x e → σ 62 (rI (vu x e k)) = zi (Tw P N (vu x e k)) := fun e he k hk hk2 => by
    refine ht _ (ok e he k hk hk2) ?_ ?_
    · unfold vle at *
      unfold vu
      rcases e3 he with rfl | rfl | rfl <;> simp <;> omega
    · unfold lx vu
      rcases e3 he with rfl | rfl | rfl <;> simp <;> omega
  have hbv := bv_bd (v := x) (pB_7 hb)
  have ctb : ∀ e, e < 3 → ∀ i, i < x e - 1 → 0 ≤ ctv (Tw P N) x e (i + 1) ∧ ctv (Tw P N) x e (i + 1) ≤ 8192000 := fun e he i hi => by
    have h1 := bd e he (i + 1) (by omega) (by omega)
    have h2 := bd e he (x e - (i + 1)) (by omega) (by omega)
    unfold ctv
    omega
  have b1 : 0 ≤ cutF (Tw P N) x 0 (bvV P N x) ∧ cutF (Tw P N) x 0 (bvV P N x) ≤ 8192000 := mxf_bd (by omega) (ctb 0 (by decide))
  have b2 : 0 ≤ cutF (Tw P N) x 1 (cutF (Tw P N) x 0 (bvV P N x)) ∧ cutF (Tw P N) x 1 (cutF (Tw P N) x 0 (bvV P N x)) ≤ 8192000 := mxf_bd b1 (ctb 1 (by decide))
  refine R_bv h hb hx (R_d0 hx (tb 0 (by decide)) (bd 0 (by decide)) (by omega) (R_d1 hx (tb 1 (by decide)) (bd 1 (by decide)) b1 (R_d2 hx (tb 2 (by decide)) (bd 2 (by decide)) b2 ?_)))
  rw [← Tw_eq (vOK_P hx)]
  exact G
/-- all blocks up to w -/
theorem R_most (hd : 1 ≤ d) (h : mR σ N P) (hb : pB N P) {w : Nat → Nat} (hw : vOK w) :
    ∃ σ', GG l D DA b sz d L cu M_R_makeMost [some (.ref 47), some (.int (zi (w 0 : Int))), some (.int (zi (w 1 : Int))), some (.int (zi (w 2 : Int))), none, none, none, none, none] σ none σ' ∧ (∀ y, vOK y → vle y w → σ' 62 (rI y) = zi (Tw P N y)) ∧ ∀ c, c ≠ 62 → σ' c = σ c := by
  obtain ⟨d, rfl⟩ : ∃ d', d = d' + 1 := ⟨d - 1, by omega⟩
  obtain ⟨w0, w1, w2, -⟩ := id hw
  have hmr : ∀ {σ1 : Nat → Nat → Int32}, (∀ c, c ≠ 62 → σ1 c = σ c) → mR σ1 N P := fun f => ⟨by rw [f 47 (by decide)]; exact h.1, fun n hn => by rw [f 48 (by decide), f 49 (by decide), f 50 (by decide), f 54 (by decide), f 55 (by decide)]; exact h.2 n hn⟩
  have H : ∀ (a c : Nat), (1 ≤ a ∧ a ≤ w 0) → (1 ≤ c ∧ c ≤ w 1) → (∀ σ1, (∀ y, vOK y → vle y w → lx a (c + 1) 1 y → σ1 62 (rI y) = zi (Tw P N y)) → (∀ c, c ≠ 62 → σ1 c = σ c) → ∃ σ', am_Go l D DA b sz (d + 1) M_R_makeMost (12, [some (.ref 47), some (.int (zi (w 0 : Int))), some (.int (zi (w 1 : Int))), some (.int (zi (w 2 : Int))), some (.int (zi (a : Int))), some (.int (zi ((c + 1 : Nat) : Int))), none, none, none], [], (am_TT cu L, am_RR cu, σ1)) none (am_TT cu L, am_RR cu, σ') ∧ (∀ y, vOK y → vle y w → σ' 62 (rI y) = zi (Tw P N y)) ∧ ∀ c, c ≠ 62 → σ' c = σ c) →
      ∀ (m e : Nat) (σ1 : Nat → Nat → Int32), e + m = w 2 + 1 → 1 ≤ e → (∀ y, vOK y → vle y w → lx a c e y → σ1 62 (rI y) = zi (Tw P N y)) → (∀ c, c ≠ 62 → σ1 c = σ c) → ∃ σ', am_Go l D DA b sz (d + 1) M_R_makeMost (21, [some (.ref 47), some (.int (zi (w 0 : Int))), some (.int (zi (w 1 : Int))), some (.int (zi (w 2 : Int))), some (.int (zi (a : Int))), some (.int (zi (c : Int))), some (.int (zi (e : Int))), none, none], [], (am_TT cu L, am_RR cu, σ1)) none (am_TT cu L, am_RR cu, σ') ∧ (∀ y, vOK y → vle y w → σ' 62 (rI y) = zi (Tw P N y)) ∧ ∀ c, c ≠ 62 → σ' c = σ c := by
    intro a c ha hc hcont m
    induction m with
    | zero =>
      intro e σ1 he he1 ht hf
      obtain ⟨σ', g, p⟩ := hcont σ1 (fun y hy hyw hlx => ht y hy hyw (by
        obtain ⟨y0, y1, y2, -⟩ := hy
        unfold vle at hyw
        unfold lx at hlx ⊢
        omega)) hf
      refine ⟨σ', v_R_makeMost_21 _ _ _ _ _ _ ?_, p⟩
      rw [zi_lt (by omega) (by omega) (by omega) (by omega), zi_s1]
      exact ⟨fun _ => g, fun h0 => absurd (by omega) h0⟩
    | succ m ih =>
      intro e σ1 he he1 ht hf
      have hx : vOK (v3 a c e) := v3_OK (by omega) (by omega) (by omega)
      obtain ⟨σ', g, p⟩ := ih (e + 1) (am_us σ1 62 (rI (v3 a c e)) (zi (Tw P N (v3 a c e)))) (by omega) (by omega) (fun y hy hyw hlx => by
        by_cases ey : rI y = rI (v3 a c e)
        · rw [ey, am_us_s, rI_inj hy hx ey]
        · rw [am_us_k ey]
          refine ht y hy hyw ?_
          have hne : ¬ (y 0 = a ∧ y 1 = c ∧ y 2 = e) := fun z => ey (by show 17 * (17 * y 0 + y 1) + y 2 = 17 * (17 * a + c) + e; rw [z.1, z.2.1, z.2.2])
          unfold lx at hlx ⊢
          omega) (fun c hc => by rw [am_us_ne hc]; exact hf c hc)
      refine ⟨σ', v_R_makeMost_21 _ _ _ _ _ _ ?_, p⟩
      rw [zi_lt (by omega) (by omega) (by omega) (by omega)]
      refine ⟨fun h0 => absurd h0 (by omega), fun _ => ?_⟩
      exact R_cell (x := v3 a c e) (w := w) (hmr hf) hb hx ⟨ha.2, hc.2, by show e ≤ w 2; omega⟩ ht g
  have HW : ∀ (a : Nat), (1 ≤ a ∧ a ≤ w 0) → (∀ σ1, (∀ y, vOK y → vle y w → lx (a + 1) 1 1 y → σ1 62 (rI y) = zi (Tw P N y)) → (∀ c, c ≠ 62 → σ1 c = σ c) → ∃ σ', am_Go l D DA b sz (d + 1) M_R_makeMost (3, [some (.ref 47), some (.int (zi (w 0 : Int))), some (.int (zi (w 1 : Int))), some (.int (zi (w 2 : Int))), some (.int (zi ((a + 1 : Nat) : Int))), none, none, none, none], [], (am_TT cu L, am_RR cu, σ1)) none (am_TT cu L, am_RR cu, σ') ∧ (∀ y, vOK y → vle y w → σ' 62 (rI y) = zi (Tw P N y)) ∧ ∀ c, c ≠ 62 → σ' c = σ c) →
      ∀ (m c : Nat) (σ1 : Nat → Nat → Int32), c + m = w 1 + 1 → 1 ≤ c → (∀ y, vOK y → vle y w → lx a c 1 y → σ1 62 (rI y) = zi (Tw P N y)) → (∀ c, c ≠ 62 → σ1 c = σ c) → ∃ σ', am_Go l D DA b sz (d + 1) M_R_makeMost (12, [some (.ref 47), some (.int (zi (w 0 : Int))), some (.int (zi (w 1 : Int))), some (.int (zi (w 2 : Int))), some (.int (zi (a : Int))), some (.int (zi (c : Int))), none, none, none], [], (am_TT cu L, am_RR cu, σ1)) none (am_TT cu L, am_RR cu, σ') ∧ (∀ y, vOK y → vle y w → σ' 62 (rI y) = zi (Tw P N y)) ∧ ∀ c, c ≠ 62 → σ' c = σ c := by
    intro a ha hcont m
    induction m with
    | zero =>
      intro c σ1 hc hc1 ht hf
      obtain ⟨σ', g, p⟩ := hcont σ1 (fun y hy hyw hlx => ht y hy hyw (by
        obtain ⟨y0, y1, y2, -⟩ := hy
        unfold vle at hyw
        unfold lx at hlx ⊢
        omega)) hf
      refine ⟨σ', v_R_makeMost_12 _ _ _ _ _ ?_, p⟩
      rw [zi_lt (by omega) (by omega) (by omega) (by omega), zi_s1]
      exact ⟨fun _ => g, fun h0 => absurd (by omega) h0⟩
    | succ m ih =>
      intro c σ1 hc hc1 ht hf
      obtain ⟨σ', g, p⟩ := H a c ha (by omega) (fun σ2 ht2 hf2 => ih (c + 1) σ2 (by omega) (by omega) ht2 hf2) (w 2) 1 σ1 (by omega) (Nat.le_refl 1) ht hf
      refine ⟨σ', v_R_makeMost_12 _ _ _ _ _ ?_, p⟩
      rw [zi_lt (by omega) (by omega) (by omega) (by omega)]
      exact ⟨fun h0 => absurd h0 (by omega), fun _ => g⟩
  have HL : ∀ (m a : Nat) (σ1 : Nat → Nat → Int32), a + m = w 0 + 1 → 1 ≤ a → (∀ y, vOK y → vle y w → lx a 1 1 y → σ1 62 (rI y) = zi (Tw P N y)) → (∀ c, c ≠ 62 → σ1 c = σ c) → ∃ σ', am_Go l D DA b sz (d + 1) M_R_makeMost (3, [some (.ref 47), some (.int (zi (w 0 : Int))), some (.int (zi (w 1 : Int))), some (.int (zi (w 2 : Int))), some (.int (zi (a : Int))), none, none, none, none], [], (am_TT cu L, am_RR cu, σ1)) none (am_TT cu L, am_RR cu, σ') ∧ (∀ y, vOK y → vle y w → σ' 62 (rI y) = zi (Tw P N y)) ∧ ∀ c, c ≠ 62 → σ' c = σ c := by
    intro m
    induction m with
    | zero =>
      intro a σ1 ha ha1 ht hf
      refine ⟨σ1, v_R_makeMost_3 _ _ _ _ ?_, fun y hy hyw => ht y hy hyw (by
        obtain ⟨y0, y1, y2, -⟩ := hy
        unfold vle at hyw
        unfold lx
        omega), hf⟩
      rw [zi_lt (by omega) (by omega) (by omega) (by omega)]
      exact ⟨fun _ => (by first | exact ⟨rfl, rfl⟩ | exact ⟨trivial, trivial⟩ | exact ⟨trivial, rfl⟩ | exact ⟨rfl, trivial⟩ | trivial), fun h0 => absurd (by omega) h0⟩
    | succ m ih =>
      intro a σ1 ha ha1 ht hf
      obtain ⟨σ', g, p⟩ := HW a (by omega) (fun σ2 ht2 hf2 => ih (a + 1) σ2 (by omega) (by omega) ht2 hf2) (w 1) 1 σ1 (by omega) (Nat.le_refl 1) ht hf
      refine ⟨σ', v_R_makeMost_3 _ _ _ _ ?_, p⟩
      rw [zi_lt (by omega) (by omega) (by omega) (by omega)]
      exact ⟨fun h0 => absurd h0 (by omega), fun _ => g⟩
  obtain ⟨σ', g, p⟩ := HL (w 0) 1 σ (by omega) (Nat.le_refl 1) (fun y hy hyw hlx => by
    obtain ⟨y0, y1, y2, -⟩ := hy
    unfold lx at hlx
    omega) (fun _ _ => rfl)
  exact ⟨σ', v_R_makeMost_0 _ _ _ g, p⟩
end RMO
