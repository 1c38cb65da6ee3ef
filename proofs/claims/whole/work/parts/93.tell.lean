/-! CUTS: pieces are told -/
def aPc (Z : Pce → Prop) (ps : List Pce) : Prop := ∀ i, i < ps.length → Z (nthP ps i)
theorem aPc_app {Z : Pce → Prop} : ∀ (a e : List Pce), aPc Z a → aPc Z e → aPc Z (a ++ e)
  | [], _, _, h => h
  | p :: a, e, h1, h2 => fun i hi => by
    match i with
    | 0 => exact h1 0 (by simp)
    | i + 1 => exact aPc_app a e (fun j hj => h1 (j + 1) (by simp; omega)) h2 i (by simpa using hi)
/-- a piece that can be told -/
def pcO (N : Nat) (p : Pce) : Prop := p.1 < N ∧ p.2.1 < 2 ∧ p.2.2 0 ≤ 15 ∧ p.2.2 1 ≤ 15 ∧ p.2.2 2 ≤ 15
theorem pat_ok {P : Nat → Nat → Int} {N : Nat} : ∀ (f : Nat) (v o : Nat → Nat), vP v → (∀ e, e < 3 → o e + v e ≤ 16) → aPc (pcO N) (patF P N f v o)
  | 0, _, _, _, _ => fun i hi => absurd hi (by simp [patF])
  | f + 1, v, o, hv, ho => by
    show aPc (pcO N) (if Tw P N v = 0 then [] else _ : List Pce)
    by_cases c0 : Tw P N v = 0
    · rw [if_pos c0]
      exact fun i hi => absurd hi (by simp)
    · rw [if_neg c0]
      by_cases c1 : 0 ≤ fbx P N v
      · rw [if_pos c1]
        intro i hi
        have e : i = 0 := by simpa using hi
        subst e
        have h0 := ho 0 (by decide)
        have h1 := ho 1 (by decide)
        have h2 := ho 2 (by decide)
        unfold vP at hv
        refine ⟨?_, ?_, ?_, ?_, ?_⟩
        · show (fbx P N v).toNat < N
          rcases ff_spec (fun n => P 7 n = Tw P N v ∧ fitV P n v) N 0 with ⟨a1, -⟩ | ⟨n, a1, a2, a3, -⟩
          · have : fbx P N v = -1 := a1
            omega
          · have : fbx P N v = n := a1
            omega
        · show tnd P (fbx P N v).toNat v < 2
          unfold tnd
          split <;> decide
        · show o 0 ≤ 15; omega
        · show o 1 ≤ 15; omega
        · show o 2 ≤ 15; omega
      · rw [if_neg c1]
        obtain ⟨a1, a2, a3, -⟩ := fcE_spec hv c0 c1
        generalize (fcE P N v).1 = e at *
        generalize (fcE P N v).2 = k at *
        have hve := vP_e hv a1
        refine aPc_app _ _ (pat_ok f (vu v e k) o (vP_u hv a1 a2) (fun e' he' => ?_)) (pat_ok f (vu v e (v e - k)) (vu o e (o e + k)) (vP_u hv a1 (by omega)) (fun e' he' => ?_))
        · have := ho e' he'
          unfold vu
          split
          · rename_i h9; subst h9; omega
          · exact this
        · have := ho e' he'
          unfold vu
          split
          · rename_i h9; subst h9; omega
          · exact this
/-- what is told of piece i -/
def tlA (ps : List Pce) (i w : Int32) : Int32 := if 0 ≤ i.toInt ∧ i.toInt < ps.length then (if w = 0 then zi ((nthP ps i.toInt.toNat).1 : Int) else if w = 1 then zi ((nthP ps i.toInt.toNat).2.2 0 : Int) else if w = 2 then zi ((nthP ps i.toInt.toNat).2.2 1 : Int) else if w = 3 then zi ((nthP ps i.toInt.toNat).2.2 2 : Int) else if w = 4 then zi ((nthP ps i.toInt.toNat).2.1 : Int) else -1) else -1
theorem tlA_0 {ps : List Pce} {i w : Int32} (h : ¬ (0 ≤ i.toInt ∧ i.toInt < ps.length)) : tlA ps i w = -1 := if_neg h
theorem mk_and15 {M : Nat} (hM : M < 2 ^ 32) : zi M &&& 15 = zi ((M % 16 : Nat) : Int) := pk_andN hM 4 rfl
/-- what stands in a piece's number -/
theorem cd_get {N : Nat} (hN : N ≤ 20) {p : Pce} (h : pcO N p) : (zi (cdP p : Int) >>> (13 &&& 31 : Int32) : Int32) = zi (p.1 : Int) ∧ ((zi (cdP p : Int) >>> (8 &&& 31 : Int32) : Int32) &&& 15 : Int32) = zi (p.2.2 0 : Int) ∧ ((zi (cdP p : Int) >>> (4 &&& 31 : Int32) : Int32) &&& 15 : Int32) = zi (p.2.2 1 : Int) ∧ (zi (cdP p : Int) &&& 15 : Int32) = zi (p.2.2 2 : Int) ∧ ((zi (cdP p : Int) >>> (12 &&& 31 : Int32) : Int32) &&& 1 : Int32) = zi (p.2.1 : Int) := by
  obtain ⟨h1, h2, h3, h4, h5⟩ := h
  have hM : cdP p < 2 ^ 20 := by unfold cdP oI; omega
  have e13 : (zi (cdP p : Int) >>> (13 &&& 31 : Int32) : Int32) = zi ((cdP p / 2 ^ 13 : Nat) : Int) := mk_shr (n := 13) (by omega) (by decide)
  have e8 : (zi (cdP p : Int) >>> (8 &&& 31 : Int32) : Int32) = zi ((cdP p / 2 ^ 8 : Nat) : Int) := mk_shr (n := 8) (by omega) (by decide)
  have e4 : (zi (cdP p : Int) >>> (4 &&& 31 : Int32) : Int32) = zi ((cdP p / 2 ^ 4 : Nat) : Int) := mk_shr (n := 4) (by omega) (by decide)
  have e12 : (zi (cdP p : Int) >>> (12 &&& 31 : Int32) : Int32) = zi ((cdP p / 2 ^ 12 : Nat) : Int) := mk_shr (n := 12) (by omega) (by decide)
  rw [e13, e8, e4, e12, mk_and15 (by omega), mk_and15 (by omega), mk_and15 (by omega), mk_and1 (by omega)]
  unfold cdP oI
  refine ⟨?_, ?_, ?_, ?_, ?_⟩
  all_goals
    congr 1
    omega
section TLL
variable {l : Launch} {D : va_G} {DA : Nat → ClassId} {b sz d L : Nat} {cu : Bool} {σ : Nat → Nat → Int32} {N : Nat} {P : Nat → Nat → Int}
/-- what stands in the class's cells is read -/
theorem C_read {r : Option Value} {X' : am_X} {ps : List Pce} (hN : N ≤ 20) (hps : aPc (pcO N) ps) (hl : ps.length ≤ 4096) (h4 : σ 69 4 = zi (ps.length : Int)) (h71 : ∀ i, i < ps.length → σ 71 i = zi (cdP (nthP ps i) : Int)) (i w : Int32) (hr : r = some (.int (tlA ps i w))) (hX : X' = (am_TT true L, am_RR true, σ)) :
    ((i < 0) → (r = some (.int (-1)) ∧ X' = (am_TT true L, am_RR true, σ))) ∧ (¬ (i < 0) → (((i < (σ 69 4)) → ((¬ (i < 0 ∨ 4096 ≤ Int32.toNatClampNeg i)) ∧ ((w = 0 → (r = some (.int ((σ 71 (Int32.toNatClampNeg i)) >>> (13 &&& 31 : Int32) : Int32)) ∧ X' = (am_TT true L, am_RR true, σ))) ∧ (w = 1 → (r = some (.int (((σ 71 (Int32.toNatClampNeg i)) >>> (8 &&& 31 : Int32) : Int32) &&& 15)) ∧ X' = (am_TT true L, am_RR true, σ))) ∧ (w = 2 → (r = some (.int (((σ 71 (Int32.toNatClampNeg i)) >>> (4 &&& 31 : Int32) : Int32) &&& 15)) ∧ X' = (am_TT true L, am_RR true, σ))) ∧ (w = 3 → (r = some (.int ((σ 71 (Int32.toNatClampNeg i)) &&& 15)) ∧ X' = (am_TT true L, am_RR true, σ))) ∧ (w = 4 → (r = some (.int (((σ 71 (Int32.toNatClampNeg i)) >>> (12 &&& 31 : Int32) : Int32) &&& 1)) ∧ X' = (am_TT true L, am_RR true, σ))) ∧ (¬ w = 0 → ¬ w = 1 → ¬ w = 2 → ¬ w = 3 → ¬ w = 4 → (r = some (.int (-1)) ∧ X' = (am_TT true L, am_RR true, σ)))))) ∧ (¬ (i < (σ 69 4)) → (r = some (.int (-1)) ∧ X' = (am_TT true L, am_RR true, σ))))) := by
  have z0 : (0 : Int32).toInt = 0 := rfl
  have i0 : i < 0 ↔ i.toInt < 0 := by rw [Int32.lt_iff_toInt_lt, z0]
  have i1 : i < σ 69 4 ↔ i.toInt < (ps.length : Int) := by rw [Int32.lt_iff_toInt_lt, h4, zi_toInt (by omega) (by omega)]
  subst hr
  subst hX
  refine ⟨fun c => ?_, fun c => ⟨fun c2 => ?_, fun c2 => ?_⟩⟩
  · rw [tlA_0 (by rw [i0] at c; omega)]; exact ⟨rfl, rfl⟩
  · rw [i0] at c
    rw [i1] at c2
    obtain ⟨j, hj, rfl⟩ : ∃ j : Nat, j < ps.length ∧ i = zi (j : Int) := ⟨i.toInt.toNat, by omega, by rw [show ((i.toInt.toNat : Nat) : Int) = i.toInt by omega]; exact zi_of i⟩
    have hcl : Int32.toNatClampNeg (zi (j : Int)) = j := zi_cl (by omega)
    have ht : (zi (j : Int)).toInt = j := zi_toInt (by omega) (by omega)
    obtain ⟨g0, g1, g2, g3, g4⟩ := cd_get hN (hps j hj)
    have eA : tlA ps (zi (j : Int)) w = (if w = 0 then zi ((nthP ps j).1 : Int) else if w = 1 then zi ((nthP ps j).2.2 0 : Int) else if w = 2 then zi ((nthP ps j).2.2 1 : Int) else if w = 3 then zi ((nthP ps j).2.2 2 : Int) else if w = 4 then zi ((nthP ps j).2.1 : Int) else -1) := by
      unfold tlA
      rw [ht, if_pos ⟨by omega, by omega⟩]
      rfl
    rw [hcl, h71 j hj, g0, g1, g2, g3, g4, eA]
    refine ⟨by rw [zi_lt0 (by omega) (by omega)]; omega, fun e => ?_, fun e => ?_, fun e => ?_, fun e => ?_, fun e => ?_, fun e0 e1 e2 e3 e4 => ?_⟩
    · subst e; exact ⟨rfl, rfl⟩
    · subst e; exact ⟨rfl, rfl⟩
    · subst e; exact ⟨rfl, rfl⟩
    · subst e; exact ⟨rfl, rfl⟩
    · subst e; exact ⟨rfl, rfl⟩
    · rw [if_neg e0, if_neg e1, if_neg e2, if_neg e3, if_neg e4]; exact ⟨rfl, rfl⟩
  · rw [tlA_0 (by rw [i1] at c2; omega)]; exact ⟨rfl, rfl⟩
theorem R_piece (hd : 1 ≤ d) {ps : List Pce} (hN : N ≤ 20) (hps : aPc (pcO N) ps) (hl : ps.length ≤ 4096) (h28 : σ 47 28 = zi (ps.length : Int)) (hA : ∀ i, i < ps.length → σ 63 i = zi ((nthP ps i).1 : Int) ∧ σ 64 i = zi ((nthP ps i).2.2 0 : Int) ∧ σ 65 i = zi ((nthP ps i).2.2 1 : Int) ∧ σ 66 i = zi ((nthP ps i).2.2 2 : Int) ∧ σ 67 i = zi ((nthP ps i).2.1 : Int)) (i w : Int32) :
    GG l D DA b sz d L cu M_R_piece [some (.ref 47), some (.int i), some (.int w)] σ (some (.int (tlA ps i w))) σ := by
  obtain ⟨d, rfl⟩ : ∃ d', d = d' + 1 := ⟨d - 1, by omega⟩
  have z0 : (0 : Int32).toInt = 0 := rfl
  have g := c_R_in (l := l) (D := D) (DA := DA) (b := b) (sz := sz) (d := d) (L := L) (cu := cu) (σ := σ) i 0 (σ 47 28 - 1)
  have ic : ((0 : Int32) ≤ i ∧ i ≤ σ 47 28 - 1) ↔ (0 ≤ i.toInt ∧ i.toInt < (ps.length : Int)) := by
    rw [h28, zi_m1, Int32.le_iff_toInt_le, Int32.le_iff_toInt_le, z0, zi_toInt (by omega) (by omega)]
    omega
  by_cases c : 0 ≤ i.toInt ∧ i.toInt < (ps.length : Int)
  · rw [if_pos (ic.mpr c)] at g
    obtain ⟨j, hj, rfl⟩ : ∃ j : Nat, j < ps.length ∧ i = zi (j : Int) := ⟨i.toInt.toNat, by omega, by rw [show ((i.toInt.toNat : Nat) : Int) = i.toInt by omega]; exact zi_of i⟩
    have hcl : Int32.toNatClampNeg (zi (j : Int)) = j := zi_cl (by omega)
    have ht : (zi (j : Int)).toInt = j := zi_toInt (by omega) (by omega)
    have nj : ¬ (zi (j : Int) < 0 ∨ 4096 ≤ j) := by rw [zi_lt0 (by omega) (by omega)]; omega
    obtain ⟨a0, a1, a2, a3, a4⟩ := hA j hj
    have eA : tlA ps (zi (j : Int)) w = (if w = 0 then zi ((nthP ps j).1 : Int) else if w = 1 then zi ((nthP ps j).2.2 0 : Int) else if w = 2 then zi ((nthP ps j).2.2 1 : Int) else if w = 3 then zi ((nthP ps j).2.2 2 : Int) else if w = 4 then zi ((nthP ps j).2.1 : Int) else -1) := by
      unfold tlA
      rw [ht, if_pos ⟨by omega, by omega⟩]
      rfl
    have h2 := (hps j hj).2.1
    have e4 : (if zi ((nthP ps j).2.1 : Int) = 0 then (0 : Int32) else 1) = zi ((nthP ps j).2.1 : Int) := by
      have hc : (nthP ps j).2.1 = 0 ∨ (nthP ps j).2.1 = 1 := by omega
      rcases hc with h | h <;> rw [h] <;> rfl
    refine v_R_piece_0 _ _ ⟨_, _, g, fun h0 => absurd h0 (by decide), fun _ => ?_⟩
    rw [hcl, a0, a1, a2, a3, a4, e4, eA]
    refine ⟨fun e => ?_, fun e => ?_, fun e => ?_, fun e => ?_, fun e => ?_, fun e0 e1 e2 e3 e4 => ?_⟩
    · subst e; exact ⟨nj, rfl, rfl⟩
    · subst e; exact ⟨nj, rfl, rfl⟩
    · subst e; exact ⟨nj, rfl, rfl⟩
    · subst e; exact ⟨nj, rfl, rfl⟩
    · subst e; exact ⟨nj, rfl, rfl⟩
    · rw [if_neg e0, if_neg e1, if_neg e2, if_neg e3, if_neg e4]; exact ⟨rfl, rfl⟩
  · rw [if_neg (fun z => c (ic.mp z))] at g
    refine v_R_piece_0 _ _ ⟨_, _, g, fun _ => ?_, fun h0 => absurd rfl h0⟩
    rw [tlA_0 c]
    exact ⟨rfl, rfl⟩
/-- the latest cut's pieces in the class's cells -/
def laid (σ : Nat → Nat → Int32) (ps : List Pce) : Prop := σ 69 4 = zi (ps.length : Int) ∧ ∀ i, i < ps.length → σ 71 i = zi (cdP (nthP ps i) : Int)
theorem C_tell (hd : 60 ≤ d) (h : cR σ N P) (hb : pB N P) {u v : Nat → Nat} (hk : knw σ P N u) (hv : vOK v) (hvu : vle v u) (h3 : σ 69 3 = zi (cI v : Int)) (h4 : σ 69 4 = -1 ∨ laid σ (patF P N 48 v (fun _ => 0))) (i w : Int32) :
    ∃ σ', GG l D DA b sz d L true M_Cutter_tell [some (.ref 69), some (.ref 2), some (.int i), some (.int w), none] σ (some (.int (tlA (patF P N 48 v (fun _ => 0)) i w))) σ' ∧ laid σ' (patF P N 48 v (fun _ => 0)) ∧ (∀ c, c ≠ 69 → c ≠ 71 → σ' c = σ c) ∧ ∀ k, k ≠ 4 → σ' 69 k = σ 69 k := by
  have hN := hb.1
  have hvP := vOK_P hv
  have hvl := cI_lt hv
  have hvol := vol3_le hv
  have hlen := pat_len (P := P) (N := N) 48 v (fun _ => 0) hvP
  have hoo : ∀ e, e < 3 → (fun _ => 0 : Nat → Nat) e + v e ≤ 16 := fun e he => by have := vOK_e hv he; show 0 + v e ≤ 16; omega
  have hps : aPc (pcO N) (patF P N 48 v (fun _ => 0)) := pat_ok 48 v (fun _ => 0) hvP hoo
  obtain ⟨v0, v1, v2, -⟩ := id hv
  have n3 : ¬ zi (cI v : Int) = -1 := by rw [zm1, zi_eq (by omega) (by omega) (by omega) (by omega)]; omega
  obtain ⟨d, rfl⟩ : ∃ d', d = d' + 2 := ⟨d - 2, by omega⟩
  rcases h4 with h4 | h4
  · have hlg : lg3 v ≤ 12 := by
      have a := lgN_le (n := v 0)
      have c := lgN_le (n := v 1)
      have e := lgN_le (n := v 2)
      unfold lg3
      omega
    have gl := C_lay (l := l) (D := D) (DA := DA) (b := b) (sz := sz) (L := L) (w := u) hb 48 d v (fun _ => 0) 0 0 0 (am_us σ 69 4 0) (by omega) hv hvu (by unfold sm3; omega) hoo (by unfold sm3; omega) (by omega) ⟨by rw [am_us_c (by decide)]; exact h.1, fun n hn => by rw [am_us_ne (by omega)]; exact h.2 n hn⟩ (fun y hy hyu => by rw [am_us_c (by decide)]; exact hk.2.2 y hy hyu) (by rw [am_us_s]; rfl) (by omega)
    have l4 := lC_4 (patF P N 48 v (fun _ => 0)) (am_us σ 69 4 0) 0 (by rw [am_us_s]; rfl)
    rw [Nat.zero_add] at l4
    have lg : ∀ i, i < (patF P N 48 v (fun _ => 0)).length → lC (am_us σ 69 4 0) 0 (patF P N 48 v (fun _ => 0)) 71 i = zi (cdP (nthP (patF P N 48 v (fun _ => 0)) i) : Int) := fun i hi => by
      have h9 := lC_get (patF P N 48 v (fun _ => 0)) (am_us σ 69 4 0) 0 i hi
      rw [Nat.zero_add] at h9
      exact h9
    refine ⟨lC (am_us σ 69 4 0) 0 (patF P N 48 v (fun _ => 0)), v_Cutter_tell_0 _ _ ?_, ⟨l4, lg⟩, fun c c1 c2 => by rw [lC_fr c1 c2, am_us_ne c1], fun k hk => by rw [lC_69 hk, am_us_k hk]⟩
    rw [h3, h4]
    refine ⟨fun h0 => absurd h0 n3, fun _ => ⟨fun _ => ⟨lC (am_us σ 69 4 0) 0 (patF P N 48 v (fun _ => 0)), v_Cutter_layOut_0 _ _ _ gl, ?_⟩, fun h0 => absurd rfl h0⟩⟩
    exact C_read hN hps (by omega) l4 lg i w rfl rfl
  · have n4 : ¬ σ 69 4 = -1 := by rw [h4.1, zm1, zi_eq (by omega) (by omega) (by omega) (by omega)]; omega
    refine ⟨σ, v_Cutter_tell_0 _ _ ?_, h4, fun _ _ _ => rfl, fun _ _ => rfl⟩
    rw [h3]
    refine ⟨fun h0 => absurd h0 n3, fun _ => ⟨fun h0 => absurd h0 n4, fun _ => ?_⟩⟩
    exact C_read hN hps (by omega) h4.1 h4.2 i w rfl rfl
end TLL
