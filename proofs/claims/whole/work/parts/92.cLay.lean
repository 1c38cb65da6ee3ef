/-! CUTS: the class lays out a pattern and tells of it -/
def fcC (e k : Nat) : Int32 := (zi (k : Int) <<< (4 &&& 31 : Int32) : Int32) ||| shE e
theorem fc_8 : ∀ k, k < 17 → (((nI k <<< (4 &&& 31 : Int32) : Int32) ||| 8 : Int32) >>> (4 &&& 31 : Int32) : Int32) = nI k ∧ (((nI k <<< (4 &&& 31 : Int32) : Int32) ||| 8 : Int32) &&& 15 : Int32) = 8 := by decide +kernel
theorem fc_4 : ∀ k, k < 17 → (((nI k <<< (4 &&& 31 : Int32) : Int32) ||| 4 : Int32) >>> (4 &&& 31 : Int32) : Int32) = nI k ∧ (((nI k <<< (4 &&& 31 : Int32) : Int32) ||| 4 : Int32) &&& 15 : Int32) = 4 := by decide +kernel
theorem fc_0 : ∀ k, k < 17 → (((nI k <<< (4 &&& 31 : Int32) : Int32) ||| 0 : Int32) >>> (4 &&& 31 : Int32) : Int32) = nI k ∧ (((nI k <<< (4 &&& 31 : Int32) : Int32) ||| 0 : Int32) &&& 15 : Int32) = 0 := by decide +kernel
theorem fc_d {e k : Nat} (he : e < 3) (hk : k ≤ 16) : (fcC e k >>> (4 &&& 31 : Int32) : Int32) = zi (k : Int) ∧ (fcC e k &&& 15 : Int32) = shE e := by
  rcases e3 he with rfl | rfl | rfl
  · exact fc_8 k (by omega)
  · exact fc_4 k (by omega)
  · exact fc_0 k (by omega)
def lgN (n : Nat) : Nat := if n < 2 then 0 else if n < 4 then 1 else if n < 8 then 2 else if n < 16 then 3 else 4
def lg3 (v : Nat → Nat) : Nat := lgN (v 0) + lgN (v 1) + lgN (v 2)
theorem lgN_mono {m n : Nat} (h : m ≤ n) : lgN m ≤ lgN n := by
  unfold lgN
  repeat' split
  all_goals omega
theorem lgN_half {k n : Nat} (h1 : 1 ≤ k) (h : 2 * k ≤ n) (hn : n ≤ 16) : lgN k + 1 ≤ lgN n := by
  unfold lgN
  repeat' split
  all_goals omega
theorem lgN_le {n : Nat} : lgN n ≤ 4 := by
  unfold lgN
  repeat' split
  all_goals omega
theorem lg3_half {v : Nat → Nat} (hv : vOK v) {e k : Nat} (he : e < 3) (h1 : 1 ≤ k) (h : 2 * k ≤ v e) : lg3 (vu v e k) + 1 ≤ lg3 v := by
  have h9 := lgN_half h1 h (vOK_e hv he).2
  unfold lg3
  rcases e3 he with rfl | rfl | rfl
  · show lgN k + lgN (v 1) + lgN (v 2) + 1 ≤ _; omega
  · show lgN (v 0) + lgN k + lgN (v 2) + 1 ≤ _; omega
  · show lgN (v 0) + lgN (v 1) + lgN k + 1 ≤ _; omega
theorem lg3_mono {v : Nat → Nat} {e k : Nat} (he : e < 3) (h : k ≤ v e) : lg3 (vu v e k) ≤ lg3 v := by
  have h9 := lgN_mono h
  unfold lg3
  rcases e3 he with rfl | rfl | rfl
  · show lgN k + lgN (v 1) + lgN (v 2) ≤ _; omega
  · show lgN (v 0) + lgN k + lgN (v 2) ≤ _; omega
  · show lgN (v 0) + lgN (v 1) + lgN k ≤ _; omega
theorem oI_u (o : Nat → Nat) {e k : Nat} (he : e < 3) : oI (vu o e (o e + k)) = oI o + k * pwE e := by
  rcases e3 he with rfl | rfl | rfl
  · show (o 0 + k) * 256 + o 1 * 16 + o 2 = o 0 * 256 + o 1 * 16 + o 2 + k * 256; omega
  · show o 0 * 256 + (o 1 + k) * 16 + o 2 = o 0 * 256 + o 1 * 16 + o 2 + k * 16; omega
  · show o 0 * 256 + o 1 * 16 + (o 2 + k) = o 0 * 256 + o 1 * 16 + o 2 + k * 1; omega
section CLA
variable {l : Launch} {D : va_G} {DA : Nat → ClassId} {b sz d L : Nat} {N : Nat} {P : Nat → Nat → Int}
/-- one direction of firstCut: j parts are passed over, then the cut is told or the direction is done -/
theorem FC_19 {r : Option Value} {X' : am_X} {σ : Nat → Nat → Int32} {v : Nat → Nat} (hb : pB N P) (hv : vOK v) (hTv : σ 70 (cI v) = zi (Tw P N v)) {e : Nat} (he : e < 3) (ht : ∀ k, 1 ≤ k → k < v e → σ 70 (cI (vu v e k)) = zi (Tw P N (vu v e k))) (J : Nat) (hJ : J ≤ v e / 2) (hno : ∀ j, 1 ≤ j → j ≤ J → ctv (Tw P N) v e j ≠ Tw P N v)
    (G : (J = v e / 2 → am_Go l D DA b sz (d + 1) M_Cutter_firstCut (3, [some (.ref 69), some (.int (zi (cI v : Int))), some (.int (shE e + (-4))), none, none], [], (am_TT true L, am_RR true, σ)) r X') ∧ (J < v e / 2 → ctv (Tw P N) v e (J + 1) = Tw P N v ∧ r = some (.int (fcC e (J + 1))) ∧ X' = (am_TT true L, am_RR true, σ))) :
    am_Go l D DA b sz (d + 1) M_Cutter_firstCut (19, [some (.ref 69), some (.int (zi (cI v : Int))), some (.int (shE e)), some (.int (zi (v e : Int))), some (.int 1)], [], (am_TT true L, am_RR true, σ)) r X' := by
  have hve := vOK_e hv he
  have hT := Tw_bd (pB_7 hb) hv
  obtain ⟨cv, nv⟩ := idx hv
  have z2m : ∀ j : Nat, (2 : Int32) * zi ((j + 1 : Nat) : Int) = zi ((2 * (j + 1) : Nat) : Int) := fun j => by
    rw [z2, zi_mul]
    congr 1
  have stp : ∀ j, j < v e / 2 → ((ctv (Tw P N) v e (j + 1) = Tw P N v → r = some (.int (fcC e (j + 1))) ∧ X' = (am_TT true L, am_RR true, σ)) ∧ (¬ ctv (Tw P N) v e (j + 1) = Tw P N v → am_Go l D DA b sz (d + 1) M_Cutter_firstCut (19, [some (.ref 69), some (.int (zi (cI v : Int))), some (.int (shE e)), some (.int (zi (v e : Int))), some (.int (zi ((j + 1 + 1 : Nat) : Int)))], [], (am_TT true L, am_RR true, σ)) r X')) → am_Go l D DA b sz (d + 1) M_Cutter_firstCut (19, [some (.ref 69), some (.int (zi (cI v : Int))), some (.int (shE e)), some (.int (zi (v e : Int))), some (.int (zi ((j + 1 : Nat) : Int)))], [], (am_TT true L, am_RR true, σ)) r X' := fun j hj g => by
    have o1 := vOK_u hv he (k := j + 1) (by omega) (by omega)
    have o2 := vOK_u hv he (k := v e - (j + 1)) (by omega) (by omega)
    have b1 := Tw_bd (pB_7 hb) o1
    have b2 := Tw_bd (pB_7 hb) o2
    obtain ⟨c1, n1⟩ := idx o1
    obtain ⟨c2, n2⟩ := idx o2
    have t1 := ht (j + 1) (by omega) (by omega)
    have t2 := ht (v e - (j + 1)) (by omega) (by omega)
    have g1 := c_aheadOf (l := l) (D := D) (DA := DA) (b := b) (sz := sz) (d := d) (L := L) (σ := σ) hv he (k := j + 1) (by omega)
    refine v_Cutter_firstCut_19 _ _ _ _ ?_
    rw [z2m, zi_lt (by omega) (by omega) (by omega) (by omega), rest_e hv he (by omega), c2, cv, zi_s1]
    refine ⟨fun h0 => absurd h0 (by omega), fun _ => ⟨_, _, g1, ?_⟩⟩
    rw [c1, t1, t2, hTv, zi_add]
    have ic : zi (Tw P N (vu v e (j + 1)) + Tw P N (vu v e (v e - (j + 1)))) = zi (Tw P N v) ↔ ctv (Tw P N) v e (j + 1) = Tw P N v := by
      rw [zi_eq (by omega) (by omega) (by omega) (by omega)]; exact Iff.rfl
    rw [ic]
    exact ⟨n1, n2, nv, g⟩
  have up := up_loop (fun j => am_Go l D DA b sz (d + 1) M_Cutter_firstCut (19, [some (.ref 69), some (.int (zi (cI v : Int))), some (.int (shE e)), some (.int (zi (v e : Int))), some (.int (zi ((j + 1 : Nat) : Int)))], [], (am_TT true L, am_RR true, σ)) r X') J (by
    by_cases c : J = v e / 2
    · refine v_Cutter_firstCut_19 _ _ _ _ ?_
      rw [z2m, zi_lt (by omega) (by omega) (by omega) (by omega)]
      exact ⟨fun _ => G.1 c, fun h0 => absurd (by omega) h0⟩
    · obtain ⟨q1, q2⟩ := G.2 (by omega)
      exact stp J (by omega) ⟨fun _ => q2, fun h0 => absurd q1 h0⟩) (fun j hj ih => stp j (by omega) ⟨fun h0 => absurd h0 (hno (j + 1) (by omega) (by omega)), fun _ => ih⟩)
  exact up
theorem C_firstCut {σ : Nat → Nat → Int32} {v : Nat → Nat} (hd : 1 ≤ d) (hb : pB N P) (hv : vOK v) (hTv : σ 70 (cI v) = zi (Tw P N v)) (ht : ∀ e, e < 3 → ∀ k, 1 ≤ k → k < v e → σ 70 (cI (vu v e k)) = zi (Tw P N (vu v e k))) {e k : Nat} (hk : isFC P N v e k) :
    GG l D DA b sz d L true M_Cutter_firstCut [some (.ref 69), some (.int (zi (cI v : Int))), none, none, none] σ (some (.int (fcC e k))) σ := by
  obtain ⟨d, rfl⟩ : ∃ d', d = d' + 1 := ⟨d - 1, by omega⟩
  obtain ⟨k1, k2, k3, k4, k5, k6⟩ := hk
  have st : ∀ (e : Nat) {r : Option Value} {X' : am_X}, e < 3 → am_Go l D DA b sz (d + 1) M_Cutter_firstCut (19, [some (.ref 69), some (.int (zi (cI v : Int))), some (.int (shE e)), some (.int (zi (v e : Int))), some (.int 1)], [], (am_TT true L, am_RR true, σ)) r X' → am_Go l D DA b sz (d + 1) M_Cutter_firstCut (3, [some (.ref 69), some (.int (zi (cI v : Int))), some (.int (shE e)), none, none], [], (am_TT true L, am_RR true, σ)) r X' := fun e r X' he g => by
    refine v_Cutter_firstCut_3 _ _ ?_
    rw [sz_e hv he]
    refine ⟨fun h0 => absurd h0 ?_, fun _ => g⟩
    rcases e3 he with rfl | rfl | rfl <;> decide
  have yes : am_Go l D DA b sz (d + 1) M_Cutter_firstCut (3, [some (.ref 69), some (.int (zi (cI v : Int))), some (.int (shE e)), none, none], [], (am_TT true L, am_RR true, σ)) (some (.int (fcC e k))) (am_TT true L, am_RR true, σ) := st e k1 (FC_19 hb hv hTv k1 (ht e k1) (k - 1) (by omega) (fun j h1 h2 => k5 j h1 (by omega)) ⟨fun h0 => absurd h0 (by omega), fun _ => by rw [show k - 1 + 1 = k by omega]; exact ⟨k4, rfl, rfl⟩⟩)
  have no : ∀ (e' : Nat) {r : Option Value} {X' : am_X}, e' < e → am_Go l D DA b sz (d + 1) M_Cutter_firstCut (3, [some (.ref 69), some (.int (zi (cI v : Int))), some (.int (shE e' + (-4))), none, none], [], (am_TT true L, am_RR true, σ)) r X' → am_Go l D DA b sz (d + 1) M_Cutter_firstCut (3, [some (.ref 69), some (.int (zi (cI v : Int))), some (.int (shE e')), none, none], [], (am_TT true L, am_RR true, σ)) r X' := fun e' r X' he' g => st e' (by omega) (FC_19 hb hv hTv (by omega) (ht e' (by omega)) (v e' / 2) (Nat.le_refl _) (fun j h1 h2 => k6 e' he' j h1 (by have := vOK_e hv (show e' < 3 by omega); omega)) ⟨fun _ => g, fun h0 => absurd h0 (Nat.lt_irrefl _)⟩)
  refine v_Cutter_firstCut_0 _ ?_
  rcases e3 k1 with rfl | rfl | rfl
  · exact yes
  · exact no 0 (by decide) yes
  · exact no 0 (by decide) (no 1 (by decide) yes)
theorem cR_lC {σ : Nat → Nat → Int32} (h : cR σ N P) (ps : List Pce) (c : Nat) : cR (lC σ c ps) N P := ⟨by rw [lC_fr (by decide) (by decide)]; exact h.1, fun n hn => by rw [lC_fr (by omega) (by omega)]; exact h.2 n hn⟩
/-- the pattern of a block that stands at o -/
theorem C_lay (hb : pB N P) {w : Nat → Nat} : ∀ (f d : Nat) (v o : Nat → Nat) (dep stp c : Nat) (σ : Nat → Nat → Int32), f + 3 ≤ d → vOK v → vle v w → sm3 v ≤ f → (∀ e, e < 3 → o e + v e ≤ 16) → stp + sm3 v ≤ 48 → dep + lg3 v ≤ 12 → cR σ N P → (∀ y, vOK y → vle y w → σ 70 (cI y) = zi (Tw P N y)) → σ 69 4 = zi (c : Int) → c + vol3 v ≤ 4096 →
    am_Go l D DA b sz (d + 1) M_Cutter_layOut (9, [some (.ref 69), some (.ref 2), none, none, some (.int (zi (dep : Int))), some (.int (zi (cI v : Int))), some (.int (zi (oI o : Int))), some (.int (zi (stp : Int))), none, none, none], [], (am_TT true L, am_RR true, σ)) none (am_TT true L, am_RR true, lC σ c (patF P N f v o)) := by
  intro f
  induction f with
  | zero =>
    intro d v o dep stp c σ hd hv hvw hs
    obtain ⟨v0, v1, v2, -⟩ := hv
    unfold sm3 at hs
    omega
  | succ f ih =>
    intro d v o dep stp c σ hd hv hvw hs ho hst hdp h ht h4 hc
    obtain ⟨d, rfl⟩ : ∃ d', d = d' + 1 := ⟨d - 1, by omega⟩
    have hvP := vOK_P hv
    have hvol := vol3_pos hvP
    have hT := Tw_bd (pB_7 hb) hv
    have hs3 : 3 ≤ sm3 v := by unfold vP at hvP; unfold sm3; omega
    obtain ⟨cv, nv⟩ := idx hv
    have o0 := ho 0 (by decide)
    have o1 := ho 1 (by decide)
    have o2 := ho 2 (by decide)
    have hoI : oI o < 4096 := by unfold vP at hvP; unfold oI; omega
    have vl : ∀ e, e < 3 → ∀ k, 1 ≤ k → k < v e → vOK (vu v e k) ∧ vle (vu v e k) w ∧ sm3 (vu v e k) ≤ f := fun e he k hk hk2 => by
      have h9 := vOK_e hv he
      have h8 := sm3_u v (k := k) he
      refine ⟨vOK_u hv he hk (by omega), ?_, by omega⟩
      unfold vle at *
      unfold vu
      rcases e3 he with rfl | rfl | rfl <;> simp <;> omega
    have n48 : ¬ (48 : Int32) ≤ zi (stp : Int) := by rw [show (48 : Int32) = zi 48 from rfl, zi_le (by omega) (by omega) (by omega) (by omega)]; omega
    have n16 : ¬ (16 : Int32) ≤ zi (dep : Int) := by rw [show (16 : Int32) = zi 16 from rfl, zi_le (by omega) (by omega) (by omega) (by omega)]; omega
    refine v_Cutter_layOut_9 _ _ _ _ ?_
    rw [cv, ht v hv hvw, zi_eq0 (by omega) (by omega)]
    refine ⟨fun h0 => absurd h0 n48, fun _ => ⟨fun h0 => absurd h0 n16, fun _ => ⟨nv, fun e0 => ?_, fun e0 => ?_⟩⟩⟩
    · have ep : patF P N (f + 1) v o = [] := if_pos e0
      rw [ep]
      exact ⟨rfl, rfl⟩
    · have hp3 := C_3 (l := l) (D := D) (DA := DA) (b := b) (sz := sz) (d := d) (L := L) (o := o) h hb hv (ht v hv hvw) h4 (by omega) hoI N 0 (by omega)
      rcases ff_spec (fun n => P 7 n = Tw P N v ∧ fitV P n v) N 0 with ⟨a1, -⟩ | ⟨n, a1, -⟩
      · have hfb : ¬ 0 ≤ fbx P N v := by
          have : fbx P N v = -1 := a1
          omega
        have hq := fcE_spec hvP e0 hfb
        have ep : patF P N (f + 1) v o = patF P N f (vu v (fcE P N v).1 (fcE P N v).2) o ++ patF P N f (vu v (fcE P N v).1 (v (fcE P N v).1 - (fcE P N v).2)) (vu o (fcE P N v).1 (o (fcE P N v).1 + (fcE P N v).2)) := by
          show (if Tw P N v = 0 then [] else _ : List Pce) = _
          rw [if_neg e0, if_neg hfb]
        rw [ep, lC_app]
        generalize (fcE P N v).1 = e at *
        generalize (fcE P N v).2 = k at *
        have gfc := C_firstCut (l := l) (D := D) (DA := DA) (b := b) (sz := sz) (d := d + 1) (L := L) (σ := σ) (by omega) hb hv (ht v hv hvw) (fun e he k hk hk2 => ht _ (vl e he k hk hk2).1 (vl e he k hk hk2).2.1) hq
        obtain ⟨k1, k2, k3, k4, k5, k6⟩ := hq
        have hve := vOK_e hv k1
        obtain ⟨d1, d2⟩ := fc_d k1 (show k ≤ 16 by omega)
        obtain ⟨p1, p2, p3⟩ := vl e k1 k k2 (by omega)
        obtain ⟨q1, q2, q3⟩ := vl e k1 (v e - k) (by omega) (by omega)
        have gah := c_aheadOf (l := l) (D := D) (DA := DA) (b := b) (sz := sz) (d := d + 1) (L := L) (σ := σ) hv k1 (k := k) (by omega)
        have s1 := sm3_u v (k := k) k1
        have s2 := sm3_u v (k := v e - k) k1
        have hlen := pat_len (P := P) (N := N) f (vu v e k) o (vOK_P p1)
        have hvu := vol3_u v k1 (show k ≤ v e by omega)
        have hlg := lg3_half hv k1 k2 k3
        have hlm := lg3_mono (v := v) k1 (show v e - k ≤ v e by omega)
        have ga := ih d (vu v e k) o (dep + 1) 0 c σ (by omega) p1 p2 p3 (fun e' he' => by
          have := ho e' he'
          unfold vu
          split
          · rename_i h9; subst h9; omega
          · exact this) (by omega) (by omega) h ht h4 (by omega)
        have gr := ih (d + 1) (vu v e (v e - k)) (vu o e (o e + k)) dep (stp + 1) (c + (patF P N f (vu v e k) o).length) (lC σ c (patF P N f (vu v e k) o)) (by omega) q1 q2 q3 (fun e' he' => by
          have := ho e' he'
          unfold vu
          split
          · rename_i h9; subst h9; omega
          · exact this) (by omega) (by omega) (cR_lC h _ _) (fun y hy hyw => by rw [lC_fr (by decide) (by decide)]; exact ht y hy hyw) (lC_4 _ _ _ h4) (by omega)
        refine ⟨_, _, v_Cutter_layPiece_0 _ _ (hp3.2 a1), fun _ => ⟨_, _, gfc, ?_⟩, fun h0 => absurd rfl h0⟩
        rw [d1, d2]
        refine ⟨fun _ => ⟨_, _, gah, lC σ c (patF P N f (vu v e k) o), v_Cutter_layOut_0 _ _ _ ?_, ?_⟩, fun h0 => absurd ?_ h0⟩
        · rw [zi_s1]; exact ga
        · rw [rest_e hv k1 (by omega), sh_k k1 (by omega), zi_add, zi_s1]
          have eo := oI_u o (k := k) k1
          rw [eo, Int.natCast_add] at gr
          exact gr
        · rw [z1, zi_le (by omega) (by omega) (by omega) (by omega)]; omega
      · have hfb : fbx P N v = n := a1
        have ep : patF P N (f + 1) v o = [(n, tnd P n v, o)] := by
          show (if Tw P N v = 0 then [] else if 0 ≤ fbx P N v then _ else _ : List Pce) = _
          rw [if_neg e0, hfb, if_pos (by omega)]
          rfl
        rw [ep]
        exact ⟨_, _, v_Cutter_layPiece_0 _ _ (hp3.1 n a1), fun h0 => absurd h0 (by decide), fun _ => ⟨rfl, rfl⟩⟩
end CLA
