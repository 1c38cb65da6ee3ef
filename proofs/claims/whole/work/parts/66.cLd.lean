/-! the class: one box's load given to those below it; all loads; whether each bears its own -/
/-- what the loads are read from: the boxes in B stand where the picture R says -/
def lOK (σ : Nat → Nat → Int32) (N : Nat) (R : Nat → Nat → Int) (B : Nat) : Prop := σ 2 2 = zi N ∧ hv R N B ∧ (∀ n, n < 20 → ∀ k, k < 8 → σ (19 + n) k = zi (R k n)) ∧ ∀ n, n < N → R 8 n ≠ 0 → bAt σ R n
def fr56 (σ σ' : Nat → Nat → Int32) : Prop := ∀ c, c ≠ 5 → c ≠ 6 → σ' c = σ c
def balF (R : Nat → Nat → Int) (N p : Nat) (a : Int) : Int := if R 8 (p % N) ≠ 0 ∧ tp R (p % N) = 12 - ((p / N : Nat) : Int) then (if a = 0 then 0 else if R 4 (p % N) < ldP R N p (p % N) then 0 else 1) else a
def bal (R : Nat → Nat → Int) (N p : Nat) : Int := fo (balF R N) 1 p
section CLD
variable {l : Launch} {D : va_G} {DA : Nat → ClassId} {b sz d L : Nat} {cu : Bool} {σ σ' : Nat → Nat → Int32} {N M B : Nat} {P R : Nat → Nat → Int} {Q : Nat → Int}
theorem fr56_refl : fr56 σ σ := fun _ _ _ => rfl
theorem fr56_trans {σ'' : Nat → Nat → Int32} (h1 : fr56 σ σ') (h2 : fr56 σ' σ'') : fr56 σ σ'' := fun c a e => (h2 c a e).trans (h1 c a e)
theorem fr56_us {c k : Nat} {v : Int32} (h : fr56 σ σ') (hc : c = 5 ∨ c = 6) : fr56 σ (am_us σ' c k v) := fun c' a e => (am_us_ne (by omega)).trans (h c' a e)
theorem lOK_fr (h : lOK σ N R B) (hN : N ≤ 20) (f : fr56 σ σ') : lOK σ' N R B := by
  obtain ⟨h1, h2, h3, h4⟩ := h
  exact ⟨by rw [f 2 (by omega) (by omega)]; exact h1, h2, fun n hn k hk => by rw [f (19 + n) (by omega) (by omega)]; exact h3 n hn k hk, fun n hn h8 => bAt_fr (h4 n hn h8) (f (19 + n) (by omega) (by omega))⟩
theorem hv_bit (h : hv R N B) (hN : N ≤ 20) {m : Nat} (hm : m < N) : ((zi (B : Int) >>> (zi m &&& 31 : Int32) : Int32) &&& 1 = (0 : Int32)) ↔ R 8 m = 0 := by
  rw [mk_bit0 (by have := h.1; omega) (by omega)]
  have h9 := h.2 m
  constructor
  · intro e
    exact Classical.byContradiction fun z => by rw [h9.mpr ⟨hm, z⟩] at e; cases e
  · intro e
    cases hc : B.testBit m with
    | false => rfl
    | true => exact absurd e (h9.mp hc).2
theorem aon_stn' {n i : Nat} (ha : bOK R n) (h8 : R 8 i ≠ 0) : aon R n i = stn R n i := by
  by_cases e : n = i
  · subst e
    rw [aon_self ha]
    unfold stn
    rw [if_pos rfl]
  · exact aon_stn e h8
theorem stn_out {n i : Nat} (h8 : R 8 i = 0) : stn R n i = 0 := by
  unfold stn
  rw [if_pos h8]
  split <;> rfl
theorem zi_idiv {s t a : Int} (h1 : 0 ≤ s * t) (h2 : s * t < 2147483648) (h3 : 0 < a) (h4 : a < 2147483648) : zi s * zi t / zi a = zi (s * t / a) := by
  rw [zi_mul, zi_div (by omega) h2 (by omega) h4, Int.tdiv_eq_ediv_of_nonneg h1]
theorem c_giveLoad (hd : 1 ≤ d) (h : lOK σ N R B) (hp : pOK N R Q) {n : Nat} (hn : n < N) (h8 : R 8 n ≠ 0) {ld : Nat → Int} (hld : ∀ m, m < N → σ 5 m = zi (ld m)) (hb : 0 ≤ ld n ∧ ld n ≤ 20000) :
    ∃ σ', GG l D DA b sz d L cu M_Hold_giveLoad [some (.ref 2), some (.int (zi n)), some (.int (zi (B : Int))), none, none, none, none, none, none] σ none σ' ∧ fr56 σ σ' ∧ ∀ m, m < N → σ' 5 m = zi (giv (stn R n) N (R 3 n + ld n) ld m) := by
  obtain ⟨d, rfl⟩ : ∃ d', d = d' + 1 := ⟨d - 1, by omega⟩
  have hN := hp.1
  have hn20 : n < 20 := by omega
  have hbn := hp.2.1 n hn
  have hw : 1 ≤ R 3 n ∧ R 3 n ≤ 1000 := by have h9 := hbn; unfold bOK at h9; omega
  have hall := sm_stn hp hn (Nat.le_refl N)
  have hst : ∀ m, m < N → 0 ≤ stn R n m := fun m _ => (stn_bd hbn).1
  have hN2 : ∀ {σ1 : Nat → Nat → Int32}, fr56 σ σ1 → σ1 2 2 = zi N := fun f => by rw [f 2 (by omega) (by omega)]; exact h.1
  -- the rest: one each
  have k3 : ∀ (x1 : (Nat → Int) × Int), 0 ≤ x1.2 → x1.2 ≤ 30000 → ∀ (k i : Nat) (σ1 : Nat → Nat → Int32), i + k = N → fr56 σ σ1 → (∀ m, m < N → σ1 6 m = zi (stn R n m)) → (∀ m, m < N → σ1 5 m = zi ((fo (g2F (stn R n)) x1 i).1 m)) →
      ∃ σ', am_Go l D DA b sz (d + 1) M_Hold_giveLoad (149, [some (.ref 2), none, none, none, none, none, some (.int (zi (fo (g2F (stn R n)) x1 i).2)), some (.int (zi i)), none], [], (am_TT cu L, am_RR cu, σ1)) none (am_TT cu L, am_RR cu, σ') ∧ fr56 σ σ' ∧ ∀ m, m < N → σ' 5 m = zi ((fo (g2F (stn R n)) x1 N).1 m) := by
    intro x1 hx0 hx1 k
    induction k with
    | zero =>
      intro i σ1 hi hf h6 h5
      have e : i = N := by omega
      rw [e] at h5 ⊢
      refine ⟨σ1, v_Hold_giveLoad_149 _ _ ?_, hf, h5⟩
      rw [hN2 hf]
      exact ⟨fun _ => (by first | exact ⟨rfl, rfl⟩ | exact ⟨trivial, trivial⟩ | exact ⟨trivial, rfl⟩ | exact ⟨rfl, trivial⟩ | trivial), fun h0 => absurd (Int32.le_refl _) h0⟩
    | succ k ih =>
      intro i σ1 hi hf h6 h5
      have hiN : i < N := by omega
      obtain ⟨b1, b2, b3, b4⟩ := g2_spec (stn R n) x1 hx0 N (n := i) (by omega)
      have hnext : fo (g2F (stn R n)) x1 (i + 1) = g2F (stn R n) i (fo (g2F (stn R n)) x1 i) := rfl
      have ih1 := ih (i + 1)
      rw [hnext] at ih1
      have hst2 : (fo (g2F (stn R n)) x1 i).2 ≤ 0 → ∀ j, fo (g2F (stn R n)) x1 (i + j) = fo (g2F (stn R n)) x1 i := by
        intro h0 j
        induction j with
        | zero => rfl
        | succ j ihj =>
          show g2F (stn R n) (i + j) (fo (g2F (stn R n)) x1 (i + j)) = _
          rw [ihj]
          exact if_pos h0
      generalize fo (g2F (stn R n)) x1 i = x at *
      have hle : x.2 ≤ 30000 := by
        have h9 := sm_le (f := x1.1) (g := x.1) (n := N) (fun j _ => b2 j)
        omega
      have hs1 := stn_bd (c := i) hbn
      by_cases c1 : x.2 ≤ 0
      · have h9 := hst2 c1 (N - i)
        rw [show i + (N - i) = N by omega] at h9
        refine ⟨σ1, v_Hold_giveLoad_149 _ _ ?_, hf, by rw [h9]; exact h5⟩
        rw [hN2 hf]
        simp (disch := omega) only [zi_le, zi_le0]
        exact ⟨fun _ => (by first | exact ⟨rfl, rfl⟩ | exact ⟨trivial, trivial⟩ | exact ⟨trivial, rfl⟩ | exact ⟨rfl, trivial⟩ | trivial), fun _ => ⟨fun _ => (by first | exact ⟨rfl, rfl⟩ | exact ⟨trivial, trivial⟩ | exact ⟨trivial, rfl⟩ | exact ⟨rfl, trivial⟩ | trivial), fun h0 => absurd c1 h0⟩⟩
      · by_cases c2 : stn R n i = 0
        · have hg : g2F (stn R n) i x = x := by unfold g2F; rw [if_neg c1, if_pos c2]
          rw [hg] at ih1
          obtain ⟨σ', g, p1, p2⟩ := ih1 σ1 (by omega) hf h6 h5
          refine ⟨σ', v_Hold_giveLoad_149 _ _ ?_, p1, p2⟩
          rw [hN2 hf, show Int32.toNatClampNeg (zi i) = i from zi_cl (by omega), h6 i hiN]
          simp (disch := omega) only [zi_le, zi_le0, zi_lt0]
          refine ⟨fun h0 => absurd h0 (by omega), fun _ => ⟨fun h0 => absurd h0 c1, fun _ => ⟨by omega, fun _ => ?_, fun h0 => absurd h0 (by omega)⟩⟩⟩
          rw [zi_s1]
          exact g
        · have hg : g2F (stn R n) i x = (fun j => if j = i then x.1 j + 1 else x.1 j, x.2 - 1) := by unfold g2F; rw [if_neg c1, if_neg c2]
          rw [hg] at ih1
          obtain ⟨σ', g, p1, p2⟩ := ih1 (am_us σ1 5 i (zi (x.1 i + 1))) (by omega) (fr56_us hf (Or.inl rfl)) (fun m hm => by rw [am_us_c (by omega)]; exact h6 m hm) (fun m hm => by
            show am_us σ1 5 i (zi (x.1 i + 1)) 5 m = zi (if m = i then x.1 m + 1 else x.1 m)
            by_cases e : m = i
            · subst e; rw [am_us_s, if_pos rfl]
            · rw [am_us_k e, if_neg e]; exact h5 m hm)
          refine ⟨σ', v_Hold_giveLoad_149 _ _ ?_, p1, p2⟩
          rw [hN2 hf, show Int32.toNatClampNeg (zi i) = i from zi_cl (by omega), h6 i hiN, h5 i hiN]
          simp (disch := omega) only [zi_le, zi_le0, zi_lt0]
          refine ⟨fun h0 => absurd h0 (by omega), fun _ => ⟨fun h0 => absurd h0 c1, fun _ => ⟨by omega, fun h0 => absurd h0 (by omega), fun _ => ⟨by omega, by omega, ?_⟩⟩⟩⟩
          rw [zm1, zi_add, zi_s1, zi_s1]
          exact g
  -- each its whole part
  have k2 : 0 < sm (stn R n) N → ∀ (k i : Nat) (σ1 : Nat → Nat → Int32), i + k = N → fr56 σ σ1 → (∀ m, m < N → σ1 6 m = zi (stn R n m)) → (∀ m, m < N → σ1 5 m = zi ((fo (g1F (stn R n) (R 3 n + ld n) (sm (stn R n) N)) (ld, R 3 n + ld n) i).1 m)) →
      ∃ σ', am_Go l D DA b sz (d + 1) M_Hold_giveLoad (97, [some (.ref 2), none, none, none, some (.int (zi (sm (stn R n) N))), some (.int (zi (R 3 n + ld n))), some (.int (zi (fo (g1F (stn R n) (R 3 n + ld n) (sm (stn R n) N)) (ld, R 3 n + ld n) i).2)), some (.int (zi i)), none], [], (am_TT cu L, am_RR cu, σ1)) none (am_TT cu L, am_RR cu, σ') ∧ fr56 σ σ' ∧ ∀ m, m < N → σ' 5 m = zi (giv (stn R n) N (R 3 n + ld n) ld m) := by
    intro hpos k
    induction k with
    | zero =>
      intro i σ1 hi hf h6 h5
      have e : i = N := by omega
      rw [e] at h5 ⊢
      obtain ⟨a1, a2⟩ := g1_spec (stn R n) (R 3 n + ld n) (sm (stn R n) N) ld N
      have hfl := sm_floor (st := stn R n) (s := R 3 n + ld n) hpos N
      have hfl2 : sm (fun j => (R 3 n + ld n) * stn R n j / sm (stn R n) N) N ≤ R 3 n + ld n := Int.le_of_mul_le_mul_right hfl hpos
      have hfl3 : 0 ≤ sm (fun j => (R 3 n + ld n) * stn R n j / sm (stn R n) N) N := sm_nn (fun j hj => Int.ediv_nonneg (Int.mul_nonneg (by omega) (hst j hj)) (by omega))
      obtain ⟨σ', g, p1, p2⟩ := k3 (fo (g1F (stn R n) (R 3 n + ld n) (sm (stn R n) N)) (ld, R 3 n + ld n) N) (by rw [a2]; omega) (by rw [a2]; omega) N 0 σ1 (by omega) hf h6 h5
      refine ⟨σ', v_Hold_giveLoad_97 _ _ _ _ ?_, p1, ?_⟩
      · rw [hN2 hf]
        exact ⟨fun _ => g, fun h0 => absurd (Int32.le_refl _) h0⟩
      · intro m hm
        rw [p2 m hm]
        unfold giv
        rw [if_neg (by omega)]
    | succ k ih =>
      intro i σ1 hi hf h6 h5
      have hiN : i < N := by omega
      have hs1 := stn_bd (c := i) hbn
      have hnext : fo (g1F (stn R n) (R 3 n + ld n) (sm (stn R n) N)) (ld, R 3 n + ld n) (i + 1) = g1F (stn R n) (R 3 n + ld n) (sm (stn R n) N) i (fo (g1F (stn R n) (R 3 n + ld n) (sm (stn R n) N)) (ld, R 3 n + ld n) i) := rfl
      have ih1 := ih (i + 1)
      rw [hnext] at ih1
      generalize fo (g1F (stn R n) (R 3 n + ld n) (sm (stn R n) N)) (ld, R 3 n + ld n) i = x at *
      have hm0 : 0 ≤ (R 3 n + ld n) * stn R n i := Int.mul_nonneg (by omega) (by omega)
      have hm1 := mul_bd (a := R 3 n + ld n) (c := stn R n i) (A := 21000) (C := 144) (by omega) (by omega) (by omega) (by omega)
      obtain ⟨σ', g, p1, p2⟩ := ih1 (am_us σ1 5 i (zi (x.1 i + (R 3 n + ld n) * stn R n i / sm (stn R n) N))) (by omega) (fr56_us hf (Or.inl rfl)) (fun m hm => by rw [am_us_c (by omega)]; exact h6 m hm) (fun m hm => by
        show am_us σ1 5 i _ 5 m = zi (if m = i then x.1 m + (R 3 n + ld n) * stn R n i / sm (stn R n) N else x.1 m)
        by_cases e : m = i
        · subst e; rw [am_us_s, if_pos rfl]
        · rw [am_us_k e, if_neg e]; exact h5 m hm)
      refine ⟨σ', v_Hold_giveLoad_97 _ _ _ _ ?_, p1, p2⟩
      rw [hN2 hf, show Int32.toNatClampNeg (zi i) = i from zi_cl (by omega), h6 i hiN, h5 i hiN, zi_idiv hm0 (by omega) hpos (by omega)]
      simp (disch := omega) only [zi_le, zi_eq0, zi_lt0]
      refine ⟨fun h0 => absurd h0 (by omega), fun _ => ⟨by omega, by omega, by omega, by omega, ?_⟩⟩
      rw [zi_sub, zi_s1, zi_add]
      exact g
  -- the areas
  have k1 : ∀ (k i : Nat) (σ1 : Nat → Nat → Int32), i + k = N → fr56 σ σ1 → (∀ m, m < i → σ1 6 m = zi (stn R n m)) → (∀ m, m < N → σ1 5 m = zi (ld m)) →
      ∃ σ', am_Go l D DA b sz (d + 1) M_Hold_giveLoad (13, [some (.ref 2), some (.int (zi n)), some (.int (zi (B : Int))), some (.ref (19 + n)), some (.int (zi (sm (stn R n) i))), some (.int (zi i)), none, none, none], [], (am_TT cu L, am_RR cu, σ1)) none (am_TT cu L, am_RR cu, σ') ∧ fr56 σ σ' ∧ ∀ m, m < N → σ' 5 m = zi (giv (stn R n) N (R 3 n + ld n) ld m) := by
    intro k
    induction k with
    | zero =>
      intro i σ1 hi hf h6 h5
      have e : i = N := by omega
      rw [e] at h6 ⊢
      by_cases c : sm (stn R n) N = 0
      · refine ⟨σ1, v_Hold_giveLoad_13 _ _ _ _ n hn20 ?_, hf, fun m hm => ?_⟩
        · rw [hN2 hf, zi_gt0 (by omega) (by omega)]
          exact ⟨fun _ => ⟨fun h0 => absurd h0 (by omega), fun _ => (by first | exact ⟨rfl, rfl⟩ | exact ⟨trivial, trivial⟩ | exact ⟨trivial, rfl⟩ | exact ⟨rfl, trivial⟩ | trivial)⟩, fun h0 => absurd (Int32.le_refl _) h0⟩
        · unfold giv
          rw [if_pos c]
          exact h5 m hm
      · obtain ⟨σ', g, p1, p2⟩ := k2 (by omega) N 0 σ1 (by omega) hf h6 h5
        refine ⟨σ', v_Hold_giveLoad_13 _ _ _ _ n hn20 ?_, p1, p2⟩
        rw [hN2 hf, zi_gt0 (by omega) (by omega), show Int32.toNatClampNeg (zi n) = n from zi_cl (by omega), h5 n hn, (lOK_fr h hN hf).2.2.1 n hn20 3 (by decide), zi_add, zi_lt0 (by omega) (by omega)]
        exact ⟨fun _ => ⟨fun _ => ⟨by omega, g⟩, fun h0 => absurd h0 (by omega)⟩, fun h0 => absurd (Int32.le_refl _) h0⟩
    | succ k ih =>
      intro i σ1 hi hf h6 h5
      have hiN : i < N := by omega
      have hi20 : i < 20 := by omega
      have hl := lOK_fr h hN hf
      obtain ⟨σ', g, p1, p2⟩ := ih (i + 1) (am_us σ1 6 i (zi (stn R n i))) (by omega) (fr56_us hf (Or.inr rfl)) (fun m hm => by
        by_cases e : m = i
        · subst e; rw [am_us_s]
        · rw [am_us_k e]; exact h6 m (by omega)) (fun m hm => by rw [am_us_c (by omega)]; exact h5 m hm)
      refine ⟨σ', v_Hold_giveLoad_13 _ _ _ _ n hn20 ?_, p1, p2⟩
      rw [hN2 hf, show Int32.toNatClampNeg (zi i) = i from zi_cl (by omega), hv_bit h.2.1 hN hiN]
      simp (disch := omega) only [zi_le, zi_lt0]
      refine ⟨fun h0 => absurd h0 (by omega), fun _ => ⟨fun c => ⟨by omega, by omega, ?_⟩, fun c => ⟨by omega, _, _, c_areaOn hn20 hi20 hbn (hp.2.1 i hiN) (hl.2.2.2 n hn h8) (hl.2.2.2 i hiN c), by omega, by omega, ?_⟩⟩⟩
      · rw [stn_out c] at g
        rw [am_us_s, zi_s0, zi_s1]
        have e9 : sm (stn R n) (i + 1) = sm (stn R n) i := by show sm (stn R n) i + stn R n i = _; rw [stn_out c, Int.add_zero]
        rw [e9] at g
        exact g
      · rw [aon_stn' hbn c, am_us_s, zi_add, zi_s1]
        exact g
  obtain ⟨σ', g, p1, p2⟩ := k1 N 0 σ (by omega) fr56_refl (fun m hm => absurd hm (by omega)) hld
  refine ⟨σ', v_Hold_giveLoad_0 _ _ ?_, p1, p2⟩
  rw [show Int32.toNatClampNeg (zi n) = n from zi_cl (by omega), zi_lt0 (by omega) (by omega)]
  exact ⟨by omega, g⟩
end CLD
