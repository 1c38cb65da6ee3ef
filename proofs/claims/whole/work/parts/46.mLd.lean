/-! the reference: one box's load given to those below it (makeLoads from pc 97 to pc 25) -/
theorem zi_ldiv {a c e : Int} (h1 : 0 ≤ a) (h2 : a < 2147483648) (h3 : 0 ≤ c) (h4 : c < 2147483648) (h5 : 0 < e) (h6 : e < 2147483648) : Int64.toInt32 ((Int32.toInt64 (zi a) * Int32.toInt64 (zi c)) / Int32.toInt64 (zi e)) = zi (a * c / e) := by
  obtain ⟨x, rfl⟩ : ∃ x : Nat, a = x := ⟨a.toNat, by omega⟩
  obtain ⟨y, rfl⟩ : ∃ y : Nat, c = y := ⟨c.toNat, by omega⟩
  obtain ⟨z, rfl⟩ : ∃ z : Nat, e = z := ⟨e.toNat, by omega⟩
  have hx : x < 2 ^ 31 := by omega
  have hy : y < 2 ^ 31 := by omega
  have hz : z < 2 ^ 31 := by omega
  have hxy : x * y < 2 ^ 63 := Nat.lt_of_lt_of_le (Nat.mul_lt_mul'' hx hy) (by decide)
  have e1 : Int32.toInt64 (zi (x : Int)) = lN x := nI_l hx
  have e2 : Int32.toInt64 (zi (y : Int)) = lN y := nI_l hy
  have e3 : Int32.toInt64 (zi (z : Int)) = lN z := nI_l hz
  rw [e1, e2, e3, lN_mul, pk_lDiv hxy (by omega) (by omega), lN_i]
  show zi ((x * y / z : Nat) : Int) = _
  rw [Int.natCast_ediv, Int.natCast_mul]
theorem zi_l0 {e : Int} (h5 : 0 < e) (h6 : e < 2147483648) : ¬ Int32.toInt64 (zi e) = 0 := by
  obtain ⟨z, rfl⟩ : ∃ z : Nat, e = z := ⟨e.toNat, by omega⟩
  have e3 : Int32.toInt64 (zi (z : Int)) = lN z := nI_l (by omega)
  rw [e3]
  intro h
  have h9 := congrArg Int64.toInt h
  rw [lN_toInt (by omega)] at h9
  have : (0 : Int64).toInt = 0 := rfl
  omega
/-- the loads stand in cell c0 -/
def wLd (σ : Nat → Nat → Int32) (c0 N : Nat) (ld : Nat → Int) : Nat → Nat → Int32 := fun c k => if c = c0 ∧ k < N then zi (ld k) else σ c k
section MLD
variable {l : Launch} {D : va_G} {DA : Nat → ClassId} {b sz d L : Nat} {cu : Bool} {σ : Nat → Nat → Int32} {N : Nat} {P : Nat → Nat → Int} {Q : Nat → Int}
theorem wLd_at {c0 m : Nat} {ld : Nat → Int} (h : m < N) : wLd σ c0 N ld c0 m = zi (ld m) := if_pos ⟨rfl, h⟩
theorem wLd_c {c0 c k : Nat} {ld : Nat → Int} (h : c ≠ c0) : wLd σ c0 N ld c k = σ c k := if_neg (fun z => h z.1)
theorem wLd_up {c0 m : Nat} {ld : Nat → Int} {v : Int} (h : m < N) : am_us (wLd σ c0 N ld) c0 m (zi v) = wLd σ c0 N (fun j => if j = m then v else ld j) := by
  funext c k
  unfold am_us wLd
  by_cases e : c = c0 ∧ k = m
  · rw [if_pos e, if_pos ⟨e.1, by omega⟩]
    show zi v = zi (if k = m then v else ld k)
    rw [if_pos e.2]
  · rw [if_neg e]
    by_cases e2 : c = c0 ∧ k < N
    · rw [if_pos e2, if_pos e2]
      show zi (ld k) = zi (if k = m then v else ld k)
      rw [if_neg (fun z => e ⟨e2.1, z⟩)]
    · rw [if_neg e2, if_neg e2]
theorem mOK_wLd {c0 : Nat} {ld : Nat → Int} {n : Nat} (h : mOK σ N P Q) (hc : 61 ≤ c0 ∨ c0 < 47) : mOK (wLd σ c0 n ld) N P Q := by
  obtain ⟨h1, h2, h3⟩ := h
  exact ⟨by rw [wLd_c (by omega)]; exact h1, fun k hk n hn => by rw [wLd_c (by omega)]; exact h2 k hk n hn, fun j hj => by rw [wLd_c (by omega)]; exact h3 j hj⟩
theorem sm_stn (hp : pOK N P Q) {a : Nat} (ha : a < N) {n : Nat} (hn : n ≤ N) : 0 ≤ sm (stn P a) n ∧ sm (stn P a) n ≤ 144 * n := by
  have h1 := sm_bound (f := stn P a) (lo := 0) (hi := 144) (n := n) (fun i hi => stn_bd (hp.2.1 a ha))
  omega
theorem c_R_give {r : Option Value} {X' : am_X} (hd : 3 ≤ d) (h : mOK σ N P Q) (hp : pOK N P Q) {a : Nat} (ha : a < N) {ld : Nat → Int} (hb : 0 ≤ ld a ∧ ld a ≤ 20000) {M : Int32}
    (G : am_Go l D DA b sz d M_R_makeLoads (25, [some (.ref 47), some (.int M), none, none, none, none, none, none], [], (am_TT cu L, am_RR cu, wLd σ 61 N (giv (stn P a) N (P 3 a + ld a) ld))) r X') :
    am_Go l D DA b sz d M_R_makeLoads (97, [some (.ref 47), some (.int M), some (.int (zi a)), some (.int 0), some (.int 0), none, none, none], [], (am_TT cu L, am_RR cu, wLd σ 61 N ld)) r X' := by
  obtain ⟨d, rfl⟩ : ∃ d', d = d' + 1 := ⟨d - 1, by omega⟩
  have hN := hp.1
  have hba := hp.2.1 a ha
  have ha20 : a < 20 := by omega
  have hw : 1 ≤ P 3 a ∧ P 3 a ≤ 1000 := by have h9 := hba; unfold bOK at h9; omega
  have hall := sm_stn hp ha (Nat.le_refl N)
  have hm : ∀ x, mOK (wLd σ 61 N x) N P Q := fun x => mOK_wLd h (by omega)
  have hst : ∀ m, m < N → 0 ≤ stn P a m := fun m hm => (stn_bd hba).1
  -- the rest: one each
  have k3 : ∀ (x1 : (Nat → Int) × Int), 0 ≤ x1.2 → x1.2 ≤ 30000 → am_Go l D DA b sz (d + 1) M_R_makeLoads (25, [some (.ref 47), some (.int M), none, none, none, none, none, none], [], (am_TT cu L, am_RR cu, wLd σ 61 N (fo (g2F (stn P a)) x1 N).1)) r X' →
      am_Go l D DA b sz (d + 1) M_R_makeLoads (206, [some (.ref 47), some (.int M), some (.int (zi a)), none, none, some (.int (zi x1.2)), some (.int (zi (0 : Nat))), none], [], (am_TT cu L, am_RR cu, wLd σ 61 N x1.1)) r X' := by
    intro x1 hx0 hx1 G2
    refine fo_loop (fun i (x : (Nat → Int) × Int) => am_Go l D DA b sz (d + 1) M_R_makeLoads (206, [some (.ref 47), some (.int M), some (.int (zi a)), none, none, some (.int (zi x.2)), some (.int (zi i)), none], [], (am_TT cu L, am_RR cu, wLd σ 61 N x.1)) r X') (g2F (stn P a)) x1 N ?_ (fun i x hi hx ih => ?_)
    · refine v_R_makeLoads_206 _ _ _ _ ?_
      try simp (disch := omega) only [zi_cl, zi_add, zi_sub, zi_mul, zi_s1, zi_s0, zi_m1, z01, z10, zi_ite, zi_eq0, zi_lt0, zi_gt0, zi_le0, zi_ge0, zi_le, zi_lt, zi_eq, (hm _).1]
      exact ⟨fun _ => G2, fun h0 => absurd h0 (by omega)⟩
    · obtain ⟨b1, b2, b3, b4⟩ := g2_spec (stn P a) x1 hx0 N (n := i) (by omega)
      rw [← hx] at b1 b2 b3 b4
      have hle : x.2 ≤ 30000 := by
        have h9 := sm_le (f := x1.1) (g := x.1) (n := N) (fun j _ => b2 j)
        omega
      have hs1 := stn_bd (c := i) hba
      refine v_R_makeLoads_206 _ _ _ _ ?_
      simp (disch := omega) only [(hm _).1, zi_le, zi_le0, zi_cl, zi_lt0]
      refine ⟨fun h0 => absurd h0 (by omega), fun _ => ⟨fun h0 => ?_, fun h0 => ⟨_, _, c_R_stands (by omega) (hm _) ha20 (by omega) hba (hp.2.1 i hi), ?_⟩⟩⟩
      · -- nothing is left: no round behind changes anything
        have hst2 : ∀ (k : Nat), fo (g2F (stn P a)) x1 (i + k) = x := by
          intro k
          induction k with
          | zero => exact hx.symm
          | succ k ihk =>
            show g2F (stn P a) (i + k) (fo (g2F (stn P a)) x1 (i + k)) = x
            rw [ihk]
            unfold g2F
            rw [if_pos h0]
        have h9 := hst2 (N - i)
        rw [show i + (N - i) = N by omega] at h9
        rw [h9] at G2
        exact G2
      · simp (disch := omega) only [zi_eq0]
        unfold g2F at ih
        rw [if_neg h0] at ih
        refine ⟨fun h3 => ?_, fun h3 => ⟨by omega, by omega, ?_⟩⟩
        · rw [if_pos h3] at ih
          rw [zi_s1]
          exact ih
        · rw [if_neg h3] at ih
          rw [zm1, zi_add, zi_s1, wLd_at hi, zi_s1, wLd_up hi]
          have e9 : (fun j => if j = i then x.1 i + 1 else x.1 j) = (fun j => if j = i then x.1 j + 1 else x.1 j) := by
            funext j
            by_cases e8 : j = i
            · rw [if_pos e8, if_pos e8, e8]
            · rw [if_neg e8, if_neg e8]
          rw [e9]
          exact ih
  -- each its whole part
  have k2 : 0 < sm (stn P a) N → am_Go l D DA b sz (d + 1) M_R_makeLoads (151, [some (.ref 47), some (.int M), some (.int (zi a)), some (.int (zi (sm (stn P a) N))), some (.int (zi (P 3 a + ld a))), some (.int (zi (P 3 a + ld a))), some (.int (zi (0 : Nat))), none], [], (am_TT cu L, am_RR cu, wLd σ 61 N ld)) r X' := by
    intro hpos
    refine fo_loop (fun i (x : (Nat → Int) × Int) => am_Go l D DA b sz (d + 1) M_R_makeLoads (151, [some (.ref 47), some (.int M), some (.int (zi a)), some (.int (zi (sm (stn P a) N))), some (.int (zi (P 3 a + ld a))), some (.int (zi x.2)), some (.int (zi i)), none], [], (am_TT cu L, am_RR cu, wLd σ 61 N x.1)) r X') (g1F (stn P a) (P 3 a + ld a) (sm (stn P a) N)) (ld, P 3 a + ld a) N ?_ (fun i x hi hx ih => ?_)
    · obtain ⟨a1, a2⟩ := g1_spec (stn P a) (P 3 a + ld a) (sm (stn P a) N) ld N
      have hfl := sm_floor (st := stn P a) (s := P 3 a + ld a) hpos N
      have hfl2 : sm (fun j => (P 3 a + ld a) * stn P a j / sm (stn P a) N) N ≤ P 3 a + ld a := Int.le_of_mul_le_mul_right hfl hpos
      have hfl3 : 0 ≤ sm (fun j => (P 3 a + ld a) * stn P a j / sm (stn P a) N) N := sm_nn (fun j hj => Int.ediv_nonneg (Int.mul_nonneg (by omega) (hst j hj)) (by omega))
      unfold giv at G
      rw [if_neg (by omega)] at G
      refine v_R_makeLoads_151 _ _ _ _ _ _ ?_
      simp (disch := omega) only [(hm _).1, zi_le]
      exact ⟨fun _ => k3 _ (by rw [a2]; omega) (by rw [a2]; omega) G, fun h0 => absurd h0 (by omega)⟩
    · have hs1 := stn_bd (c := i) hba
      refine v_R_makeLoads_151 _ _ _ _ _ _ ?_
      simp (disch := omega) only [(hm _).1, zi_le, zi_cl, zi_lt0]
      refine ⟨fun h0 => absurd h0 (by omega), fun _ => ⟨_, _, c_R_stands (by omega) (hm _) ha20 (by omega) hba (hp.2.1 i hi), zi_l0 hpos (by omega), by omega, by omega, ?_⟩⟩
      rw [zi_ldiv (by omega) (by omega) (by omega) (by omega) hpos (by omega), zi_sub, zi_s1, wLd_at hi, zi_add, wLd_up hi]
      have e9 : (fun j => if j = i then x.1 i + (P 3 a + ld a) * stn P a i / sm (stn P a) N else x.1 j) = (fun j => if j = i then x.1 j + (P 3 a + ld a) * stn P a i / sm (stn P a) N else x.1 j) := by
        funext j
        by_cases e8 : j = i
        · rw [if_pos e8, if_pos e8, e8]
        · rw [if_neg e8, if_neg e8]
      rw [e9]
      exact ih
  -- all the areas
  refine fo_loop (fun i x => am_Go l D DA b sz (d + 1) M_R_makeLoads (97, [some (.ref 47), some (.int M), some (.int (zi a)), some (.int (zi x)), some (.int (zi i)), none, none, none], [], (am_TT cu L, am_RR cu, wLd σ 61 N ld)) r X') (fun m x => x + stn P a m) 0 N ?_ (fun i x hi hx ih => ?_)
  · have hsm : ∀ n, fo (fun m x => x + stn P a m) 0 n = sm (stn P a) n := by
      intro n
      induction n with
      | zero => rfl
      | succ n ihn => show fo (fun m x => x + stn P a m) 0 n + stn P a n = _; rw [ihn]; rfl
    rw [hsm]
    obtain ⟨⟨e0, e1, e2, e3, e4, e5, e6⟩, e7⟩ := (hm ld).row ha20
    refine v_R_makeLoads_97 _ _ _ _ ?_
    rw [show Int32.toNatClampNeg (zi a) = a from zi_cl (by omega), wLd_at ha, e3, zi_add]
    simp (disch := omega) only [(hm _).1, zi_le, zi_eq0, zi_lt0]
    refine ⟨fun _ => ⟨fun h0 => ?_, fun h0 => ⟨by omega, by omega, k2 (by omega)⟩⟩, fun h0 => absurd h0 (by omega)⟩
    unfold giv at G
    rw [if_pos h0] at G
    exact G
  · refine v_R_makeLoads_97 _ _ _ _ ?_
    simp (disch := omega) only [(hm _).1, zi_le]
    refine ⟨fun h0 => absurd h0 (by omega), fun _ => ⟨_, _, c_R_stands (by omega) (hm _) ha20 (by omega) hba (hp.2.1 i hi), ?_⟩⟩
    rw [zi_add, zi_s1]
    exact ih
end MLD
