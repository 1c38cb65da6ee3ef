/-! the class: touches; a box that touches nobody above or below changes no load -/
section TCH
variable {l : Launch} {D : va_G} {DA : Nat → ClassId} {b sz d L : Nat} {cu : Bool} {σ σ' : Nat → Nat → Int32} {N M : Nat} {P R : Nat → Nat → Int} {Q : Nat → Int}
theorem sm_all0 {f : Nat → Int} : ∀ {n : Nat}, (∀ i, i < n → f i = 0) → sm f n = 0
  | 0, _ => rfl
  | n + 1, h => by
    show sm f n + f n = 0
    rw [sm_all0 (fun i hi => h i (by omega)), h n (by omega)]
    rfl
theorem com_sym (a n c m : Int) : com a n c m = com c m a n := by
  unfold com
  repeat' split
  all_goals omega
theorem stn_nt {n g : Nat} (hr : ∀ m, m ≠ n → ∀ k, R k m = P k m) (h8 : P 8 n = 0) (e : g ≠ n) (t1 : tp R n = P 11 g → area R g n = 0) : stn R g = stn P g := by
  funext m
  by_cases em : m = n
  · rw [em]
    unfold stn
    rw [if_neg e, if_neg e, if_pos h8, hr g e 11]
    by_cases c : R 8 n = 0
    · rw [if_pos c]
    · rw [if_neg c]
      by_cases c2 : tp R n = P 11 g
      · rw [if_pos c2, t1 c2]
      · rw [if_neg c2]
  · unfold stn area tp lng wdt
    simp only [hr m em, hr g e]
theorem ldP_nt {n : Nat} (hn : n < N) (hr : ∀ m, m ≠ n → ∀ k, R k m = P k m) (h8 : P 8 n = 0) (t1 : ∀ m, m < N → P 8 m ≠ 0 → tp R n = P 11 m → area R m n = 0) (t2 : ∀ m, m < N → P 8 m ≠ 0 → tp P m = R 11 n → area R n m = 0) : ∀ p, ldP R N p = ldP P N p
  | 0 => rfl
  | p + 1 => by
    show ldF R N p (ldP R N p) = ldF P N p (ldP P N p)
    rw [ldP_nt hn hr h8 t1 t2 p]
    generalize ldP P N p = ld
    have hg : p % N < N := Nat.mod_lt _ (by omega)
    unfold ldF
    generalize p % N = g at hg ⊢
    by_cases e : g = n
    · have hP : ¬ (P 8 g ≠ 0 ∧ tp P g = 12 - ((p / N : Nat) : Int)) := fun z => z.1 (by rw [e]; exact h8)
      rw [if_neg hP]
      have hs : sm (stn R g) N = 0 := by
        refine sm_all0 (fun m hm => ?_)
        unfold stn
        by_cases c1 : g = m
        · rw [if_pos c1]
        · have em : m ≠ n := fun z => c1 (e.trans z.symm)
          rw [if_neg c1]
          by_cases c2 : R 8 m = 0
          · rw [if_pos c2]
          · rw [if_neg c2]
            by_cases c3 : tp R m = R 11 g
            · rw [if_pos c3, e]
              refine t2 m hm (by rw [← hr m em 8]; exact c2) ?_
              show P 11 m + P 2 m = R 11 n
              rw [← hr m em 11, ← hr m em 2, ← e]
              exact c3
            · rw [if_neg c3]
      by_cases c : R 8 g ≠ 0 ∧ tp R g = 12 - ((p / N : Nat) : Int)
      · rw [if_pos c]
        unfold giv
        rw [if_pos hs]
      · rw [if_neg c]
    · have ht : tp R g = tp P g := by unfold tp; rw [hr g e 11, hr g e 2]
      rw [hr g e 8, hr g e 3, ht]
      by_cases c : P 8 g ≠ 0 ∧ tp P g = 12 - ((p / N : Nat) : Int)
      · rw [if_pos c, if_pos c, stn_nt hr h8 e (t1 g hg c.1)]
      · rw [if_neg c, if_neg c]
/-- a box that is out bears nothing -/
theorem ldP_out0 (hp : pOK N P Q) (ht : tOK N P) {n : Nat} (h8 : P 8 n = 0) : ∀ p, p ≤ 12 * N → ldP P N p n = 0
  | 0, _ => rfl
  | p + 1, h => by
    have ih := ldP_out0 hp ht h8 p (by omega)
    show ldF P N p (ldP P N p) n = 0
    unfold ldF
    by_cases c : P 8 (p % N) ≠ 0 ∧ tp P (p % N) = 12 - ((p / N : Nat) : Int)
    · rw [if_pos c]
      have hg : p % N < N := Nat.mod_lt _ (by omega)
      have hb := hp.2.1 _ hg
      have h0 := (ldP_bd hp ht (p := p) (by omega)).1 (p % N)
      have h3 : 1 ≤ P 3 (p % N) := by
        have h9 := hb
        unfold bOK at h9
        exact h9.2.2.2.1.1
      rw [(giv_spec (st := stn P (p % N)) (N := N) (s := P 3 (p % N) + ldP P N p (p % N)) (ld := ldP P N p) (fun m _ => (stn_bd hb).1) (Int.add_nonneg (Int.le_trans (by decide) h3) h0)).2.1 n (Or.inr (stn_out h8))]
      exact ih
    · rw [if_neg c]
      exact ih
theorem bal_nt (hp : pOK N P Q) (hp1 : pOK N R Q) {n : Nat} (hn : n < N) (hr : ∀ m, m ≠ n → ∀ k, R k m = P k m) (h8 : P 8 n = 0) (t1 : ∀ m, m < N → P 8 m ≠ 0 → tp R n = P 11 m → area R m n = 0) (t2 : ∀ m, m < N → P 8 m ≠ 0 → tp P m = R 11 n → area R n m = 0) : bal R N (12 * N) = bal P N (12 * N) := by
  have hi : bal R N (12 * N) = 1 ↔ bal P N (12 * N) = 1 := by
    rw [bal_iff hp1 (tOK_of hp1), bal_iff hp (tOK_of hp)]
    have e : lds R N = lds P N := ldP_nt hn hr h8 t1 t2 (12 * N)
    rw [e]
    constructor
    · intro h m hm h8m
      have em : m ≠ n := fun z => h8m (by rw [z]; exact h8)
      have h9 := h m hm (by rw [hr m em 8]; exact h8m)
      rw [hr m em 4] at h9
      exact h9
    · intro h m hm h8m
      by_cases em : m = n
      · rw [em]
        have h0 : lds P N n = 0 := ldP_out0 hp (tOK_of hp) h8 (12 * N) (Nat.le_refl _)
        have hb := hp1.2.1 n hn
        unfold bOK at hb
        rw [h0]
        exact hb.2.2.2.2.1.1
      · rw [hr m em 4]
        exact h m hm (by rw [← hr m em 8]; exact h8m)
  rcases bal_01 (R := R) (N := N) (12 * N) with a | a
  · rcases bal_01 (R := P) (N := N) (12 * N) with e | e
    · rw [a, e]
    · exact absurd ((hi.mpr e).symm.trans a) (by decide)
  · rw [a, hi.mp a]
/-- where the tried box n has nobody just below and nobody just above it -/
def ntc (P : Nat → Nat → Int) (N n : Nat) : Prop := ∀ m, m < N → P 8 m ≠ 0 → 0 < com (P 9 n) (lng P n) (P 9 m) (lng P m) → 0 < com (P 10 n) (wdt P n) (P 10 m) (wdt P m) → tp P m ≠ P 11 n ∧ P 11 m ≠ tp P n
theorem hv_nt (hp : pOK N P Q) {n : Nat} (hn : n < N) (h8 : P 8 n = 0) {x y z t : Int} (hp1 : pOK N (pp P n x y z t) Q) (hin : inQ (pp P n x y z t) Q n) (nt : ntc (pp P n x y z t) N n) : (if hvW (pp P n x y z t) N n = 0 then (1 : Int) else 0) = bal P N (12 * N) := by
  have hp2 := pOK_in hp1 hn hin
  have hk : ∀ k, k ≠ 8 → ∀ m, pu (pp P n x y z t) 8 n 1 k m = pp P n x y z t k m := fun k h m => by
    unfold pu
    rw [if_neg (fun z => h z.1)]
  have hm : ∀ m, m ≠ n → ∀ k, pp P n x y z t k m = P k m := fun m em k => pp_o (by omega)
  have hr : ∀ m, m ≠ n → ∀ k, pu (pp P n x y z t) 8 n 1 k m = P k m := fun m em k => by
    rw [← hm m em k]
    unfold pu
    rw [if_neg (fun z => em z.2)]
  have h11 := hk 11 (by decide)
  have h2 := hk 2 (by decide)
  have ha : ∀ a c, area (pu (pp P n x y z t) 8 n 1) a c = area (pp P n x y z t) a c := fun a c => by
    unfold area lng wdt
    rw [hk 9 (by decide) a, hk 9 (by decide) c, hk 10 (by decide) a, hk 10 (by decide) c, hk 12 (by decide) a, hk 12 (by decide) c, hk 0 (by decide) a, hk 0 (by decide) c, hk 1 (by decide) a, hk 1 (by decide) c]
  have hne : ∀ m, P 8 m ≠ 0 → m ≠ n := fun m h z => h (by rw [z]; exact h8)
  have t2 : ∀ m, m < N → P 8 m ≠ 0 → tp P m = pu (pp P n x y z t) 8 n 1 11 n → area (pu (pp P n x y z t) 8 n 1) n m = 0 := fun m hmN h8m e => by
    have em := hne m h8m
    rw [ha]
    refine area_pos (fun q => ?_)
    have h9 := (nt m hmN (by rw [hm m em 8]; exact h8m) q.1 q.2).1
    rw [h11] at e
    refine h9 ?_
    rw [← e]
    unfold tp
    rw [hm m em 11, hm m em 2]
  have t1 : ∀ m, m < N → P 8 m ≠ 0 → tp (pu (pp P n x y z t) 8 n 1) n = P 11 m → area (pu (pp P n x y z t) 8 n 1) m n = 0 := fun m hmN h8m e => by
    have em := hne m h8m
    rw [ha]
    refine area_pos (fun q => ?_)
    rw [com_sym, com_sym (pp P n x y z t 10 m)] at q
    have h9 := (nt m hmN (by rw [hm m em 8]; exact h8m) q.1 q.2).2
    refine h9 ?_
    rw [hm m em 11, ← e]
    unfold tp
    rw [h11, h2]
  rw [← bal_nt hp hp2 hn hr h8 t1 t2]
  have hi := hvW_iff hp2 hn
  by_cases c : hvW (pp P n x y z t) N n = 0
  · rw [if_pos c, hi.mp c]
  · rw [if_neg c]
    rcases bal_01 (R := pu (pp P n x y z t) 8 n 1) (N := N) (12 * N) with h9 | h9
    · rw [h9]
    · exact absurd (hi.mpr h9) c
theorem c_touches (h : cOK σ N P Q M) (hp : pOK N P Q) {n : Nat} (hn : n < N) (ha : bAt σ P n) (hk : mOKc σ P N n) :
    ∃ r : Int, (r = 0 ∨ r = 1) ∧ GG l D DA b sz d L cu M_Hold_touches [some (.ref 2), some (.ref (19 + n)), none, none] σ (some (.int (zi r))) σ ∧ (r = 0 → ntc P N n) := by
  have hN := hp.1
  have hn20 : n < 20 := by omega
  obtain ⟨x1, x2⟩ := mX_spec hN hp.2.1 hn
  obtain ⟨y1, y2⟩ := mY_spec hN hp.2.1 hn
  have hm20 := and_lt (c := mY P N n) x1
  have hbit : ∀ m, (mX P N n &&& mY P N n).testBit m = true ↔ (m < N ∧ P 8 m ≠ 0 ∧ 0 < com (P 9 n) (lng P n) (P 9 m) (lng P m) ∧ 0 < com (P 10 n) (wdt P n) (P 10 m) (wdt P m)) := fun m => by
    rw [Nat.testBit_and, Bool.and_eq_true, x2 m, y2 m]
    exact ⟨fun z => ⟨z.1.1, z.1.2.1, z.1.2.2, z.2.2.2⟩, fun z => ⟨⟨z.1, z.2.1, z.2.2.1⟩, z.1, z.2.1, z.2.2.2⟩⟩
  obtain ⟨B, hB⟩ : ∃ B, mX P N n &&& mY P N n = B := ⟨_, rfl⟩
  rw [hB] at hm20
  simp only [hB] at hbit
  obtain ⟨-, -, e10, -, -, e13, -⟩ := id ha
  have hbn := hp.2.1 n hn
  have hzn : 0 ≤ P 11 n ∧ P 11 n ≤ 40 := by have h9 := hbn; unfold bOK at h9; omega
  have htn : 0 ≤ tp P n ∧ tp P n ≤ 60 := by have h9 := hbn; unfold bOK at h9; unfold tp; omega
  have key : ∀ (j i : Nat), i + j = N → (∀ m, m < i → P 8 m ≠ 0 → 0 < com (P 9 n) (lng P n) (P 9 m) (lng P m) → 0 < com (P 10 n) (wdt P n) (P 10 m) (wdt P m) → tp P m ≠ P 11 n ∧ P 11 m ≠ tp P n) →
      ∃ r : Int, (r = 0 ∨ r = 1) ∧ am_Go l D DA b sz d M_Hold_touches (12, [some (.ref 2), some (.ref (19 + n)), some (.int (zi (B : Int))), some (.int (zi (i : Int)))], [], (am_TT cu L, am_RR cu, σ)) (some (.int (zi r))) (am_TT cu L, am_RR cu, σ) ∧ (r = 0 → ntc P N n) := by
    intro j
    induction j with
    | zero =>
      intro i hi hA
      have e : i = N := by omega
      rw [e] at hA ⊢
      refine ⟨0, Or.inl rfl, v_Hold_touches_12 _ _ n hn20 ?_, fun _ => hA⟩
      rw [h.1]
      exact ⟨fun _ => (by first | exact ⟨rfl, rfl⟩ | exact ⟨trivial, trivial⟩ | exact ⟨trivial, rfl⟩ | exact ⟨rfl, trivial⟩ | trivial), fun h0 => absurd (Int32.le_refl _) h0⟩
    | succ j ih =>
      intro i hi hA
      have hiN : i < N := by omega
      have hnle : ¬ zi (N : Int) ≤ zi (i : Int) := by rw [zi_le (by omega) (by omega) (by omega) (by omega)]; omega
      have hcl : Int32.toNatClampNeg (zi i) = i := zi_cl (by omega)
      have ni : ¬ (zi (i : Int) < 0 ∨ 20 ≤ i) := by rw [zi_lt0 (by omega) (by omega)]; omega
      have hbi := hp.2.1 i hiN
      have hzi : 0 ≤ P 11 i ∧ P 11 i ≤ 40 := by have h9 := hbi; unfold bOK at h9; omega
      have hti : 0 ≤ tp P i ∧ tp P i ≤ 60 := by have h9 := hbi; unfold bOK at h9; unfold tp; omega
      have j1 : zi (tp P i) = zi (P 11 n) ↔ tp P i = P 11 n := zi_eq (by omega) (by omega) (by omega) (by omega)
      have j2 : zi (P 11 i) = zi (tp P n) ↔ P 11 i = tp P n := zi_eq (by omega) (by omega) (by omega) (by omega)
      by_cases hb : B.testBit i = true
      · obtain ⟨-, b8, bx, by_⟩ := (hbit i).mp hb
        obtain ⟨-, -, i10, -, -, i13, -⟩ := h.2.2.2.2.2 i hiN b8
        by_cases c1 : tp P i = P 11 n
        · refine ⟨1, Or.inr rfl, v_Hold_touches_12 _ _ n hn20 ?_, fun z => absurd z (by decide)⟩
          rw [h.1, mk_bit0 (by omega) (by omega), hcl, i13, e10]
          exact ⟨fun h0 => absurd h0 hnle, fun _ => ⟨fun h0 => absurd (hb.symm.trans h0) (by decide), fun _ => ⟨ni, fun _ => (by first | exact ⟨rfl, rfl⟩ | exact ⟨trivial, trivial⟩ | exact ⟨trivial, rfl⟩ | exact ⟨rfl, trivial⟩ | trivial), fun h0 => absurd (j1.mpr c1) h0⟩⟩⟩
        · by_cases c2 : P 11 i = tp P n
          · refine ⟨1, Or.inr rfl, v_Hold_touches_12 _ _ n hn20 ?_, fun z => absurd z (by decide)⟩
            rw [h.1, mk_bit0 (by omega) (by omega), hcl, i13, e10, i10, e13]
            exact ⟨fun h0 => absurd h0 hnle, fun _ => ⟨fun h0 => absurd (hb.symm.trans h0) (by decide), fun _ => ⟨ni, fun h0 => absurd (j1.mp h0) c1, fun _ => ⟨ni, fun _ => (by first | exact ⟨rfl, rfl⟩ | exact ⟨trivial, trivial⟩ | exact ⟨trivial, rfl⟩ | exact ⟨rfl, trivial⟩ | trivial), fun h0 => absurd (j2.mpr c2) h0⟩⟩⟩⟩
          · obtain ⟨r, r1, g, q⟩ := ih (i + 1) (by omega) (fun m hm m8 mx my => by
              by_cases e : m = i
              · rw [e]; exact ⟨c1, c2⟩
              · exact hA m (by omega) m8 mx my)
            refine ⟨r, r1, v_Hold_touches_12 _ _ n hn20 ?_, q⟩
            rw [h.1, mk_bit0 (by omega) (by omega), hcl, i13, e10, i10, e13, zi_s1]
            exact ⟨fun h0 => absurd h0 hnle, fun _ => ⟨fun h0 => absurd (hb.symm.trans h0) (by decide), fun _ => ⟨ni, fun h0 => absurd (j1.mp h0) c1, fun _ => ⟨ni, fun h0 => absurd (j2.mp h0) c2, fun _ => g⟩⟩⟩⟩
      · have hb0 : B.testBit i = false := by cases h : B.testBit i; rfl; exact absurd h hb
        obtain ⟨r, r1, g, q⟩ := ih (i + 1) (by omega) (fun m hm m8 mx my => by
          by_cases e : m = i
          · rw [e] at m8 mx my
            exact absurd ((hbit i).mpr ⟨hiN, m8, mx, my⟩) hb
          · exact hA m (by omega) m8 mx my)
        refine ⟨r, r1, v_Hold_touches_12 _ _ n hn20 ?_, q⟩
        rw [h.1, mk_bit0 (by omega) (by omega), zi_s1]
        exact ⟨fun h0 => absurd h0 hnle, fun _ => ⟨fun _ => g, fun h0 => absurd hb0 h0⟩⟩
  obtain ⟨r, r1, g, q⟩ := key N 0 (by omega) (fun m hm => absurd hm (by omega))
  refine ⟨r, r1, v_Hold_touches_0 n hn20 ?_, q⟩
  rw [hk.1, hk.2.1, mk_andN, hB]
  exact g
end TCH
