/-! LOADS: in which order boxes give: from the highest top down, of alike ones the lowest number first: place p: top 12 - p / N, number p % N -/
def plc (P : Nat → Nat → Int) (N n : Nat) : Nat := (12 - (tp P n).toNat) * N + n
def ldF (P : Nat → Nat → Int) (N p : Nat) (ld : Nat → Int) : Nat → Int := if P 8 (p % N) ≠ 0 ∧ tp P (p % N) = 12 - ((p / N : Nat) : Int) then giv (stn P (p % N)) N (P 3 (p % N) + ld (p % N)) ld else ld
def ldP (P : Nat → Nat → Int) (N p : Nat) : Nat → Int := fo (ldF P N) (fun _ => 0) p
def lds (P : Nat → Nat → Int) (N : Nat) : Nat → Int := ldP P N (12 * N)
def tOK (N : Nat) (P : Nat → Nat → Int) : Prop := ∀ n, n < N → P 8 n ≠ 0 → 1 ≤ tp P n ∧ tp P n ≤ 12
theorem sm_zero : ∀ n, sm (fun _ => 0) n = 0
  | 0 => rfl
  | n + 1 => by show sm (fun _ => 0) n + 0 = 0; rw [sm_zero n]; rfl
theorem ite_iff {c e : Prop} [Decidable c] [Decidable e] (h : c ↔ e) (x y : Int) : (if c then x else y) = if e then x else y := by
  by_cases h9 : c
  · rw [if_pos h9, if_pos (h.mp h9)]
  · rw [if_neg h9, if_neg (fun z => h9 (h.mpr z))]
section ORD
variable {N : Nat} {P : Nat → Nat → Int} {Q : Nat → Int}
theorem plc_iff {m p : Nat} (hm : m < N) (ht : 1 ≤ tp P m ∧ tp P m ≤ 12) (hp : p < 12 * N) : plc P N m = p ↔ m = p % N ∧ tp P m = 12 - ((p / N : Nat) : Int) := by
  obtain ⟨t, e⟩ : ∃ t : Nat, tp P m = t := ⟨(tp P m).toNat, by omega⟩
  unfold plc
  rw [e]
  have e2 : ((t : Int)).toNat = t := rfl
  rw [e2]
  rw [e] at ht
  have hdiv : p / N < 12 := Nat.div_lt_of_lt_mul (by rw [Nat.mul_comm]; exact hp)
  have hmod := Nat.div_add_mod p N
  constructor
  · intro h
    have h1 : p % N = m := by rw [← h, Nat.add_comm, Nat.add_mul_mod_self_right]; exact Nat.mod_eq_of_lt hm
    have h2 : p / N = 12 - t := by rw [← h, Nat.add_comm, Nat.add_mul_div_right _ _ (by omega), Nat.div_eq_of_lt hm]; omega
    omega
  · rintro ⟨h1, h2⟩
    have h3 : 12 - t = p / N := by omega
    rw [h3, h1, Nat.mul_comm]
    exact hmod
theorem plc_lt {m : Nat} (hm : m < N) (ht : 1 ≤ tp P m ∧ tp P m ≤ 12) : plc P N m < 12 * N := by
  obtain ⟨t, e⟩ : ∃ t : Nat, tp P m = t := ⟨(tp P m).toNat, by omega⟩
  unfold plc
  rw [e]
  rw [e] at ht
  have e2 : ((t : Int)).toNat = t := rfl
  rw [e2]
  have h1 : (12 - t) * N ≤ 11 * N := Nat.mul_le_mul_right N (by omega)
  omega
theorem plc_inj {m n : Nat} (hm : m < N) (hn : n < N) (h1 : 1 ≤ tp P m ∧ tp P m ≤ 12) (h2 : 1 ≤ tp P n ∧ tp P n ≤ 12) (h : plc P N m = plc P N n) : m = n := by
  have a := ((plc_iff hm h1 (plc_lt hn h2)).mp h).1
  have c := ((plc_iff hn h2 (plc_lt hn h2)).mp rfl).1
  omega
/-- places at which nothing gives are passed over -/
theorem ldP_skip (ht : tOK N P) {p q : Nat} (hpq : p ≤ q) (hq : q ≤ 12 * N) (hno : ∀ m, m < N → P 8 m ≠ 0 → ¬ (p ≤ plc P N m ∧ plc P N m < q)) : ldP P N q = ldP P N p := by
  have key : ∀ k, p + k ≤ q → ldP P N (p + k) = ldP P N p := by
    intro k
    induction k with
    | zero => intro _; rfl
    | succ k ih =>
      intro hk
      show ldF P N (p + k) (ldP P N (p + k)) = _
      rw [ih (by omega)]
      unfold ldF
      rw [if_neg]
      rintro ⟨h1, h2⟩
      have hN : 0 < N := by rcases Nat.eq_zero_or_pos N with h | h; subst h; omega; exact h
      have hm : (p + k) % N < N := Nat.mod_lt _ hN
      have := (plc_iff hm (ht _ hm h1) (by omega)).mpr ⟨rfl, h2⟩
      exact hno _ hm h1 (by omega)
  have h9 := key (q - p) (by omega)
  rw [show p + (q - p) = q by omega] at h9
  exact h9
theorem ldP_at (ht : tOK N P) {a : Nat} (ha : a < N) (hin : P 8 a ≠ 0) : ldP P N (plc P N a + 1) = giv (stn P a) N (P 3 a + ldP P N (plc P N a) a) (ldP P N (plc P N a)) := by
  obtain ⟨h1, h2⟩ := (plc_iff ha (ht a ha hin) (plc_lt ha (ht a ha hin))).mp rfl
  show ldF P N (plc P N a) (ldP P N (plc P N a)) = _
  unfold ldF
  rw [← h1, if_pos ⟨hin, h2⟩]
/-- no load is below 0; what lies on those that haven't given is no more than the weights of those that have -/
theorem ldP_bd (hp : pOK N P Q) (ht : tOK N P) {p : Nat} (hpN : p ≤ 12 * N) : (∀ m, 0 ≤ ldP P N p m) ∧ sm (fun m => if P 8 m ≠ 0 ∧ plc P N m < p then 0 else ldP P N p m) N ≤ sm (fun m => if P 8 m ≠ 0 ∧ plc P N m < p then P 3 m else 0) N := by
  refine fo_inv (fun p (ld : Nat → Int) => (∀ m, 0 ≤ ld m) ∧ sm (fun m => if P 8 m ≠ 0 ∧ plc P N m < p then 0 else ld m) N ≤ sm (fun m => if P 8 m ≠ 0 ∧ plc P N m < p then P 3 m else 0) N) ?_ (fun p ld hpl hI => ?_)
  · refine ⟨fun m => Int.le_refl 0, sm_le (fun i hi => ?_)⟩
    split <;> simp_all
  · obtain ⟨h0, h1⟩ := hI
    have hN : 0 < N := by rcases Nat.eq_zero_or_pos N with h | h; subst h; omega; exact h
    have hm : p % N < N := Nat.mod_lt _ hN
    have hp12 : p < 12 * N := by omega
    unfold ldF
    by_cases hc : P 8 (p % N) ≠ 0 ∧ tp P (p % N) = 12 - ((p / N : Nat) : Int)
    · rw [if_pos hc]
      have hpl9 : plc P N (p % N) = p := (plc_iff hm (ht _ hm hc.1) hp12).mpr ⟨rfl, hc.2⟩
      have hb := hp.2.1 _ hm
      have hs0 : 0 ≤ P 3 (p % N) + ld (p % N) := by have := h0 (p % N); unfold bOK at hb; omega
      obtain ⟨g1, g2, g3⟩ := giv_spec (st := stn P (p % N)) (N := N) (s := P 3 (p % N) + ld (p % N)) (ld := ld) (fun m _ => (stn_bd hb).1) hs0
      generalize giv (stn P (p % N)) N (P 3 (p % N) + ld (p % N)) ld = ld' at g1 g2 g3
      generalize hn : p % N = n at *
      refine ⟨fun m => Int.le_trans (h0 m) (g1 m), ?_⟩
      have a1 : sm (fun m => if P 8 m ≠ 0 ∧ plc P N m < p + 1 then 0 else ld' m) N ≤ sm (fun m => (if m = n then (if P 8 m ≠ 0 ∧ plc P N m < p then 0 else ld m) + (ld' m + - ld m) + - ld n else (if P 8 m ≠ 0 ∧ plc P N m < p then 0 else ld m) + (ld' m + - ld m))) N := by
        refine sm_le (fun m hmN => ?_)
        have := g1 m
        by_cases e : m = n
        · subst e
          rw [if_pos ⟨hc.1, by omega⟩, if_pos rfl, if_neg (by omega)]
          omega
        · rw [if_neg e]
          by_cases e2 : P 8 m ≠ 0 ∧ plc P N m < p
          · rw [if_pos e2, if_pos ⟨e2.1, by omega⟩]; omega
          · rw [if_neg e2]
            by_cases e3 : P 8 m ≠ 0 ∧ plc P N m < p + 1
            · exfalso
              have e4 : plc P N m = plc P N n := by omega
              exact e (plc_inj hmN hm (ht m hmN e3.1) (ht n hm hc.1) e4)
            · rw [if_neg e3]; omega
      rw [sm_upd, if_pos hm, sm_add2, sm_add2] at a1
      have a2 : sm (fun j => - ld j) N = - sm ld N := by
        have h9 := sm_add2 ld (fun j => - ld j) N
        have h8 : sm (fun j => ld j + - ld j) N = 0 := by
          have : sm (fun j => ld j + - ld j) N = sm (fun _ => 0) N := sm_congr (fun j _ => by omega)
          rw [this, sm_zero]
        omega
      have a3 : sm (fun m => if P 8 m ≠ 0 ∧ plc P N m < p + 1 then P 3 m else 0) N = sm (fun m => if P 8 m ≠ 0 ∧ plc P N m < p then P 3 m else 0) N + P 3 n := by
        have h9 := sm_upd (fun m => if P 8 m ≠ 0 ∧ plc P N m < p then P 3 m else 0) n (P 3 n) N
        rw [if_pos hm] at h9
        rw [← h9]
        refine sm_congr (fun m hmN => ?_)
        by_cases e : m = n
        · subst e
          rw [if_pos ⟨hc.1, by omega⟩, if_pos rfl, if_neg (by omega)]
          omega
        · rw [if_neg e]
          by_cases e2 : P 8 m ≠ 0 ∧ plc P N m < p
          · rw [if_pos e2, if_pos ⟨e2.1, by omega⟩]
          · rw [if_neg e2]
            by_cases e3 : P 8 m ≠ 0 ∧ plc P N m < p + 1
            · exfalso
              have e4 : plc P N m = plc P N n := by omega
              exact e (plc_inj hmN hm (ht m hmN e3.1) (ht n hm hc.1) e4)
            · rw [if_neg e3]
      rw [a3]
      omega
    · rw [if_neg hc]
      have same : ∀ m, m < N → ((P 8 m ≠ 0 ∧ plc P N m < p + 1) ↔ (P 8 m ≠ 0 ∧ plc P N m < p)) := by
        intro m hmN
        constructor
        · rintro ⟨h2, h3⟩
          refine ⟨h2, ?_⟩
          by_cases e : plc P N m = p
          · obtain ⟨e1, e2⟩ := (plc_iff hmN (ht m hmN h2) hp12).mp e
            exact absurd ⟨e1 ▸ h2, e1 ▸ e2⟩ hc
          · omega
        · rintro ⟨h2, h3⟩
          exact ⟨h2, by omega⟩
      refine ⟨h0, ?_⟩
      rw [sm_congr (g := fun m => if P 8 m ≠ 0 ∧ plc P N m < p then 0 else ld m) (fun m hmN => ite_iff (same m hmN) _ _), sm_congr (f := fun m => if P 8 m ≠ 0 ∧ plc P N m < p + 1 then P 3 m else 0) (g := fun m => if P 8 m ≠ 0 ∧ plc P N m < p then P 3 m else 0) (fun m hmN => ite_iff (same m hmN) _ _)]
      exact h1
theorem ldP_le (hp : pOK N P Q) (ht : tOK N P) {p n : Nat} (hpN : p ≤ 12 * N) (hn : n < N) (hnd : ¬ (P 8 n ≠ 0 ∧ plc P N n < p)) : 0 ≤ ldP P N p n ∧ ldP P N p n ≤ 20000 := by
  obtain ⟨h0, h1⟩ := ldP_bd hp ht hpN
  have hN := hp.1
  refine ⟨h0 n, ?_⟩
  have h2 := sm_mem (f := fun m => if P 8 m ≠ 0 ∧ plc P N m < p then 0 else ldP P N p m) (n := N) (i := n) (fun i _ => by have := h0 i; split <;> omega) hn
  simp only [if_neg hnd] at h2
  have h3 := sm_bound (f := fun m => if P 8 m ≠ 0 ∧ plc P N m < p then P 3 m else 0) (lo := 0) (hi := 1000) (n := N) (fun i hi => by
    have hb := hp.2.1 i hi
    unfold bOK at hb
    split <;> omega)
  omega
end ORD
