/-! loads are small -/
theorem ldP_ub {N : Nat} {P : Nat → Nat → Int} {Q : Nat → Int} (hp : pOK N P Q) (ht : tOK N P) : ∀ {p : Nat}, p ≤ 12 * N → ∀ m, ldP P N p m ≤ 21000 * p
  | 0, _, m => Int.le_refl 0
  | p + 1, hpN, m => by
    have ih := ldP_ub hp ht (p := p) (by omega) m
    show ldF P N p (ldP P N p) m ≤ _
    unfold ldF
    by_cases hc : P 8 (p % N) ≠ 0 ∧ tp P (p % N) = 12 - ((p / N : Nat) : Int)
    · rw [if_pos hc]
      have hN : 0 < N := by rcases Nat.eq_zero_or_pos N with h | h; subst h; omega; exact h
      have hm : p % N < N := Nat.mod_lt _ hN
      have hpl : plc P N (p % N) = p := (plc_iff hm (ht _ hm hc.1) (by omega)).mpr ⟨rfl, hc.2⟩
      have hb := hp.2.1 _ hm
      have hle := ldP_le hp ht (p := p) (n := p % N) (by omega) hm (fun z => by omega)
      have hw : 1 ≤ P 3 (p % N) ∧ P 3 (p % N) ≤ 1000 := by unfold bOK at hb; omega
      obtain ⟨g1, g2, g3⟩ := giv_spec (st := stn P (p % N)) (N := N) (s := P 3 (p % N) + ldP P N p (p % N)) (ld := ldP P N p) (fun m _ => (stn_bd hb).1) (by omega)
      generalize giv (stn P (p % N)) N (P 3 (p % N) + ldP P N p (p % N)) (ldP P N p) = ld' at g1 g2 g3 ⊢
      by_cases hmN : m < N
      · have h1 := sm_mem (f := fun j => ld' j + - ldP P N p j) (n := N) (i := m) (fun i _ => by have := g1 i; omega) hmN
        rw [sm_add2] at h1
        have a2 : sm (fun j => - ldP P N p j) N = - sm (ldP P N p) N := by
          have h9 := sm_add2 (ldP P N p) (fun j => - ldP P N p j) N
          have h8 : sm (fun j => ldP P N p j + - ldP P N p j) N = sm (fun _ => 0) N := sm_congr (fun j _ => by omega)
          rw [h8, sm_zero] at h9
          omega
        have h1 : ld' m + - ldP P N p m ≤ sm ld' N + sm (fun j => - ldP P N p j) N := h1
        omega
      · rw [g2 m (Or.inl (by omega))]
        omega
    · rw [if_neg hc]
      omega
theorem lds_bd {N : Nat} {P : Nat → Nat → Int} {Q : Nat → Int} (hp : pOK N P Q) (ht : tOK N P) (m : Nat) : 0 ≤ lds P N m ∧ lds P N m ≤ 6000000 := by
  have h1 := (ldP_bd hp ht (Nat.le_refl (12 * N))).1 m
  have h2 := ldP_ub hp ht (Nat.le_refl (12 * N)) m
  have hN := hp.1
  unfold lds
  omega
