/-! a load given to those below: st m: the area on m; s: the sum that is given -/
def g1F (st : Nat → Int) (s a : Int) (m : Nat) (x : (Nat → Int) × Int) : (Nat → Int) × Int := (fun j => if j = m then x.1 j + s * st m / a else x.1 j, x.2 - s * st m / a)
def g2F (st : Nat → Int) (m : Nat) (x : (Nat → Int) × Int) : (Nat → Int) × Int := if x.2 ≤ 0 then x else if st m = 0 then x else (fun j => if j = m then x.1 j + 1 else x.1 j, x.2 - 1)
def giv (st : Nat → Int) (N : Nat) (s : Int) (ld : Nat → Int) : Nat → Int := if sm st N = 0 then ld else (fo (g2F st) (fo (g1F st s (sm st N)) (ld, s) N) N).1
theorem sm_upd (f : Nat → Int) (m : Nat) (c : Int) : ∀ n, sm (fun j => if j = m then f j + c else f j) n = sm f n + (if m < n then c else 0)
  | 0 => by simp [sm]
  | n + 1 => by
    have ih := sm_upd f m c n
    show sm (fun j => if j = m then f j + c else f j) n + (if n = m then f n + c else f n) = sm f n + f n + (if m < n + 1 then c else 0)
    rw [ih]
    by_cases h1 : m < n
    · rw [if_pos h1, if_neg (by omega), if_pos (by omega)]; omega
    · by_cases h2 : n = m
      · rw [if_neg h1, if_pos h2, if_pos (by omega)]; omega
      · rw [if_neg h1, if_neg h2, if_neg (by omega)]; omega
theorem sm_nn {f : Nat → Int} : ∀ {n : Nat}, (∀ i, i < n → 0 ≤ f i) → 0 ≤ sm f n
  | 0, _ => Int.le_refl 0
  | n + 1, h => by
    have := sm_nn (f := f) (n := n) (fun i hi => h i (by omega))
    have := h n (by omega)
    show 0 ≤ sm f n + f n
    omega
theorem sm_le {f g : Nat → Int} : ∀ {n : Nat}, (∀ i, i < n → f i ≤ g i) → sm f n ≤ sm g n
  | 0, _ => Int.le_refl 0
  | n + 1, h => by
    have := sm_le (f := f) (g := g) (n := n) (fun i hi => h i (by omega))
    have := h n (by omega)
    show sm f n + f n ≤ sm g n + g n
    omega
theorem sm_add2 (f g : Nat → Int) : ∀ n, sm (fun j => f j + g j) n = sm f n + sm g n
  | 0 => rfl
  | n + 1 => by
    have := sm_add2 f g n
    show sm _ n + (f n + g n) = sm f n + f n + (sm g n + g n)
    omega
theorem sm_mem {f : Nat → Int} {n i : Nat} (h : ∀ i, i < n → 0 ≤ f i) (hi : i < n) : f i ≤ sm f n := by
  have h1 := sm_upd f i (- f i) n
  rw [if_pos hi] at h1
  have h2 : 0 ≤ sm (fun j => if j = i then f j + - f i else f j) n := sm_nn (fun j hj => by
    by_cases e : j = i
    · rw [if_pos e, e]; omega
    · rw [if_neg e]; exact h j hj)
  omega
theorem sm_floor {st : Nat → Int} {s a : Int} (ha : 0 < a) : ∀ n, sm (fun j => s * st j / a) n * a ≤ s * sm st n
  | 0 => by simp [sm]
  | n + 1 => by
    have ih := sm_floor (st := st) (s := s) ha n
    have h1 := Int.ediv_mul_le (s * st n) (b := a) (by omega)
    show (sm _ n + s * st n / a) * a ≤ s * (sm st n + st n)
    rw [Int.add_mul, Int.mul_add]
    omega
theorem g1_spec (st : Nat → Int) (s a : Int) (ld : Nat → Int) (n : Nat) : (∀ j, (fo (g1F st s a) (ld, s) n).1 j = ld j + (if j < n then s * st j / a else 0)) ∧ (fo (g1F st s a) (ld, s) n).2 = s - sm (fun j => s * st j / a) n := by
  refine fo_inv (fun m (x : (Nat → Int) × Int) => (∀ j, x.1 j = ld j + (if j < m then s * st j / a else 0)) ∧ x.2 = s - sm (fun j => s * st j / a) m) ⟨fun j => by simp, by simp [sm]⟩ (fun i x hi hx => ?_)
  obtain ⟨h1, h2⟩ := hx
  refine ⟨fun j => ?_, ?_⟩
  · show (if j = i then x.1 j + s * st i / a else x.1 j) = _
    rw [h1 j]
    by_cases e : j = i
    · rw [if_pos e, if_neg (by omega), if_pos (by omega), e]; omega
    · rw [if_neg e]
      by_cases e2 : j < i
      · rw [if_pos e2, if_pos (by omega)]
      · rw [if_neg e2, if_neg (by omega)]
  · show x.2 - s * st i / a = s - (sm (fun j => s * st j / a) i + s * st i / a)
    rw [h2]; omega
theorem g2_spec (st : Nat → Int) (x0 : (Nat → Int) × Int) (h0 : 0 ≤ x0.2) (N : Nat) {n : Nat} (hn : n ≤ N) : 0 ≤ (fo (g2F st) x0 n).2 ∧ (∀ j, x0.1 j ≤ (fo (g2F st) x0 n).1 j) ∧ (∀ j, (n ≤ j ∨ st j = 0) → (fo (g2F st) x0 n).1 j = x0.1 j) ∧ sm (fo (g2F st) x0 n).1 N + (fo (g2F st) x0 n).2 = sm x0.1 N + x0.2 := by
  refine fo_inv (fun m (x : (Nat → Int) × Int) => 0 ≤ x.2 ∧ (∀ j, x0.1 j ≤ x.1 j) ∧ (∀ j, (m ≤ j ∨ st j = 0) → x.1 j = x0.1 j) ∧ sm x.1 N + x.2 = sm x0.1 N + x0.2) ⟨h0, fun j => Int.le_refl _, fun j _ => rfl, rfl⟩ (fun i x hi hx => ?_)
  obtain ⟨h1, h2, h3, h4⟩ := hx
  unfold g2F
  by_cases e1 : x.2 ≤ 0
  · rw [if_pos e1]; exact ⟨h1, h2, fun j hj => h3 j (by omega), h4⟩
  · rw [if_neg e1]
    by_cases e2 : st i = 0
    · rw [if_pos e2]; exact ⟨h1, h2, fun j hj => h3 j (by omega), h4⟩
    · rw [if_neg e2]
      refine ⟨by show 0 ≤ x.2 - 1; omega, fun j => ?_, fun j hj => ?_, ?_⟩
      · show x0.1 j ≤ (if j = i then x.1 j + 1 else x.1 j)
        have := h2 j
        split <;> omega
      · show (if j = i then x.1 j + 1 else x.1 j) = _
        rw [if_neg (by rintro rfl; rcases hj with h | h; omega; exact e2 h)]
        exact h3 j (by omega)
      · show sm (fun j => if j = i then x.1 j + 1 else x.1 j) N + (x.2 - 1) = _
        rw [sm_upd, if_pos (by omega)]
        omega
/-- what is given goes to those below, and is no more than s -/
theorem giv_spec {st : Nat → Int} {N : Nat} {s : Int} {ld : Nat → Int} (hst : ∀ m, m < N → 0 ≤ st m) (hs : 0 ≤ s) :
    (∀ j, ld j ≤ giv st N s ld j) ∧ (∀ j, (N ≤ j ∨ st j = 0) → giv st N s ld j = ld j) ∧ sm (giv st N s ld) N ≤ sm ld N + s := by
  unfold giv
  by_cases h0 : sm st N = 0
  · rw [if_pos h0]; exact ⟨fun j => Int.le_refl _, fun j _ => rfl, by omega⟩
  · rw [if_neg h0]
    have ha : 0 < sm st N := by have := sm_nn hst; omega
    obtain ⟨a1, a2⟩ := g1_spec st s (sm st N) ld N
    have hfl := sm_floor (st := st) (s := s) ha N
    have hfl2 : sm (fun j => s * st j / sm st N) N ≤ s := Int.le_of_mul_le_mul_right hfl ha
    obtain ⟨b1, b2, b3, b4⟩ := g2_spec st (fo (g1F st s (sm st N)) (ld, s) N) (by rw [a2]; omega) N (Nat.le_refl N)
    refine ⟨fun j => ?_, fun j hj => ?_, ?_⟩
    · have h1 := b2 j
      rw [a1 j] at h1
      have h2 : 0 ≤ (if j < N then s * st j / sm st N else 0) := by
        split
        · rename_i hj; exact Int.ediv_nonneg (Int.mul_nonneg hs (hst j hj)) (by omega)
        · omega
      omega
    · rw [b3 j hj, a1 j]
      rcases hj with hj | hj
      · rw [if_neg (by omega)]; omega
      · rw [hj, Int.mul_zero, Int.zero_ediv]; split <;> omega
    · rw [a2] at b4
      have h5 : sm (fo (g1F st s (sm st N)) (ld, s) N).1 N = sm ld N + sm (fun j => s * st j / sm st N) N := by
        rw [← sm_add2]
        exact sm_congr (fun j hj => by rw [a1 j, if_pos hj])
      omega
