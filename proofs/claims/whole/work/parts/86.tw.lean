/-! CUTS, purely: a block's sizes are v: 0 length, 1 width, 2 height -/
def vu (v : Nat → Nat) (e k : Nat) : Nat → Nat := fun i => if i = e then k else v i
def vOK (v : Nat → Nat) : Prop := (1 ≤ v 0 ∧ v 0 ≤ 16) ∧ (1 ≤ v 1 ∧ v 1 ≤ 16) ∧ (1 ≤ v 2 ∧ v 2 ≤ 16) ∧ ∀ i, 3 ≤ i → v i = 0
def vP (v : Nat → Nat) : Prop := 1 ≤ v 0 ∧ 1 ≤ v 1 ∧ 1 ≤ v 2
def sm3 (v : Nat → Nat) : Nat := v 0 + v 1 + v 2
def vol3 (v : Nat → Nat) : Nat := v 0 * v 1 * v 2
theorem vu_s (v : Nat → Nat) (e k : Nat) : vu v e k e = k := if_pos rfl
theorem vu_o (v : Nat → Nat) {e k i : Nat} (h : i ≠ e) : vu v e k i = v i := if_neg h
theorem e3 {e : Nat} (h : e < 3) : e = 0 ∨ e = 1 ∨ e = 2 := by omega
theorem vOK_P {v : Nat → Nat} (h : vOK v) : vP v := ⟨h.1.1, h.2.1.1, h.2.2.1.1⟩
theorem vOK_e {v : Nat → Nat} (h : vOK v) {e : Nat} (he : e < 3) : 1 ≤ v e ∧ v e ≤ 16 := by
  rcases e3 he with rfl | rfl | rfl
  · exact h.1
  · exact h.2.1
  · exact h.2.2.1
theorem vP_e {v : Nat → Nat} (h : vP v) {e : Nat} (he : e < 3) : 1 ≤ v e := by
  rcases e3 he with rfl | rfl | rfl
  · exact h.1
  · exact h.2.1
  · exact h.2.2
theorem vP_u {v : Nat → Nat} (h : vP v) {e k : Nat} (he : e < 3) (hk : 1 ≤ k) : vP (vu v e k) := by
  unfold vP vu at *
  rcases e3 he with rfl | rfl | rfl <;> simp <;> omega
theorem vOK_u {v : Nat → Nat} (h : vOK v) {e k : Nat} (he : e < 3) (hk : 1 ≤ k) (hk2 : k ≤ 16) : vOK (vu v e k) := by
  obtain ⟨h0, h1, h2, h3⟩ := h
  refine ⟨?_, ?_, ?_, fun i hi => by rw [vu_o v (by omega)]; exact h3 i hi⟩
  all_goals
    unfold vu
    split <;> omega
theorem sm3_u (v : Nat → Nat) {e k : Nat} (he : e < 3) : sm3 (vu v e k) + v e = sm3 v + k := by
  unfold sm3 vu
  rcases e3 he with rfl | rfl | rfl <;> simp <;> omega
theorem vol3_u (v : Nat → Nat) {e k : Nat} (he : e < 3) (hk : k ≤ v e) : vol3 (vu v e k) + vol3 (vu v e (v e - k)) = vol3 v := by
  rcases e3 he with rfl | rfl | rfl
  · show k * v 1 * v 2 + (v 0 - k) * v 1 * v 2 = v 0 * v 1 * v 2
    rw [← Nat.add_mul, ← Nat.add_mul, Nat.add_sub_cancel' hk]
  · show v 0 * k * v 2 + v 0 * (v 1 - k) * v 2 = v 0 * v 1 * v 2
    rw [← Nat.add_mul, ← Nat.mul_add, Nat.add_sub_cancel' hk]
  · show v 0 * v 1 * k + v 0 * v 1 * (v 2 - k) = v 0 * v 1 * v 2
    rw [← Nat.mul_add, Nat.add_sub_cancel' hk]
theorem vol3_pos {v : Nat → Nat} (h : vP v) : 1 ≤ vol3 v := Nat.mul_pos (Nat.mul_pos h.1 h.2.1) h.2.2
theorem vol3_le {v : Nat → Nat} (h : vOK v) : vol3 v ≤ 4096 := by
  have h1 : v 0 * v 1 ≤ 16 * 16 := Nat.mul_le_mul h.1.2 h.2.1.2
  exact Nat.mul_le_mul h1 h.2.2.1.2
theorem v_ext {v u : Nat → Nat} (h : vOK v) (g : vOK u) (e0 : v 0 = u 0) (e1 : v 1 = u 1) (e2 : v 2 = u 2) : v = u := by
  funext i
  match i with
  | 0 => exact e0
  | 1 => exact e1
  | 2 => exact e2
  | i + 3 => rw [h.2.2.2 _ (by omega), g.2.2.2 _ (by omega)]
theorem vu_vu (v : Nat → Nat) (e k j : Nat) : vu (vu v e k) e j = vu v e j := by
  funext i
  unfold vu
  split <;> rfl
theorem vu_self (v : Nat → Nat) (e : Nat) : vu v e (v e) = v := by
  funext i
  unfold vu
  split
  · rename_i h; rw [h]
  · rfl
def mxi (a c : Int) : Int := if a ≤ c then c else a
theorem mxi_spec (a c : Int) : a ≤ mxi a c ∧ c ≤ mxi a c ∧ (mxi a c = a ∨ mxi a c = c) := by
  unfold mxi
  split <;> omega
def mxf (g : Nat → Int) (a : Int) (n : Nat) : Int := fo (fun i x => mxi x (g i)) a n
theorem mxf_s (g : Nat → Int) (a : Int) (n : Nat) : mxf g a (n + 1) = mxi (mxf g a n) (g n) := rfl
theorem mxf_spec (g : Nat → Int) (a : Int) : ∀ n, a ≤ mxf g a n ∧ (∀ i, i < n → g i ≤ mxf g a n) ∧ (mxf g a n = a ∨ ∃ i, i < n ∧ mxf g a n = g i)
  | 0 => ⟨Int.le_refl a, fun i hi => absurd hi (by omega), Or.inl rfl⟩
  | n + 1 => by
    obtain ⟨h1, h2, h3⟩ := mxf_spec g a n
    obtain ⟨k1, k2, k3⟩ := mxi_spec (mxf g a n) (g n)
    rw [mxf_s]
    refine ⟨by omega, fun i hi => ?_, ?_⟩
    · by_cases e : i = n
      · rw [e]; exact k2
      · have := h2 i (by omega); omega
    · rcases k3 with k3 | k3
      · rcases h3 with h3 | ⟨i, hi, h3⟩
        · exact Or.inl (by omega)
        · exact Or.inr ⟨i, by omega, by omega⟩
      · exact Or.inr ⟨n, by omega, k3⟩
theorem mxf_cg {g g' : Nat → Int} {a : Int} : ∀ {n : Nat}, (∀ i, i < n → g i = g' i) → mxf g a n = mxf g' a n
  | 0, _ => rfl
  | n + 1, h => by rw [mxf_s, mxf_s, mxf_cg (fun i hi => h i (by omega)), h n (by omega)]
abbrev fitV (P : Nat → Nat → Int) (n : Nat) (v : Nat → Nat) : Prop := P 2 n = (v 2 : Int) ∧ ((P 0 n = (v 0 : Int) ∧ P 1 n = (v 1 : Int)) ∨ (P 6 n ≠ 0 ∧ P 1 n = (v 0 : Int) ∧ P 0 n = (v 1 : Int)))
def bvF (P : Nat → Nat → Int) (v : Nat → Nat) (n : Nat) (a : Int) : Int := if P 7 n ≤ a then a else if fitV P n v then P 7 n else a
def bvV (P : Nat → Nat → Int) (N : Nat) (v : Nat → Nat) : Int := fo (bvF P v) 0 N
def ctv (T : (Nat → Nat) → Int) (v : Nat → Nat) (e k : Nat) : Int := T (vu v e k) + T (vu v e (v e - k))
def cutF (T : (Nat → Nat) → Int) (v : Nat → Nat) (e : Nat) (a : Int) : Int := mxf (fun i => ctv T v e (i + 1)) a (v e - 1)
def halfF (T : (Nat → Nat) → Int) (v : Nat → Nat) (e : Nat) (a : Int) : Int := mxf (fun i => ctv T v e (i + 1)) a (v e / 2)
def mwf (P : Nat → Nat → Int) (N : Nat) : Nat → (Nat → Nat) → Int
  | 0 => fun _ => 0
  | f + 1 => fun v => cutF (mwf P N f) v 2 (cutF (mwf P N f) v 1 (cutF (mwf P N f) v 0 (bvV P N v)))
def Tw (P : Nat → Nat → Int) (N : Nat) (v : Nat → Nat) : Int := mwf P N (sm3 v) v
theorem cutF_cg {T T' : (Nat → Nat) → Int} {v : Nat → Nat} {e : Nat} {a : Int} (h : ∀ k, 1 ≤ k → k < v e → T (vu v e k) = T' (vu v e k)) : cutF T v e a = cutF T' v e a := mxf_cg (fun i hi => by
  unfold ctv
  rw [h (i + 1) (by omega) (by omega), h (v e - (i + 1)) (by omega) (by omega)])
section TWS
variable {P : Nat → Nat → Int} {N : Nat} {v : Nat → Nat}
theorem mwf_st : ∀ (f f' : Nat) (v : Nat → Nat), vP v → sm3 v ≤ f → sm3 v ≤ f' → mwf P N f v = mwf P N f' v := by
  intro f
  induction f with
  | zero =>
    intro f' v hv h1 h2
    unfold vP at hv
    unfold sm3 at h1
    omega
  | succ f ih =>
    intro f' v hv h1 h2
    have h3 : 3 ≤ sm3 v := by unfold vP at hv; unfold sm3; omega
    obtain ⟨g, rfl⟩ : ∃ g, f' = g + 1 := ⟨f' - 1, by omega⟩
    have key : ∀ e, e < 3 → ∀ k, 1 ≤ k → k < v e → mwf P N f (vu v e k) = mwf P N g (vu v e k) := fun e he k hk hk2 => by
      have := sm3_u v (k := k) he
      exact ih g (vu v e k) (vP_u hv he hk) (by omega) (by omega)
    show cutF (mwf P N f) v 2 (cutF (mwf P N f) v 1 (cutF (mwf P N f) v 0 (bvV P N v))) = cutF (mwf P N g) v 2 (cutF (mwf P N g) v 1 (cutF (mwf P N g) v 0 (bvV P N v)))
    rw [cutF_cg (key 2 (by decide)), cutF_cg (key 1 (by decide)), cutF_cg (key 0 (by decide))]
theorem Tw_eq (hv : vP v) : Tw P N v = cutF (Tw P N) v 2 (cutF (Tw P N) v 1 (cutF (Tw P N) v 0 (bvV P N v))) := by
  have h3 : 3 ≤ sm3 v := by unfold vP at hv; unfold sm3; omega
  obtain ⟨g, hg⟩ : ∃ g, sm3 v = g + 1 := ⟨sm3 v - 1, by omega⟩
  have key : ∀ e, e < 3 → ∀ k, 1 ≤ k → k < v e → mwf P N g (vu v e k) = Tw P N (vu v e k) := fun e he k hk hk2 => by
    have := sm3_u v (k := k) he
    exact mwf_st g _ (vu v e k) (vP_u hv he hk) (by omega) (Nat.le_refl _)
  show mwf P N (sm3 v) v = _
  rw [hg]
  show cutF (mwf P N g) v 2 (cutF (mwf P N g) v 1 (cutF (mwf P N g) v 0 (bvV P N v))) = _
  rw [cutF_cg (key 2 (by decide)), cutF_cg (key 1 (by decide)), cutF_cg (key 0 (by decide))]
theorem ctv_sym (T : (Nat → Nat) → Int) (v : Nat → Nat) {e k : Nat} (h : k ≤ v e) : ctv T v e (v e - k) = ctv T v e k := by
  unfold ctv
  rw [show v e - (v e - k) = k by omega, Int.add_comm]
/-- what the most worth is -/
theorem Tw_spec (hv : vP v) : bvV P N v ≤ Tw P N v ∧ (∀ e, e < 3 → ∀ k, 1 ≤ k → k < v e → ctv (Tw P N) v e k ≤ Tw P N v) ∧ (Tw P N v = bvV P N v ∨ ∃ e k, e < 3 ∧ 1 ≤ k ∧ k < v e ∧ Tw P N v = ctv (Tw P N) v e k) := by
  have e0 := Tw_eq (P := P) (N := N) hv
  obtain ⟨a1, a2, a3⟩ := mxf_spec (fun i => ctv (Tw P N) v 0 (i + 1)) (bvV P N v) (v 0 - 1)
  obtain ⟨b1, b2, b3⟩ := mxf_spec (fun i => ctv (Tw P N) v 1 (i + 1)) (cutF (Tw P N) v 0 (bvV P N v)) (v 1 - 1)
  obtain ⟨c1, c2, c3⟩ := mxf_spec (fun i => ctv (Tw P N) v 2 (i + 1)) (cutF (Tw P N) v 1 (cutF (Tw P N) v 0 (bvV P N v))) (v 2 - 1)
  have f0 : cutF (Tw P N) v 0 (bvV P N v) = mxf (fun i => ctv (Tw P N) v 0 (i + 1)) (bvV P N v) (v 0 - 1) := rfl
  have f1 : cutF (Tw P N) v 1 (cutF (Tw P N) v 0 (bvV P N v)) = mxf (fun i => ctv (Tw P N) v 1 (i + 1)) (cutF (Tw P N) v 0 (bvV P N v)) (v 1 - 1) := rfl
  have f2 : Tw P N v = mxf (fun i => ctv (Tw P N) v 2 (i + 1)) (cutF (Tw P N) v 1 (cutF (Tw P N) v 0 (bvV P N v))) (v 2 - 1) := e0
  rw [← f0] at a1 a2 a3
  rw [← f1] at b1 b2 b3
  rw [← f2] at c1 c2 c3
  refine ⟨by omega, fun e he k hk hk2 => ?_, ?_⟩
  · rcases e3 he with rfl | rfl | rfl
    · have := a2 (k - 1) (by omega)
      simp only [Nat.sub_add_cancel hk] at this
      omega
    · have := b2 (k - 1) (by omega)
      simp only [Nat.sub_add_cancel hk] at this
      omega
    · have := c2 (k - 1) (by omega)
      simp only [Nat.sub_add_cancel hk] at this
      omega
  · rcases c3 with c3 | ⟨i, hi, c3⟩
    · rcases b3 with b3 | ⟨i, hi, b3⟩
      · rcases a3 with a3 | ⟨i, hi, a3⟩
        · exact Or.inl (by omega)
        · exact Or.inr ⟨0, i + 1, by omega, by omega, by omega, by omega⟩
      · exact Or.inr ⟨1, i + 1, by omega, by omega, by omega, by omega⟩
    · exact Or.inr ⟨2, i + 1, by omega, by omega, by omega, c3⟩
theorem bv_nn (P : Nat → Nat → Int) (v : Nat → Nat) : ∀ n, 0 ≤ fo (bvF P v) 0 n
  | 0 => Int.le_refl 0
  | n + 1 => by
    have ih := bv_nn P v n
    show 0 ≤ bvF P v n (fo (bvF P v) 0 n)
    generalize fo (bvF P v) 0 n = a at ih ⊢
    unfold bvF
    split
    · exact ih
    · split <;> omega
/-- with cuts up to the half alone -/
theorem Tw_half (hv : vP v) : mxi (halfF (Tw P N) v 2 (halfF (Tw P N) v 1 (halfF (Tw P N) v 0 0))) (bvV P N v) = Tw P N v := by
  obtain ⟨s1, s2, s3⟩ := Tw_spec (P := P) (N := N) hv
  have hb : 0 ≤ bvV P N v := bv_nn P v N
  obtain ⟨a1, a2, a3⟩ := mxf_spec (fun i => ctv (Tw P N) v 0 (i + 1)) 0 (v 0 / 2)
  obtain ⟨b1, b2, b3⟩ := mxf_spec (fun i => ctv (Tw P N) v 1 (i + 1)) (halfF (Tw P N) v 0 0) (v 1 / 2)
  obtain ⟨c1, c2, c3⟩ := mxf_spec (fun i => ctv (Tw P N) v 2 (i + 1)) (halfF (Tw P N) v 1 (halfF (Tw P N) v 0 0)) (v 2 / 2)
  have f0 : halfF (Tw P N) v 0 0 = mxf (fun i => ctv (Tw P N) v 0 (i + 1)) 0 (v 0 / 2) := rfl
  have f1 : halfF (Tw P N) v 1 (halfF (Tw P N) v 0 0) = mxf (fun i => ctv (Tw P N) v 1 (i + 1)) (halfF (Tw P N) v 0 0) (v 1 / 2) := rfl
  have f2 : halfF (Tw P N) v 2 (halfF (Tw P N) v 1 (halfF (Tw P N) v 0 0)) = mxf (fun i => ctv (Tw P N) v 2 (i + 1)) (halfF (Tw P N) v 1 (halfF (Tw P N) v 0 0)) (v 2 / 2) := rfl
  rw [← f0] at a1 a2 a3
  rw [← f1] at b1 b2 b3
  rw [← f2] at c1 c2 c3
  generalize halfF (Tw P N) v 2 (halfF (Tw P N) v 1 (halfF (Tw P N) v 0 0)) = C at *
  generalize halfF (Tw P N) v 1 (halfF (Tw P N) v 0 0) = B at *
  generalize halfF (Tw P N) v 0 0 = A at *
  obtain ⟨m1, m2, m3⟩ := mxi_spec C (bvV P N v)
  have all : ∀ e, e < 3 → ∀ k, 1 ≤ k → k < v e → ctv (Tw P N) v e k ≤ C := by
    have half : ∀ e, e < 3 → ∀ k, 1 ≤ k → 2 * k ≤ v e → ctv (Tw P N) v e k ≤ C := fun e he k hk hk2 => by
      rcases e3 he with rfl | rfl | rfl
      · have := a2 (k - 1) (by omega)
        simp only [Nat.sub_add_cancel hk] at this
        omega
      · have := b2 (k - 1) (by omega)
        simp only [Nat.sub_add_cancel hk] at this
        omega
      · have := c2 (k - 1) (by omega)
        simp only [Nat.sub_add_cancel hk] at this
        omega
    intro e he k hk hk2
    by_cases c : 2 * k ≤ v e
    · exact half e he k hk c
    · rw [← ctv_sym (Tw P N) v (show k ≤ v e by omega)]
      exact half e he (v e - k) (by omega) (by omega)
  have up : C ≤ Tw P N v := by
    rcases c3 with c3 | ⟨i, hi, c3⟩
    · rcases b3 with b3 | ⟨i, hi, b3⟩
      · rcases a3 with a3 | ⟨i, hi, a3⟩
        · omega
        · have := s2 0 (by omega) (i + 1) (by omega) (by omega)
          omega
      · have := s2 1 (by omega) (i + 1) (by omega) (by omega)
        omega
    · have := s2 2 (by omega) (i + 1) (by omega) (by omega)
      omega
  rcases s3 with s3 | ⟨e, k, he, hk, hk2, s3⟩
  · omega
  · have := all e he k hk hk2
    omega
theorem bv_ub (hP : ∀ n, n < N → P 7 n ≤ 1000) : ∀ n, n ≤ N → fo (bvF P v) 0 n ≤ 1000
  | 0, _ => by show (0 : Int) ≤ 1000; decide
  | n + 1, hn => by
    have ih := bv_ub hP n (by omega)
    have h7 := hP n (by omega)
    show bvF P v n (fo (bvF P v) 0 n) ≤ 1000
    generalize fo (bvF P v) 0 n = a at ih ⊢
    unfold bvF
    split
    · exact ih
    · split <;> omega
theorem Tw_nn (hv : vP v) : 0 ≤ Tw P N v := Int.le_trans (bv_nn P v N) (Tw_spec hv).1
theorem Tw_vol (hP : ∀ n, n < N → P 7 n ≤ 1000) : ∀ (s : Nat) (v : Nat → Nat), sm3 v = s → vP v → Tw P N v ≤ 1000 * (vol3 v : Int) := by
  intro s
  induction s using Nat.strongRecOn with
  | _ s ih =>
    intro v hs hv
    have hp := vol3_pos hv
    rcases (Tw_spec (P := P) (N := N) hv).2.2 with h | ⟨e, k, he, hk, hk2, h⟩
    · have h9 : bvV P N v ≤ 1000 := bv_ub hP N (Nat.le_refl N)
      omega
    · have u1 := sm3_u v (k := k) he
      have u2 := sm3_u v (k := v e - k) he
      have t1 := ih (sm3 (vu v e k)) (by omega) _ rfl (vP_u hv he hk)
      have t2 := ih (sm3 (vu v e (v e - k))) (by omega) _ rfl (vP_u hv he (by omega))
      have hv9 := vol3_u v he (Nat.le_of_lt hk2)
      unfold ctv at h
      omega
theorem Tw_bd (hP : ∀ n, n < N → P 7 n ≤ 1000) (hv : vOK v) : 0 ≤ Tw P N v ∧ Tw P N v ≤ 4096000 := by
  have h1 := Tw_vol hP (sm3 v) v rfl (vOK_P hv)
  have h2 := vol3_le hv
  exact ⟨Tw_nn (vOK_P hv), by omega⟩
theorem bv_bd (hP : ∀ n, n < N → P 7 n ≤ 1000) : 0 ≤ bvV P N v ∧ bvV P N v ≤ 1000 := ⟨bv_nn P v N, bv_ub hP N (Nat.le_refl N)⟩
theorem bv_at : ∀ n, fo (bvF P v) 0 n = 0 ∨ ∃ i, i < n ∧ fitV P i v ∧ P 7 i = fo (bvF P v) 0 n
  | 0 => Or.inl rfl
  | n + 1 => by
    have ih := bv_at n
    show bvF P v n (fo (bvF P v) 0 n) = 0 ∨ ∃ i, i < n + 1 ∧ fitV P i v ∧ P 7 i = bvF P v n (fo (bvF P v) 0 n)
    generalize fo (bvF P v) 0 n = a at ih ⊢
    have old : bvF P v n (a) = a → bvF P v n (a) = 0 ∨ ∃ i, i < n + 1 ∧ fitV P i v ∧ P 7 i = bvF P v n (a) := fun e => by
      rw [e]
      exact ih.imp id (fun ⟨i, hi, h⟩ => ⟨i, by omega, h⟩)
    by_cases c1 : P 7 n ≤ a
    · exact old (if_pos c1)
    · by_cases c2 : fitV P n v
      · have e : bvF P v n (a) = P 7 n := by unfold bvF; rw [if_neg c1, if_pos c2]
        exact Or.inr ⟨n, by omega, c2, e.symm⟩
      · exact old (by unfold bvF; rw [if_neg c1, if_neg c2])
/-- the first one -/
theorem ff_spec (p : Nat → Prop) [DecidablePred p] : ∀ m i, (ff p m i = -1 ∧ ∀ j, i ≤ j → j < i + m → ¬ p j) ∨ ∃ j : Nat, ff p m i = j ∧ i ≤ j ∧ j < i + m ∧ p j ∧ ∀ j', i ≤ j' → j' < j → ¬ p j'
  | 0, i => Or.inl ⟨rfl, fun j h1 h2 => absurd h2 (by omega)⟩
  | m + 1, i => by
    by_cases c : p i
    · exact Or.inr ⟨i, if_pos c, Nat.le_refl i, by omega, c, fun j' h1 h2 => absurd h2 (by omega)⟩
    · have e : ff p (m + 1) i = ff p m (i + 1) := if_neg c
      rw [e]
      have no : ∀ j', i ≤ j' → (i + 1 ≤ j' → ¬ p j') → ¬ p j' := fun j' h1 h2 => by
        by_cases e : j' = i
        · rw [e]; exact c
        · exact h2 (by omega)
      rcases ff_spec p m (i + 1) with ⟨h1, h2⟩ | ⟨j, h1, h2, h3, h4, h5⟩
      · exact Or.inl ⟨h1, fun j a1 a2 => no j a1 (fun a => h2 j a (by omega))⟩
      · exact Or.inr ⟨j, h1, by omega, by omega, h4, fun j' a1 a2 => no j' a1 (fun a => h5 j' a a2)⟩
def fcK (P : Nat → Nat → Int) (N : Nat) (v : Nat → Nat) (e : Nat) : Int := ff (fun k => ctv (Tw P N) v e k = Tw P N v) (v e - 1) 1
def fcE (P : Nat → Nat → Int) (N : Nat) (v : Nat → Nat) : Nat × Nat := if 0 ≤ fcK P N v 0 then (0, (fcK P N v 0).toNat) else if 0 ≤ fcK P N v 1 then (1, (fcK P N v 1).toNat) else (2, (fcK P N v 2).toNat)
def fbx (P : Nat → Nat → Int) (N : Nat) (v : Nat → Nat) : Int := ff (fun n => P 7 n = Tw P N v ∧ fitV P n v) N 0
def tnd (P : Nat → Nat → Int) (n : Nat) (v : Nat → Nat) : Nat := if P 2 n = (v 2 : Int) ∧ P 0 n = (v 0 : Int) ∧ P 1 n = (v 1 : Int) then 0 else 1
abbrev Pce : Type := Nat × Nat × (Nat → Nat)
/-- the pieces of a block that stands at o -/
def patF (P : Nat → Nat → Int) (N : Nat) : Nat → (Nat → Nat) → (Nat → Nat) → List Pce
  | 0 => fun _ _ => []
  | f + 1 => fun v o => if Tw P N v = 0 then [] else if 0 ≤ fbx P N v then [((fbx P N v).toNat, tnd P (fbx P N v).toNat v, o)] else patF P N f (vu v (fcE P N v).1 (fcE P N v).2) o ++ patF P N f (vu v (fcE P N v).1 (v (fcE P N v).1 - (fcE P N v).2)) (vu o (fcE P N v).1 (o (fcE P N v).1 + (fcE P N v).2))
/-- a cut is first: none ahead of it -/
def isFC (P : Nat → Nat → Int) (N : Nat) (v : Nat → Nat) (e k : Nat) : Prop := e < 3 ∧ 1 ≤ k ∧ 2 * k ≤ v e ∧ ctv (Tw P N) v e k = Tw P N v ∧ (∀ j, 1 ≤ j → j < k → ctv (Tw P N) v e j ≠ Tw P N v) ∧ ∀ e', e' < e → ∀ j, 1 ≤ j → j < v e' → ctv (Tw P N) v e' j ≠ Tw P N v
theorem fcE_spec (hv : vP v) (h0 : Tw P N v ≠ 0) (hb : ¬ 0 ≤ fbx P N v) : isFC P N v (fcE P N v).1 (fcE P N v).2 := by
  have hex : ∃ e k, e < 3 ∧ 1 ≤ k ∧ k < v e ∧ Tw P N v = ctv (Tw P N) v e k := by
    rcases (Tw_spec (P := P) (N := N) hv).2.2 with h | h
    · exfalso
      rcases bv_at (P := P) (v := v) N with h1 | ⟨i, hi, h2, h3⟩
      · exact h0 (h.trans h1)
      · rcases ff_spec (fun n => P 7 n = Tw P N v ∧ fitV P n v) N 0 with ⟨a1, a2⟩ | ⟨j, a1, a2⟩
        · exact a2 i (by omega) (by omega) ⟨by rw [h3]; exact h.symm, h2⟩
        · have : fbx P N v = j := a1
          omega
    · exact h
  have hk : ∀ e, (fcK P N v e = -1 ∧ ∀ j, 1 ≤ j → j < v e → ctv (Tw P N) v e j ≠ Tw P N v) ∨ ∃ k : Nat, fcK P N v e = k ∧ 1 ≤ k ∧ 2 * k ≤ v e ∧ ctv (Tw P N) v e k = Tw P N v ∧ ∀ j, 1 ≤ j → j < k → ctv (Tw P N) v e j ≠ Tw P N v := fun e => by
    rcases ff_spec (fun k => ctv (Tw P N) v e k = Tw P N v) (v e - 1) 1 with ⟨a1, a2⟩ | ⟨k, a1, a2, a3, a4, a5⟩
    · exact Or.inl ⟨a1, fun j h1 h2 => a2 j h1 (by omega)⟩
    · refine Or.inr ⟨k, a1, a2, ?_, a4, a5⟩
      by_cases c : 2 * k ≤ v e
      · exact c
      · exfalso
        refine a5 (v e - k) (by omega) (by omega) ?_
        rw [ctv_sym (Tw P N) v (by omega)]
        exact a4
  unfold fcE
  rcases hk 0 with ⟨a1, a2⟩ | ⟨k, a1, a2, a3, a4, a5⟩
  · rw [if_neg (by omega)]
    rcases hk 1 with ⟨b1, b2⟩ | ⟨k, b1, b2, b3, b4, b5⟩
    · rw [if_neg (by omega)]
      rcases hk 2 with ⟨c1, c2⟩ | ⟨k, c1, c2, c3, c4, c5⟩
      · exfalso
        obtain ⟨e, k, he, h1, h2, h3⟩ := hex
        rcases e3 he with rfl | rfl | rfl
        · exact a2 k h1 h2 h3.symm
        · exact b2 k h1 h2 h3.symm
        · exact c2 k h1 h2 h3.symm
      · rw [c1]
        refine ⟨by show 2 < 3; decide, c2, c3, c4, c5, fun e' he' => ?_⟩
        have he2 : e' = 0 ∨ e' = 1 := by have : e' < 2 := he'; omega
        rcases he2 with rfl | rfl
        · exact a2
        · exact b2
    · rw [b1, if_pos (by omega)]
      refine ⟨by show 1 < 3; decide, b2, b3, b4, b5, fun e' he' => ?_⟩
      have he2 : e' = 0 := by have : e' < 1 := he'; omega
      subst he2
      exact a2
  · rw [a1, if_pos (by omega)]
    exact ⟨by show 0 < 3; decide, a2, a3, a4, a5, fun e' he' => absurd he' (by show ¬ e' < 0; omega)⟩
theorem isFC_uniq {e k e' k' : Nat} (h : isFC P N v e k) (g : isFC P N v e' k') : e = e' ∧ k = k' := by
  obtain ⟨a1, a2, a3, a4, a5, a6⟩ := h
  obtain ⟨b1, b2, b3, b4, b5, b6⟩ := g
  have he : e = e' := by
    by_cases c : e < e'
    · exact absurd a4 (b6 e c k a2 (by omega))
    · by_cases c2 : e' < e
      · exact absurd b4 (a6 e' c2 k' b2 (by omega))
      · omega
  subst he
  refine ⟨rfl, ?_⟩
  by_cases c : k < k'
  · exact absurd a4 (b5 k a2 c)
  · by_cases c2 : k' < k
    · exact absurd b4 (a5 k' b2 c2)
    · omega
theorem pat_len : ∀ (f : Nat) (v o : Nat → Nat), vP v → (patF P N f v o).length ≤ vol3 v
  | 0, _, _, _ => Nat.zero_le _
  | f + 1, v, o, hv => by
    show (if Tw P N v = 0 then [] else _ : List Pce).length ≤ _
    by_cases c0 : Tw P N v = 0
    · rw [if_pos c0]; exact Nat.zero_le _
    · rw [if_neg c0]
      by_cases c1 : 0 ≤ fbx P N v
      · rw [if_pos c1]; exact vol3_pos hv
      · rw [if_neg c1, List.length_append]
        obtain ⟨a1, a2, a3, -⟩ := fcE_spec hv c0 c1
        generalize (fcE P N v).1 = e at *
        generalize (fcE P N v).2 = k at *
        have h1 := pat_len f (vu v e k) o (vP_u hv a1 a2)
        have h2 := pat_len f (vu v e (v e - k)) (vu o e (o e + k)) (vP_u hv a1 (by omega))
        have h3 := vol3_u v a1 (show k ≤ v e by omega)
        omega
end TWS
