/-! BEST: the reference lists, unsets, tries all orders -/
def pkL (os : List Nat) : Nat := os.foldl (fun a c => 32 * a + c) 0
theorem pkL_s (os : List Nat) (c : Nat) : pkL (os ++ [c]) = 32 * pkL os + c := by unfold pkL; rw [List.foldl_append]; rfl
theorem pkL_f : ∀ (os : List Nat) (a : Nat), os.foldl (fun a c => 32 * a + c) a = a * 32 ^ os.length + pkL os
  | [], a => by show a = a * 1 + 0; omega
  | c :: os, a => by
    show os.foldl (fun a c => 32 * a + c) (32 * a + c) = a * 32 ^ (os.length + 1) + os.foldl (fun a c => 32 * a + c) (32 * 0 + c)
    rw [pkL_f os (32 * a + c), pkL_f os (32 * 0 + c), Nat.pow_succ, Nat.add_mul, Nat.mul_comm (32 ^ os.length) 32, Nat.mul_comm 32 a, Nat.mul_assoc, Nat.mul_zero, Nat.zero_add]
    omega
theorem pkL_lt : ∀ (os : List Nat), (∀ c, c ∈ os → c < 32) → pkL os < 32 ^ os.length
  | [], _ => by show 0 < 1; omega
  | c :: os, h => by
    have ih := pkL_lt os (fun a ha => h a (List.mem_cons_of_mem _ ha))
    have hc := h c List.mem_cons_self
    show os.foldl (fun a c => 32 * a + c) (32 * 0 + c) < 32 ^ (os.length + 1)
    rw [pkL_f os, Nat.pow_succ, Nat.mul_zero, Nat.zero_add, Nat.mul_comm _ 32]
    have h9 : c * 32 ^ os.length ≤ 31 * 32 ^ os.length := Nat.mul_le_mul_right _ (by omega)
    generalize 32 ^ os.length = w at ih h9 ⊢
    omega
theorem pkL_d (pre post : List Nat) (c : Nat) (hc : c < 32) (h : ∀ c, c ∈ post → c < 32) : pkL (pre ++ c :: post) / 32 ^ post.length % 32 = c := by
  have e : pkL (pre ++ c :: post) = (32 * pkL pre + c) * 32 ^ post.length + pkL post := by
    rw [show pre ++ c :: post = (pre ++ [c]) ++ post by simp, ← pkL_s]
    show ((pre ++ [c]) ++ post).foldl _ 0 = _
    rw [List.foldl_append]
    exact pkL_f post _
  have h1 := pkL_lt post h
  rw [e, Nat.mul_comm, Nat.mul_add_div (Nat.pos_of_ne_zero (by omega)), Nat.div_eq_of_lt h1]
  omega
theorem p32 {k : Nat} (h : k ≤ 5) : 32 ^ k ≤ 2 ^ 25 := Nat.le_trans (Nat.pow_le_pow_right (by decide) h) (by decide)
theorem z5 : (5 : Int32) = zi 5 := rfl
theorem z32 : (32 : Int32) = zi 32 := rfl
theorem mk_and31 {M : Nat} (hM : M < 2 ^ 32) : zi M &&& 31 = zi ((M % 32 : Nat) : Int) := pk_andN hM 5 rfl
/-- a number of the row -/
theorem dgt {os : List Nat} {k : Nat} (hk : k ≤ 5) (h : pkL os < 2 ^ 25) : (zi (pkL os : Int) >>> ((5 * zi (k : Int)) &&& 31 : Int32) : Int32) &&& 31 = zi ((pkL os / 32 ^ k % 32 : Nat) : Int) := by
  have e : (5 : Int32) * zi (k : Int) = zi ((5 * k : Nat) : Int) := by rw [z5, zi_mul]; congr 1
  have hle : pkL os / 2 ^ (5 * k) ≤ pkL os := Nat.div_le_self _ _
  rw [e, mk_shr (by omega) (by omega), mk_and31 (by omega), show 2 ^ (5 * k) = 32 ^ k by rw [Nat.pow_mul]]
theorem pcn_z {M : Nat} : ∀ {n : Nat}, pcn M n = 0 → ∀ i, i < n → M.testBit i = false
  | 0, _, i, hi => absurd hi (by omega)
  | n + 1, h, i, hi => by
    rw [pcn_s] at h
    by_cases e : i = n
    · rw [e]
      cases hb : M.testBit n with
      | false => rfl
      | true => rw [hb] at h; exact absurd h (by simp)
    · exact pcn_z (n := n) (by generalize (if M.testBit n = true then 1 else 0) = w at h; omega) i (by omega)
theorem pcn_zero {M : Nat} (hM : M < 2 ^ 20) (h : pcn M 20 = 0) : M = 0 := by
  apply Nat.eq_of_testBit_eq
  intro i
  rw [Nat.zero_testBit]
  by_cases c : i < 20
  · exact pcn_z h i c
  · exact bit_hi hM (by omega)
def unP (P : Nat → Nat → Int) (S i : Nat) : Nat → Nat → Int := fun k n => if k = 8 ∧ n < i ∧ S.testBit n = true then 0 else P k n
def stR (σ : Nat → Nat → Int32) (st : bSt) : Prop := σ 47 25 = zi st.1 ∧ σ 47 26 = zi st.2.1 ∧ (st.1 ≠ -1 → σ 47 24 = zi (pkL st.2.2 : Int))
section RBS
variable {l : Launch} {D : va_G} {DA : Nat → ClassId} {b sz L : Nat} {cu : Bool} {N S k : Nat} {P : Nat → Nat → Int} {Q : Nat → Int}
theorem R_set {d n : Nat} {P1 : Nat → Nat → Int} {σ : Nat → Nat → Int32} (hd : 6 ≤ d) (hm : mOK σ N P1 Q) (hp : pOK N P1 Q) (hz : zOK N P1) (hJ : eqJ P P1) (hn : n < N) (h8 : P 8 n = 0) :
    ∃ σ' P2, GG l D DA b sz d L cu M_R_sets [some (.ref 47), some (.int (zi n)), none, none, none, none] σ (some (.int (zi (prP P Q N n : Int)))) σ' ∧ mOK σ' N P2 Q ∧ pOK N P2 Q ∧ zOK N P2 ∧ eqJ (ptP P Q N n) P2 ∧ ∀ c, c < 56 ∨ 62 ≤ c → σ' c = σ c := by
  have h81 : P1 8 n = 0 := (hJ.1 8 n (by omega)).symm.trans h8
  obtain ⟨rr, σ', g, f, o⟩ := c_R_sets (l := l) (D := D) (DA := DA) (b := b) (sz := sz) (d := d) (L := L) (cu := cu) hd hm hp hn h81
  rcases o with ⟨e, x, y, z, t, hf, k2⟩ | ⟨e, hno, x, y, z, t, b1, b2, b3, b4, k2⟩
  · obtain ⟨e1, e2⟩ := pt_1 (fstc_cg (eqJ_symm hJ) hf)
    refine ⟨σ', _, ?_, k2, fst_in hp hn h81 hf, zOK_pu (zOK_pp hz hn x y z t) hn 8 1, ?_, f⟩
    · rw [e2]; rw [e] at g; exact g
    · rw [e1]; exact eqJ_up hJ
  · obtain ⟨e1, e2⟩ := pt_0 (P := P) (Q := Q) (N := N) (n := n) (fun x y z t hf => hno x y z t (fstc_cg hJ hf).1)
    refine ⟨σ', _, ?_, k2, pp_pOK hp hn h81 b1 b2 b3 b4, zOK_pp hz hn x y z t, ?_, f⟩
    · rw [e2]; rw [e] at g; exact g
    · rw [e1]; exact eqJ_trans hJ (eqJ_pp h81)
theorem R_lists_l {d : Nat} (hd : 6 ≤ d) (hN : N ≤ 20) : ∀ (post pre : List Nat) (P P1 : Nat → Nat → Int) (σ : Nat → Nat → Int32) (a : Nat), gLs N P post → eqJ P P1 → mOK σ N P1 Q → pOK N P1 Q → zOK N P1 → (∀ c, c ∈ pre ++ post → c < 32) → (pre ++ post).length ≤ 5 →
    ∃ σ' P2, am_Go l D DA b sz (d + 1) M_R_lists (7, [some (.ref 47), some (.int (zi (pkL (pre ++ post) : Int))), none, some (.int (zi (a : Int))), some (.int (zi ((post.length : Int) - 1)))], [], (am_TT cu L, am_RR cu, σ)) (some (.int (zi ((a + rcP Q N P post : Nat) : Int)))) (am_TT cu L, am_RR cu, σ') ∧ mOK σ' N P2 Q ∧ pOK N P2 Q ∧ zOK N P2 ∧ eqJ (rnP Q N P post) P2 ∧ ∀ c, c < 56 ∨ 62 ≤ c → σ' c = σ c := by
  intro post
  induction post with
  | nil =>
    intro pre P P1 σ a hg hJ hm hp hz h32 hlen
    exact ⟨σ, P1, v_R_lists_7 _ _ _ ⟨fun _ => (by first | exact ⟨rfl, rfl⟩ | exact ⟨trivial, trivial⟩ | exact ⟨trivial, rfl⟩ | exact ⟨rfl, trivial⟩ | trivial), fun h0 => absurd (by decide) h0⟩, hm, hp, hz, hJ, fun _ _ => rfl⟩
  | cons n post ih =>
    intro pre P P1 σ a hg hJ hm hp hz h32 hlen
    obtain ⟨g1, g2, g3⟩ := gLs_t (Q := Q) hg
    obtain ⟨σ1, P2, s1, s2, s3, s4, s5, s6⟩ := R_set (l := l) (D := D) (DA := DA) (b := b) (sz := sz) (d := d) (L := L) (cu := cu) hd hm hp hz hJ g1 g2
    have e0 : pre ++ n :: post = (pre ++ [n]) ++ post := by simp
    have hl5 : post.length ≤ 4 := by rw [List.length_append] at hlen; have : (n :: post).length = post.length + 1 := rfl; omega
    obtain ⟨σ', P3, t1, t2, t3, t4, t5, t6⟩ := ih (pre ++ [n]) (ptP P Q N n) P2 σ1 (a + prP P Q N n) g3 s5 s2 s3 s4 (by rw [← e0]; exact h32) (by rw [← e0]; exact hlen)
    have hpk := pkL_lt _ h32
    have hp5 := p32 hlen
    have hd9 := pkL_d pre post n (h32 n (by simp)) (fun c hc => h32 c (by simp [hc]))
    refine ⟨σ', P3, v_R_lists_7 _ _ _ ?_, t2, t3, t4, t5, fun c hc => (t6 c hc).trans (s6 c hc)⟩
    have el : (((n :: post).length : Int) - 1) = (post.length : Int) := by rw [List.length_cons]; omega
    rw [el, dgt (by omega) (by omega), hd9, zm1, zi_add, zi_lt0 (by omega) (by omega)]
    refine ⟨fun h0 => absurd h0 (by omega), fun _ => ⟨_, σ1, s1, ?_⟩⟩
    have er : (if zi (prP P Q N n : Int) = 0 then (0 : Int32) else 1) = zi (prP P Q N n : Int) := by
      have h9 := pr_le P Q N n
      have hc : prP P Q N n = 0 ∨ prP P Q N n = 1 := by omega
      rcases hc with h | h <;> rw [h] <;> rfl
    rw [er, zi_add, ← Int.natCast_add, e0]
    have ea : a + rcP Q N P (n :: post) = a + prP P Q N n + rcP Q N (ptP P Q N n) post := by
      show a + (prP P Q N n + rcP Q N (ptP P Q N n) post) = _
      omega
    rw [ea]
    exact t1
theorem gLs_32 (hN : N ≤ 20) {os : List Nat} (hg : gLs N P os) : ∀ c, c ∈ os → c < 32 := fun c hc => by have := (hg.1 c hc).1; omega
theorem R_lists {d : Nat} {P1 : Nat → Nat → Int} {σ : Nat → Nat → Int32} {os : List Nat} (hd : 7 ≤ d) (hg : gLs N P os) (hJ : eqJ P P1) (hm : mOK σ N P1 Q) (hp : pOK N P1 Q) (hz : zOK N P1) (hl : os.length = k) (hk : k ≤ 5) :
    ∃ σ' P2, GG l D DA b sz d L cu M_R_lists [some (.ref 47), some (.int (zi (pkL os : Int))), some (.int (zi (k : Int))), none, none] σ (some (.int (zi (rcP Q N P os : Int)))) σ' ∧ mOK σ' N P2 Q ∧ pOK N P2 Q ∧ zOK N P2 ∧ eqJ (rnP Q N P os) P2 ∧ ∀ c, c < 56 ∨ 62 ≤ c → σ' c = σ c := by
  obtain ⟨d, rfl⟩ : ∃ d', d = d' + 1 := ⟨d - 1, by omega⟩
  have hN := hp.1
  obtain ⟨σ', P2, t1, t2⟩ := R_lists_l (l := l) (D := D) (DA := DA) (b := b) (sz := sz) (d := d) (L := L) (cu := cu) (by omega) hN os [] P P1 σ 0 hg hJ hm hp hz (gLs_32 hN hg) (by rw [List.nil_append]; omega)
  refine ⟨σ', P2, v_R_lists_0 _ _ ?_, t2⟩
  rw [zi_m1, ← hl]
  rw [Nat.zero_add, List.nil_append] at t1
  exact t1
theorem R_unset {d : Nat} {P1 : Nat → Nat → Int} {σ : Nat → Nat → Int32} (hm : mOK σ N P1 Q) (hN : N ≤ 20) (hS : S < 2 ^ 20) :
    ∃ σ', GG l D DA b sz d L cu M_R_unset [some (.ref 47), some (.int (zi (S : Int))), none] σ none σ' ∧ mOK σ' N (unP P1 S N) Q ∧ ∀ c, c ≠ 56 → σ' c = σ c := by
  have key : ∀ (j i : Nat) (σ1 : Nat → Nat → Int32), i + j = N → mOK σ1 N (unP P1 S i) Q → (∀ c, c ≠ 56 → σ1 c = σ c) → ∃ σ', am_Go l D DA b sz d M_R_unset (2, [some (.ref 47), some (.int (zi (S : Int))), some (.int (zi (i : Int)))], [], (am_TT cu L, am_RR cu, σ1)) none (am_TT cu L, am_RR cu, σ') ∧ mOK σ' N (unP P1 S N) Q ∧ ∀ c, c ≠ 56 → σ' c = σ c := by
    intro j
    induction j with
    | zero =>
      intro i σ1 hi h1 hf
      have e : i = N := by omega
      subst e
      refine ⟨σ1, v_R_unset_2 _ _ ?_, h1, hf⟩
      rw [h1.1]
      exact ⟨fun _ => (by first | exact ⟨rfl, rfl⟩ | exact ⟨trivial, trivial⟩ | exact ⟨trivial, rfl⟩ | exact ⟨rfl, trivial⟩ | trivial), fun h0 => absurd (Int32.le_refl _) h0⟩
    | succ j ih =>
      intro i σ1 hi h1 hf
      have hnle : ¬ zi (N : Int) ≤ zi (i : Int) := by rw [zi_le (by omega) (by omega) (by omega) (by omega)]; omega
      have hcl : Int32.toNatClampNeg (zi i) = i := zi_cl (by omega)
      have ni : ¬ (zi (i : Int) < 0 ∨ 20 ≤ i) := by rw [zi_lt0 (by omega) (by omega)]; omega
      cases hb : S.testBit i with
      | false =>
        have e : unP P1 S (i + 1) = unP P1 S i := by
          funext k n
          unfold unP
          by_cases c : n = i
          · subst c
            rw [if_neg (fun z => by rw [hb] at z; exact absurd z.2.2 (by decide)), if_neg (fun z => by rw [hb] at z; exact absurd z.2.2 (by decide))]
          · exact ite_congr (propext ⟨fun z => ⟨z.1, by omega, z.2.2⟩, fun z => ⟨z.1, by omega, z.2.2⟩⟩) (fun _ => rfl) (fun _ => rfl)
        obtain ⟨σ', g, p⟩ := ih (i + 1) σ1 (by omega) (by rw [e]; exact h1) hf
        refine ⟨σ', v_R_unset_2 _ _ ?_, p⟩
        rw [h1.1, mk_bit1 (by omega) (by omega), zi_s1]
        exact ⟨fun h0 => absurd h0 hnle, fun _ => ⟨fun h0 => absurd (h0.symm.trans hb) (by decide), fun _ => g⟩⟩
      | true =>
        have e : unP P1 S (i + 1) = pu (unP P1 S i) 8 i 0 := by
          funext k n
          unfold pu unP
          by_cases c : k = 8 ∧ n = i
          · rw [if_pos c, if_pos ⟨c.1, by omega, by rw [c.2]; exact hb⟩]
          · rw [if_neg c]
            exact ite_congr (propext ⟨fun z => ⟨z.1, by have := z.2.1; omega, z.2.2⟩, fun z => ⟨z.1, by omega, z.2.2⟩⟩) (fun _ => rfl) (fun _ => rfl)
        have h9 := mOK_pu h1 (k := 8) (n := i) (by decide) 0
        obtain ⟨σ', g, p⟩ := ih (i + 1) (am_us σ1 56 i 0) (by omega) (by rw [e]; exact h9) (fun c hc => by rw [am_us_ne hc]; exact hf c hc)
        refine ⟨σ', v_R_unset_2 _ _ ?_, p⟩
        rw [h1.1, mk_bit1 (by omega) (by omega), zi_s1, hcl]
        exact ⟨fun h0 => absurd h0 hnle, fun _ => ⟨fun _ => ⟨ni, g⟩, fun h0 => absurd hb h0⟩⟩
  have e0 : unP P1 S 0 = P1 := by
    funext k n
    unfold unP
    rw [if_neg (by omega)]
  obtain ⟨σ', g, p⟩ := key N 0 σ (by omega) (by rw [e0]; exact hm) (fun _ _ => rfl)
  exact ⟨σ', v_R_unset_0 _ g, p⟩
/-- behind a row and its unset all is as it was -/
theorem un_J {PA : Nat → Nat → Int} {os : List Nat} (hS : ∀ a, S.testBit a = true → P 8 a = 0 ∧ a < N) (hos : ∀ a, a ∈ os → S.testBit a = true) (hJ : eqJ (rnP Q N P os) PA) : eqJ P (unP PA S N) := by
  refine ⟨fun k n hk => ?_, fun n hn k => ?_⟩
  · unfold unP
    by_cases c : k = 8 ∧ n < N ∧ S.testBit n = true
    · rw [if_pos c, c.1]; exact (hS n c.2.2).1
    · rw [if_neg c, ← hJ.1 k n hk]
      by_cases e : n ∈ os
      · have hs := hos n e
        have h9 := (hS n hs).2
        by_cases e8 : k < 8
        · exact (rn_o os P (Or.inr e8)).symm
        · by_cases e88 : k = 8
          · exact absurd ⟨e88, h9, hs⟩ c
          · have hk13 : 12 < k := by omega
            have : ∀ (os : List Nat) (P : Nat → Nat → Int), rnP Q N P os k n = P k n := by
              intro os
              induction os with
              | nil => intro P; rfl
              | cons a os ih =>
                intro P
                show rnP Q N (ptP P Q N a) os k n = P k n
                rw [ih]
                rcases pt_or P Q N a with ⟨x, y, z, t, hf, e1, e2⟩ | ⟨hf, e1, e2⟩
                · rw [e1]; unfold pu; rw [if_neg (by omega)]; exact pp_o (by omega)
                · rw [e1]
            exact (this os P).symm
      · exact (rn_o os P (Or.inl e)).symm
  · have hns : ¬ S.testBit n = true := fun z => hn (hS n z).1
    have hno : n ∉ os := fun z => hns (hos n z)
    unfold unP
    rw [if_neg (fun z => hns z.2.2), ← hJ.2 n (by rw [rn_o os P (Or.inl hno)]; exact hn) k]
    exact (rn_o os P (Or.inl hno)).symm
theorem pOK_un {PA : Nat → Nat → Int} (hp : pOK N PA Q) : pOK N (unP PA S N) Q := by
  refine ⟨hp.1, fun m hm => ?_, fun m hm hm8 => ?_, hp.2.2.2⟩
  · have hb := hp.2.1 m hm
    unfold bOK unP at *
    simp
    split <;> omega
  · have c : ¬ (m < N ∧ S.testBit m = true) := fun z => by unfold unP at hm8; rw [if_pos ⟨rfl, z⟩] at hm8; cases hm8
    have h8 : PA 8 m = 1 := by unfold unP at hm8; rw [if_neg (fun z => c z.2)] at hm8; exact hm8
    have hi := hp.2.2.1 m hm h8
    unfold inQ lng wdt unP at *
    simp
    exact hi
theorem zOK_un {PA : Nat → Nat → Int} (hz : zOK N PA) : zOK N (unP PA S N) := fun m hm k => by unfold unP; rw [if_neg (by omega)]; exact hz m hm k
end RBS
