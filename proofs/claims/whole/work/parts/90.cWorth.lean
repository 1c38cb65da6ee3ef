/-! CUTS: the class fills its worths -/
def bxV (P : Nat → Nat → Int) (n : Nat) : Nat → Nat := v3 (P 0 n).toNat (P 1 n).toNat (P 2 n).toNat
def txV (P : Nat → Nat → Int) (n : Nat) : Nat → Nat := v3 (P 1 n).toNat (P 0 n).toNat (P 2 n).toNat
def vmx (u v : Nat → Nat) : Nat → Nat := v3 (if u 0 < v 0 then v 0 else u 0) (if u 1 < v 1 then v 1 else u 1) (if u 2 < v 2 then v 2 else u 2)
theorem mxi_2 (w a : Int) : mxi w (mxi w a) = mxi w a := by
  unfold mxi
  repeat' split
  all_goals omega
section CWO
variable {l : Launch} {D : va_G} {DA : Nat → ClassId} {b sz d L : Nat} {σ : Nat → Nat → Int32} {N : Nat} {P : Nat → Nat → Int}
theorem c_fill70 : GG l D DA b sz d L true M_Arrays_fill [some (.ref 70), some (.int 0), none, none] σ none (wLd σ 70 4096 (fun _ => 0)) := by
  refine v_Arrays_fill_70_0 _ ?_
  have key := up_loop (fun i => am_Go l D DA b sz d M_Arrays_fill (5, [some (.ref 70), some (.int 0), some (.int (zi i)), some (.int (Int32.ofNat 4096))], [], (am_TT true L, am_RR true, wLd σ 70 i (fun _ => 0))) none (am_TT true L, am_RR true, wLd σ 70 4096 (fun _ => 0))) 4096 ?_ (fun i hi ih => ?_)
  · rw [wLd_0] at key
    exact key
  · refine v_Arrays_fill_70_5 _ _ _ ⟨fun _ => (by first | exact ⟨rfl, rfl⟩ | exact ⟨trivial, trivial⟩ | exact ⟨trivial, rfl⟩ | exact ⟨rfl, trivial⟩ | trivial), fun h0 => absurd (by decide) h0⟩
  · refine v_Arrays_fill_70_5 _ _ _ ?_
    rw [show Int32.ofNat 4096 = zi ((4096 : Nat) : Int) from rfl, show Int32.toNatClampNeg (zi i) = i from zi_cl (by omega)]
    simp (disch := omega) only [zi_le, zi_lt0]
    refine ⟨fun h0 => absurd h0 (by omega), fun _ => ⟨by omega, ?_⟩⟩
    rw [zi_s1, wLd_z]
    exact ih
theorem bxV_OK (hb : pB N P) {n : Nat} (hn : n < N) : vOK (bxV P n) ∧ vOK (txV P n) := by
  have h := hb.2 n hn
  exact ⟨v3_OK (by omega) (by omega) (by omega), v3_OK (by omega) (by omega) (by omega)⟩
theorem fit_iff (hb : pB N P) {n : Nat} (hn : n < N) {x : Nat → Nat} (hx : vOK x) : fitV P n x ↔ (cI x = cI (bxV P n) ∨ (P 6 n ≠ 0 ∧ cI x = cI (txV P n))) := by
  have h := hb.2 n hn
  obtain ⟨o1, o2⟩ := bxV_OK hb hn
  constructor
  · rintro ⟨h2, h01 | ⟨h6, h10⟩⟩
    · refine Or.inl (congrArg cI (v_ext hx o1 ?_ ?_ ?_))
      · show x 0 = (P 0 n).toNat; omega
      · show x 1 = (P 1 n).toNat; omega
      · show x 2 = (P 2 n).toNat; omega
    · refine Or.inr ⟨h6, congrArg cI (v_ext hx o2 ?_ ?_ ?_)⟩
      · show x 0 = (P 1 n).toNat; omega
      · show x 1 = (P 0 n).toNat; omega
      · show x 2 = (P 2 n).toNat; omega
  · rintro (e | ⟨h6, e⟩)
    · rw [cI_inj hx o1 e]
      refine ⟨?_, Or.inl ⟨?_, ?_⟩⟩
      · show P 2 n = ((P 2 n).toNat : Int); omega
      · show P 0 n = ((P 0 n).toNat : Int); omega
      · show P 1 n = ((P 1 n).toNat : Int); omega
    · rw [cI_inj hx o2 e]
      refine ⟨?_, Or.inr ⟨h6, ?_, ?_⟩⟩
      · show P 2 n = ((P 2 n).toNat : Int); omega
      · show P 1 n = ((P 1 n).toNat : Int); omega
      · show P 0 n = ((P 0 n).toNat : Int); omega
theorem bvF_y {n : Nat} {x : Nat → Nat} {a : Int} (h : fitV P n x) : bvF P x n a = mxi (P 7 n) a := by
  unfold bvF mxi
  by_cases c : P 7 n ≤ a
  · rw [if_pos c, if_pos c]
  · rw [if_neg c, if_neg c, if_pos h]
theorem bvF_n {n : Nat} {x : Nat → Nat} {a : Int} (h : ¬ fitV P n x) : bvF P x n a = a := by
  unfold bvF
  rw [if_neg h]
  exact ite_self a
/-- the boxes are offered -/
theorem F_10 {w : Nat → Nat} (hb : pB N P) (h : cR σ N P) {Post : (Nat → Nat → Int32) → Prop} (G : ∀ σ2, tab σ2 (fun x => bvV P N x) → (∀ c, c ≠ 70 → σ2 c = σ c) → ∃ σ', am_Go l D DA b sz (d + 1) M_Cutter_fillWorths (96, [some (.ref 69), none, some (.int (zi (cI w : Int))), some (.int 0), none, none, none], [], (am_TT true L, am_RR true, σ2)) none (am_TT true L, am_RR true, σ') ∧ Post σ') :
    ∀ (m i : Nat) (σ1 : Nat → Nat → Int32), i + m = N → tab σ1 (fun x => fo (bvF P x) 0 i) → (∀ c, c ≠ 70 → σ1 c = σ c) → ∃ σ', am_Go l D DA b sz (d + 1) M_Cutter_fillWorths (10, [some (.ref 69), some (.ref 2), some (.int (zi (cI w : Int))), some (.int (zi (i : Int))), none, none, none], [], (am_TT true L, am_RR true, σ1)) none (am_TT true L, am_RR true, σ') ∧ Post σ' := by
  have hN := hb.1
  intro m
  induction m with
  | zero =>
    intro i σ1 hi ht hf
    have e : i = N := by omega
    subst e
    obtain ⟨σ', g, p⟩ := G σ1 ht hf
    refine ⟨σ', v_Cutter_fillWorths_10 _ _ ?_, p⟩
    rw [hf 2 (by decide), h.1]
    exact ⟨fun _ => g, fun h0 => absurd (Int32.le_refl _) h0⟩
  | succ m ih =>
    intro i σ1 hi ht hf
    have hiN : i < N := by omega
    have hbn := hb.2 i hiN
    obtain ⟨o1, o2⟩ := bxV_OK hb hiN
    obtain ⟨r0, r1, r2, r6, r7⟩ := h.2 i (by omega)
    have hcl : Int32.toNatClampNeg (zi i) = i := zi_cl (by omega)
    have ni : ¬ (zi (i : Int) < 0 ∨ 20 ≤ i) := by rw [zi_lt0 (by omega) (by omega)]; omega
    have hnle : ¬ zi (N : Int) ≤ zi (i : Int) := by rw [zi_le (by omega) (by omega) (by omega) (by omega)]; omega
    have e0 : P 0 i = ((P 0 i).toNat : Int) := by omega
    have e1 : P 1 i = ((P 1 i).toNat : Int) := by omega
    have e2 : P 2 i = ((P 2 i).toNat : Int) := by omega
    have q0 : ∀ x, fo (bvF P x) 0 (i + 1) = bvF P x i (fo (bvF P x) 0 i) := fun x => rfl
    have hA : ∀ x, 0 ≤ fo (bvF P x) 0 i ∧ fo (bvF P x) 0 i ≤ 1000 := fun x => ⟨bv_nn P x i, bv_ub (pB_7 hb) i (by omega)⟩
    have g1 := c_blockOf (l := l) (D := D) (DA := DA) (b := b) (sz := sz) (d := d) (L := L) (σ := σ1) (x := (P 0 i).toNat) (y := (P 1 i).toNat) (z := (P 2 i).toNat) (by omega) (by omega) (by omega)
    rw [← e0, ← e1, ← e2] at g1
    have hA1 := hA (bxV P i)
    have t1 : σ1 70 (cI (bxV P i)) = zi (fo (bvF P (bxV P i)) 0 i) := ht _ o1
    have g2 := c_offer (l := l) (D := D) (DA := DA) (b := b) (sz := sz) (d := d) (L := L) o1 (w := P 7 i) t1 (by omega) (by omega)
    have rows : ∀ {σ2 : Nat → Nat → Int32}, (∀ c, c ≠ 70 → σ2 c = σ c) → σ2 (19 + i) 0 = zi (P 0 i) ∧ σ2 (19 + i) 1 = zi (P 1 i) ∧ σ2 (19 + i) 2 = zi (P 2 i) ∧ σ2 (19 + i) 6 = zi (P 6 i) ∧ σ2 (19 + i) 7 = zi (P 7 i) := fun f => by
      rw [f (19 + i) (by omega)]
      exact ⟨r0, r1, r2, r6, r7⟩
    obtain ⟨s0, s1, s2, s6, s7⟩ := rows hf
    have hf2 : ∀ c, c ≠ 70 → am_us σ1 70 (cI (bxV P i)) (zi (mxi (P 7 i) (fo (bvF P (bxV P i)) 0 i))) c = σ c := fun c hc => by rw [am_us_ne hc]; exact hf c hc
    obtain ⟨u0, u1, u2, u6, u7⟩ := rows hf2
    have i6 : zi (P 6 i) = 0 ↔ P 6 i = 0 := zi_eq0 (by omega) (by omega)
    have h22 : σ1 2 2 = zi (N : Int) := by rw [hf 2 (by decide)]; exact h.1
    -- the table behind the first offer
    have tb2 : ∀ x, vOK x → am_us σ1 70 (cI (bxV P i)) (zi (mxi (P 7 i) (fo (bvF P (bxV P i)) 0 i))) 70 (cI x) = zi (if cI x = cI (bxV P i) then mxi (P 7 i) (fo (bvF P x) 0 i) else fo (bvF P x) 0 i) := fun x hx => by
      by_cases c : cI x = cI (bxV P i)
      · rw [if_pos c, c, am_us_s, cI_inj hx o1 c]
      · rw [if_neg c, am_us_k c]; exact ht x hx
    by_cases c6 : P 6 i = 0
    · obtain ⟨σ', g, p⟩ := ih (i + 1) _ (by omega) (fun x hx => by
        rw [tb2 x hx]
        show _ = zi (fo (bvF P x) 0 (i + 1))
        rw [q0]
        by_cases c : cI x = cI (bxV P i)
        · rw [if_pos c, bvF_y ((fit_iff hb hiN hx).mpr (Or.inl c))]
        · rw [if_neg c, bvF_n (fun z => ((fit_iff hb hiN hx).mp z).elim c (fun q => q.1 c6))]) hf2
      refine ⟨σ', v_Cutter_fillWorths_10 _ _ ?_, p⟩
      rw [h22, hcl, s0, s1, s2]
      refine ⟨fun h0 => absurd h0 hnle, fun _ => ⟨ni, _, _, g1, ?_⟩⟩
      rw [s7]
      refine ⟨_, g2, ?_⟩
      rw [u6, i6, zi_s1]
      exact ⟨fun _ => g, fun h0 => absurd c6 h0⟩
    · have g3 := c_blockOf (l := l) (D := D) (DA := DA) (b := b) (sz := sz) (d := d) (L := L) (σ := am_us σ1 70 (cI (bxV P i)) (zi (mxi (P 7 i) (fo (bvF P (bxV P i)) 0 i)))) (x := (P 1 i).toNat) (y := (P 0 i).toNat) (z := (P 2 i).toNat) (by omega) (by omega) (by omega)
      rw [← e0, ← e1, ← e2] at g3
      have hm := mxi_spec (P 7 i) (fo (bvF P (txV P i)) 0 i)
      have hA2 := hA (txV P i)
      have g4 := c_offer (l := l) (D := D) (DA := DA) (b := b) (sz := sz) (d := d) (L := L) o2 (w := P 7 i) (tb2 (txV P i) o2) (by split <;> omega) (by omega)
      obtain ⟨σ', g, p⟩ := ih (i + 1) (am_us (am_us σ1 70 (cI (bxV P i)) (zi (mxi (P 7 i) (fo (bvF P (bxV P i)) 0 i)))) 70 (cI (txV P i)) (zi (mxi (P 7 i) (if cI (txV P i) = cI (bxV P i) then mxi (P 7 i) (fo (bvF P (txV P i)) 0 i) else fo (bvF P (txV P i)) 0 i)))) (by omega) (fun x hx => by
        by_cases c : cI x = cI (txV P i)
        · rw [c, am_us_s]
          have ex := cI_inj hx o2 c
          show _ = zi (fo (bvF P x) 0 (i + 1))
          rw [q0, bvF_y ((fit_iff hb hiN hx).mpr (Or.inr ⟨c6, c⟩)), ex]
          by_cases c2 : cI (txV P i) = cI (bxV P i)
          · rw [if_pos c2, mxi_2]
          · rw [if_neg c2]
        · rw [am_us_k c, tb2 x hx]
          show _ = zi (fo (bvF P x) 0 (i + 1))
          rw [q0]
          by_cases c1 : cI x = cI (bxV P i)
          · rw [if_pos c1, bvF_y ((fit_iff hb hiN hx).mpr (Or.inl c1))]
          · rw [if_neg c1, bvF_n (fun z => ((fit_iff hb hiN hx).mp z).elim c1 (fun q => c q.2))]) (fun c hc => by rw [am_us_ne hc]; exact hf2 c hc)
      refine ⟨σ', v_Cutter_fillWorths_10 _ _ ?_, p⟩
      rw [h22, hcl, s0, s1, s2]
      refine ⟨fun h0 => absurd h0 hnle, fun _ => ⟨ni, _, _, g1, ?_⟩⟩
      rw [s7]
      refine ⟨_, g2, ?_⟩
      rw [u6, i6, u0, u1, u2, zi_s1]
      refine ⟨fun h0 => absurd h0 c6, fun _ => ⟨_, _, g3, ?_⟩⟩
      rw [u7]
      exact ⟨_, g4, g⟩
/-- how far the worths are filled -/
def ivF (σ0 : Nat → Nat → Int32) (P : Nat → Nat → Int) (N : Nat) (w : Nat → Nat) (σ1 : Nat → Nat → Int32) (a c e : Nat) : Prop := (∀ y, vOK y → (vle y w → lx (a + 1) (c + 1) (e + 1) y → σ1 70 (cI y) = zi (Tw P N y)) ∧ (¬ (vle y w ∧ lx (a + 1) (c + 1) (e + 1) y) → σ1 70 (cI y) = zi (bvV P N y))) ∧ ∀ c, c ≠ 70 → σ1 c = σ0 c
theorem F_fill (hd : 2 ≤ d) (h : cR σ N P) (hb : pB N P) {w : Nat → Nat} (hw : vOK w) :
    ∃ σ', GG l D DA b sz d L true M_Cutter_fillWorths [some (.ref 69), some (.ref 2), some (.int (zi (cI w : Int))), none, none, none, none] σ none σ' ∧ (∀ y, vOK y → vle y w → σ' 70 (cI y) = zi (Tw P N y)) ∧ ∀ c, c ≠ 70 → σ' c = σ c := by
  obtain ⟨d, rfl⟩ : ∃ d', d = d' + 1 := ⟨d - 1, by omega⟩
  obtain ⟨w0, w1, w2, -⟩ := id hw
  have m8 : (zi (cI w : Int) >>> (8 &&& 31 : Int32) : Int32) = zi ((w 0 - 1 : Nat) : Int) := nb_8' (w 0 - 1) (by omega) (w 1 - 1) (by omega) (w 2 - 1) (by omega)
  have m4 : ((zi (cI w : Int) >>> (4 &&& 31 : Int32) : Int32) &&& 15 : Int32) = zi ((w 1 - 1 : Nat) : Int) := nb_4 (w 0 - 1) (by omega) (w 1 - 1) (by omega) (w 2 - 1) (by omega)
  have m0 : (zi (cI w : Int) &&& 15 : Int32) = zi ((w 2 - 1 : Nat) : Int) := nb_0' (w 0 - 1) (by omega) (w 1 - 1) (by omega) (w 2 - 1) (by omega)
  have H : ∀ (a c : Nat), a < w 0 → c < w 1 → (∀ σ1, ivF σ P N w σ1 a (c + 1) 0 → ∃ σ', am_Go l D DA b sz (d + 1) M_Cutter_fillWorths (107, [some (.ref 69), none, some (.int (zi (cI w : Int))), some (.int (zi (a : Int))), some (.int (zi ((c + 1 : Nat) : Int))), none, none], [], (am_TT true L, am_RR true, σ1)) none (am_TT true L, am_RR true, σ') ∧ (∀ y, vOK y → vle y w → σ' 70 (cI y) = zi (Tw P N y)) ∧ ∀ c, c ≠ 70 → σ' c = σ c) →
      ∀ (m e : Nat) (σ1 : Nat → Nat → Int32), e + m = w 2 → ivF σ P N w σ1 a c e → ∃ σ', am_Go l D DA b sz (d + 1) M_Cutter_fillWorths (121, [some (.ref 69), none, some (.int (zi (cI w : Int))), some (.int (zi (a : Int))), some (.int (zi (c : Int))), some (.int (zi (e : Int))), none], [], (am_TT true L, am_RR true, σ1)) none (am_TT true L, am_RR true, σ') ∧ (∀ y, vOK y → vle y w → σ' 70 (cI y) = zi (Tw P N y)) ∧ ∀ c, c ≠ 70 → σ' c = σ c := by
    intro a c ha hc hcont m
    induction m with
    | zero =>
      intro e σ1 he hI
      obtain ⟨σ', g, p⟩ := hcont σ1 ⟨fun y hy => by
        have hi := hI.1 y hy
        obtain ⟨y0, y1, y2, -⟩ := hy
        refine ⟨fun hyw hlx => hi.1 hyw ?_, fun hn => hi.2 (fun z => hn ⟨z.1, ?_⟩)⟩
        · unfold vle at hyw
          unfold lx at hlx ⊢
          omega
        · have z2 := z.2
          unfold lx at z2 ⊢
          omega, hI.2⟩
      refine ⟨σ', v_Cutter_fillWorths_121 _ _ _ _ ?_, p⟩
      rw [m0, zi_lt (by omega) (by omega) (by omega) (by omega), zi_s1]
      exact ⟨fun _ => g, fun h0 => absurd (by omega) h0⟩
    | succ m ih =>
      intro e σ1 he hI
      have hx : vOK (v3 (a + 1) (c + 1) (e + 1)) := v3_OK (by omega) (by omega) (by omega)
      have hxw : vle (v3 (a + 1) (c + 1) (e + 1)) w := ⟨by show a + 1 ≤ w 0; omega, by show c + 1 ≤ w 1; omega, by show e + 1 ≤ w 2; omega⟩
      have hTx := Tw_bd (pB_7 hb) hx
      have hbx := bv_bd (v := v3 (a + 1) (c + 1) (e + 1)) (pB_7 hb)
      have hbk : (((zi (a : Int) <<< (8 &&& 31 : Int32) : Int32) ||| (zi (c : Int) <<< (4 &&& 31 : Int32) : Int32)) ||| zi (e : Int) : Int32) = zi (cI (v3 (a + 1) (c + 1) (e + 1)) : Int) := bk_1 a (by omega) c (by omega) e (by omega)
      have own : σ1 70 (cI (v3 (a + 1) (c + 1) (e + 1))) = zi (bvV P N (v3 (a + 1) (c + 1) (e + 1))) := (hI.1 _ hx).2 (fun z => by
        have z2 : lx (a + 1) (c + 1) (e + 1) (v3 (a + 1) (c + 1) (e + 1)) := z.2
        have z3 : a + 1 < a + 1 ∨ (a + 1 = a + 1 ∧ (c + 1 < c + 1 ∨ (c + 1 = c + 1 ∧ e + 1 < e + 1))) := z2
        omega)
      have gw := c_worthCut (l := l) (D := D) (DA := DA) (b := b) (sz := sz) (d := d) (L := L) (σ := σ1) (by omega) hb hx (fun e' he' k hk hk2 => by
        have ok := vOK_u hx he' hk (by have := vOK_e hx he'; omega)
        refine (hI.1 _ ok).1 ?_ ?_
        · unfold vle at *
          unfold vu
          rcases e3 he' with rfl | rfl | rfl <;> simp <;> omega
        · have hk3 := hk2
          unfold lx vu
          rcases e3 he' with rfl | rfl | rfl
          · have : k < a + 1 := hk3
            left
            show k < a + 1
            omega
          · have : k < c + 1 := hk3
            right
            exact ⟨rfl, Or.inl this⟩
          · have : k < e + 1 := hk3
            right
            exact ⟨rfl, Or.inr ⟨rfl, this⟩⟩)
      have hh := Tw_half (P := P) (N := N) (vOK_P hx)
      have hhb := mxi_spec (halfF (Tw P N) (v3 (a + 1) (c + 1) (e + 1)) 2 (halfF (Tw P N) (v3 (a + 1) (c + 1) (e + 1)) 1 (halfF (Tw P N) (v3 (a + 1) (c + 1) (e + 1)) 0 0))) (bvV P N (v3 (a + 1) (c + 1) (e + 1)))
      have hh0 : 0 ≤ halfF (Tw P N) (v3 (a + 1) (c + 1) (e + 1)) 2 (halfF (Tw P N) (v3 (a + 1) (c + 1) (e + 1)) 1 (halfF (Tw P N) (v3 (a + 1) (c + 1) (e + 1)) 0 0)) := by
        have k1 := (mxf_spec (fun i => ctv (Tw P N) (v3 (a + 1) (c + 1) (e + 1)) 0 (i + 1)) 0 ((v3 (a + 1) (c + 1) (e + 1)) 0 / 2)).1
        have k2 := (mxf_spec (fun i => ctv (Tw P N) (v3 (a + 1) (c + 1) (e + 1)) 1 (i + 1)) (halfF (Tw P N) (v3 (a + 1) (c + 1) (e + 1)) 0 0) ((v3 (a + 1) (c + 1) (e + 1)) 1 / 2)).1
        have k3 := (mxf_spec (fun i => ctv (Tw P N) (v3 (a + 1) (c + 1) (e + 1)) 2 (i + 1)) (halfF (Tw P N) (v3 (a + 1) (c + 1) (e + 1)) 1 (halfF (Tw P N) (v3 (a + 1) (c + 1) (e + 1)) 0 0)) ((v3 (a + 1) (c + 1) (e + 1)) 2 / 2)).1
        exact Int.le_trans k1 (Int.le_trans k2 k3)
      rw [hh] at hhb
      generalize halfF (Tw P N) (v3 (a + 1) (c + 1) (e + 1)) 2 (halfF (Tw P N) (v3 (a + 1) (c + 1) (e + 1)) 1 (halfF (Tw P N) (v3 (a + 1) (c + 1) (e + 1)) 0 0)) = hf at gw hh hhb hh0
      have go := c_offer (l := l) (D := D) (DA := DA) (b := b) (sz := sz) (d := d) (L := L) hx (w := hf) own (by omega) (by omega)
      rw [hh] at go
      obtain ⟨σ', g, p⟩ := ih (e + 1) (am_us σ1 70 (cI (v3 (a + 1) (c + 1) (e + 1))) (zi (Tw P N (v3 (a + 1) (c + 1) (e + 1))))) (by omega) ⟨fun y hy => by
        have hi := hI.1 y hy
        by_cases ey : cI y = cI (v3 (a + 1) (c + 1) (e + 1))
        · have e9 := cI_inj hy hx ey
          refine ⟨fun _ _ => by rw [ey, am_us_s, e9], fun hn => absurd ⟨by rw [e9]; exact hxw, ?_⟩ hn⟩
          rw [e9]
          exact Or.inr ⟨rfl, Or.inr ⟨rfl, by show e + 1 < e + 1 + 1; omega⟩⟩
        · rw [am_us_k ey]
          have hne : ¬ (y 0 = a + 1 ∧ y 1 = c + 1 ∧ y 2 = e + 1) := fun z => ey (by
            show (y 0 - 1) * 256 + (y 1 - 1) * 16 + (y 2 - 1) = (a + 1 - 1) * 256 + (c + 1 - 1) * 16 + (e + 1 - 1)
            rw [z.1, z.2.1, z.2.2])
          refine ⟨fun hyw hlx => hi.1 hyw ?_, fun hn => hi.2 (fun z => hn ⟨z.1, ?_⟩)⟩
          · unfold lx at hlx ⊢
            omega
          · have z2 := z.2
            unfold lx at z2 ⊢
            omega, fun c hc => by rw [am_us_ne hc]; exact hI.2 c hc⟩
      refine ⟨σ', v_Cutter_fillWorths_121 _ _ _ _ ?_, p⟩
      rw [m0, zi_lt (by omega) (by omega) (by omega) (by omega), hbk, zi_s1, zi_s1]
      exact ⟨fun h0 => absurd h0 (by omega), fun _ => ⟨_, _, gw, _, go, g⟩⟩
  have HW : ∀ (a : Nat), a < w 0 → (∀ σ1, ivF σ P N w σ1 (a + 1) 0 0 → ∃ σ', am_Go l D DA b sz (d + 1) M_Cutter_fillWorths (96, [some (.ref 69), none, some (.int (zi (cI w : Int))), some (.int (zi ((a + 1 : Nat) : Int))), none, none, none], [], (am_TT true L, am_RR true, σ1)) none (am_TT true L, am_RR true, σ') ∧ (∀ y, vOK y → vle y w → σ' 70 (cI y) = zi (Tw P N y)) ∧ ∀ c, c ≠ 70 → σ' c = σ c) →
      ∀ (m c : Nat) (σ1 : Nat → Nat → Int32), c + m = w 1 → ivF σ P N w σ1 a c 0 → ∃ σ', am_Go l D DA b sz (d + 1) M_Cutter_fillWorths (107, [some (.ref 69), none, some (.int (zi (cI w : Int))), some (.int (zi (a : Int))), some (.int (zi (c : Int))), none, none], [], (am_TT true L, am_RR true, σ1)) none (am_TT true L, am_RR true, σ') ∧ (∀ y, vOK y → vle y w → σ' 70 (cI y) = zi (Tw P N y)) ∧ ∀ c, c ≠ 70 → σ' c = σ c := by
    intro a ha hcont m
    induction m with
    | zero =>
      intro c σ1 hc hI
      obtain ⟨σ', g, p⟩ := hcont σ1 ⟨fun y hy => by
        have hi := hI.1 y hy
        obtain ⟨y0, y1, y2, -⟩ := hy
        refine ⟨fun hyw hlx => hi.1 hyw ?_, fun hn => hi.2 (fun z => hn ⟨z.1, ?_⟩)⟩
        · unfold vle at hyw
          unfold lx at hlx ⊢
          omega
        · have z2 := z.2
          unfold lx at z2 ⊢
          omega, hI.2⟩
      refine ⟨σ', v_Cutter_fillWorths_107 _ _ _ ?_, p⟩
      rw [m4, zi_lt (by omega) (by omega) (by omega) (by omega), zi_s1]
      exact ⟨fun _ => g, fun h0 => absurd (by omega) h0⟩
    | succ m ih =>
      intro c σ1 hc hI
      obtain ⟨σ', g, p⟩ := H a c ha (by omega) (fun σ2 hI2 => ih (c + 1) σ2 (by omega) hI2) (w 2) 0 σ1 (by omega) hI
      refine ⟨σ', v_Cutter_fillWorths_107 _ _ _ ?_, p⟩
      rw [m4, zi_lt (by omega) (by omega) (by omega) (by omega)]
      exact ⟨fun h0 => absurd h0 (by omega), fun _ => g⟩
  have HL : ∀ (m a : Nat) (σ1 : Nat → Nat → Int32), a + m = w 0 → ivF σ P N w σ1 a 0 0 → ∃ σ', am_Go l D DA b sz (d + 1) M_Cutter_fillWorths (96, [some (.ref 69), none, some (.int (zi (cI w : Int))), some (.int (zi (a : Int))), none, none, none], [], (am_TT true L, am_RR true, σ1)) none (am_TT true L, am_RR true, σ') ∧ (∀ y, vOK y → vle y w → σ' 70 (cI y) = zi (Tw P N y)) ∧ ∀ c, c ≠ 70 → σ' c = σ c := by
    intro m
    induction m with
    | zero =>
      intro a σ1 ha hI
      refine ⟨σ1, v_Cutter_fillWorths_96 _ _ ?_, fun y hy hyw => (hI.1 y hy).1 hyw (by
        obtain ⟨y0, y1, y2, -⟩ := hy
        unfold vle at hyw
        unfold lx
        omega), hI.2⟩
      rw [m8, zi_lt (by omega) (by omega) (by omega) (by omega)]
      exact ⟨fun _ => (by first | exact ⟨rfl, rfl⟩ | exact ⟨trivial, trivial⟩ | exact ⟨trivial, rfl⟩ | exact ⟨rfl, trivial⟩ | trivial), fun h0 => absurd (by omega) h0⟩
    | succ m ih =>
      intro a σ1 ha hI
      obtain ⟨σ', g, p⟩ := HW a (by omega) (fun σ2 hI2 => ih (a + 1) σ2 (by omega) hI2) (w 1) 0 σ1 (by omega) hI
      refine ⟨σ', v_Cutter_fillWorths_96 _ _ ?_, p⟩
      rw [m8, zi_lt (by omega) (by omega) (by omega) (by omega)]
      exact ⟨fun h0 => absurd h0 (by omega), fun _ => g⟩
  have g0 := c_fill70 (l := l) (D := D) (DA := DA) (b := b) (sz := sz) (d := d) (L := L) (σ := σ)
  have hf0 : ∀ c, c ≠ 70 → wLd σ 70 4096 (fun _ => 0) c = σ c := fun c hc => funext (fun k => wLd_c hc)
  obtain ⟨σ', g, p⟩ := F_10 (l := l) (D := D) (DA := DA) (b := b) (sz := sz) (d := d) (L := L) (w := w) hb h (Post := fun σ' => (∀ y, vOK y → vle y w → σ' 70 (cI y) = zi (Tw P N y)) ∧ ∀ c, c ≠ 70 → σ' c = σ c) (fun σ2 ht2 hf2 => HL (w 0) 0 σ2 (by omega) ⟨fun y hy => ⟨fun hyw hlx => by
    obtain ⟨y0, y1, y2, -⟩ := hy
    unfold lx at hlx
    omega, fun _ => ht2 y hy⟩, hf2⟩) N 0 (wLd σ 70 4096 (fun _ => 0)) (by omega) (fun x hx => by rw [wLd_at (cI_lt hx)]; rfl) hf0
  exact ⟨σ', v_Cutter_fillWorths_0 _ ⟨_, g0, g⟩, p⟩
end CWO
