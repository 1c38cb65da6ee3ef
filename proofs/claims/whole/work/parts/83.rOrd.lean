/-! BEST: the reference's orders -/
section ROR
variable {l : Launch} {D : va_G} {DA : Nat → ClassId} {b sz L : Nat} {cu : Bool} {N S k : Nat} {P : Nat → Nat → Int} {Q : Nat → Int}
/-- what stays over the orders -/
def oOut (Q : Nat → Int) (N : Nat) (P : Nat → Nat → Int) (σ σ' : Nat → Nat → Int32) (st : bSt) : Prop := (∃ P2, mOK σ' N P2 Q ∧ pOK N P2 Q ∧ zOK N P2 ∧ eqJ P P2) ∧ stR σ' st ∧ (∀ c, c < 47 ∨ 62 ≤ c → σ' c = σ c) ∧ ∀ j, 27 ≤ j → σ' 47 j = σ 47 j
theorem stR_fr {σ σ' : Nat → Nat → Int32} {st : bSt} (h : stR σ st) (e : σ' 47 = σ 47) : stR σ' st := by unfold stR; rw [e]; exact h
theorem R_leaf {d : Nat} {P1 : Nat → Nat → Int} {σ : Nat → Nat → Int32} {os : List Nat} {st : bSt} (hd : 8 ≤ d) (hpP : pOK N P Q) (hk : k ≤ 5) (hS20 : S < 2 ^ 20) (hS : ∀ a, S.testBit a = true → P 8 a = 0 ∧ a < N) (hg : gLs N P os) (hl : os.length = k) (hos : ∀ a, a ∈ os → S.testBit a = true) (hJ : eqJ P P1) (hm : mOK σ N P1 Q) (hp : pOK N P1 Q) (hz : zOK N P1) (hst : stR σ st) (hs : sGd N P k st) :
    ∃ σ', GG l D DA b sz d L cu M_R_orders [some (.ref 47), some (.int (zi (S : Int))), some (.int 0), some (.int (zi (pkL os : Int))), some (.int (zi (k : Int))), none, none] σ none σ' ∧ oOut Q N P σ σ' (upS st (rcP Q N P os : Int) (far (rnP Q N P os) N) os) := by
  obtain ⟨d, rfl⟩ : ∃ d', d = d' + 1 := ⟨d - 1, by omega⟩
  have hN := hp.1
  obtain ⟨σ1, PA, g1, m1, p1, z1, j1, f1⟩ := R_lists (l := l) (D := D) (DA := DA) (b := b) (sz := sz) (d := d) (L := L) (cu := cu) (by omega) hg hJ hm hp hz hl hk
  have g2 := c_R_farthest (l := l) (D := D) (DA := DA) (b := b) (sz := sz) (d := d) (L := L) (cu := cu) (by omega) m1 p1
  rw [← far_J j1 N] at g2
  obtain ⟨σ3, g3, m3, f3⟩ := R_unset (l := l) (D := D) (DA := DA) (b := b) (sz := sz) (d := d) (L := L) (cu := cu) m1 hN hS20
  have e47 : σ3 47 = σ 47 := (f3 47 (by decide)).trans (f1 47 (by omega))
  have hf := far_bd (pOK_rn os P hpP hg) (Nat.le_refl N)
  have hr := rc_le (Q := Q) (N := N) os P
  have J3 := un_J hS hos j1
  have hst3 := stR_fr hst e47
  have fr3 : ∀ c, c < 47 ∨ 62 ≤ c → σ3 c = σ c := fun c hc => (f3 c (by omega)).trans (f1 c (by omega))
  have hbd : (-1 ≤ st.1 ∧ st.1 ≤ 5) ∧ (0 ≤ st.2.1 ∧ st.2.1 ≤ 60) := by
    rcases hs with h | h
    · rw [h]; decide
    · omega
  obtain ⟨q1, q2, q3⟩ := hst3
  have i1 : σ3 47 25 = -1 ↔ st.1 = -1 := by rw [q1, zm1, zi_eq (by omega) (by omega) (by omega) (by omega)]
  have i2 : zi (rcP Q N P os : Int) < σ3 47 25 ↔ (rcP Q N P os : Int) < st.1 := by rw [q1, zi_lt (by omega) (by omega) (by omega) (by omega)]
  have i3 : zi (rcP Q N P os : Int) = σ3 47 25 ↔ (rcP Q N P os : Int) = st.1 := by rw [q1, zi_eq (by omega) (by omega) (by omega) (by omega)]
  have i4 : zi (far (rnP Q N P os) N) < σ3 47 26 ↔ far (rnP Q N P os) N < st.2.1 := by rw [q2, zi_lt (by omega) (by omega) (by omega) (by omega)]
  unfold upS
  by_cases c : st.1 ≠ -1 ∧ cWn st (rcP Q N P os : Int) (far (rnP Q N P os) N)
  · rw [if_pos c]
    refine ⟨σ3, v_R_orders_0 _ _ _ _ ⟨fun _ => ⟨_, σ1, g1, _, σ1, g2, σ3, g3, ?_⟩, fun h0 => absurd rfl h0⟩, ⟨_, m3, pOK_un p1, zOK_un z1, J3⟩, ⟨q1, q2, q3⟩, fr3, fun j _ => by rw [e47]⟩
    rw [i1, i2, i3, i4]
    exact ⟨fun h0 => absurd h0 c.1, fun _ => ⟨fun _ => (by first | exact ⟨rfl, rfl⟩ | exact ⟨trivial, trivial⟩ | exact ⟨trivial, rfl⟩ | exact ⟨rfl, trivial⟩ | trivial), fun h1 => ⟨fun h2 => ⟨fun h3 => absurd c.2 (by omega), fun _ => (by first | exact ⟨rfl, rfl⟩ | exact ⟨trivial, trivial⟩ | exact ⟨trivial, rfl⟩ | exact ⟨rfl, trivial⟩ | trivial)⟩, fun h2 => absurd c.2 (by omega)⟩⟩⟩
  · rw [if_neg c]
    refine ⟨am_us (am_us (am_us σ3 47 25 (zi (rcP Q N P os : Int))) 47 26 (zi (far (rnP Q N P os) N))) 47 24 (zi (pkL os : Int)), v_R_orders_0 _ _ _ _ ⟨fun _ => ⟨_, σ1, g1, _, σ1, g2, σ3, g3, ?_⟩, fun h0 => absurd rfl h0⟩, ⟨_, mOK_fr m3 (fun c _ _ => by rw [am_us_ne (by omega), am_us_ne (by omega), am_us_ne (by omega)]) (fun k _ => by rw [am_us_k (by omega), am_us_k (by omega), am_us_k (by omega)]), pOK_un p1, zOK_un z1, J3⟩, ⟨by rw [am_us_k (by decide), am_us_k (by decide), am_us_s], by rw [am_us_k (by decide), am_us_s], fun _ => by rw [am_us_s]⟩, fun c hc => by rw [am_us_ne (by omega), am_us_ne (by omega), am_us_ne (by omega)]; exact fr3 c hc, fun j hj => by rw [am_us_k (by omega), am_us_k (by omega), am_us_k (by omega), e47]⟩
    rw [i1, i2, i3, i4]
    exact ⟨fun _ => (by first | exact ⟨rfl, rfl⟩ | exact ⟨trivial, trivial⟩ | exact ⟨trivial, rfl⟩ | exact ⟨rfl, trivial⟩ | trivial), fun h0 => ⟨fun h1 => absurd ⟨h0, Or.inl h1⟩ c, fun h1 => ⟨fun h2 => ⟨fun _ => (by first | exact ⟨rfl, rfl⟩ | exact ⟨trivial, trivial⟩ | exact ⟨trivial, rfl⟩ | exact ⟨rfl, trivial⟩ | trivial), fun h3 => absurd ⟨h0, Or.inr ⟨h2, by omega⟩⟩ c⟩, fun h2 => (by first | exact ⟨rfl, rfl⟩ | exact ⟨trivial, trivial⟩ | exact ⟨trivial, rfl⟩ | exact ⟨rfl, trivial⟩ | trivial)⟩⟩⟩
theorem R_orders (hpP : pOK N P Q) (hk : k ≤ 5) (hS20 : S < 2 ^ 20) (hS : ∀ a, S.testBit a = true → P 8 a = 0 ∧ a < N) : ∀ (f d left : Nat) (os : List Nat) (st : bSt) (σ : Nat → Nat → Int32) (P1 : Nat → Nat → Int), f + 8 ≤ d → pcn left 20 = f → opn N P left os → gLs N P os → os.length + f = k → (∀ a, a ∈ os → S.testBit a = true) → (∀ a, left.testBit a = true → S.testBit a = true) → eqJ P P1 → mOK σ N P1 Q → pOK N P1 Q → zOK N P1 → stR σ st → sGd N P k st →
    ∃ σ', GG l D DA b sz d L cu M_R_orders [some (.ref 47), some (.int (zi (S : Int))), some (.int (zi (left : Int))), some (.int (zi (pkL os : Int))), some (.int (zi (k : Int))), none, none] σ none σ' ∧ oOut Q N P σ σ' (oRf Q N P f left os st) := by
  have hN := hpP.1
  intro f
  induction f with
  | zero =>
    intro d left os st σ P1 hd hf ho hg hl hos hlf hJ hm hp hz hst hs
    have e : left = 0 := pcn_zero (Nat.lt_of_lt_of_le ho.1 (Nat.pow_le_pow_right (by decide) hN)) hf
    subst e
    exact R_leaf (by omega) hpP hk hS20 hS hg (by omega) hos hJ hm hp hz hst hs
  | succ f ih =>
    intro d left os st σ P1 hd hf ho hg hl hos hlf hJ hm hp hz hst hs
    obtain ⟨d, rfl⟩ : ∃ d', d = d' + 1 := ⟨d - 1, by omega⟩
    have hl20 : left < 2 ^ 20 := Nat.lt_of_lt_of_le ho.1 (Nat.pow_le_pow_right (by decide) hN)
    have hne : left ≠ 0 := fun e => by
      have h9 : pcn 0 20 = 0 := by decide
      rw [e, h9] at hf
      omega
    have key : ∀ (j i : Nat) (σ1 : Nat → Nat → Int32), i + j = N → oOut Q N P σ σ1 (fo (fun a st => if left.testBit a = true then oRf Q N P f (ub left a) (os ++ [a]) st else st) st i) → sGd N P k (fo (fun a st => if left.testBit a = true then oRf Q N P f (ub left a) (os ++ [a]) st else st) st i) →
        ∃ σ', am_Go l D DA b sz (d + 1) M_R_orders (7, [some (.ref 47), some (.int (zi (S : Int))), some (.int (zi (left : Int))), some (.int (zi (pkL os : Int))), some (.int (zi (k : Int))), some (.int (zi (i : Int))), none], [], (am_TT cu L, am_RR cu, σ1)) none (am_TT cu L, am_RR cu, σ') ∧ oOut Q N P σ σ' (oRf Q N P (f + 1) left os st) := by
      intro j
      induction j with
      | zero =>
        intro i σ1 hi hO hs1
        have e : i = N := by omega
        subst e
        obtain ⟨⟨P2, m2, -⟩, -⟩ := id hO
        refine ⟨σ1, v_R_orders_7 _ _ _ _ _ ?_, hO⟩
        rw [m2.1]
        exact ⟨fun _ => (by first | exact ⟨rfl, rfl⟩ | exact ⟨trivial, trivial⟩ | exact ⟨trivial, rfl⟩ | exact ⟨rfl, trivial⟩ | trivial), fun h0 => absurd (Int32.le_refl _) h0⟩
      | succ j ihj =>
        intro i σ1 hi hO hs1
        obtain ⟨⟨P2, m2, p2, z2, j2⟩, r2, fr2, fk2⟩ := id hO
        have hnle : ¬ zi (N : Int) ≤ zi (i : Int) := by rw [zi_le (by omega) (by omega) (by omega) (by omega)]; omega
        have q0 : fo (fun a st => if left.testBit a = true then oRf Q N P f (ub left a) (os ++ [a]) st else st) st (i + 1) = (if left.testBit i = true then oRf Q N P f (ub left i) (os ++ [i]) (fo (fun a st => if left.testBit a = true then oRf Q N P f (ub left a) (os ++ [a]) st else st) st i) else fo (fun a st => if left.testBit a = true then oRf Q N P f (ub left a) (os ++ [a]) st else st) st i) := rfl
        have ih2 := ihj (i + 1)
        rw [q0] at ih2
        generalize fo (fun a st => if left.testBit a = true then oRf Q N P f (ub left a) (os ++ [a]) st else st) st i = sti at ih2 hO hs1 r2
        by_cases hb : left.testBit i = true
        · rw [if_pos hb] at ih2
          have hos2 : ∀ a, a ∈ os ++ [i] → S.testBit a = true := fun a ha => by
            rcases List.mem_append.mp ha with h | h
            · exact hos a h
            · rw [List.mem_singleton.mp h]; exact hlf i hb
          have hl2 : (os ++ [i]).length + f = k := by rw [List.length_append]; show os.length + 1 + f = k; omega
          have ho2 := opn_s hN ho hb
          have hf2 := opn_c hN ho hb hf
          obtain ⟨σ2, g2, o2⟩ := ih d (ub left i) (os ++ [i]) sti σ1 P2 (by omega) hf2 ho2 (gLs_s ho hb hg) hl2 hos2 (fun a ha => hlf a (by
            rw [ub_bit hl20 (by omega)] at ha
            simp only [Bool.and_eq_true] at ha
            exact ha.1)) j2 m2 p2 z2 r2 hs1
          have hs2 := (oR_ok hpP hk f (ub left i) (os ++ [i]) sti hf2 ho2 (gLs_s ho hb hg) hl2 hs1).1
          obtain ⟨σ', g, o⟩ := ih2 σ2 (by omega) ⟨o2.1, o2.2.1, fun c hc => (o2.2.2.1 c hc).trans (fr2 c hc), fun j hj => (o2.2.2.2 j hj).trans (fk2 j hj)⟩ hs2
          refine ⟨σ', v_R_orders_7 _ _ _ _ _ ?_, o⟩
          rw [m2.1, mk_bit1 (by omega) (by omega), zi_s1, mk_ub (by omega), z32, zi_mul, zi_add]
          rw [pkL_s, Int.natCast_add, Int.natCast_mul] at g2
          exact ⟨fun h0 => absurd h0 hnle, fun _ => ⟨fun _ => ⟨σ2, g2, g⟩, fun h0 => absurd hb h0⟩⟩
        · rw [if_neg hb] at ih2
          obtain ⟨σ', g, o⟩ := ih2 σ1 (by omega) hO hs1
          refine ⟨σ', v_R_orders_7 _ _ _ _ _ ?_, o⟩
          rw [m2.1, mk_bit1 (by omega) (by omega), zi_s1]
          exact ⟨fun h0 => absurd h0 hnle, fun _ => ⟨fun h0 => absurd h0 hb, fun _ => g⟩⟩
    obtain ⟨σ', g, o⟩ := key N 0 σ (by omega) ⟨⟨P1, hm, hp, hz, hJ⟩, hst, fun _ _ => rfl, fun _ _ => rfl⟩ hs
    refine ⟨σ', v_R_orders_0 _ _ _ _ ?_, o⟩
    rw [zi_eq0 (by omega) (by omega)]
    exact ⟨fun h0 => absurd h0 (by omega), fun _ => g⟩
end ROR
