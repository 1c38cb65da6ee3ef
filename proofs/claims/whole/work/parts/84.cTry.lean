/-! BEST: the class's orders -/
def nthL : List Nat → Nat → Nat
  | [], _ => 0
  | a :: _, 0 => a
  | _ :: os, i + 1 => nthL os i
theorem nthL_l (x : Nat) : ∀ (os : List Nat) (i : Nat), i < os.length → nthL (os ++ [x]) i = nthL os i
  | [], i, h => absurd h (by simp)
  | _ :: _, 0, _ => rfl
  | _ :: os, i + 1, h => nthL_l x os i (Nat.lt_of_succ_lt_succ h)
theorem nthL_m (x : Nat) (post : List Nat) : ∀ (pre : List Nat), nthL (pre ++ x :: post) pre.length = x
  | [] => rfl
  | _ :: pre => nthL_m x post pre
def rwC (σ : Nat → Nat → Int32) (os : List Nat) : Prop := ∀ i, i < os.length → σ 40 i = zi (nthL os i : Int)
def stC (σ : Nat → Nat → Int32) (st : bSt) : Prop := σ 39 2 = zi (st.2.2.length : Int) ∧ σ 39 3 = zi st.1 ∧ σ 39 4 = zi st.2.1 ∧ ∀ i, i < st.2.2.length → σ 41 i = zi (nthL st.2.2 i : Int)
def sBd (st : bSt) : Prop := (-1 ≤ st.1 ∧ st.1 ≤ 5) ∧ (0 ≤ st.2.1 ∧ st.2.1 ≤ 60)
section CTR
variable {l : Launch} {D : va_G} {DA : Nat → ClassId} {b sz L : Nat} {cu : Bool} {N S k : Nat} {P : Nat → Nat → Int} {Q : Nat → Int}
theorem cOK_J {σ : Nat → Nat → Int32} {M : Nat} {P' : Nat → Nat → Int} (h : cOK σ N P Q M) (hJ : eqJ P P') : cOK σ N P' Q M := by
  obtain ⟨h1, h2, h3, h4, h5, h6⟩ := h
  refine ⟨h1, h2, ⟨h3.1, fun n => by rw [← hJ.1 8 n (by omega)]; exact h3.2 n⟩, h4, fun n hn k hk => by rw [← hJ.1 k n (by omega)]; exact h5 n hn k hk, fun n hn h8 => ?_⟩
  have h8' : P 8 n ≠ 0 := by rw [hJ.1 8 n (by omega)]; exact h8
  have hb := h6 n hn h8'
  have hk := hJ.2 n h8'
  unfold bAt at hb ⊢
  rw [← hk 9, ← hk 10, ← hk 11, ← hk 12, ← lng_cg hk, ← wdt_cg hk, ← tp_cg hk]
  exact hb
theorem C_set {d n M : Nat} {σ : Nat → Nat → Int32} (hd : 4 ≤ d) (h : cOK σ N P Q M) (hp : pOK N P Q) (hn : n < N) (h8 : P 8 n = 0) :
    ∃ σ' M', GG l D DA b sz d L cu M_Hold_setAtCorner [some (.ref 2), some (.int (zi n)), none, none, none, none, none, none] σ (some (.int (zi (prP P Q N n : Int)))) σ' ∧ cOK σ' N (ptP P Q N n) Q M' ∧ ∀ c, 39 ≤ c → σ' c = σ c := by
  obtain ⟨rr, σ', g, f, o⟩ := c_setAtCorner (l := l) (D := D) (DA := DA) (b := b) (sz := sz) (d := d) (L := L) (cu := cu) hd h hp hn h8
  rcases o with ⟨e, x, y, z, t, hf, k1⟩ | ⟨e, hno, k1⟩
  · obtain ⟨e1, e2⟩ := pt_1 hf
    refine ⟨σ', _, ?_, by rw [e1]; exact k1, f⟩
    rw [e2]; rw [e] at g; exact g
  · obtain ⟨e1, e2⟩ := pt_0 (P := P) (Q := Q) (N := N) (n := n) (fun x y z t hf => hno x y z t hf.1)
    refine ⟨σ', _, ?_, by rw [e1]; exact k1, f⟩
    rw [e2]; rw [e] at g; exact g
/-- a box that was set is taken out again -/
theorem C_out {d n M : Nat} {σ : Nat → Nat → Int32} (h : cOK σ N (ptP P Q N n) Q M) (hN : N ≤ 20) (hn : n < N) (h8 : P 8 n = 0) (h1 : prP P Q N n ≠ 0) :
    ∃ σ' M', GG l D DA b sz d L cu M_Hold_putOut [some (.ref 2), some (.int (zi n))] σ none σ' ∧ cOK σ' N P Q M' ∧ ∀ c, 39 ≤ c → σ' c = σ c := by
  rcases pt_or P Q N n with ⟨x, y, z, t, hf, e1, e2⟩ | ⟨hf, e1, e2⟩
  · rw [e1] at h
    have h9 := cOK_out h hN hn
    have ep : pu (pu (pp P n x y z t) 8 n 1) 8 n 0 = pp P n x y z t := by
      funext k m
      unfold pu
      by_cases c : k = 8 ∧ m = n
      · rw [if_pos c, c.1, c.2, pp_o (by omega), h8]
      · rw [if_neg c, if_neg c]
    rw [ep] at h9
    refine ⟨_, _, v_Hold_putOut_0 _ ?_, cOK_back h9 h8, fun c hc => am_us_ne (by omega)⟩
    rw [h.2.1, mk_ub (by omega)]
    exact ⟨rfl, rfl⟩
  · exact absurd e2 h1
theorem C_cannot {d : Nat} {σ : Nat → Nat → Int32} {st : bSt} (hs : stC σ st) (hb : sBd st) {a e : Int} (ha : 0 ≤ a ∧ a ≤ 100) (he : 0 ≤ e ∧ e ≤ 100) : GG l D DA b sz d L cu M_Orders_cannotWin [some (.ref 39), some (.int (zi a)), some (.int (zi e))] σ (some (.int (if cWn st a e then 1 else 0))) σ := by
  obtain ⟨s2, s3, s4, -⟩ := hs
  unfold sBd at hb
  refine v_Orders_cannotWin_0 _ _ ?_
  have ev : (if zi a < σ 39 3 then (1 : Int32) else (if zi a = σ 39 3 then (if zi e < σ 39 4 then 0 else 1 : Int32) else 0 : Int32) : Int32) = if cWn st a e then 1 else 0 := by
    rw [s3, s4]
    have i1 : zi a < zi st.1 ↔ a < st.1 := zi_lt (by omega) (by omega) (by omega) (by omega)
    have i2 : zi a = zi st.1 ↔ a = st.1 := zi_eq (by omega) (by omega) (by omega) (by omega)
    have i3 : zi e < zi st.2.1 ↔ e < st.2.1 := zi_lt (by omega) (by omega) (by omega) (by omega)
    by_cases c1 : a < st.1
    · rw [if_pos (i1.mpr c1), if_pos (Or.inl c1)]
    · rw [if_neg (fun z => c1 (i1.mp z))]
      by_cases c2 : a = st.1
      · rw [if_pos (i2.mpr c2)]
        by_cases c3 : e < st.2.1
        · rw [if_pos (i3.mpr c3), if_neg (by omega)]
        · rw [if_neg (fun z => c3 (i3.mp z)), if_pos (Or.inr ⟨c2, by omega⟩)]
      · rw [if_neg (fun z => c2 (i2.mp z)), if_neg (by omega)]
  rw [ev]
  refine ⟨?_, rfl, rfl⟩
  split
  · exact Or.inr rfl
  · exact Or.inl rfl
theorem C_keep {d : Nat} {σ : Nat → Nat → Int32} {os : List Nat} (hr : rwC σ os) (hl : os.length ≤ 5) (a e : Int) :
    ∃ σ', GG l D DA b sz d L cu M_Orders_keep [some (.ref 39), some (.int (zi (os.length : Int))), some (.int (zi a)), some (.int (zi e)), none] σ none σ' ∧ stC σ' (a, e, os) ∧ ∀ c, c ≠ 39 → c ≠ 41 → σ' c = σ c := by
  have key : ∀ (j i : Nat) (σ1 : Nat → Nat → Int32), i + j = os.length → (σ1 39 2 = zi (os.length : Int) ∧ σ1 39 3 = zi a ∧ σ1 39 4 = zi e) → (∀ n, n < i → σ1 41 n = zi (nthL os n : Int)) → (∀ c, c ≠ 39 → c ≠ 41 → σ1 c = σ c) → ∃ σ', am_Go l D DA b sz d M_Orders_keep (18, [some (.ref 39), some (.int (zi (os.length : Int))), none, none, some (.int (zi (i : Int)))], [], (am_TT cu L, am_RR cu, σ1)) none (am_TT cu L, am_RR cu, σ') ∧ stC σ' (a, e, os) ∧ ∀ c, c ≠ 39 → c ≠ 41 → σ' c = σ c := by
    intro j
    induction j with
    | zero =>
      intro i σ1 hi h1 h2 hf
      have e : i = os.length := by omega
      subst e
      exact ⟨σ1, v_Orders_keep_18 _ _ ⟨fun _ => (by first | exact ⟨rfl, rfl⟩ | exact ⟨trivial, trivial⟩ | exact ⟨trivial, rfl⟩ | exact ⟨rfl, trivial⟩ | trivial), fun h0 => absurd (Int32.le_refl _) h0⟩, ⟨h1.1, h1.2.1, h1.2.2, h2⟩, hf⟩
    | succ j ih =>
      intro i σ1 hi h1 h2 hf
      have hcl : Int32.toNatClampNeg (zi i) = i := zi_cl (by omega)
      have ni : ¬ (zi (i : Int) < 0 ∨ 5 ≤ i) := by rw [zi_lt0 (by omega) (by omega)]; omega
      have hnle : ¬ zi (os.length : Int) ≤ zi (i : Int) := by rw [zi_le (by omega) (by omega) (by omega) (by omega)]; omega
      obtain ⟨σ', g, p⟩ := ih (i + 1) (am_us σ1 41 i (σ1 40 i)) (by omega) ⟨(am_us_c (by decide)).trans h1.1, (am_us_c (by decide)).trans h1.2.1, (am_us_c (by decide)).trans h1.2.2⟩ (fun n hn => by
        by_cases e : n = i
        · rw [e, am_us_s, hf 40 (by decide) (by decide)]; exact hr i (by omega)
        · rw [am_us_k e]; exact h2 n (by omega)) (fun c c1 c2 => by rw [am_us_ne c2]; exact hf c c1 c2)
      refine ⟨σ', v_Orders_keep_18 _ _ ?_, p⟩
      rw [hcl, zi_s1]
      exact ⟨fun h0 => absurd h0 hnle, fun _ => ⟨ni, ni, g⟩⟩
  obtain ⟨σ', g, p⟩ := key os.length 0 (am_us (am_us (am_us σ 39 2 (zi (os.length : Int))) 39 3 (zi a)) 39 4 (zi e)) (by omega) ⟨by rw [am_us_k (by decide), am_us_k (by decide), am_us_s], by rw [am_us_k (by decide), am_us_s], by rw [am_us_s]⟩ (fun n hn => absurd hn (by omega)) (fun c c1 c2 => by rw [am_us_ne c1, am_us_ne c1, am_us_ne c1])
  exact ⟨σ', v_Orders_keep_0 _ _ _ g, p⟩
/-- what tryOrders leaves -/
def tOut (Q : Nat → Int) (N : Nat) (P : Nat → Nat → Int) (os : List Nat) (σ σ' : Nat → Nat → Int32) (st : bSt) : Prop := (∃ M, cOK σ' N P Q M) ∧ rwC σ' os ∧ stC σ' st ∧ sBd st ∧ ∀ c, 42 ≤ c → σ' c = σ c
theorem C_leaf {d M left lo : Nat} {σ : Nat → Nat → Int32} {os : List Nat} {st : bSt} {pl : Nat} {X' : am_X} {r : Option Value} (hd : 2 ≤ d) (h : cOK σ N P Q M) (hp : pOK N P Q) (hl20 : left < 2 ^ 20) (hpl : pl ≤ 5) (hs : stC σ st) (hb : sBd st)
    (G1 : cWn st ((pl : Int) + (pcn left 20 : Int)) (far P N) → r = none ∧ X' = (am_TT cu L, am_RR cu, σ))
    (G2 : ¬ cWn st ((pl : Int) + (pcn left 20 : Int)) (far P N) → ((zi (left : Int) = 0) → (∃ σ4, GG l D DA b sz d L cu M_Orders_keep [some (.ref 39), some (.int (zi (os.length : Int))), some (.int (zi (pl : Int))), some (.int (zi (far P N))), none] σ none σ4 ∧ (r = none ∧ X' = (am_TT cu L, am_RR cu, σ4)))) ∧ (¬ (zi (left : Int) = 0) → (((zi (os.length : Int) < 5) → (am_Go l D DA b sz (d + 1) M_B_tryOrders (56, [some (.ref 1), some (.int (zi (left : Int))), some (.int (zi (os.length : Int))), some (.int (zi (pl : Int))), none, none, some (.int (zi (lo : Int))), some (.int 0)], [], (am_TT cu L, am_RR cu, σ)) r X')) ∧ (¬ (zi (os.length : Int) < 5) → (∃ σ5, GG l D DA b sz d L cu M_Orders_keep [some (.ref 39), some (.int (zi (os.length : Int))), some (.int (zi (pl : Int))), some (.int (zi (far P N))), none] σ none σ5 ∧ (r = none ∧ X' = (am_TT cu L, am_RR cu, σ5))))))) :
    am_Go l D DA b sz (d + 1) M_B_tryOrders (0, [some (.ref 1), some (.int (zi (left : Int))), some (.int (zi (os.length : Int))), some (.int (zi (pl : Int))), some (.int (zi (lo : Int))), none, none, none], [], (am_TT cu L, am_RR cu, σ)) r X' := by
  have hN := hp.1
  have g1 := c_reach (l := l) (D := D) (DA := DA) (b := b) (sz := sz) (d := d) (L := L) (cu := cu) (by omega) h hp
  have g2 := c_bitCount (l := l) (D := D) (DA := DA) (b := b) (sz := sz) (d := d) (L := L) (cu := cu) (σ := σ) hl20
  have hf := far_bd hp (Nat.le_refl N)
  have hpc := pcn_bd left 20
  have g3 := C_cannot (l := l) (D := D) (DA := DA) (b := b) (sz := sz) (d := d) (L := L) (cu := cu) hs hb (a := (pl : Int) + (pcn left 20 : Int)) (e := far P N) (by omega) (by omega)
  refine v_B_tryOrders_0 _ _ _ _ ⟨_, _, g1, _, _, g2, _, _, by rw [zi_add]; exact g3, ?_⟩
  by_cases c : cWn st ((pl : Int) + (pcn left 20 : Int)) (far P N)
  · rw [if_pos c]
    exact ⟨fun h0 => absurd h0 (by decide), fun _ => G1 c⟩
  · rw [if_neg c]
    exact ⟨fun _ => G2 c, fun h0 => absurd rfl h0⟩
theorem C_try : ∀ (f d left : Nat) (os : List Nat) (st : bSt) (σ : Nat → Nat → Int32) (P : Nat → Nat → Int) (M pl lo : Nat), f + 6 ≤ d → pcn left 20 = f → left < 2 ^ N → (∀ a, left.testBit a = true → P 8 a = 0) → pOK N P Q → cOK σ N P Q M → os.length + f ≤ 5 → pl ≤ os.length → rwC σ os → stC σ st → sBd st → lo < 2 ^ 20 → (∀ a, lo.testBit a = true → prP P Q N a = 0) →
    ∃ σ', GG l D DA b sz d L cu M_B_tryOrders [some (.ref 1), some (.int (zi (left : Int))), some (.int (zi (os.length : Int))), some (.int (zi (pl : Int))), some (.int (zi (lo : Int))), none, none, none] σ none σ' ∧ tOut Q N P os σ σ' (oCf Q N f P left pl os st) := by
  intro f
  induction f with
  | zero =>
    intro d left os st σ P M pl lo hd hf hl hl8 hp hc hlen hpl hr hs hb hlo hinv
    have hN := hp.1
    obtain ⟨d, rfl⟩ : ∃ d', d = d' + 1 := ⟨d - 1, by omega⟩
    have hl20 : left < 2 ^ 20 := Nat.lt_of_lt_of_le hl (Nat.pow_le_pow_right (by decide) hN)
    have e : left = 0 := pcn_zero hl20 hf
    have hfb := far_bd hp (Nat.le_refl N)
    show ∃ σ', _ ∧ tOut Q N P os σ σ' (if cWn st ((pl : Int) + (pcn left 20 : Int)) (far P N) then st else ((pl : Int), far P N, os))
    by_cases c : cWn st ((pl : Int) + (pcn left 20 : Int)) (far P N)
    · rw [if_pos c]
      exact ⟨σ, C_leaf (by omega) hc hp hl20 (by omega) hs hb (fun _ => ⟨rfl, rfl⟩) (fun z => absurd c z), ⟨M, hc⟩, hr, hs, hb, fun _ _ => rfl⟩
    · rw [if_neg c]
      obtain ⟨σ4, g4, s4, f4⟩ := C_keep (l := l) (D := D) (DA := DA) (b := b) (sz := sz) (d := d) (L := L) (cu := cu) hr (by omega) (pl : Int) (far P N)
      refine ⟨σ4, C_leaf (by omega) hc hp hl20 (by omega) hs hb (fun z => absurd z c) (fun _ => ⟨fun _ => ⟨σ4, g4, rfl, rfl⟩, fun h0 => absurd (by rw [e]; rfl) h0⟩), ⟨M, cOK_fr hc (by rw [f4 2 (by decide) (by decide)]) (by rw [f4 2 (by decide) (by decide)]) (fun c hc => f4 c (by omega) (by omega)) hN⟩, fun i hi => by rw [f4 40 (by decide) (by decide)]; exact hr i hi, s4, ⟨⟨by show -1 ≤ (pl : Int); omega, by show (pl : Int) ≤ 5; omega⟩, hfb⟩, fun c hc => f4 c (by omega) (by omega)⟩
  | succ f ih =>
    intro d left os st σ P M pl lo hd hf hl hl8 hp hc hlen hpl hr hs hb hlo hinv
    have hN := hp.1
    obtain ⟨d, rfl⟩ : ∃ d', d = d' + 1 := ⟨d - 1, by omega⟩
    have hl20 : left < 2 ^ 20 := Nat.lt_of_lt_of_le hl (Nat.pow_le_pow_right (by decide) hN)
    have hne : left ≠ 0 := fun e => by
      have h9 : pcn 0 20 = 0 := by decide
      rw [e, h9] at hf
      omega
    show ∃ σ', _ ∧ tOut Q N P os σ σ' (if cWn st ((pl : Int) + (pcn left 20 : Int)) (far P N) then st else fo (fun a st => if left.testBit a = true then oCf Q N f (ptP P Q N a) (ub left a) (pl + prP P Q N a) (os ++ [a]) st else st) st N)
    by_cases c : cWn st ((pl : Int) + (pcn left 20 : Int)) (far P N)
    · rw [if_pos c]
      exact ⟨σ, C_leaf (by omega) hc hp hl20 (by omega) hs hb (fun _ => ⟨rfl, rfl⟩) (fun z => absurd c z), ⟨M, hc⟩, hr, hs, hb, fun _ _ => rfl⟩
    · rw [if_neg c]
      have key : ∀ (j i : Nat) (σ1 : Nat → Nat → Int32) (lo : Nat), i + j = N → lo < 2 ^ 20 → (∀ a, lo.testBit a = true → prP P Q N a = 0) → tOut Q N P os σ σ1 (fo (fun a st => if left.testBit a = true then oCf Q N f (ptP P Q N a) (ub left a) (pl + prP P Q N a) (os ++ [a]) st else st) st i) →
          ∃ σ', am_Go l D DA b sz (d + 1) M_B_tryOrders (56, [some (.ref 1), some (.int (zi (left : Int))), some (.int (zi (os.length : Int))), some (.int (zi (pl : Int))), none, none, some (.int (zi (lo : Int))), some (.int (zi (i : Int)))], [], (am_TT cu L, am_RR cu, σ1)) none (am_TT cu L, am_RR cu, σ') ∧ tOut Q N P os σ σ' (fo (fun a st => if left.testBit a = true then oCf Q N f (ptP P Q N a) (ub left a) (pl + prP P Q N a) (os ++ [a]) st else st) st N) := by
        intro j
        induction j with
        | zero =>
          intro i σ1 lo hi hlo hinv hO
          have e : i = N := by omega
          subst e
          obtain ⟨⟨M1, c1⟩, -⟩ := id hO
          refine ⟨σ1, v_B_tryOrders_56 _ _ _ _ _ ?_, hO⟩
          rw [c1.1]
          exact ⟨fun _ => (by first | exact ⟨rfl, rfl⟩ | exact ⟨trivial, trivial⟩ | exact ⟨trivial, rfl⟩ | exact ⟨rfl, trivial⟩ | trivial), fun h0 => absurd (Int32.le_refl _) h0⟩
        | succ j ihj =>
          intro i σ1 lo hi hlo hinv hO
          obtain ⟨⟨M1, c1⟩, r1, s1, b1, f1⟩ := id hO
          have hiN : i < N := by omega
          have hnle : ¬ zi (N : Int) ≤ zi (i : Int) := by rw [zi_le (by omega) (by omega) (by omega) (by omega)]; omega
          have q0 : fo (fun a st => if left.testBit a = true then oCf Q N f (ptP P Q N a) (ub left a) (pl + prP P Q N a) (os ++ [a]) st else st) st (i + 1) = (if left.testBit i = true then oCf Q N f (ptP P Q N i) (ub left i) (pl + prP P Q N i) (os ++ [i]) (fo (fun a st => if left.testBit a = true then oCf Q N f (ptP P Q N a) (ub left a) (pl + prP P Q N a) (os ++ [a]) st else st) st i) else fo (fun a st => if left.testBit a = true then oCf Q N f (ptP P Q N a) (ub left a) (pl + prP P Q N a) (os ++ [a]) st else st) st i) := rfl
          have ih2 := ihj (i + 1)
          rw [q0] at ih2
          generalize fo (fun a st => if left.testBit a = true then oCf Q N f (ptP P Q N a) (ub left a) (pl + prP P Q N a) (os ++ [a]) st else st) st N = stN at ih2 ⊢
          generalize fo (fun a st => if left.testBit a = true then oCf Q N f (ptP P Q N a) (ub left a) (pl + prP P Q N a) (os ++ [a]) st else st) st i = sti at ih2 hO s1 b1
          by_cases hbt : left.testBit i = true
          · rw [if_pos hbt] at ih2
            have h8 := hl8 i hbt
            have hcl : Int32.toNatClampNeg (zi (os.length : Int)) = os.length := zi_cl (by omega)
            have no : ¬ (zi (os.length : Int) < 0 ∨ 5 ≤ os.length) := by rw [zi_lt0 (by omega) (by omega)]; omega
            have ca : cOK (am_us σ1 40 os.length (zi (i : Int))) N P Q M1 := cOK_fr c1 (am_us_c (by decide)) (am_us_c (by decide)) (fun c hc => am_us_ne (by omega)) hN
            have e9 := opn_c (P := P) (os := []) hN ⟨hl, fun a ha => ⟨hl8 a ha, by simp⟩⟩ hbt hf
            have hpr := pr_le P Q N i
            have hll : (os ++ [i]).length = os.length + 1 := List.length_append
            have hub : ∀ a, (ub left i).testBit a = true → left.testBit a = true ∧ a ≠ i := fun a ha => by
              rw [ub_bit hl20 (by omega)] at ha
              simp only [Bool.and_eq_true, decide_eq_true_eq] at ha
              exact ha
            have hlo2 : lo ||| 2 ^ i < 2 ^ 20 := Nat.or_lt_two_pow hlo (Nat.pow_lt_pow_right (by decide) (by omega))
            have rw1 : ∀ σ2 : Nat → Nat → Int32, (∀ c, 39 ≤ c → σ2 c = am_us σ1 40 os.length (zi (i : Int)) c) → rwC σ2 (os ++ [i]) ∧ stC σ2 sti := fun σ2 f2 => by
              refine ⟨fun n hn => ?_, ?_⟩
              · rw [f2 40 (by decide)]
                by_cases e : n = os.length
                · rw [e, am_us_s, nthL_m i [] os]
                · rw [List.length_append] at hn
                  have hn2 : n < os.length + 1 := hn
                  rw [am_us_k e, nthL_l i os n (by omega)]
                  exact r1 n (by omega)
              · unfold stC
                rw [f2 39 (by decide), f2 41 (by decide), am_us_ne (by decide), am_us_ne (by decide)]
                exact s1
            -- it finds no corner: the boxes stand as they stood
            have stay : prP P Q N i = 0 → ∀ (σ2 : Nat → Nat → Int32) (M2 : Nat), cOK σ2 N P Q M2 → (∀ c, 39 ≤ c → σ2 c = am_us σ1 40 os.length (zi (i : Int)) c) →
                ∃ σ3 σ', GG l D DA b sz d L cu M_B_tryOrders [some (.ref 1), some (.int (zi ((ub left i : Nat) : Int))), some (.int (zi ((os.length + 1 : Nat) : Int))), some (.int (zi (pl : Int))), some (.int (zi ((lo ||| 2 ^ i : Nat) : Int))), none, none, none] σ2 none σ3 ∧ am_Go l D DA b sz (d + 1) M_B_tryOrders (56, [some (.ref 1), some (.int (zi (left : Int))), some (.int (zi (os.length : Int))), some (.int (zi (pl : Int))), none, none, some (.int (zi ((lo ||| 2 ^ i : Nat) : Int))), some (.int (zi ((i + 1 : Nat) : Int)))], [], (am_TT cu L, am_RR cu, σ3)) none (am_TT cu L, am_RR cu, σ') ∧ tOut Q N P os σ σ' stN := by
              intro c0 σ2 M2 c2 f2
              have ep : ptP P Q N i = P := by
                rcases pt_or P Q N i with ⟨x, y, z, t, hf, e1, e2⟩ | ⟨hf, e1, e2⟩
                · omega
                · exact e1
              rw [ep, c0, Nat.add_zero] at ih2
              have hinv2 : ∀ a, (lo ||| 2 ^ i).testBit a = true → prP P Q N a = 0 := fun a ha => by
                by_cases e : i = a
                · rw [← e]; exact c0
                · rw [Nat.testBit_or, Nat.testBit_two_pow, decide_eq_false e, Bool.or_false] at ha
                  exact hinv a ha
              obtain ⟨r2, s2⟩ := rw1 σ2 f2
              obtain ⟨σ3, g3, o3⟩ := ih d (ub left i) (os ++ [i]) sti σ2 P M2 pl (lo ||| 2 ^ i) (by omega) e9 (Nat.lt_of_le_of_lt ub_le hl) (fun a ha => hl8 a (hub a ha).1) hp c2 (by omega) (by omega) r2 s2 b1 hlo2 hinv2
              obtain ⟨⟨M3, c3⟩, r3, s3, b3, f3⟩ := o3
              have r3' : rwC σ3 os := fun n hn => by
                have h9 := r3 n (by omega)
                rw [nthL_l i os n hn] at h9
                exact h9
              have fr3 : ∀ c, 42 ≤ c → σ3 c = σ c := fun c hc => by rw [f3 c hc, f2 c (by omega), am_us_ne (by omega)]; exact f1 c hc
              rw [hll] at g3
              obtain ⟨σ', g, o⟩ := ih2 σ3 (lo ||| 2 ^ i) (by omega) hlo2 hinv2 ⟨⟨M3, c3⟩, r3', s3, b3, fr3⟩
              exact ⟨σ3, σ', g3, g, o⟩
            by_cases hlb : lo.testBit i = true
            · obtain ⟨σ3, σ', g3, g, o⟩ := stay (hinv i hlb) _ M1 ca (fun _ _ => rfl)
              refine ⟨σ', v_B_tryOrders_56 _ _ _ _ _ ?_, o⟩
              rw [c1.1, mk_bit0 (M := left) (by omega) (by omega), mk_bit0 (M := lo) (by omega) (by omega), hcl]
              refine ⟨fun h0 => absurd h0 hnle, fun _ => ⟨fun h0 => absurd (hbt.symm.trans h0) (by decide), fun _ => ⟨no, fun h0 => absurd (hlb.symm.trans h0) (by decide), fun _ => ⟨σ3, ?_, ?_⟩⟩⟩⟩
              · rw [mk_ub (by omega), zi_s1, mk_shl (by omega), mk_or]; exact g3
              · rw [zi_s1, mk_shl (by omega), mk_or]; exact g
            · have hlb0 : lo.testBit i = false := by cases h : lo.testBit i; rfl; exact absurd h hlb
              obtain ⟨σ2, M2, g2, c2, f2⟩ := C_set (l := l) (D := D) (DA := DA) (b := b) (sz := sz) (d := d) (L := L) (cu := cu) (by omega) ca hp hiN h8
              by_cases c0 : prP P Q N i = 0
              · have ep : ptP P Q N i = P := by
                  rcases pt_or P Q N i with ⟨x, y, z, t, hf, e1, e2⟩ | ⟨hf, e1, e2⟩
                  · omega
                  · exact e1
                rw [ep] at c2
                obtain ⟨σ3, σ', g3, g, o⟩ := stay c0 σ2 M2 c2 f2
                refine ⟨σ', v_B_tryOrders_56 _ _ _ _ _ ?_, o⟩
                rw [c1.1, mk_bit0 (M := left) (by omega) (by omega), mk_bit0 (M := lo) (by omega) (by omega), hcl]
                refine ⟨fun h0 => absurd h0 hnle, fun _ => ⟨fun h0 => absurd (hbt.symm.trans h0) (by decide), fun _ => ⟨no, fun _ => ⟨_, σ2, g2, fun _ => ⟨σ3, ?_, ?_⟩, fun h0 => absurd (by rw [c0]; rfl) h0⟩, fun h0 => absurd hlb0 h0⟩⟩⟩
                · rw [mk_ub (by omega), zi_s1, mk_shl (by omega), mk_or]; exact g3
                · rw [zi_s1, mk_shl (by omega), mk_or]; exact g
              · have hp1 : prP P Q N i = 1 := by omega
                obtain ⟨r2, s2⟩ := rw1 σ2 f2
                obtain ⟨σ3, g3, o3⟩ := ih d (ub left i) (os ++ [i]) sti σ2 (ptP P Q N i) M2 (pl + prP P Q N i) 0 (by omega) e9 (Nat.lt_of_le_of_lt ub_le hl) (fun a ha => by
                  rw [pt_o (Or.inl (hub a ha).2)]
                  exact hl8 a (hub a ha).1) (pOK_pt hp hiN h8) c2 (by omega) (by omega) r2 s2 b1 (by decide) (fun a ha => absurd (ha.symm.trans (Nat.zero_testBit a)) (by decide))
                obtain ⟨⟨M3, c3⟩, r3, s3, b3, f3⟩ := o3
                have r3' : rwC σ3 os := fun n hn => by
                  have h9 := r3 n (by omega)
                  rw [nthL_l i os n hn] at h9
                  exact h9
                have fr3 : ∀ c, 42 ≤ c → σ3 c = σ c := fun c hc => by rw [f3 c hc, f2 c (by omega), am_us_ne (by omega)]; exact f1 c hc
                rw [hll] at g3
                obtain ⟨σ4, M4, g4, c4, f4⟩ := C_out (l := l) (D := D) (DA := DA) (b := b) (sz := sz) (d := d) (L := L) (cu := cu) c3 hN hiN h8 c0
                obtain ⟨σ', g, o⟩ := ih2 σ4 lo (by omega) hlo hinv ⟨⟨M4, c4⟩, fun n hn => by rw [f4 40 (by decide)]; exact r3' n hn, by unfold stC; rw [f4 39 (by decide), f4 41 (by decide)]; exact s3, b3, fun c hc => (f4 c (by omega)).trans (fr3 c hc)⟩
                have er : zi (pl : Int) + 1 = zi ((pl + prP P Q N i : Nat) : Int) := by rw [hp1, zi_s1]; rfl
                refine ⟨σ', v_B_tryOrders_56 _ _ _ _ _ ?_, o⟩
                rw [c1.1, mk_bit0 (M := left) (by omega) (by omega), mk_bit0 (M := lo) (by omega) (by omega), hcl]
                refine ⟨fun h0 => absurd h0 hnle, fun _ => ⟨fun h0 => absurd (hbt.symm.trans h0) (by decide), fun _ => ⟨no, fun _ => ⟨_, σ2, g2, fun h0 => absurd ((zi_eq0 (by omega) (by omega)).mp h0) (by omega), fun _ => ⟨σ3, ?_, σ4, g4, ?_⟩⟩, fun h0 => absurd hlb0 h0⟩⟩⟩
                · rw [mk_ub (by omega), er, zi_s1]; exact g3
                · rw [zi_s1]; exact g
          · rw [if_neg hbt] at ih2
            have hb0 : left.testBit i = false := by cases h : left.testBit i; rfl; exact absurd h hbt
            obtain ⟨σ', g, o⟩ := ih2 σ1 lo (by omega) hlo hinv hO
            refine ⟨σ', v_B_tryOrders_56 _ _ _ _ _ ?_, o⟩
            rw [c1.1, mk_bit0 (M := left) (by omega) (by omega), zi_s1]
            exact ⟨fun h0 => absurd h0 hnle, fun _ => ⟨fun _ => g, fun h0 => absurd hb0 h0⟩⟩
      obtain ⟨σ', g, o⟩ := key N 0 σ lo (by omega) hlo hinv ⟨⟨M, hc⟩, hr, hs, hb, fun _ _ => rfl⟩
      refine ⟨σ', C_leaf (by omega) hc hp hl20 (by omega) hs hb (fun z => absurd z c) (fun _ => ⟨fun h0 => absurd ((zi_eq0 (by omega) (by omega)).mp h0) (by omega), fun _ => ⟨fun _ => g, fun h0 => absurd ?_ h0⟩⟩), o⟩
      rw [z5, zi_lt (by omega) (by omega) (by omega) (by omega)]
      omega
theorem C_setBest_l {d : Nat} (hd : 4 ≤ d) : ∀ (post pre : List Nat) (P : Nat → Nat → Int) (σ : Nat → Nat → Int32) (M a : Nat), gLs N P post → cOK σ N P Q M → pOK N P Q → σ 39 2 = zi ((pre ++ post).length : Int) → (∀ i, i < (pre ++ post).length → σ 41 i = zi (nthL (pre ++ post) i : Int)) → (pre ++ post).length ≤ 5 →
    ∃ σ' M', am_Go l D DA b sz (d + 1) M_B_setBest (4, [some (.ref 1), some (.int (zi (a : Int))), some (.int (zi (pre.length : Int)))], [], (am_TT cu L, am_RR cu, σ)) (some (.int (zi ((a + rcP Q N P post : Nat) : Int)))) (am_TT cu L, am_RR cu, σ') ∧ cOK σ' N (rnP Q N P post) Q M' ∧ ∀ c, 39 ≤ c → σ' c = σ c := by
  intro post
  induction post with
  | nil =>
    intro pre P σ M a hg hc hp h2 h41 hl
    refine ⟨σ, M, v_B_setBest_4 _ _ ?_, hc, fun _ _ => rfl⟩
    rw [h2, List.append_nil]
    exact ⟨fun _ => (by first | exact ⟨rfl, rfl⟩ | exact ⟨trivial, trivial⟩ | exact ⟨trivial, rfl⟩ | exact ⟨rfl, trivial⟩ | trivial), fun h0 => absurd (Int32.le_refl _) h0⟩
  | cons n post ih =>
    intro pre P σ M a hg hc hp h2 h41 hl
    obtain ⟨g1, g2, g3⟩ := gLs_t (Q := Q) hg
    obtain ⟨σ1, M1, s1, s2, s3⟩ := C_set (l := l) (D := D) (DA := DA) (b := b) (sz := sz) (d := d) (L := L) (cu := cu) hd hc hp g1 g2
    have e0 : pre ++ n :: post = (pre ++ [n]) ++ post := by simp
    have hll : (pre ++ n :: post).length = pre.length + (post.length + 1) := List.length_append
    have hl1 : (pre ++ [n]).length = pre.length + 1 := List.length_append
    obtain ⟨σ', M', t1, t2, t3⟩ := ih (pre ++ [n]) (ptP P Q N n) σ1 M1 (a + prP P Q N n) g3 s2 (pOK_pt hp g1 g2) (by rw [s3 39 (by decide), ← e0]; exact h2) (by rw [s3 41 (by decide), ← e0]; exact h41) (by rw [← e0]; exact hl)
    refine ⟨σ', M', v_B_setBest_4 _ _ ?_, t2, fun c hc => (t3 c hc).trans (s3 c hc)⟩
    have hcl : Int32.toNatClampNeg (zi (pre.length : Int)) = pre.length := zi_cl (by omega)
    have no : ¬ (zi (pre.length : Int) < 0 ∨ 5 ≤ pre.length) := by rw [zi_lt0 (by omega) (by omega)]; omega
    have hnle : ¬ zi ((pre ++ n :: post).length : Int) ≤ zi (pre.length : Int) := by rw [zi_le (by omega) (by omega) (by omega) (by omega)]; omega
    rw [h2, hcl, h41 pre.length (by omega), nthL_m n post pre, zi_s1, zi_s1]
    refine ⟨fun h0 => absurd h0 hnle, fun _ => ⟨no, _, σ1, s1, ?_⟩⟩
    have ea : a + rcP Q N P (n :: post) = a + prP P Q N n + rcP Q N (ptP P Q N n) post := by
      show a + (prP P Q N n + rcP Q N (ptP P Q N n) post) = _
      omega
    rw [ea]
    rw [hl1] at t1
    have h9 := pr_le P Q N n
    have hc : prP P Q N n = 0 ∨ prP P Q N n = 1 := by omega
    rcases hc with h | h
    · rw [h] at t1 ⊢
      exact ⟨fun _ => t1, fun h0 => absurd rfl h0⟩
    · rw [h] at t1 ⊢
      exact ⟨fun h0 => absurd h0 (by decide), fun _ => t1⟩
end CTR
