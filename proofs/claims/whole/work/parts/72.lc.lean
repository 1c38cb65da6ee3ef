/-! the class: listCommon, listCorners -/
/-- the mark of those that end behind the wall -/
def wl (a q : Int) : Nat := if a ≤ q then 0 else 2 ^ 30
def wm (P : Nat → Nat → Int) (N k : Nat) (c s q : Int) : Nat := cmk P N k c (c + s) ||| wl (c + s) q
section LCO
variable {l : Launch} {D : va_G} {DA : Nat → ClassId} {b sz d L : Nat} {cu : Bool} {σ σ' : Nat → Nat → Int32} {N M E : Nat} {P : Nat → Nat → Int} {Q : Nat → Int}
theorem c_wall {a q : Int} (h1 : -1000 ≤ a ∧ a ≤ 1000) (h2 : -1000 ≤ q ∧ q ≤ 1000) : GG l D DA b sz d L cu M_Hold_wall [some (.int (zi a)), some (.int (zi q))] σ (some (.int (zi (wl a q : Int)))) σ := by
  refine v_Hold_wall_0 _ _ ?_
  rw [zi_le (by omega) (by omega) (by omega) (by omega)]
  unfold wl
  exact ⟨fun c => by rw [if_pos c]; exact (by first | exact ⟨rfl, rfl⟩ | exact ⟨trivial, trivial⟩ | exact ⟨trivial, rfl⟩ | exact ⟨rfl, trivial⟩ | trivial), fun c => by rw [if_neg c]; exact (by first | exact ⟨rfl, rfl⟩ | exact ⟨trivial, trivial⟩ | exact ⟨trivial, rfl⟩ | exact ⟨rfl, trivial⟩ | trivial)⟩
theorem lc_X (hd : 1 ≤ d) (h : cOK σ N P Q M) (hp : pOK N P Q) {n : Nat} (hn : n < N) (he : eOK σ 7 E) (h21 : pcn E 41 ≤ 21) {Post : (Nat → Nat → Int32) → Prop}
    (G : ∀ σ1, (∀ c, c ≠ 9 → c ≠ 10 → σ1 c = σ c) → (∀ c : Nat, c < 41 → E.testBit c = true → σ1 9 (pcn E c) = zi (wm P N 0 c (P 0 n) (Q 0) : Int) ∧ σ1 10 (pcn E c) = zi (wm P N 0 c (P 1 n) (Q 0) : Int)) → ∃ σ', am_Go l D DA b sz (d + 1) M_Hold_listCommon (105, [some (.ref 2), some (.ref (19 + n)), some (.int 0), none], [], (am_TT cu L, am_RR cu, σ1)) none (am_TT cu L, am_RR cu, σ') ∧ Post σ') :
    ∃ σ', am_Go l D DA b sz (d + 1) M_Hold_listCommon (2, [some (.ref 2), some (.ref (19 + n)), some (.int 0), none], [], (am_TT cu L, am_RR cu, σ)) none (am_TT cu L, am_RR cu, σ') ∧ Post σ' := by
  have hN := hp.1
  have hn20 : n < 20 := by omega
  have hb := hp.2.1 n hn
  have hq := hp.2.2.2
  unfold bOK at hb
  unfold qOK at hq
  have key : ∀ (k v : Nat) (σ1 : Nat → Nat → Int32), v ≤ 41 → 41 - v ≤ k → (∀ c, c ≠ 9 → c ≠ 10 → σ1 c = σ c) → (∀ c : Nat, c < v → E.testBit c = true → σ1 9 (pcn E c) = zi (wm P N 0 c (P 0 n) (Q 0) : Int) ∧ σ1 10 (pcn E c) = zi (wm P N 0 c (P 1 n) (Q 0) : Int)) → ∃ σ', am_Go l D DA b sz (d + 1) M_Hold_listCommon (2, [some (.ref 2), some (.ref (19 + n)), some (.int (zi (pcn E v))), none], [], (am_TT cu L, am_RR cu, σ1)) none (am_TT cu L, am_RR cu, σ') ∧ Post σ' := by
    intro k
    induction k with
    | zero =>
      intro v σ1 hv hk hf ht
      have e : v = 41 := by omega
      subst e
      obtain ⟨σ', g, p1⟩ := G σ1 hf ht
      refine ⟨σ', v_Hold_listCommon_2 _ n hn20 ?_, p1⟩
      rw [hf 7 (by omega) (by omega), he.1]
      exact ⟨fun _ => g, fun h0 => absurd (Int32.le_refl _) h0⟩
    | succ k ih =>
      intro v σ1 hv hk hf ht
      rcases pcn_nxt E (41 - v) v (by omega) with ⟨a1, a2⟩ | ⟨c, a1, a2, a3, a4, a5⟩
      · obtain ⟨σ', g, p1⟩ := G σ1 hf (fun c b1 b2 => ht c (by
          by_cases e : c < v
          · exact e
          · rw [a2 c (by omega) b1] at b2; cases b2) b2)
        refine ⟨σ', v_Hold_listCommon_2 _ n hn20 ?_, p1⟩
        rw [hf 7 (by omega) (by omega), he.1, a1]
        exact ⟨fun _ => g, fun h0 => absurd (Int32.le_refl _) h0⟩
      · have hlt := pcn_lt a2 a3
        have hcl : Int32.toNatClampNeg (zi (pcn E c : Nat)) = pcn E c := zi_cl (by omega)
        have hc1 : cOK σ1 N P Q M := cOK_fr h (by rw [hf 2 (by omega) (by omega)]) (by rw [hf 2 (by omega) (by omega)]) (fun c' hc' => hf c' (by omega) (by omega)) hN
        have x1 := c_commonInX (l := l) (D := D) (DA := DA) (b := b) (sz := sz) (d := d) (L := L) (cu := cu) (by omega) hc1 hp (f := c) (e := c + P 0 n) (by omega) (by omega)
        have y1 := c_wall (l := l) (D := D) (DA := DA) (b := b) (sz := sz) (d := d) (L := L) (cu := cu) (σ := σ1) (a := c + P 0 n) (q := Q 0) (by omega) (by omega)
        have hc2 : cOK (am_us σ1 9 (pcn E c) (zi (wm P N 0 c (P 0 n) (Q 0) : Int))) N P Q M := cOK_fr hc1 (am_us_c (by omega)) (am_us_c (by omega)) (fun c' hc' => am_us_ne (by omega)) hN
        have x2 := c_commonInX (l := l) (D := D) (DA := DA) (b := b) (sz := sz) (d := d) (L := L) (cu := cu) (by omega) hc2 hp (f := c) (e := c + P 1 n) (by omega) (by omega)
        have y2 := c_wall (l := l) (D := D) (DA := DA) (b := b) (sz := sz) (d := d) (L := L) (cu := cu) (σ := am_us σ1 9 (pcn E c) (zi (wm P N 0 c (P 0 n) (Q 0) : Int))) (a := c + P 1 n) (q := Q 0) (by omega) (by omega)
        obtain ⟨σ', g, p1⟩ := ih (c + 1) (am_us (am_us σ1 9 (pcn E c) (zi (wm P N 0 c (P 0 n) (Q 0) : Int))) 10 (pcn E c) (zi (wm P N 0 c (P 1 n) (Q 0) : Int))) (by omega) (by omega) (fun c' b1 b2 => by rw [am_us_ne b2, am_us_ne b1]; exact hf c' b1 b2) (fun c' b1 b2 => by
          by_cases e : c' = c
          · subst e
            exact ⟨by rw [am_us_c (by omega), am_us_s], by rw [am_us_s]⟩
          · have hv' : c' < v := by
              by_cases e2 : c' < v
              · exact e2
              · rw [a5 c' (by omega) (by omega)] at b2; cases b2
            have h9 := pcn_lt (M := E) (show c' < c by omega) b2
            rw [am_us_c (show (9 : Nat) ≠ 10 by omega), am_us_k (show pcn E c' ≠ pcn E c by omega), am_us_k (show pcn E c' ≠ pcn E c by omega), am_us_c (show (10 : Nat) ≠ 9 by omega)]
            exact ht c' hv' b2)
        rw [pcn_t a3] at g
        refine ⟨σ', v_Hold_listCommon_2 _ n hn20 ?_, p1⟩
        have r1 := (hc1.row hn20).1
        have r2 := (hc1.row hn20).2.1
        have t1 := hc1.2.2.2.1 0 (by decide)
        have e8 : σ1 8 (pcn E c) = zi c := by rw [hf 8 (by omega) (by omega)]; exact he.2 c a2 a3
        rw [hf 7 (by omega) (by omega), he.1, ← a4, hcl, e8, r1, zi_add]
        simp (disch := omega) only [zi_le, zi_lt0]
        refine ⟨fun h0 => absurd h0 (by omega), fun _ => ⟨by omega, _, _, x1, ?_⟩⟩
        rw [r1, t1, zi_add]
        refine ⟨_, _, y1, by omega, ?_⟩
        rw [mk_or]
        have ew : cmk P N 0 c (c + P 0 n) ||| wl (c + P 0 n) (Q 0) = wm P N 0 c (P 0 n) (Q 0) := rfl
        rw [ew, am_us_c (c' := 19 + n) (by omega), r2, zi_add]
        refine ⟨_, _, x2, ?_⟩
        rw [am_us_c (c' := 19 + n) (by omega), am_us_c (c' := 3) (by omega), r2, t1, zi_add]
        refine ⟨_, _, y2, by omega, ?_⟩
        rw [mk_or, zi_s1]
        exact g
  exact key 41 0 σ (by omega) (by omega) (fun _ _ _ => rfl) (fun c hc _ => absurd hc (by omega))
theorem lc_Y (hd : 1 ≤ d) (h : cOK σ N P Q M) (hp : pOK N P Q) {n : Nat} (hn : n < N) (he : eOK σ 11 E) (h21 : pcn E 41 ≤ 21) {Post : (Nat → Nat → Int32) → Prop}
    (G : ∀ σ1, (∀ c, c ≠ 13 → c ≠ 14 → σ1 c = σ c) → (∀ c : Nat, c < 41 → E.testBit c = true → σ1 13 (pcn E c) = zi (wm P N 1 c (P 1 n) (Q 1) : Int) ∧ σ1 14 (pcn E c) = zi (wm P N 1 c (P 0 n) (Q 1) : Int)) → ∃ σ', am_Go l D DA b sz (d + 1) M_Hold_listCommon (208, [some (.ref 2), some (.ref (19 + n)), some (.int 0), none], [], (am_TT cu L, am_RR cu, σ1)) none (am_TT cu L, am_RR cu, σ') ∧ Post σ') :
    ∃ σ', am_Go l D DA b sz (d + 1) M_Hold_listCommon (105, [some (.ref 2), some (.ref (19 + n)), some (.int 0), none], [], (am_TT cu L, am_RR cu, σ)) none (am_TT cu L, am_RR cu, σ') ∧ Post σ' := by
  have hN := hp.1
  have hn20 : n < 20 := by omega
  have hb := hp.2.1 n hn
  have hq := hp.2.2.2
  unfold bOK at hb
  unfold qOK at hq
  have key : ∀ (k v : Nat) (σ1 : Nat → Nat → Int32), v ≤ 41 → 41 - v ≤ k → (∀ c, c ≠ 13 → c ≠ 14 → σ1 c = σ c) → (∀ c : Nat, c < v → E.testBit c = true → σ1 13 (pcn E c) = zi (wm P N 1 c (P 1 n) (Q 1) : Int) ∧ σ1 14 (pcn E c) = zi (wm P N 1 c (P 0 n) (Q 1) : Int)) → ∃ σ', am_Go l D DA b sz (d + 1) M_Hold_listCommon (105, [some (.ref 2), some (.ref (19 + n)), some (.int (zi (pcn E v))), none], [], (am_TT cu L, am_RR cu, σ1)) none (am_TT cu L, am_RR cu, σ') ∧ Post σ' := by
    intro k
    induction k with
    | zero =>
      intro v σ1 hv hk hf ht
      have e : v = 41 := by omega
      subst e
      obtain ⟨σ', g, p1⟩ := G σ1 hf ht
      refine ⟨σ', v_Hold_listCommon_105 _ n hn20 ?_, p1⟩
      rw [hf 11 (by omega) (by omega), he.1]
      exact ⟨fun _ => g, fun h0 => absurd (Int32.le_refl _) h0⟩
    | succ k ih =>
      intro v σ1 hv hk hf ht
      rcases pcn_nxt E (41 - v) v (by omega) with ⟨a1, a2⟩ | ⟨c, a1, a2, a3, a4, a5⟩
      · obtain ⟨σ', g, p1⟩ := G σ1 hf (fun c b1 b2 => ht c (by
          by_cases e : c < v
          · exact e
          · rw [a2 c (by omega) b1] at b2; cases b2) b2)
        refine ⟨σ', v_Hold_listCommon_105 _ n hn20 ?_, p1⟩
        rw [hf 11 (by omega) (by omega), he.1, a1]
        exact ⟨fun _ => g, fun h0 => absurd (Int32.le_refl _) h0⟩
      · have hlt := pcn_lt a2 a3
        have hcl : Int32.toNatClampNeg (zi (pcn E c : Nat)) = pcn E c := zi_cl (by omega)
        have hc1 : cOK σ1 N P Q M := cOK_fr h (by rw [hf 2 (by omega) (by omega)]) (by rw [hf 2 (by omega) (by omega)]) (fun c' hc' => hf c' (by omega) (by omega)) hN
        have x1 := c_commonInY (l := l) (D := D) (DA := DA) (b := b) (sz := sz) (d := d) (L := L) (cu := cu) (by omega) hc1 hp (f := c) (e := c + P 1 n) (by omega) (by omega)
        have y1 := c_wall (l := l) (D := D) (DA := DA) (b := b) (sz := sz) (d := d) (L := L) (cu := cu) (σ := σ1) (a := c + P 1 n) (q := Q 1) (by omega) (by omega)
        have hc2 : cOK (am_us σ1 13 (pcn E c) (zi (wm P N 1 c (P 1 n) (Q 1) : Int))) N P Q M := cOK_fr hc1 (am_us_c (by omega)) (am_us_c (by omega)) (fun c' hc' => am_us_ne (by omega)) hN
        have x2 := c_commonInY (l := l) (D := D) (DA := DA) (b := b) (sz := sz) (d := d) (L := L) (cu := cu) (by omega) hc2 hp (f := c) (e := c + P 0 n) (by omega) (by omega)
        have y2 := c_wall (l := l) (D := D) (DA := DA) (b := b) (sz := sz) (d := d) (L := L) (cu := cu) (σ := am_us σ1 13 (pcn E c) (zi (wm P N 1 c (P 1 n) (Q 1) : Int))) (a := c + P 0 n) (q := Q 1) (by omega) (by omega)
        obtain ⟨σ', g, p1⟩ := ih (c + 1) (am_us (am_us σ1 13 (pcn E c) (zi (wm P N 1 c (P 1 n) (Q 1) : Int))) 14 (pcn E c) (zi (wm P N 1 c (P 0 n) (Q 1) : Int))) (by omega) (by omega) (fun c' b1 b2 => by rw [am_us_ne b2, am_us_ne b1]; exact hf c' b1 b2) (fun c' b1 b2 => by
          by_cases e : c' = c
          · subst e
            exact ⟨by rw [am_us_c (by omega), am_us_s], by rw [am_us_s]⟩
          · have hv' : c' < v := by
              by_cases e2 : c' < v
              · exact e2
              · rw [a5 c' (by omega) (by omega)] at b2; cases b2
            have h9 := pcn_lt (M := E) (show c' < c by omega) b2
            rw [am_us_c (show (13 : Nat) ≠ 14 by omega), am_us_k (show pcn E c' ≠ pcn E c by omega), am_us_k (show pcn E c' ≠ pcn E c by omega), am_us_c (show (14 : Nat) ≠ 13 by omega)]
            exact ht c' hv' b2)
        rw [pcn_t a3] at g
        refine ⟨σ', v_Hold_listCommon_105 _ n hn20 ?_, p1⟩
        have r1 := (hc1.row hn20).2.1
        have r2 := (hc1.row hn20).1
        have t1 := hc1.2.2.2.1 1 (by decide)
        have e8 : σ1 12 (pcn E c) = zi c := by rw [hf 12 (by omega) (by omega)]; exact he.2 c a2 a3
        rw [hf 11 (by omega) (by omega), he.1, ← a4, hcl, e8, r1, zi_add]
        simp (disch := omega) only [zi_le, zi_lt0]
        refine ⟨fun h0 => absurd h0 (by omega), fun _ => ⟨by omega, _, _, x1, ?_⟩⟩
        rw [r1, t1, zi_add]
        refine ⟨_, _, y1, by omega, ?_⟩
        rw [mk_or]
        have ew : cmk P N 1 c (c + P 1 n) ||| wl (c + P 1 n) (Q 1) = wm P N 1 c (P 1 n) (Q 1) := rfl
        rw [ew, am_us_c (c' := 19 + n) (by omega), r2, zi_add]
        refine ⟨_, _, x2, ?_⟩
        rw [am_us_c (c' := 19 + n) (by omega), am_us_c (c' := 3) (by omega), r2, t1, zi_add]
        refine ⟨_, _, y2, by omega, ?_⟩
        rw [mk_or, zi_s1]
        exact g
  exact key 41 0 σ (by omega) (by omega) (fun _ _ _ => rfl) (fun c hc _ => absurd hc (by omega))
theorem lc_Z (hd : 1 ≤ d) (h : cOK σ N P Q M) (hp : pOK N P Q) {n : Nat} (hn : n < N) (he : eOK σ 15 E) (h21 : pcn E 41 ≤ 21) :
    ∃ σ', am_Go l D DA b sz (d + 1) M_Hold_listCommon (208, [some (.ref 2), some (.ref (19 + n)), some (.int 0), none], [], (am_TT cu L, am_RR cu, σ)) none (am_TT cu L, am_RR cu, σ') ∧ (∀ c, c ≠ 17 → σ' c = σ c) ∧ ∀ c : Nat, c < 41 → E.testBit c = true → σ' 17 (pcn E c) = zi (cmk P N 2 c (c + P 2 n) : Int) := by
  have hN := hp.1
  have hn20 : n < 20 := by omega
  have hb := hp.2.1 n hn
  unfold bOK at hb
  have key : ∀ (k v : Nat) (σ1 : Nat → Nat → Int32), v ≤ 41 → 41 - v ≤ k → (∀ c, c ≠ 17 → σ1 c = σ c) → (∀ c : Nat, c < v → E.testBit c = true → σ1 17 (pcn E c) = zi (cmk P N 2 c (c + P 2 n) : Int)) → ∃ σ', am_Go l D DA b sz (d + 1) M_Hold_listCommon (208, [some (.ref 2), some (.ref (19 + n)), some (.int (zi (pcn E v))), none], [], (am_TT cu L, am_RR cu, σ1)) none (am_TT cu L, am_RR cu, σ') ∧ (∀ c, c ≠ 17 → σ' c = σ c) ∧ ∀ c : Nat, c < 41 → E.testBit c = true → σ' 17 (pcn E c) = zi (cmk P N 2 c (c + P 2 n) : Int) := by
    intro k
    induction k with
    | zero =>
      intro v σ1 hv hk hf ht
      have e : v = 41 := by omega
      subst e
      refine ⟨σ1, v_Hold_listCommon_208 _ n hn20 ?_, hf, ht⟩
      rw [hf 15 (by omega), he.1]
      exact ⟨fun _ => (by first | exact ⟨rfl, rfl⟩ | exact ⟨trivial, trivial⟩ | exact ⟨trivial, rfl⟩ | exact ⟨rfl, trivial⟩ | trivial), fun h0 => absurd (Int32.le_refl _) h0⟩
    | succ k ih =>
      intro v σ1 hv hk hf ht
      rcases pcn_nxt E (41 - v) v (by omega) with ⟨a1, a2⟩ | ⟨c, a1, a2, a3, a4, a5⟩
      · refine ⟨σ1, v_Hold_listCommon_208 _ n hn20 ?_, hf, fun c b1 b2 => ht c (by
          by_cases e : c < v
          · exact e
          · rw [a2 c (by omega) b1] at b2; cases b2) b2⟩
        rw [hf 15 (by omega), he.1, a1]
        exact ⟨fun _ => (by first | exact ⟨rfl, rfl⟩ | exact ⟨trivial, trivial⟩ | exact ⟨trivial, rfl⟩ | exact ⟨rfl, trivial⟩ | trivial), fun h0 => absurd (Int32.le_refl _) h0⟩
      · have hlt := pcn_lt a2 a3
        have hcl : Int32.toNatClampNeg (zi (pcn E c : Nat)) = pcn E c := zi_cl (by omega)
        have hc1 : cOK σ1 N P Q M := cOK_fr h (by rw [hf 2 (by omega)]) (by rw [hf 2 (by omega)]) (fun c' hc' => hf c' (by omega)) hN
        have x1 := c_commonInZ (l := l) (D := D) (DA := DA) (b := b) (sz := sz) (d := d) (L := L) (cu := cu) (by omega) hc1 hp (f := c) (e := c + P 2 n) (by omega) (by omega)
        obtain ⟨σ', g, p1⟩ := ih (c + 1) (am_us σ1 17 (pcn E c) (zi (cmk P N 2 c (c + P 2 n) : Int))) (by omega) (by omega) (fun c' b1 => by rw [am_us_ne b1]; exact hf c' b1) (fun c' b1 b2 => by
          by_cases e : c' = c
          · subst e
            rw [am_us_s]
          · have hv' : c' < v := by
              by_cases e2 : c' < v
              · exact e2
              · rw [a5 c' (by omega) (by omega)] at b2; cases b2
            have h9 := pcn_lt (M := E) (show c' < c by omega) b2
            rw [am_us_k (show pcn E c' ≠ pcn E c by omega)]
            exact ht c' hv' b2)
        rw [pcn_t a3] at g
        refine ⟨σ', v_Hold_listCommon_208 _ n hn20 ?_, p1⟩
        have r1 := (hc1.row hn20).2.2.1
        have e8 : σ1 16 (pcn E c) = zi c := by rw [hf 16 (by omega)]; exact he.2 c a2 a3
        rw [hf 15 (by omega), he.1, ← a4, hcl, e8, r1, zi_add]
        simp (disch := omega) only [zi_le, zi_lt0]
        refine ⟨fun h0 => absurd h0 (by omega), fun _ => ⟨by omega, _, _, x1, by omega, ?_⟩⟩
        rw [zi_s1]
        exact g
  exact key 41 0 σ (by omega) (by omega) (fun _ _ => rfl) (fun c hc _ => absurd hc (by omega))
/-- what listCorners leaves for box n -/
def tabs (σ : Nat → Nat → Int32) (P : Nat → Nat → Int) (Q : Nat → Int) (N n : Nat) : Prop :=
  (eOK σ 7 (cmM P N 0) ∧ ∀ c : Nat, c < 41 → (cmM P N 0).testBit c = true → σ 9 (pcn (cmM P N 0) c) = zi (wm P N 0 c (P 0 n) (Q 0) : Int) ∧ σ 10 (pcn (cmM P N 0) c) = zi (wm P N 0 c (P 1 n) (Q 0) : Int)) ∧
  (eOK σ 11 (cmM P N 1) ∧ ∀ c : Nat, c < 41 → (cmM P N 1).testBit c = true → σ 13 (pcn (cmM P N 1) c) = zi (wm P N 1 c (P 1 n) (Q 1) : Int) ∧ σ 14 (pcn (cmM P N 1) c) = zi (wm P N 1 c (P 0 n) (Q 1) : Int)) ∧
  (eOK σ 15 (cmM P N 2) ∧ ∀ c : Nat, c < 41 → (cmM P N 2).testBit c = true → σ 17 (pcn (cmM P N 2) c) = zi (cmk P N 2 c (c + P 2 n) : Int))
theorem eOK_fr {e : Nat} (h : eOK σ e E) (e1 : σ' e = σ e) (e2 : σ' (e + 1) = σ (e + 1)) : eOK σ' e E := by
  unfold eOK at *
  rw [e1, e2]
  exact h
theorem tabs_fr {n : Nat} (h : tabs σ P Q N n) (f : ∀ c, 7 ≤ c → c ≤ 18 → σ' c = σ c) : tabs σ' P Q N n := by
  unfold tabs eOK at *
  rw [f 7 (by omega) (by omega), f (7 + 1) (by omega) (by omega), f 9 (by omega) (by omega), f 10 (by omega) (by omega), f 11 (by omega) (by omega), f (11 + 1) (by omega) (by omega), f 13 (by omega) (by omega), f 14 (by omega) (by omega), f 15 (by omega) (by omega), f (15 + 1) (by omega) (by omega), f 17 (by omega) (by omega)]
  exact h
theorem c_listCorners (hd : 3 ≤ d) (h : cOK σ N P Q M) (hp : pOK N P Q) {n : Nat} (hn : n < N) : ∃ σ', GG l D DA b sz d L cu M_Hold_listCorners [some (.ref 2), some (.ref (19 + n)), none, none, none, none, none, none, none] σ none σ' ∧ tabs σ' P Q N n ∧ ∀ c, c < 7 ∨ 18 < c → σ' c = σ c := by
  obtain ⟨d, rfl⟩ : ∃ d', d = d' + 2 := ⟨d - 2, by omega⟩
  have hN := hp.1
  have hn20 : n < 20 := by omega
  obtain ⟨x1, x2, x3⟩ := cmM_spec hp 0 (Nat.le_refl N)
  obtain ⟨y1, y2, y3⟩ := cmM_spec hp 1 (Nat.le_refl N)
  obtain ⟨z1, z2, z3⟩ := cmM_spec hp 2 (Nat.le_refl N)
  obtain ⟨σ1, g1, e1, f1⟩ := c_list_7 (l := l) (D := D) (DA := DA) (b := b) (sz := sz) (d := d + 1) (L := L) (cu := cu) (σ := σ) x1 (by omega)
  obtain ⟨σ2, g2, e2, f2⟩ := c_list_11 (l := l) (D := D) (DA := DA) (b := b) (sz := sz) (d := d + 1) (L := L) (cu := cu) (σ := σ1) y1 (by omega)
  obtain ⟨σ3, g3, e3, f3⟩ := c_list_15 (l := l) (D := D) (DA := DA) (b := b) (sz := sz) (d := d + 1) (L := L) (cu := cu) (σ := σ2) z1 (by omega)
  have hf3 : ∀ c, c < 7 ∨ 18 < c → σ3 c = σ c := fun c hc => (f3 c (by omega) (by omega)).trans ((f2 c (by omega) (by omega)).trans (f1 c (by omega) (by omega)))
  have h3 : cOK σ3 N P Q M := cOK_fr h (by rw [hf3 2 (by omega)]) (by rw [hf3 2 (by omega)]) (fun c hc => hf3 c (by omega)) hN
  have E1 : eOK σ3 7 (cmM P N 0) := eOK_fr e1 ((f3 7 (by omega) (by omega)).trans (f2 7 (by omega) (by omega))) ((f3 8 (by omega) (by omega)).trans (f2 8 (by omega) (by omega)))
  have E2 : eOK σ3 11 (cmM P N 1) := eOK_fr e2 (f3 11 (by omega) (by omega)) (f3 12 (by omega) (by omega))
  obtain ⟨σ4, g4, p4⟩ := lc_X (l := l) (D := D) (DA := DA) (b := b) (sz := sz) (d := d) (L := L) (cu := cu) (by omega) h3 hp hn E1 (by omega) (Post := fun σ' => tabs σ' P Q N n ∧ ∀ c, c < 7 ∨ 18 < c → σ' c = σ3 c) (fun σa fa ta => by
    have ha : cOK σa N P Q M := cOK_fr h3 (by rw [fa 2 (by omega) (by omega)]) (by rw [fa 2 (by omega) (by omega)]) (fun c hc => fa c (by omega) (by omega)) hN
    refine lc_Y (by omega) ha hp hn (eOK_fr E2 (fa 11 (by omega) (by omega)) (fa 12 (by omega) (by omega))) (by omega) (fun σb fb tb => ?_)
    have hb : cOK σb N P Q M := cOK_fr ha (by rw [fb 2 (by omega) (by omega)]) (by rw [fb 2 (by omega) (by omega)]) (fun c hc => fb c (by omega) (by omega)) hN
    have hab : ∀ c, c ≠ 9 → c ≠ 10 → c ≠ 13 → c ≠ 14 → σb c = σ3 c := fun c a1 a2 a3 a4 => (fb c a3 a4).trans (fa c a1 a2)
    obtain ⟨σ', g, p1, p2⟩ := lc_Z (l := l) (D := D) (DA := DA) (b := b) (sz := sz) (d := d) (L := L) (cu := cu) (by omega) hb hp hn (eOK_fr e3 (hab 15 (by omega) (by omega) (by omega) (by omega)) (hab 16 (by omega) (by omega) (by omega) (by omega))) (by omega)
    refine ⟨σ', g, ⟨⟨eOK_fr E1 ((p1 7 (by omega)).trans (hab 7 (by omega) (by omega) (by omega) (by omega))) ((p1 8 (by omega)).trans (hab 8 (by omega) (by omega) (by omega) (by omega))), fun c a1 a2 => ?_⟩, ⟨eOK_fr E2 ((p1 11 (by omega)).trans (hab 11 (by omega) (by omega) (by omega) (by omega))) ((p1 12 (by omega)).trans (hab 12 (by omega) (by omega) (by omega) (by omega))), fun c a1 a2 => ?_⟩, eOK_fr e3 ((p1 15 (by omega)).trans (hab 15 (by omega) (by omega) (by omega) (by omega))) ((p1 16 (by omega)).trans (hab 16 (by omega) (by omega) (by omega) (by omega))), p2⟩, fun c hc => (p1 c (by omega)).trans (hab c (by omega) (by omega) (by omega) (by omega))⟩
    · rw [p1 9 (by omega), p1 10 (by omega), fb 9 (by omega) (by omega), fb 10 (by omega) (by omega)]
      exact ta c a1 a2
    · rw [p1 13 (by omega), p1 14 (by omega)]
      exact tb c a1 a2)
  refine ⟨σ4, v_Hold_listCorners_0 n hn20 ?_, p4.1, fun c hc => (p4.2 c hc).trans (hf3 c hc)⟩
  have key : ∀ (k i : Nat), i + k = N → am_Go l D DA b sz (d + 2) M_Hold_listCorners (11, [some (.ref 2), some (.ref (19 + n)), some (.long (Int64.ofNat (cmM P i 0))), none, some (.long (Int64.ofNat (cmM P i 1))), none, some (.long (Int64.ofNat (cmM P i 2))), none, some (.int (zi i))], [], (am_TT cu L, am_RR cu, σ)) none (am_TT cu L, am_RR cu, σ4) := by
    intro k
    induction k with
    | zero =>
      intro i hi
      have e : i = N := by omega
      subst e
      refine v_Hold_listCorners_11 _ _ _ _ n hn20 ?_
      rw [h.1]
      exact ⟨fun _ => ⟨σ1, g1, σ2, g2, σ3, g3, σ4, v_Hold_listCommon_0 n hn20 g4, rfl, rfl⟩, fun h0 => absurd (Int32.le_refl _) h0⟩
    | succ k ih =>
      intro i hi
      have hiN : i < N := by omega
      have ih1 := ih (i + 1) (by omega)
      have q0 : ∀ k : Int, cmM P (i + 1) k = cmE P k i (cmM P i k) := fun k => rfl
      rw [q0, q0, q0] at ih1
      refine v_Hold_listCorners_11 _ _ _ _ n hn20 ?_
      rw [h.1, zi_le (by omega) (by omega) (by omega) (by omega)]
      refine ⟨fun h0 => absurd h0 (by omega), fun _ => ⟨_, _, c_has h hN hiN, ?_⟩⟩
      unfold cmE at ih1
      by_cases c8 : P 8 i = 0
      · rw [if_pos c8, if_pos c8, if_pos c8] at ih1
        have hh : hs P i = 0 := if_pos c8
        rw [hh]
        exact ⟨fun _ => by rw [zi_s1]; exact ih1, fun h0 => absurd rfl h0⟩
      · rw [if_neg c8, if_neg c8, if_neg c8] at ih1
        have hh : hs P i = 1 := if_neg c8
        rw [hh]
        refine ⟨fun h0 => absurd h0 (by decide), fun _ => ?_⟩
        obtain ⟨s8, s9, s10, s11, s12, s13, s14⟩ := h.2.2.2.2.2 i hiN c8
        have b0 := en_40 hp (k := 0) hiN c8
        have b1 := en_40 hp (k := 1) hiN c8
        have b2 := en_40 hp (k := 2) hiN c8
        have lo : ∀ k : Int, (0 ≤ en P k i ∧ en P k i ≤ 40) → Int64.ofNat (cmM P i k) ||| (Int64.ofNat 1 <<< (Int32.toInt64 (zi (en P k i)) &&& 63)) = Int64.ofNat (cmM P i k ||| 2 ^ (en P k i).toNat) := fun k hk => by
          have h9 := lb_or (E := cmM P i k) (e := (en P k i).toNat) (cmM_spec hp k (show i ≤ N by omega)).1 (by omega)
          rw [show (((en P k i).toNat : Nat) : Int) = en P k i by omega] at h9
          exact h9
        rw [show Int32.toNatClampNeg (zi i) = i from zi_cl (by omega), s11, s12, s13, zi_lt0 (by omega) (by omega), zi_s1]
        refine ⟨by omega, by omega, by omega, ?_⟩
        have w0 := lo 0 b0
        have w1 := lo 1 b1
        have w2 := lo 2 b2
        have v0 : en P 0 i = P 9 i + lng P i := rfl
        have v1 : en P 1 i = P 10 i + wdt P i := rfl
        have v2 : en P 2 i = tp P i := rfl
        rw [← v0, ← v1, ← v2, w0, w1, w2]
        exact ih1
  exact key N 0 (by omega)
end LCO
