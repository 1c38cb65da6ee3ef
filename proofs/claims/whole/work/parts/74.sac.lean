/-! the class: setAtCorner; set -/
section SAC
variable {l : Launch} {D : va_G} {DA : Nat → ClassId} {b sz d L : Nat} {cu : Bool} {σ σ' σ1 : Nat → Nat → Int32} {N M : Nat} {P : Nat → Nat → Int} {Q : Nat → Int}
/-- how setAtCorner ends -/
def cOut (P : Nat → Nat → Int) (Q : Nat → Int) (N M n : Nat) (σ : Nat → Nat → Int32) (rr : Int) (σ' : Nat → Nat → Int32) : Prop :=
  (∀ c, 39 ≤ c → σ' c = σ c) ∧ ((rr = 1 ∧ ∃ x y z t, fstc P Q N n x y z t ∧ cOK σ' N (pu (pp P n x y z t) 8 n 1) Q (M ||| 2 ^ n)) ∨ (rr = 0 ∧ noc P Q N n ∧ cOK σ' N P Q M))
def cGo (l : Launch) (D : va_G) (DA : Nat → ClassId) (b sz d L : Nat) (cu : Bool) (P : Nat → Nat → Int) (Q : Nat → Int) (N M n : Nat) (σ : Nat → Nat → Int32) (pc : Nat) (A : am_L) (σ1 : Nat → Nat → Int32) : Prop :=
  ∃ rr σ', am_Go l D DA b sz d M_Hold_setAtCorner (pc, A, [], (am_TT cu L, am_RR cu, σ1)) (some (.int (zi rr))) (am_TT cu L, am_RR cu, σ') ∧ cOut P Q N M n σ rr σ'
def cIn (P : Nat → Nat → Int) (Q : Nat → Int) (N M n : Nat) (σ σ1 : Nat → Nat → Int32) : Prop := cOK σ1 N P Q M ∧ tabs σ1 P Q N n ∧ (∀ c, 39 ≤ c → σ1 c = σ c) ∧ σ1 2 12 = zi (bal P N (12 * N))
theorem cIn_fr {n : Nat} {x y z t : Int} (hN : N ≤ 20) (hn : n < N) (h : cIn P Q N M n σ σ1) (o : frO P Q N M n x y z t σ1 σ') : cIn P Q N M n σ σ' :=
  ⟨o.1, tabs_fr h.2.1 (fun c h1 h2 => o.2.1 c (by omega) (by omega) (by omega) (by omega)), fun c hc => (o.2.1 c (by omega) (by omega) (by omega) (by omega)).trans (h.2.2.1 c hc), o.2.2.1.2.trans h.2.2.2⟩
theorem corN (hp : pOK N P Q) {k v : Int} (h : cor P N k v) : ∃ c : Nat, c < 41 ∧ v = c ∧ (cmM P N k).testBit c = true := by
  have h4 := cor_40 hp h
  refine ⟨v.toNat, by omega, by omega, (((cmM_spec hp k (Nat.le_refl N)).2.2) v.toNat).mpr ?_⟩
  rw [show ((v.toNat : Nat) : Int) = v by omega]
  exact h
/-- all numbers tried below v, and none from v up to c: all below c -/
theorem tried (hp : pOK N P Q) {k : Int} {v c : Nat} (B : Int → Prop) (hB : ∀ w, ¬ B w → cor P N k w) (h1 : ∀ w : Int, w < v → B w) (h2 : ∀ c', v ≤ c' → c' < c → (cmM P N k).testBit c' = false) : ∀ w : Int, w < c → B w := by
  intro w hw
  by_cases e : w < v
  · exact h1 w e
  · refine Classical.byContradiction fun hn => ?_
    obtain ⟨c', a1, a2, a3⟩ := corN hp (hB w hn)
    rw [h2 c' (by omega) (by omega)] at a3
    cases a3
theorem triedAll (hp : pOK N P Q) {k : Int} {v : Nat} (B : Int → Prop) (hB : ∀ w, ¬ B w → cor P N k w) (h1 : ∀ w : Int, w < v → B w) (h2 : ∀ c', v ≤ c' → c' < 41 → (cmM P N k).testBit c' = false) : ∀ w : Int, B w := by
  intro w
  refine Classical.byContradiction fun hn => ?_
  obtain ⟨c', a1, a2, a3⟩ := corN hp (hB w hn)
  by_cases e : w < v
  · exact hn (h1 w e)
  · rw [h2 c' (by omega) a1] at a3
    cases a3
/-- box n is put in where it was tried -/
theorem c_got {n : Nat} (hd : 1 ≤ d) (hp : pOK N P Q) (hn : n < N) (hI : cIn P Q N M n σ σ1) {x y z t : Int} (hf : fstc P Q N n x y z t) (h8 : P 8 n = 0) (ha : bAt σ1 (pp P n x y z t) n) :
    ∃ σ', GG l D DA b sz d L cu M_Hold_putIn [some (.ref 2), some (.int (zi n))] σ1 none σ' ∧ cOut P Q N M n σ 1 σ' := by
  have hN := hp.1
  have h1 := cOK_pp hI.1 h8 x y z t
  refine ⟨am_us σ1 2 3 (zi ((M ||| 2 ^ n : Nat) : Int)), v_Hold_putIn_0 _ ⟨rfl, ?_⟩, fun c hc => (am_us_ne (by omega)).trans (hI.2.2.1 c hc), Or.inl ⟨rfl, x, y, z, t, hf, cOK_in h1 hN hn ha⟩⟩
  rw [hI.1.2.1, mk_shl (by omega), mk_or]
theorem trn_12 (n : Nat) : trn P n = 1 ∨ trn P n = 2 := by
  unfold trn
  repeat' split
  all_goals simp
theorem cY (hd : 4 ≤ d) (hp : pOK N P Q) {n : Nat} (hn : n < N) (h8 : P 8 n = 0) {x : Nat} {z : Nat} (hx : x < 41) (bX : (cmM P N 0).testBit x = true) (hz : z < 41) (bZ : (cmM P N 2).testBit z = true) (hzq : (z : Int) + P 2 n ≤ Q 2)
    (nz : ∀ z' : Int, z' < z → ∀ x y t, ¬ okc P Q N n x y z' t) (nx : ∀ x' : Int, x' < x → ∀ y t, ¬ okc P Q N n x' y z t)
    (G : ∀ σ2, cIn P Q N M n σ σ2 → σ2 2 11 = zi (cmk P N 2 z (z + P 2 n) : Int) → (∀ y t, ¬ okc P Q N n x y z t) → cGo l D DA b sz d L cu P Q N M n σ 111 [some (.ref 2), some (.int (zi n)), some (.ref (19 + n)), some (.int (zi (trn P n - 1))), some (.int (zi (pcn (cmM P N 2) z))), some (.int (zi z)), some (.int (zi ((pcn (cmM P N 0) x : Int) + 1))), none] σ2) :
    ∀ (k v : Nat) (σ1 : Nat → Nat → Int32), v ≤ 41 → 41 - v ≤ k → cIn P Q N M n σ σ1 → σ1 2 11 = zi (cmk P N 2 z (z + P 2 n) : Int) → (∀ y' : Int, y' < v → ∀ t, ¬ okc P Q N n x y' z t) → cGo l D DA b sz d L cu P Q N M n σ 126 [some (.ref 2), some (.int (zi n)), some (.ref (19 + n)), some (.int (zi (trn P n - 1))), some (.int (zi (pcn (cmM P N 2) z))), some (.int (zi z)), some (.int (zi (pcn (cmM P N 0) x))), some (.int (zi (pcn (cmM P N 1) v)))] σ1 := by
  obtain ⟨d, rfl⟩ : ∃ d', d = d' + 1 := ⟨d - 1, by omega⟩
  have hN := hp.1
  have hn20 : n < 20 := by omega
  obtain ⟨y1, y2, y3⟩ := cmM_spec hp 1 (Nat.le_refl N)
  have x3 := (cmM_spec hp 0 (Nat.le_refl N)).2.2
  have z3 := (cmM_spec hp 2 (Nat.le_refl N)).2.2
  have ht12 := trn_12 (P := P) n
  intro k
  induction k with
  | zero =>
    intro v σ1 hv hk hI h11 ny
    have e : v = 41 := by omega
    subst e
    obtain ⟨rr, σ', g, o⟩ := G σ1 hI h11 (triedAll hp (k := 1) (v := 41) (fun w => ∀ t, ¬ okc P Q N n x w z t) (fun w hw => Classical.byContradiction fun h9 => hw (fun t ht => h9 ht.2.1)) ny (fun c' a1 a2 => absurd a1 (by omega)))
    refine ⟨rr, σ', v_Hold_setAtCorner_126 _ _ _ _ _ _ n hn20 ?_, o⟩
    rw [hI.2.1.2.1.1.1]
    exact ⟨fun _ => by rw [zi_s1]; exact g, fun h0 => absurd (Int32.le_refl _) h0⟩
  | succ k ih =>
    intro v σ1 hv hk hI h11 ny
    rcases pcn_nxt (cmM P N 1) (41 - v) v (by omega) with ⟨a1, a2⟩ | ⟨c, a1, a2, a3, a4, a5⟩
    · obtain ⟨rr, σ', g, o⟩ := G σ1 hI h11 (triedAll hp (k := 1) (fun w => ∀ t, ¬ okc P Q N n x w z t) (fun w hw => Classical.byContradiction fun h9 => hw (fun t ht => h9 ht.2.1)) ny a2)
      refine ⟨rr, σ', v_Hold_setAtCorner_126 _ _ _ _ _ _ n hn20 ?_, o⟩
      rw [hI.2.1.2.1.1.1, a1]
      exact ⟨fun _ => by rw [zi_s1]; exact g, fun h0 => absurd (Int32.le_refl _) h0⟩
    · have hlt := pcn_lt a2 a3
      have nyc := tried hp (k := 1) (fun w => ∀ t, ¬ okc P Q N n x w z t) (fun w hw => Classical.byContradiction fun h9 => hw (fun t ht => h9 ht.2.1)) ny a5
      have cx := (x3 x).mp bX
      have cy := (y3 c).mp a3
      have cz := (z3 z).mp bZ
      have hnle : ¬ zi ((pcn (cmM P N 1) 41 : Nat) : Int) ≤ zi ((pcn (cmM P N 1) c : Nat) : Int) := by rw [zi_le (by omega) (by omega) (by omega) (by omega)]; omega
      obtain ⟨σ2, g2, o2⟩ := c_isFree (l := l) (D := D) (DA := DA) (b := b) (sz := sz) (d := d) (L := L) (cu := cu) (t := 0) (by omega) hI.1 hp hn h8 hI.2.1 hI.2.2.2 hx a2 bX a3 (z := z) (by omega) (Or.inl rfl) h11 hzq
      have I2 := cIn_fr hN hn hI o2
      have h112 : σ2 2 11 = zi (cmk P N 2 z (z + P 2 n) : Int) := o2.2.2.1.1.trans h11
      by_cases w0 : wrg (pp P n x c z 0) Q N n = 0
      · rw [if_pos w0] at g2
        have hf : fstc P Q N n x c z 0 := ⟨⟨cx, cy, cz, by omega, w0⟩, nz, nx, nyc, fun t' ht' h9 => by have := h9.2.2.2.1; omega⟩
        obtain ⟨σ3, g3, o3⟩ := c_got (l := l) (D := D) (DA := DA) (b := b) (sz := sz) (d := d) (L := L) (cu := cu) (by omega) hp hn I2 hf h8 (o2.2.2.2 w0)
        refine ⟨1, σ3, v_Hold_setAtCorner_126 _ _ _ _ _ _ n hn20 ?_, o3⟩
        rw [hI.2.1.2.1.1.1, ← a4]
        exact ⟨fun h0 => absurd h0 hnle, fun _ => ⟨_, σ2, g2, fun h0 => absurd h0 (by decide), fun _ => ⟨σ3, g3, rfl, rfl⟩⟩⟩
      · rw [if_neg w0] at g2
        rcases ht12 with t1 | t2
        · have nyc1 : ∀ y' : Int, y' < ((c + 1 : Nat) : Int) → ∀ t, ¬ okc P Q N n x y' z t := fun y' hy' t h9 => by
            by_cases e : y' < c
            · exact nyc y' e t h9
            · have e2 : y' = c := by omega
              subst e2
              have h7 := h9.2.2.2.1
              have e3 : t = 0 := by omega
              subst e3
              exact w0 h9.2.2.2.2
          obtain ⟨rr, σ', g, o⟩ := ih (c + 1) σ2 (by omega) (by omega) I2 h112 nyc1
          rw [pcn_t a3] at g
          refine ⟨rr, σ', v_Hold_setAtCorner_126 _ _ _ _ _ _ n hn20 ?_, o⟩
          rw [hI.2.1.2.1.1.1, ← a4, zi_s1 (pcn (cmM P N 1) c : Int)]
          rw [t1] at g ⊢
          exact ⟨fun h0 => absurd h0 hnle, fun _ => ⟨_, σ2, g2, fun _ => ⟨fun _ => g, fun h0 => absurd rfl h0⟩, fun h0 => absurd rfl h0⟩⟩
        · obtain ⟨σ3, g3, o3⟩ := c_isFree (l := l) (D := D) (DA := DA) (b := b) (sz := sz) (d := d) (L := L) (cu := cu) (t := 1) (by omega) I2.1 hp hn h8 I2.2.1 I2.2.2.2 hx a2 bX a3 (z := z) (by omega) (Or.inr rfl) h112 hzq
          have I3 := cIn_fr hN hn I2 o3
          have h113 : σ3 2 11 = zi (cmk P N 2 z (z + P 2 n) : Int) := o3.2.2.1.1.trans h112
          have no0 : ∀ t', t' < 1 → ¬ okc P Q N n x c z t' := fun t' ht' h9 => by
            have h7 := h9.2.2.2.1
            have e3 : t' = 0 := by omega
            subst e3
            exact w0 h9.2.2.2.2
          by_cases w1 : wrg (pp P n x c z 1) Q N n = 0
          · rw [if_pos w1] at g3
            have hf : fstc P Q N n x c z 1 := ⟨⟨cx, cy, cz, by omega, w1⟩, nz, nx, nyc, no0⟩
            obtain ⟨σ4, g4, o4⟩ := c_got (l := l) (D := D) (DA := DA) (b := b) (sz := sz) (d := d) (L := L) (cu := cu) (by omega) hp hn I3 hf h8 (o3.2.2.2 w1)
            refine ⟨1, σ4, v_Hold_setAtCorner_126 _ _ _ _ _ _ n hn20 ?_, o4⟩
            rw [hI.2.1.2.1.1.1, ← a4]
            rw [t2]
            exact ⟨fun h0 => absurd h0 hnle, fun _ => ⟨_, σ2, g2, fun _ => ⟨fun h0 => absurd h0 (by decide), fun _ => ⟨_, σ3, g3, fun h0 => absurd h0 (by decide), fun _ => ⟨σ4, g4, rfl, rfl⟩⟩⟩, fun h0 => absurd rfl h0⟩⟩
          · rw [if_neg w1] at g3
            have nyc1 : ∀ y' : Int, y' < ((c + 1 : Nat) : Int) → ∀ t, ¬ okc P Q N n x y' z t := fun y' hy' t h9 => by
              by_cases e : y' < c
              · exact nyc y' e t h9
              · have e2 : y' = c := by omega
                subst e2
                have h7 := h9.2.2.2.1
                by_cases e3 : t = 0
                · subst e3
                  exact w0 h9.2.2.2.2
                · have e4 : t = 1 := by omega
                  subst e4
                  exact w1 h9.2.2.2.2
            obtain ⟨rr, σ', g, o⟩ := ih (c + 1) σ3 (by omega) (by omega) I3 h113 nyc1
            rw [pcn_t a3] at g
            refine ⟨rr, σ', v_Hold_setAtCorner_126 _ _ _ _ _ _ n hn20 ?_, o⟩
            rw [hI.2.1.2.1.1.1, ← a4, zi_s1 (pcn (cmM P N 1) c : Int)]
            rw [t2] at g ⊢
            exact ⟨fun h0 => absurd h0 hnle, fun _ => ⟨_, σ2, g2, fun _ => ⟨fun h0 => absurd h0 (by decide), fun _ => ⟨_, σ3, g3, fun _ => g, fun h0 => absurd rfl h0⟩⟩, fun h0 => absurd rfl h0⟩⟩
theorem cX (hd : 4 ≤ d) (hp : pOK N P Q) {n : Nat} (hn : n < N) (h8 : P 8 n = 0) {z : Nat} (hz : z < 41) (bZ : (cmM P N 2).testBit z = true) (hzq : (z : Int) + P 2 n ≤ Q 2)
    (nz : ∀ z' : Int, z' < z → ∀ x y t, ¬ okc P Q N n x y z' t)
    (G : ∀ σ2, cIn P Q N M n σ σ2 → (∀ x y t, ¬ okc P Q N n x y z t) → cGo l D DA b sz d L cu P Q N M n σ 51 [some (.ref 2), some (.int (zi n)), some (.ref (19 + n)), some (.int (zi (trn P n - 1))), some (.int (zi ((pcn (cmM P N 2) z : Int) + 1))), none, none, none] σ2) :
    ∀ (k v : Nat) (σ1 : Nat → Nat → Int32), v ≤ 41 → 41 - v ≤ k → cIn P Q N M n σ σ1 → σ1 2 11 = zi (cmk P N 2 z (z + P 2 n) : Int) → (∀ x' : Int, x' < v → ∀ y t, ¬ okc P Q N n x' y z t) → cGo l D DA b sz d L cu P Q N M n σ 111 [some (.ref 2), some (.int (zi n)), some (.ref (19 + n)), some (.int (zi (trn P n - 1))), some (.int (zi (pcn (cmM P N 2) z))), some (.int (zi z)), some (.int (zi (pcn (cmM P N 0) v))), none] σ1 := by
  have hN := hp.1
  have hn20 : n < 20 := by omega
  obtain ⟨x1, x2, x3⟩ := cmM_spec hp 0 (Nat.le_refl N)
  intro k
  induction k with
  | zero =>
    intro v σ1 hv hk hI h11 nx
    have e : v = 41 := by omega
    subst e
    obtain ⟨rr, σ', g, o⟩ := G σ1 hI (triedAll hp (k := 0) (v := 41) (fun w => ∀ y t, ¬ okc P Q N n w y z t) (fun w hw => Classical.byContradiction fun h9 => hw (fun y t ht => h9 ht.1)) nx (fun c' a1 a2 => absurd a1 (by omega)))
    obtain ⟨d, rfl⟩ : ∃ d', d = d' + 1 := ⟨d - 1, by omega⟩
    refine ⟨rr, σ', v_Hold_setAtCorner_111 _ _ _ _ _ n hn20 ?_, o⟩
    rw [hI.2.1.1.1.1]
    exact ⟨fun _ => by rw [zi_s1]; exact g, fun h0 => absurd (Int32.le_refl _) h0⟩
  | succ k ih =>
    intro v σ1 hv hk hI h11 nx
    rcases pcn_nxt (cmM P N 0) (41 - v) v (by omega) with ⟨a1, a2⟩ | ⟨c, a1, a2, a3, a4, a5⟩
    · obtain ⟨rr, σ', g, o⟩ := G σ1 hI (triedAll hp (k := 0) (fun w => ∀ y t, ¬ okc P Q N n w y z t) (fun w hw => Classical.byContradiction fun h9 => hw (fun y t ht => h9 ht.1)) nx a2)
      obtain ⟨d, rfl⟩ : ∃ d', d = d' + 1 := ⟨d - 1, by omega⟩
      refine ⟨rr, σ', v_Hold_setAtCorner_111 _ _ _ _ _ n hn20 ?_, o⟩
      rw [hI.2.1.1.1.1, a1]
      exact ⟨fun _ => by rw [zi_s1]; exact g, fun h0 => absurd (Int32.le_refl _) h0⟩
    · have hlt := pcn_lt a2 a3
      have nxc := tried hp (k := 0) (fun w => ∀ y t, ¬ okc P Q N n w y z t) (fun w hw => Classical.byContradiction fun h9 => hw (fun y t ht => h9 ht.1)) nx a5
      have hnle : ¬ zi ((pcn (cmM P N 0) 41 : Nat) : Int) ≤ zi ((pcn (cmM P N 0) c : Nat) : Int) := by rw [zi_le (by omega) (by omega) (by omega) (by omega)]; omega
      obtain ⟨rr, σ', g, o⟩ := cY (l := l) (D := D) (DA := DA) (b := b) (sz := sz) (L := L) (cu := cu) (σ := σ) hd hp hn h8 a2 a3 hz bZ hzq nz nxc (fun σ2 I2 h112 no => by
        have h9 := ih (c + 1) σ2 (by omega) (by omega) I2 h112 (fun x' hx' y t h7 => by
          by_cases e : x' < c
          · exact nxc x' e y t h7
          · have e2 : x' = c := by omega
            subst e2
            exact no y t h7)
        rw [pcn_t a3] at h9
        exact h9) 41 0 σ1 (by omega) (by omega) hI h11 (fun y' hy' t h7 => by have := cor_40 hp h7.2.1; omega)
      obtain ⟨d, rfl⟩ : ∃ d', d = d' + 1 := ⟨d - 1, by omega⟩
      refine ⟨rr, σ', v_Hold_setAtCorner_111 _ _ _ _ _ n hn20 ?_, o⟩
      rw [hI.2.1.1.1.1, ← a4]
      exact ⟨fun h0 => absurd h0 hnle, fun _ => g⟩
theorem cZ (hd : 4 ≤ d) (hp : pOK N P Q) {n : Nat} (hn : n < N) (h8 : P 8 n = 0) :
    ∀ (k v : Nat) (σ1 : Nat → Nat → Int32), v ≤ 41 → 41 - v ≤ k → cIn P Q N M n σ σ1 → (∀ z' : Int, z' < v → ∀ x y t, ¬ okc P Q N n x y z' t) → cGo l D DA b sz d L cu P Q N M n σ 51 [some (.ref 2), some (.int (zi n)), some (.ref (19 + n)), some (.int (zi (trn P n - 1))), some (.int (zi (pcn (cmM P N 2) v))), none, none, none] σ1 := by
  have hN := hp.1
  have hn20 : n < 20 := by omega
  have hb := hp.2.1 n hn
  have hq := hp.2.2.2
  unfold bOK at hb
  unfold qOK at hq
  obtain ⟨z1, z2, z3⟩ := cmM_spec hp 2 (Nat.le_refl N)
  intro k
  induction k with
  | zero =>
    intro v σ1 hv hk hI nz
    have e : v = 41 := by omega
    subst e
    have hno := triedAll hp (k := 2) (v := 41) (fun w => ∀ x y t, ¬ okc P Q N n x y w t) (fun w hw => Classical.byContradiction fun h9 => hw (fun x y t ht => h9 ht.2.2.1)) nz (fun c' a1 a2 => absurd a1 (by omega))
    obtain ⟨d, rfl⟩ : ∃ d', d = d' + 1 := ⟨d - 1, by omega⟩
    refine ⟨0, σ1, v_Hold_setAtCorner_51 _ _ _ n hn20 ?_, hI.2.2.1, Or.inr ⟨rfl, fun x y z t => hno z x y t, hI.1⟩⟩
    rw [hI.2.1.2.2.1.1]
    exact ⟨fun _ => (by first | exact ⟨rfl, rfl⟩ | exact ⟨trivial, trivial⟩ | exact ⟨trivial, rfl⟩ | exact ⟨rfl, trivial⟩ | trivial), fun h0 => absurd (Int32.le_refl _) h0⟩
  | succ k ih =>
    intro v σ1 hv hk hI nz
    rcases pcn_nxt (cmM P N 2) (41 - v) v (by omega) with ⟨a1, a2⟩ | ⟨c, a1, a2, a3, a4, a5⟩
    · have hno := triedAll hp (k := 2) (fun w => ∀ x y t, ¬ okc P Q N n x y w t) (fun w hw => Classical.byContradiction fun h9 => hw (fun x y t ht => h9 ht.2.2.1)) nz a2
      obtain ⟨d, rfl⟩ : ∃ d', d = d' + 1 := ⟨d - 1, by omega⟩
      refine ⟨0, σ1, v_Hold_setAtCorner_51 _ _ _ n hn20 ?_, hI.2.2.1, Or.inr ⟨rfl, fun x y z t => hno z x y t, hI.1⟩⟩
      rw [hI.2.1.2.2.1.1, a1]
      exact ⟨fun _ => (by first | exact ⟨rfl, rfl⟩ | exact ⟨trivial, trivial⟩ | exact ⟨trivial, rfl⟩ | exact ⟨rfl, trivial⟩ | trivial), fun h0 => absurd (Int32.le_refl _) h0⟩
    · have hlt := pcn_lt a2 a3
      have nzc := tried hp (k := 2) (fun w => ∀ x y t, ¬ okc P Q N n x y w t) (fun w hw => Classical.byContradiction fun h9 => hw (fun x y t ht => h9 ht.2.2.1)) nz a5
      have hnle : ¬ zi ((pcn (cmM P N 2) 41 : Nat) : Int) ≤ zi ((pcn (cmM P N 2) c : Nat) : Int) := by rw [zi_le (by omega) (by omega) (by omega) (by omega)]; omega
      have e16 : σ1 16 (pcn (cmM P N 2) c) = zi c := hI.2.1.2.2.1.2 c a2 a3
      have e17 : σ1 17 (pcn (cmM P N 2) c) = zi (cmk P N 2 c (c + P 2 n) : Int) := hI.2.1.2.2.2 c a2 a3
      have r2 := (hI.1.row hn20).2.2.1
      have q2 := hI.1.2.2.2.1 2 (by decide)
      have cc : Int32.toNatClampNeg (zi (pcn (cmM P N 2) c : Nat)) = pcn (cmM P N 2) c := zi_cl (by omega)
      by_cases cq : (c : Int) + P 2 n ≤ Q 2
      · have I1 : cIn P Q N M n σ (am_us σ1 2 11 (zi (cmk P N 2 c (c + P 2 n) : Int))) := ⟨cOK_2 hI.1 hN (by omega) _, tabs_fr hI.2.1 (fun c h1 h2 => am_us_ne (by omega)), fun c hc => (am_us_ne (by omega)).trans (hI.2.2.1 c hc), (am_us_k (by omega)).trans hI.2.2.2⟩
        obtain ⟨rr, σ', g, o⟩ := cX (l := l) (D := D) (DA := DA) (b := b) (sz := sz) (L := L) (cu := cu) (σ := σ) hd hp hn h8 a2 a3 cq nzc (fun σ2 I2 no => by
          have h9 := ih (c + 1) σ2 (by omega) (by omega) I2 (fun z' hz' x y t h7 => by
            by_cases e : z' < c
            · exact nzc z' e x y t h7
            · have e2 : z' = c := by omega
              subst e2
              exact no x y t h7)
          rw [pcn_t a3] at h9
          exact h9) 41 0 (am_us σ1 2 11 (zi (cmk P N 2 c (c + P 2 n) : Int))) (by omega) (by omega) I1 (am_us_s _ _ _ _) (fun x' hx' y t h7 => by have := cor_40 hp h7.1; omega)
        obtain ⟨d, rfl⟩ : ∃ d', d = d' + 1 := ⟨d - 1, by omega⟩
        refine ⟨rr, σ', v_Hold_setAtCorner_51 _ _ _ n hn20 ?_, o⟩
        rw [hI.2.1.2.2.1.1, ← a4, cc, e16, e17, r2, q2, zi_add]
        simp (disch := omega) only [zi_le, zi_lt0]
        exact ⟨fun h0 => absurd h0 (by omega), fun _ => ⟨by omega, fun _ => ⟨by omega, g⟩, fun h0 => absurd cq h0⟩⟩
      · have hno : noc P Q N n := fun x y z t h9 => by
          by_cases e : z < c
          · exact nzc z e x y t h9
          · have h7 := wrg_0 h9.2.2.2.2
            unfold inQ at h7
            obtain ⟨b1, b2, b3, b4⟩ := pp_at (P := P) n x y z t
            rw [b3, pp_o (k := 2) (by omega)] at h7
            omega
        obtain ⟨d, rfl⟩ : ∃ d', d = d' + 1 := ⟨d - 1, by omega⟩
        refine ⟨0, σ1, v_Hold_setAtCorner_51 _ _ _ n hn20 ?_, hI.2.2.1, Or.inr ⟨rfl, hno, hI.1⟩⟩
        rw [hI.2.1.2.2.1.1, ← a4, cc, e16, e17, r2, q2, zi_add]
        simp (disch := omega) only [zi_le, zi_lt0]
        exact ⟨fun h0 => absurd h0 (by omega), fun _ => ⟨by omega, fun h0 => absurd h0 cq, fun _ => (by first | exact ⟨rfl, rfl⟩ | exact ⟨trivial, trivial⟩ | exact ⟨trivial, rfl⟩ | exact ⟨rfl, trivial⟩ | trivial)⟩⟩
theorem c_setAtCorner (hd : 4 ≤ d) (h : cOK σ N P Q M) (hp : pOK N P Q) {n : Nat} (hn : n < N) (h8 : P 8 n = 0) :
    ∃ rr σ', GG l D DA b sz d L cu M_Hold_setAtCorner [some (.ref 2), some (.int (zi n)), none, none, none, none, none, none] σ (some (.int (zi rr))) σ' ∧ cOut P Q N M n σ rr σ' := by
  have hN := hp.1
  have hb := hp.2.1 n hn
  unfold bOK at hb
  obtain ⟨d, rfl⟩ : ∃ d', d = d' + 1 := ⟨d - 1, by omega⟩
  obtain ⟨σ0, g0, f0, -⟩ := c_bearAll (l := l) (D := D) (DA := DA) (b := b) (sz := sz) (d := d) (L := L) (cu := cu) (by omega) (lOK_of h) hp (tOK_of hp)
  have h0 : cOK (am_us σ0 2 12 (zi (bal P N (12 * N)))) N P Q M := cOK_2 (cOK_56 h hN f0) hN (by omega) _
  obtain ⟨σ1, g1, t1, f1⟩ := c_listCorners (l := l) (D := D) (DA := DA) (b := b) (sz := sz) (d := d) (L := L) (cu := cu) (by omega) h0 hp hn
  have I1 : cIn P Q N M n σ σ1 := ⟨cOK_fr h0 (by rw [f1 2 (by omega)]) (by rw [f1 2 (by omega)]) (fun c hc => f1 c (by omega)) hN, t1, fun c hc => by rw [f1 c (by omega), am_us_ne (by omega)]; exact f0 c (by omega) (by omega), by rw [f1 2 (by omega)]; exact am_us_s _ _ _ _⟩
  obtain ⟨rr, σ', g, o⟩ := cZ (l := l) (D := D) (DA := DA) (b := b) (sz := sz) (L := L) (cu := cu) hd hp hn h8 41 0 σ1 (by omega) (by omega) I1 (fun z' hz' x y t h7 => by have := cor_40 hp h7.2.2.1; omega)
  refine ⟨rr, σ', v_Hold_setAtCorner_0 _ ?_, o⟩
  obtain ⟨r0, r1, r2, r3, r4, r5, r6, r7⟩ := h.row (n := n) (by omega)
  rw [show Int32.toNatClampNeg (zi n) = n from zi_cl (by omega), r0, r1, r6, h.2.1]
  simp (disch := omega) only [zi_lt0, zi_eq0, zi_eq]
  refine ⟨by omega, _, σ0, g0, ?_, σ1, g1, ?_⟩
  · rcases bal_01 (R := P) (N := N) (12 * N) with h9 | h9
    · rw [h9]; exact Or.inl rfl
    · rw [h9]; exact Or.inr rfl
  have e : (if P 6 n = 0 then (0 : Int32) else if P 0 n = P 1 n then 0 else 1) = zi (trn P n - 1) := by
    unfold trn
    by_cases c1 : P 6 n = 0
    · rw [if_pos c1, if_pos c1]; rfl
    · rw [if_neg c1, if_neg c1]
      by_cases c2 : P 0 n = P 1 n
      · rw [if_pos c2, if_pos c2]; rfl
      · rw [if_neg c2, if_neg c2]; rfl
  rw [e]
  exact g
/-- there is but one first corner -/
theorem fstc_uniq {n : Nat} {x y z t x' y' z' t' : Int} (h1 : fstc P Q N n x y z t) (h2 : fstc P Q N n x' y' z' t') : x = x' ∧ y = y' ∧ z = z' ∧ t = t' := by
  obtain ⟨a0, a1, a2, a3, a4⟩ := h1
  obtain ⟨b0, b1, b2, b3, b4⟩ := h2
  have ez : z = z' := by
    by_cases e : z < z'
    · exact absurd a0 (b1 z e x y t)
    · by_cases e2 : z' < z
      · exact absurd b0 (a1 z' e2 x' y' t')
      · omega
  subst ez
  have ex : x = x' := by
    by_cases e : x < x'
    · exact absurd a0 (b2 x e y t)
    · by_cases e2 : x' < x
      · exact absurd b0 (a2 x' e2 y' t')
      · omega
  subst ex
  have ey : y = y' := by
    by_cases e : y < y'
    · exact absurd a0 (b3 y e t)
    · by_cases e2 : y' < y
      · exact absurd b0 (a3 y' e2 t')
      · omega
  subst ey
  have et : t = t' := by
    by_cases e : t < t'
    · exact absurd a0 (b4 t e)
    · by_cases e2 : t' < t
      · exact absurd b0 (a4 t' e2)
      · omega
  exact ⟨rfl, rfl, rfl, et⟩
theorem fst_in (hp : pOK N P Q) {n : Nat} (hn : n < N) (h8 : P 8 n = 0) {x y z t : Int} (h : fstc P Q N n x y z t) : pOK N (pu (pp P n x y z t) 8 n 1) Q := by
  obtain ⟨⟨a1, a2, a3, a4, a5⟩, -⟩ := h
  have ht := trn_12 (P := P) n
  exact pOK_in (pp_pOK hp hn h8 (cor_40 hp a1) (cor_40 hp a2) (cor_40 hp a3) (by omega)) hn (wrg_0 a5)
theorem L_set (hd : 8 ≤ d) (h : pic σ N P Q M) (p : Int32) : stepOK l D DA b sz d L cu M_B_set [some (.ref 1), some (.int p)] M_R_set [some (.ref 47), some (.int p)] σ N P := by
  obtain ⟨hp, hz, hm, hc⟩ := id h
  have hN := hp.1
  obtain ⟨d, rfl⟩ : ∃ d', d = d' + 1 := ⟨d - 1, by omega⟩
  by_cases c1 : 0 ≤ p.toInt ∧ p.toInt < N
  · obtain ⟨n, hn, rfl⟩ := bno c1
    have hn20 : n < 20 := by omega
    have hb := hp.2.1 n hn
    unfold bOK at hb
    have hcl : Int32.toNatClampNeg (zi n) = n := zi_cl (by omega)
    have kn := c_knows (l := l) (D := D) (DA := DA) (b := b) (sz := sz) (d := d) (L := L) (cu := cu) hc hN (zi n)
    rw [if_pos c1] at kn
    have hh := c_has (l := l) (D := D) (DA := DA) (b := b) (sz := sz) (d := d) (L := L) (cu := cu) hc hN hn
    by_cases c2 : P 8 n = 0
    · have hs0 : hs P n = 0 := if_pos c2
      rw [hs0] at hh
      obtain ⟨rr, σ1, g1, f1, o1⟩ := c_setAtCorner (l := l) (D := D) (DA := DA) (b := b) (sz := sz) (d := d) (L := L) (cu := cu) (by omega) hc hp hn c2
      have hm1 : mOK σ1 N P Q := mOK_fr hm (fun c _ _ => f1 c (by omega)) (fun k _ => by rw [f1 47 (by omega)])
      obtain ⟨r2, σ2, g2, f2, o2⟩ := c_R_sets (l := l) (D := D) (DA := DA) (b := b) (sz := sz) (d := d) (L := L) (cu := cu) (by omega) hm1 hp hn c2
      have hB : GG l D DA b sz (d + 1) L cu M_B_set [some (.ref 1), some (.int (zi n))] σ (some (.int (if zi rr = 0 then -1 else 1))) σ1 := v_B_set_0 _ ⟨_, _, kn, fun h0 => absurd h0 (by decide), fun _ => ⟨_, _, hh, fun _ => ⟨_, _, g1, rfl, rfl⟩, fun h0 => absurd rfl h0⟩⟩
      have isb := c_R_isBox (l := l) (D := D) (DA := DA) (b := b) (sz := sz) (d := d) (L := L) (cu := cu) (by omega) hm1 hp (zi n)
      rw [if_pos c1] at isb
      have e56 : σ1 56 n = zi (P 8 n) := hm1.p (k := 8) (by decide) hn20
      have hR : GG l D DA b sz (d + 1) L cu M_R_set [some (.ref 47), some (.int (zi n))] σ1 (some (.int (if zi r2 = 0 then -1 else 1))) σ2 := by
        refine v_R_set_0 _ ⟨_, _, isb, fun h0 => absurd h0 (by decide), fun _ => ?_⟩
        rw [hcl, e56, c2, zi_lt0 (by omega) (by omega)]
        exact ⟨by omega, fun _ => ⟨_, _, g2, rfl, rfl⟩, fun h0 => absurd rfl h0⟩
      have hr12 : rr = r2 := by
        rcases o1 with ⟨e1, x, y, z, t, hf, -⟩ | ⟨e1, hno, -⟩
        · rcases o2 with ⟨e2, -⟩ | ⟨e2, hno2, -⟩
          · rw [e1, e2]
          · exact absurd hf.1 (hno2 x y z t)
        · rcases o2 with ⟨e2, x, y, z, t, hf2, -⟩ | ⟨e2, -⟩
          · exact absurd hf2.1 (hno x y z t)
          · rw [e1, e2]
      rw [← hr12] at hR
      have hrst : rst σ σ2 := rst_of (fun c hc => (f2 c (by omega)).trans (f1 c (by omega)))
      rcases o1 with ⟨e1, x, y, z, t, hf, k1⟩ | ⟨e1, hno, k1⟩
      · rcases o2 with ⟨e2, x', y', z', t', hf2, k2⟩ | ⟨e2, hno2, -⟩
        · obtain ⟨rfl, rfl, rfl, rfl⟩ := fstc_uniq hf hf2
          refine ⟨_, σ1, σ2, pu (pp P n x y z t) 8 n 1, Q, M ||| 2 ^ n, hB, hR, ⟨fst_in hp hn c2 hf, zOK_pu (zOK_pp hz hn x y z t) hn 8 1, k2, ?_⟩, fun k m hk => ?_, hrst⟩
          · exact cOK_fr k1 (by rw [f2 2 (by omega)]) (by rw [f2 2 (by omega)]) (fun c hc => f2 c (by omega)) hN
          · unfold pu
            rw [if_neg (by omega)]
            exact pp_o (by omega)
        · exact absurd hf.1 (hno2 x y z t)
      · rcases o2 with ⟨e2, x', y', z', t', hf2, k2⟩ | ⟨e2, hno2, x, y, z, t, b1, b2, b3, b4, k2⟩
        · exact absurd hf2.1 (hno x' y' z' t')
        · refine ⟨_, σ1, σ2, pp P n x y z t, Q, M, hB, hR, ⟨pp_pOK hp hn c2 b1 b2 b3 b4, zOK_pp hz hn x y z t, k2, ?_⟩, fun k m hk => pp_o (by omega), hrst⟩
          exact cOK_fr (cOK_pp k1 c2 x y z t) (by rw [f2 2 (by omega)]) (by rw [f2 2 (by omega)]) (fun c hc => f2 c (by omega)) hN
    · have hs1 : hs P n = 1 := if_neg c2
      rw [hs1] at hh
      have isb := c_R_isBox (l := l) (D := D) (DA := DA) (b := b) (sz := sz) (d := d) (L := L) (cu := cu) (by omega) hm hp (zi n)
      rw [if_pos c1] at isb
      have e56 : σ 56 n = zi (P 8 n) := hm.p (k := 8) (by decide) hn20
      refine stay h (-4) (v_B_set_0 _ ⟨_, _, kn, fun h0 => absurd h0 (by decide), fun _ => ⟨_, _, hh, fun h0 => absurd h0 (by decide), fun _ => (by first | exact ⟨rfl, rfl⟩ | exact ⟨trivial, trivial⟩ | exact ⟨trivial, rfl⟩ | exact ⟨rfl, trivial⟩ | trivial)⟩⟩) (v_R_set_0 _ ⟨_, _, isb, fun h0 => absurd h0 (by decide), fun _ => ?_⟩)
      rw [hcl, e56, zi_lt0 (by omega) (by omega), zi_eq0 (by omega) (by omega)]
      exact ⟨by omega, fun h0 => absurd h0 c2, fun _ => (by first | exact ⟨rfl, rfl⟩ | exact ⟨trivial, trivial⟩ | exact ⟨trivial, rfl⟩ | exact ⟨rfl, trivial⟩ | trivial)⟩
  · have kn := c_knows (l := l) (D := D) (DA := DA) (b := b) (sz := sz) (d := d) (L := L) (cu := cu) hc hN p
    rw [if_neg c1] at kn
    have isb := c_R_isBox (l := l) (D := D) (DA := DA) (b := b) (sz := sz) (d := d) (L := L) (cu := cu) (by omega) hm hp p
    rw [if_neg c1] at isb
    exact stay h (-2) (v_B_set_0 _ ⟨_, _, kn, fun _ => (by first | exact ⟨rfl, rfl⟩ | exact ⟨trivial, trivial⟩ | exact ⟨trivial, rfl⟩ | exact ⟨rfl, trivial⟩ | trivial), fun h0 => absurd rfl h0⟩) (v_R_set_0 _ ⟨_, _, isb, fun _ => (by first | exact ⟨rfl, rfl⟩ | exact ⟨trivial, trivial⟩ | exact ⟨trivial, rfl⟩ | exact ⟨rfl, trivial⟩ | trivial), fun h0 => absurd rfl h0⟩)
end SAC
