/-! BEST: the two calls -/
section BST
variable {l : Launch} {D : va_G} {DA : Nat → ClassId} {b sz d L : Nat} {cu : Bool} {σ : Nat → Nat → Int32} {N M S : Nat} {P : Nat → Nat → Int} {Q : Nat → Int}
theorem R_b15 {r : Option Value} {X' : am_X} (hd : 1 ≤ d) (hm : mOK σ N P Q) (hp : pOK N P Q) (hS : S < 2 ^ 20) (G1 : (∀ n, n < N → S.testBit n = true → P 8 n = 0) → am_Go l D DA b sz d M_R_best (15, [some (.ref 47), some (.int (zi (S : Int))), some (.int (zi (pcn S N : Int))), some (.int (zi (N : Int)))], [], (am_TT cu L, am_RR cu, σ)) r X') (G2 : ¬ (∀ n, n < N → S.testBit n = true → P 8 n = 0) → r = some (.int (-4)) ∧ X' = (am_TT cu L, am_RR cu, σ)) :
    am_Go l D DA b sz d M_R_best (15, [some (.ref 47), some (.int (zi (S : Int))), some (.int 0), some (.int 0)], [], (am_TT cu L, am_RR cu, σ)) r X' := by
  obtain ⟨d, rfl⟩ : ∃ d', d = d' + 1 := ⟨d - 1, by omega⟩
  have hN := hp.1
  have up := up_loop (fun i => (∀ n, n < i → S.testBit n = true → P 8 n = 0) → am_Go l D DA b sz (d + 1) M_R_best (15, [some (.ref 47), some (.int (zi (S : Int))), some (.int (zi (pcn S i : Int))), some (.int (zi (i : Int)))], [], (am_TT cu L, am_RR cu, σ)) r X') N G1 (fun i hi ih ha => by
    have hnle : ¬ zi (N : Int) ≤ zi (i : Int) := by rw [zi_le (by omega) (by omega) (by omega) (by omega)]; omega
    have hcl : Int32.toNatClampNeg (zi i) = i := zi_cl (by omega)
    have ni : ¬ (zi (i : Int) < 0 ∨ 20 ≤ i) := by rw [zi_lt0 (by omega) (by omega)]; omega
    have hb8 := hp.2.1 i hi
    unfold bOK at hb8
    have e56 : σ 56 i = zi (P 8 i) := hm.p (k := 8) (by decide) (by omega)
    refine v_R_best_15 _ _ _ ?_
    rw [hm.1, mk_bit0 (by omega) (by omega), zi_s1, zi_s1, hcl, e56, zi_eq0 (by omega) (by omega)]
    refine ⟨fun h0 => absurd h0 hnle, fun _ => ?_⟩
    cases hb : S.testBit i with
    | false =>
      rw [pcn_f hb] at ih
      exact ⟨fun _ => ih (fun n hn hbn => by
        by_cases e : n = i
        · rw [e, hb] at hbn; cases hbn
        · exact ha n (by omega) hbn), fun h0 => absurd rfl h0⟩
    | true =>
      have ep : pcn S (i + 1) = pcn S i + 1 := by rw [pcn_s, hb]; rfl
      rw [ep] at ih
      refine ⟨fun h0 => absurd h0 (by decide), fun _ => ⟨ni, fun c => ih (fun n hn hbn => ?_), fun c => G2 (fun z => c (z i hi hb))⟩⟩
      by_cases e : n = i
      · rw [e]; exact c
      · exact ha n (by omega) hbn)
  exact up (fun n hn => absurd hn (by omega))
theorem and_0 (h : hv P N M) : S &&& M = 0 ↔ ∀ n, n < N → S.testBit n = true → P 8 n = 0 := by
  constructor
  · intro e n hn hb
    by_cases c : P 8 n = 0
    · exact c
    · have h1 : (S &&& M).testBit n = true := by rw [Nat.testBit_and, hb, (h.2 n).mpr ⟨hn, c⟩]; rfl
      rw [e, Nat.zero_testBit] at h1
      cases h1
  · intro e
    apply Nat.eq_of_testBit_eq
    intro i
    rw [Nat.zero_testBit, Nat.testBit_and]
    cases hb : S.testBit i with
    | false => rfl
    | true =>
      cases hm : M.testBit i with
      | false => rfl
      | true => exact absurd (e i ((h.2 i).mp hm).1 hb) ((h.2 i).mp hm).2
theorem L_best (hd : 16 ≤ d) (h : pic σ N P Q M) (p : Int32) : stepOK l D DA b sz d L cu M_B_best [some (.ref 1), some (.int p)] M_R_best [some (.ref 47), some (.int p), none, none] σ N P := by
  obtain ⟨hp, hz, hm, hc⟩ := id h
  have hN := hp.1
  obtain ⟨d, rfl⟩ : ∃ d', d = d' + 1 := ⟨d - 1, by omega⟩
  have i1 := c_isSet (l := l) (D := D) (DA := DA) (b := b) (sz := sz) (d := d) (L := L) (cu := cu) hc hN p
  by_cases c1 : 0 < p.toInt ∧ p.toInt < 2 ^ N
  · obtain ⟨S, hS, hS0, rfl⟩ := isS_1 hN c1
    have hS20 : S < 2 ^ 20 := Nat.lt_of_lt_of_le hS (Nat.pow_le_pow_right (by decide) hN)
    have eS : isS N (zi (S : Int)) = 1 := if_pos c1
    rw [eS] at i1
    have hsm : S &&& M < 2 ^ 20 := and_lt hS20
    have j1 : zi (S : Int) &&& σ 2 3 = 0 ↔ ∀ n, n < N → S.testBit n = true → P 8 n = 0 := by
      rw [hc.2.1, mk_andN, zi_eq0 (by omega) (by omega), ← and_0 hc.2.2.1]
      omega
    have i2 := c_R_isSet (l := l) (D := D) (DA := DA) (b := b) (sz := sz) (d := d) (L := L) (cu := cu) hm hN (zi (S : Int))
    rw [eS] at i2
    have i3 := c_bitCount (l := l) (D := D) (DA := DA) (b := b) (sz := sz) (d := d) (L := L) (cu := cu) (σ := σ) hS20
    have hpb := pcn_bd S 20
    have e20 := pcn_20 hS hN
    have j5 : zi (pcn S 20 : Int) ≤ 5 ↔ pcn S 20 ≤ 5 := by rw [z5, zi_le (by omega) (by omega) (by omega) (by omega)]; omega
    by_cases c2 : ∀ n, n < N → S.testBit n = true → P 8 n = 0
    · by_cases c3 : pcn S 20 ≤ 5
      · have ho : opn N P S [] := ⟨hS, fun a ha => ⟨c2 a (by
          by_cases c : a < N
          · exact c
          · exact absurd (ha.symm.trans (bit_hi hS (by omega))) (by decide)) ha, by simp⟩⟩
        have hSa : ∀ a, S.testBit a = true → P 8 a = 0 ∧ a < N := fun a ha => ⟨(ho.2 a ha).1, opn_n ho ha⟩
        have hg0 : gLs N P [] := ⟨fun n hn => absurd hn (by simp), List.nodup_nil⟩
        have s0 : stC (am_us (am_us (am_us σ 39 2 0) 39 3 (-1)) 39 4 0) (-1, 0, []) := ⟨by rw [am_us_k (by decide), am_us_k (by decide), am_us_s]; rfl, by rw [am_us_k (by decide), am_us_s]; rfl, by rw [am_us_s]; rfl, fun i hi => absurd hi (by simp)⟩
        have ca : cOK (am_us (am_us (am_us σ 39 2 0) 39 3 (-1)) 39 4 0) N P Q M := cOK_fr hc (by rw [am_us_ne (by decide), am_us_ne (by decide), am_us_ne (by decide)]) (by rw [am_us_ne (by decide), am_us_ne (by decide), am_us_ne (by decide)]) (fun c hc => by rw [am_us_ne (by omega), am_us_ne (by omega), am_us_ne (by omega)]) hN
        obtain ⟨σb, gb, ob⟩ := C_try (l := l) (D := D) (DA := DA) (b := b) (sz := sz) (L := L) (cu := cu) (pcn S 20) d S [] (-1, 0, []) (am_us (am_us (am_us σ 39 2 0) 39 3 (-1)) 39 4 0) P M 0 0 (by omega) rfl hS (fun a ha => (hSa a ha).1) hp ca (by show 0 + pcn S 20 ≤ 5; omega) (Nat.le_refl _) (fun i hi => absurd hi (by simp)) s0 (by unfold sBd; decide) (by decide) (fun a ha => absurd (ha.symm.trans (Nat.zero_testBit a)) (by decide))
        have eq : oCf Q N (pcn S 20) P S 0 [] (-1, 0, []) = oRf Q N P (pcn S 20) S [] (-1, 0, []) := oC_oR hN (pcn S 20) S [] (-1, 0, []) rfl ho
        rw [eq] at ob
        obtain ⟨k1, k2⟩ := oR_ok hp c3 (pcn S 20) S [] (-1, 0, []) rfl ho hg0 (by show 0 + pcn S 20 = _; omega) (Or.inl rfl)
        have hR := fun (σd : Nat → Nat → Int32) (md : mOK σd N P Q) (sd : stR σd (-1, 0, [])) => R_orders (l := l) (D := D) (DA := DA) (b := b) (sz := sz) (L := L) (cu := cu) (S := S) (k := pcn S 20) hp c3 hS20 hSa (pcn S 20) d S [] (-1, 0, []) σd P (by omega) rfl ho hg0 (by show 0 + pcn S 20 = _; omega) (fun a ha => absurd ha (by simp)) (fun a ha => ha) (eqJ_refl P) md hp hz sd (Or.inl rfl)
        generalize oRf Q N P (pcn S 20) S [] (-1, 0, []) = st at ob k1 k2 hR
        obtain ⟨⟨Mb, cb⟩, rb, sb, bb, fb⟩ := ob
        have hst : gLs N P st.2.2 ∧ st.2.2.length = pcn S 20 := by
          rcases k1 with e | e
          · rw [e] at k2; exact absurd k2 (by decide)
          · exact ⟨e.2.2.1, e.2.2.2⟩
        obtain ⟨σc, Mc, gc, cc, fc⟩ := C_setBest_l (l := l) (D := D) (DA := DA) (b := b) (sz := sz) (d := d - 1) (L := L) (cu := cu) (by omega) st.2.2 [] P σb Mb 0 hst.1 cb hp sb.1 sb.2.2.2 (by show st.2.2.length ≤ 5; omega)
        rw [show d - 1 + 1 = d by omega, Nat.zero_add] at gc
        have fr1 : ∀ c, 42 ≤ c → σc c = σ c := fun c hc => by rw [fc c (by omega), fb c hc, am_us_ne (by omega), am_us_ne (by omega), am_us_ne (by omega)]
        have mc : mOK σc N P Q := mOK_fr hm (fun c _ _ => fr1 c (by omega)) (fun k _ => by rw [fr1 47 (by omega)])
        have md : mOK (am_us (am_us σc 47 25 (-1)) 47 26 0) N P Q := mOK_fr mc (fun c _ _ => by rw [am_us_ne (by omega), am_us_ne (by omega)]) (fun k _ => by rw [am_us_k (by omega), am_us_k (by omega)])
        obtain ⟨σe, ge, ⟨P2, m2, p2, z2, j2⟩, re, fe, ke⟩ := hR _ md ⟨by rw [am_us_k (by decide), am_us_s]; rfl, by rw [am_us_s]; rfl, fun z => absurd rfl z⟩
        obtain ⟨σf, P3, gf, m3, p3, z3, j3, ff3⟩ := R_lists (l := l) (D := D) (DA := DA) (b := b) (sz := sz) (d := d) (L := L) (cu := cu) (by omega) hst.1 j2 m2 p2 z2 hst.2 c3
        have e24 : σe 47 24 = zi (pkL st.2.2 : Int) := re.2.2 (by omega)
        have i2c := c_R_isSet (l := l) (D := D) (DA := DA) (b := b) (sz := sz) (d := d) (L := L) (cu := cu) mc hN (zi (S : Int))
        rw [eS] at i2c
        have fr2 : ∀ c, c < 47 ∨ 62 ≤ c → σf c = σc c := fun c hc => by rw [ff3 c (by omega), fe c hc, am_us_ne (by omega), am_us_ne (by omega)]
        refine ⟨zi (rcP Q N P st.2.2 : Int), σc, σf, P3, Q, Mc, v_B_best_0 _ ⟨_, _, i1, fun h0 => absurd h0 (by decide), fun _ => ⟨fun _ => ⟨_, _, i3, fun _ => ⟨_, v_Orders_begin_0 ⟨rfl, rfl⟩, σb, gb, _, σc, ?_, rfl, rfl⟩, fun h0 => absurd (j5.mpr c3) h0⟩, fun h0 => absurd (j1.mpr c2) h0⟩⟩, v_R_best_0 _ ⟨_, _, i2c, fun h0 => absurd h0 (by decide), fun _ => R_b15 (by omega) mc hp hS20 (fun _ => v_R_best_15 _ _ _ ?_) (fun z => absurd c2 z)⟩, ⟨p3, z3, m3, ?_⟩, fun k n hk => ?_, ?_⟩
        · obtain ⟨d, rfl⟩ : ∃ d', d = d' + 1 := ⟨d - 1, by omega⟩
          exact v_B_setBest_0 gc
        · rw [mc.1, ← e20]
          exact ⟨fun _ => ⟨fun _ => ⟨σe, ge, _, σf, by rw [e24]; exact gf, rfl, rfl⟩, fun h0 => absurd (j5.mpr c3) h0⟩, fun h0 => absurd (Int32.le_refl _) h0⟩
        · exact cOK_fr (cOK_J cc j3) (by rw [fr2 2 (by omega)]) (by rw [fr2 2 (by omega)]) (fun c hc => fr2 c (by omega)) hN
        · rw [← j3.1 k n (by omega)]
          exact rn_o st.2.2 P (Or.inr hk)
        · refine ⟨fun c a e => (fr2 c (by omega)).trans (fr1 c (by omega)), ?_, fun k hk => by rw [fr2 43 (by omega), fr1 43 (by omega)], ?_, ?_, ?_⟩
          · rw [ff3 47 (by omega), ke 28 (by decide), am_us_k (by decide), am_us_k (by decide), fr1 47 (by omega)]
          · rw [ff3 47 (by omega), ke 37 (by decide), am_us_k (by decide), am_us_k (by decide), fr1 47 (by omega)]
          · rw [ff3 47 (by omega), ke 38 (by decide), am_us_k (by decide), am_us_k (by decide), fr1 47 (by omega)]
          · rw [ff3 47 (by omega), ke 39 (by decide), am_us_k (by decide), am_us_k (by decide), fr1 47 (by omega)]
      · refine stay h (-3) (v_B_best_0 _ ⟨_, _, i1, fun h0 => absurd h0 (by decide), fun _ => ⟨fun _ => ⟨_, _, i3, fun h0 => absurd (j5.mp h0) c3, fun _ => (by first | exact ⟨rfl, rfl⟩ | exact ⟨trivial, trivial⟩ | exact ⟨trivial, rfl⟩ | exact ⟨rfl, trivial⟩ | trivial)⟩, fun h0 => absurd (j1.mpr c2) h0⟩⟩) (v_R_best_0 _ ⟨_, _, i2, fun h0 => absurd h0 (by decide), fun _ => R_b15 (by omega) hm hp hS20 (fun _ => v_R_best_15 _ _ _ ?_) (fun z => absurd c2 z)⟩)
        rw [hm.1, ← e20]
        exact ⟨fun _ => ⟨fun h0 => absurd (j5.mp h0) c3, fun _ => (by first | exact ⟨rfl, rfl⟩ | exact ⟨trivial, trivial⟩ | exact ⟨trivial, rfl⟩ | exact ⟨rfl, trivial⟩ | trivial)⟩, fun h0 => absurd (Int32.le_refl _) h0⟩
    · exact stay h (-4) (v_B_best_0 _ ⟨_, _, i1, fun h0 => absurd h0 (by decide), fun _ => ⟨fun h0 => absurd (j1.mp h0) c2, fun _ => (by first | exact ⟨rfl, rfl⟩ | exact ⟨trivial, trivial⟩ | exact ⟨trivial, rfl⟩ | exact ⟨rfl, trivial⟩ | trivial)⟩⟩) (v_R_best_0 _ ⟨_, _, i2, fun h0 => absurd h0 (by decide), fun _ => R_b15 (by omega) hm hp hS20 (fun z => absurd z c2) (fun _ => ⟨rfl, rfl⟩)⟩)
  · have eS : isS N p = 0 := if_neg c1
    rw [eS] at i1
    have i2 := c_R_isSet (l := l) (D := D) (DA := DA) (b := b) (sz := sz) (d := d) (L := L) (cu := cu) hm hN p
    rw [eS] at i2
    exact stay h (-2) (v_B_best_0 _ ⟨_, _, i1, fun _ => (by first | exact ⟨rfl, rfl⟩ | exact ⟨trivial, trivial⟩ | exact ⟨trivial, rfl⟩ | exact ⟨rfl, trivial⟩ | trivial), fun h0 => absurd rfl h0⟩) (v_R_best_0 _ ⟨_, _, i2, fun _ => (by first | exact ⟨rfl, rfl⟩ | exact ⟨trivial, trivial⟩ | exact ⟨trivial, rfl⟩ | exact ⟨rfl, trivial⟩ | trivial), fun h0 => absurd rfl h0⟩)
end BST
