/-! THE LAW: its loop, whatever the script -/
/-- what holds between the calls -/
def Ivt (cu : Bool) (σ : Nat → Nat → Int32) : Prop := ∃ N P Q M, pic σ N P Q M ∧ shw σ ∧ cst cu σ N (r8 P)
def GOL (l : Launch) (D : va_G) (DA : Nat → ClassId) (b sz L : Nat) (cu : Bool) (σ : Nat → Nat → Int32) (i : Nat) : Prop := ∃ cu' σ', (cu = true → cu' = true) ∧ am_Go l D DA b sz 101 M_L_law (18, [some (.ref 0), some (.ref 1), some (.ref 47), some (.int (zi (i : Int)))], [], (am_TT cu L, am_RR cu, σ)) (some (.int 1)) (am_TT cu' L, am_RR cu', σ')
theorem tt_app (cu : Bool) (L : Nat) : am_TT cu L = am_TT false L ++ (if cu = true then [.inl 3, .inr (0, 4096), .inr (0, 4096)] else []) := by
  cases cu <;> rfl
theorem ns_app (a c : am_T) : am_ns (a ++ c) = am_ns a + am_ns c := by
  unfold am_ns
  rw [List.map_append, List.sum_append]
theorem tt_le {cu cu' : Bool} {L : Nat} (h : cu = true → cu' = true) : (am_TT cu L).length ≤ (am_TT cu' L).length ∧ am_ns (am_TT cu L) ≤ am_ns (am_TT cu' L) := by
  rw [tt_app cu, tt_app cu', ns_app, ns_app, List.length_append, List.length_append]
  cases cu with
  | false => exact ⟨Nat.add_le_add_left (Nat.zero_le _) _, Nat.add_le_add_left (Nat.zero_le _) _⟩
  | true => rw [h rfl]; exact ⟨Nat.le_refl _, Nat.le_refl _⟩
theorem bj {i j L : Nat} (h : i + j < L) (hL : L ≤ 4608) : ¬ ((zi (i : Int) + zi (j : Int)) < 0 ∨ L ≤ Int32.toNatClampNeg (zi (i : Int) + zi (j : Int))) ∧ Int32.toNatClampNeg (zi (i : Int) + zi (j : Int)) < L := by
  have e : zi (i : Int) + zi (j : Int) = zi ((i + j : Nat) : Int) := by rw [zi_add, ← Int.natCast_add]
  have c : Int32.toNatClampNeg (zi ((i + j : Nat) : Int)) = i + j := zi_cl (by omega)
  rw [e, c, zi_lt0 (by omega) (by omega)]
  omega
theorem ivt_of {l : Launch} {D : va_G} {DA : Nat → ClassId} {b sz L : Nat} {cu : Bool} {σ σ2 : Nat → Nat → Int32} {N M : Nat} {P P' : Nat → Nat → Int} {Q' : Nat → Int} (hs : shw σ) (hc : cst cu σ N (r8 P)) (hp : pic σ2 N P' Q' M) (h8 : ∀ k n, k < 8 → P' k n = P k n) (hr : rst σ σ2) : Ivt cu σ2 :=
  ⟨N, P', Q', M, hp, rst_shw hr hs, by rw [r8_cg h8]; exact cst_kp (rst_kpC hr) hc⟩
section LAW
variable {l : Launch} {D : va_G} {DA : Nat → ClassId} {b sz L : Nat} {cu : Bool} {σ : Nat → Nat → Int32} {i : Nat}
theorem e9 : zi (i : Int) + 9 = zi ((i + 9 : Nat) : Int) := by
  rw [show (9 : Int32) = zi ((9 : Nat) : Int) from rfl, zi_add, ← Int.natCast_add]
theorem nx9 (hL : L ≤ 4608) (hi : i + 9 ≤ L) : ¬ (((Int32.ofNat L) - 9) < zi (i : Int)) ∧ ¬ (zi (i : Int) < 0 ∨ L ≤ Int32.toNatClampNeg (zi (i : Int))) := by
  have c : Int32.toNatClampNeg (zi (i : Int)) = i := zi_cl (by omega)
  rw [show Int32.ofNat L = zi (L : Int) from rfl, show (9 : Int32) = zi 9 from rfl, zi_sub, zi_lt (by omega) (by omega) (by omega) (by omega), c, zi_lt0 (by omega) (by omega)]
  omega
theorem LW_0 (hL : L ≤ 4608) (hi : i + 9 ≤ L) (hI : Ivt cu σ) (ho : ((σ 0 (Int32.toNatClampNeg (zi (i : Int)))) &&& 31) = 0) (IH : ∀ cu σ, Ivt cu σ → GOL l D DA b sz L cu σ (i + 9)) : GOL l D DA b sz L cu σ i := by
  obtain ⟨N, P, Q, M, hp, hs, hc⟩ := hI
  obtain ⟨hb, hc1⟩ := nx9 hL hi
  have b1 : ¬ ((zi (i : Int) + 1) < 0 ∨ L ≤ Int32.toNatClampNeg (zi (i : Int) + 1)) := (bj (i := i) (j := 1) (by omega) hL).1
  have k1 : Int32.toNatClampNeg (zi (i : Int) + 1) < L := (bj (i := i) (j := 1) (by omega) hL).2
  have b2 : ¬ ((zi (i : Int) + 2) < 0 ∨ L ≤ Int32.toNatClampNeg (zi (i : Int) + 2)) := (bj (i := i) (j := 2) (by omega) hL).1
  have k2 : Int32.toNatClampNeg (zi (i : Int) + 2) < L := (bj (i := i) (j := 2) (by omega) hL).2
  have b3 : ¬ ((zi (i : Int) + 3) < 0 ∨ L ≤ Int32.toNatClampNeg (zi (i : Int) + 3)) := (bj (i := i) (j := 3) (by omega) hL).1
  have k3 : Int32.toNatClampNeg (zi (i : Int) + 3) < L := (bj (i := i) (j := 3) (by omega) hL).2
  have b4 : ¬ ((zi (i : Int) + 4) < 0 ∨ L ≤ Int32.toNatClampNeg (zi (i : Int) + 4)) := (bj (i := i) (j := 4) (by omega) hL).1
  have k4 : Int32.toNatClampNeg (zi (i : Int) + 4) < L := (bj (i := i) (j := 4) (by omega) hL).2
  have b5 : ¬ ((zi (i : Int) + 5) < 0 ∨ L ≤ Int32.toNatClampNeg (zi (i : Int) + 5)) := (bj (i := i) (j := 5) (by omega) hL).1
  have k5 : Int32.toNatClampNeg (zi (i : Int) + 5) < L := (bj (i := i) (j := 5) (by omega) hL).2
  have b6 : ¬ ((zi (i : Int) + 6) < 0 ∨ L ≤ Int32.toNatClampNeg (zi (i : Int) + 6)) := (bj (i := i) (j := 6) (by omega) hL).1
  have k6 : Int32.toNatClampNeg (zi (i : Int) + 6) < L := (bj (i := i) (j := 6) (by omega) hL).2
  have b7 : ¬ ((zi (i : Int) + 7) < 0 ∨ L ≤ Int32.toNatClampNeg (zi (i : Int) + 7)) := (bj (i := i) (j := 7) (by omega) hL).1
  have k7 : Int32.toNatClampNeg (zi (i : Int) + 7) < L := (bj (i := i) (j := 7) (by omega) hL).2
  have b8 : ¬ ((zi (i : Int) + 8) < 0 ∨ L ≤ Int32.toNatClampNeg (zi (i : Int) + 8)) := (bj (i := i) (j := 8) (by omega) hL).1
  have k8 : Int32.toNatClampNeg (zi (i : Int) + 8) < L := (bj (i := i) (j := 8) (by omega) hL).2
  obtain ⟨r, σ1, σ2, gB, gR, h2⟩ := L_box (l := l) (D := D) (DA := DA) (b := b) (sz := sz) (d := 100) (L := L) (cu := cu) (by decide) hp (σ 0 (Int32.toNatClampNeg (zi (i : Int) + 1))) (σ 0 (Int32.toNatClampNeg (zi (i : Int) + 2))) (σ 0 (Int32.toNatClampNeg (zi (i : Int) + 3))) (σ 0 (Int32.toNatClampNeg (zi (i : Int) + 4))) (σ 0 (Int32.toNatClampNeg (zi (i : Int) + 5))) (σ 0 (Int32.toNatClampNeg (zi (i : Int) + 6))) (if (σ 0 (Int32.toNatClampNeg (zi (i : Int) + 7))) = 0 then 0 else 1 : Int32) (σ 0 (Int32.toNatClampNeg (zi (i : Int) + 8))) z_b'
  have hI2 : Ivt cu σ2 := by
    rcases h2 with rfl | ⟨P', M', hp2, e28, ec, h43, e37, e38, e39⟩
    · exact ⟨N, P, Q, M, hp, hs, hc⟩
    · refine ⟨N + 1, P', Q, M', hp2, ?_, Or.inl ⟨e28, ec⟩⟩
      unfold shw at hs ⊢
      rw [h43 0 (by decide), h43 1 (by decide), h43 2 (by decide), h43 3 (by decide), e37, e38, e39]
      exact hs
  obtain ⟨cu', σ', hcu, g⟩ := IH cu σ2 hI2
  obtain ⟨hX1, hX2⟩ := tt_le (L := L) hcu
  refine ⟨cu', σ', hcu, v_Lc_0 _ hX1 hX2 hb hc1 ho ⟨b1, b2, b3, b4, b5, b6, b7, b8, r, σ1, gB, fun hsc => ?_⟩⟩
  rw [hsc _ k1, hsc _ k2, hsc _ k3, hsc _ k4, hsc _ k5, hsc _ k6, hsc _ k7, hsc _ k8, e9]
  exact ⟨b1, b2, b3, b4, b5, b6, b7, b8, r, σ2, gR, fun _ => g, fun h0 => absurd rfl h0⟩
theorem LW_1 (hL : L ≤ 4608) (hi : i + 9 ≤ L) (hI : Ivt cu σ) (ho : ((σ 0 (Int32.toNatClampNeg (zi (i : Int)))) &&& 31) = 1) (IH : ∀ cu σ, Ivt cu σ → GOL l D DA b sz L cu σ (i + 9)) : GOL l D DA b sz L cu σ i := by
  obtain ⟨N, P, Q, M, hp, hs, hc⟩ := hI
  obtain ⟨hb, hc1⟩ := nx9 hL hi
  have b1 : ¬ ((zi (i : Int) + 1) < 0 ∨ L ≤ Int32.toNatClampNeg (zi (i : Int) + 1)) := (bj (i := i) (j := 1) (by omega) hL).1
  have k1 : Int32.toNatClampNeg (zi (i : Int) + 1) < L := (bj (i := i) (j := 1) (by omega) hL).2
  have b2 : ¬ ((zi (i : Int) + 2) < 0 ∨ L ≤ Int32.toNatClampNeg (zi (i : Int) + 2)) := (bj (i := i) (j := 2) (by omega) hL).1
  have k2 : Int32.toNatClampNeg (zi (i : Int) + 2) < L := (bj (i := i) (j := 2) (by omega) hL).2
  have b3 : ¬ ((zi (i : Int) + 3) < 0 ∨ L ≤ Int32.toNatClampNeg (zi (i : Int) + 3)) := (bj (i := i) (j := 3) (by omega) hL).1
  have k3 : Int32.toNatClampNeg (zi (i : Int) + 3) < L := (bj (i := i) (j := 3) (by omega) hL).2
  obtain ⟨r, σ1, σ2, P', Q', M', gB, gR, hp2, h8, hr⟩ := L_truck (l := l) (D := D) (DA := DA) (b := b) (sz := sz) (d := 100) (L := L) (cu := cu) (by decide) hp (σ 0 (Int32.toNatClampNeg (zi (i : Int) + 1))) (σ 0 (Int32.toNatClampNeg (zi (i : Int) + 2))) (σ 0 (Int32.toNatClampNeg (zi (i : Int) + 3)))
  have hI2 : Ivt cu σ2 := ivt_of (l := l) (D := D) (DA := DA) (b := b) (sz := sz) (L := L) hs hc hp2 h8 hr
  obtain ⟨cu', σ', hcu, g⟩ := IH cu σ2 hI2
  obtain ⟨hX1, hX2⟩ := tt_le (L := L) hcu
  refine ⟨cu', σ', hcu, v_Lc_1 _ hX1 hX2 hb hc1 ho ⟨b1, b2, b3, r, σ1, gB, fun hsc => ?_⟩⟩
  rw [hsc _ k1, hsc _ k2, hsc _ k3, e9]
  exact ⟨b1, b2, b3, r, σ2, gR, fun _ => g, fun h0 => absurd rfl h0⟩
theorem LW_2 (hL : L ≤ 4608) (hi : i + 9 ≤ L) (hI : Ivt cu σ) (ho : ((σ 0 (Int32.toNatClampNeg (zi (i : Int)))) &&& 31) = 2) (IH : ∀ cu σ, Ivt cu σ → GOL l D DA b sz L cu σ (i + 9)) : GOL l D DA b sz L cu σ i := by
  obtain ⟨N, P, Q, M, hp, hs, hc⟩ := hI
  obtain ⟨hb, hc1⟩ := nx9 hL hi
  have b1 : ¬ ((zi (i : Int) + 1) < 0 ∨ L ≤ Int32.toNatClampNeg (zi (i : Int) + 1)) := (bj (i := i) (j := 1) (by omega) hL).1
  have k1 : Int32.toNatClampNeg (zi (i : Int) + 1) < L := (bj (i := i) (j := 1) (by omega) hL).2
  obtain ⟨r, σ1, σ2, P', Q', M', gB, gR, hp2, h8, hr⟩ := L_share (l := l) (D := D) (DA := DA) (b := b) (sz := sz) (d := 100) (L := L) (cu := cu) (by decide) hp (σ 0 (Int32.toNatClampNeg (zi (i : Int) + 1)))
  have hI2 : Ivt cu σ2 := ivt_of (l := l) (D := D) (DA := DA) (b := b) (sz := sz) (L := L) hs hc hp2 h8 hr
  obtain ⟨cu', σ', hcu, g⟩ := IH cu σ2 hI2
  obtain ⟨hX1, hX2⟩ := tt_le (L := L) hcu
  refine ⟨cu', σ', hcu, v_Lc_2 _ hX1 hX2 hb hc1 ho ⟨b1, r, σ1, gB, fun hsc => ?_⟩⟩
  rw [hsc _ k1, e9]
  exact ⟨b1, r, σ2, gR, fun _ => g, fun h0 => absurd rfl h0⟩
theorem LW_3 (hL : L ≤ 4608) (hi : i + 9 ≤ L) (hI : Ivt cu σ) (ho : ((σ 0 (Int32.toNatClampNeg (zi (i : Int)))) &&& 31) = 3) (IH : ∀ cu σ, Ivt cu σ → GOL l D DA b sz L cu σ (i + 9)) : GOL l D DA b sz L cu σ i := by
  obtain ⟨N, P, Q, M, hp, hs, hc⟩ := hI
  obtain ⟨hb, hc1⟩ := nx9 hL hi
  have b1 : ¬ ((zi (i : Int) + 1) < 0 ∨ L ≤ Int32.toNatClampNeg (zi (i : Int) + 1)) := (bj (i := i) (j := 1) (by omega) hL).1
  have k1 : Int32.toNatClampNeg (zi (i : Int) + 1) < L := (bj (i := i) (j := 1) (by omega) hL).2
  have b2 : ¬ ((zi (i : Int) + 2) < 0 ∨ L ≤ Int32.toNatClampNeg (zi (i : Int) + 2)) := (bj (i := i) (j := 2) (by omega) hL).1
  have k2 : Int32.toNatClampNeg (zi (i : Int) + 2) < L := (bj (i := i) (j := 2) (by omega) hL).2
  have b3 : ¬ ((zi (i : Int) + 3) < 0 ∨ L ≤ Int32.toNatClampNeg (zi (i : Int) + 3)) := (bj (i := i) (j := 3) (by omega) hL).1
  have k3 : Int32.toNatClampNeg (zi (i : Int) + 3) < L := (bj (i := i) (j := 3) (by omega) hL).2
  have b4 : ¬ ((zi (i : Int) + 4) < 0 ∨ L ≤ Int32.toNatClampNeg (zi (i : Int) + 4)) := (bj (i := i) (j := 4) (by omega) hL).1
  have k4 : Int32.toNatClampNeg (zi (i : Int) + 4) < L := (bj (i := i) (j := 4) (by omega) hL).2
  obtain ⟨r, σ1, σ2, P', Q', M', gB, gR, hp2, h8, hr⟩ := L_axles (l := l) (D := D) (DA := DA) (b := b) (sz := sz) (d := 100) (L := L) (cu := cu) (by decide) hp (σ 0 (Int32.toNatClampNeg (zi (i : Int) + 1))) (σ 0 (Int32.toNatClampNeg (zi (i : Int) + 2))) (σ 0 (Int32.toNatClampNeg (zi (i : Int) + 3))) (σ 0 (Int32.toNatClampNeg (zi (i : Int) + 4)))
  have hI2 : Ivt cu σ2 := ivt_of (l := l) (D := D) (DA := DA) (b := b) (sz := sz) (L := L) hs hc hp2 h8 hr
  obtain ⟨cu', σ', hcu, g⟩ := IH cu σ2 hI2
  obtain ⟨hX1, hX2⟩ := tt_le (L := L) hcu
  refine ⟨cu', σ', hcu, v_Lc_3 _ hX1 hX2 hb hc1 ho ⟨b1, b2, b3, b4, r, σ1, gB, fun hsc => ?_⟩⟩
  rw [hsc _ k1, hsc _ k2, hsc _ k3, hsc _ k4, e9]
  exact ⟨b1, b2, b3, b4, r, σ2, gR, fun _ => g, fun h0 => absurd rfl h0⟩
theorem LW_4 (hL : L ≤ 4608) (hi : i + 9 ≤ L) (hI : Ivt cu σ) (ho : ((σ 0 (Int32.toNatClampNeg (zi (i : Int)))) &&& 31) = 4) (IH : ∀ cu σ, Ivt cu σ → GOL l D DA b sz L cu σ (i + 9)) : GOL l D DA b sz L cu σ i := by
  obtain ⟨N, P, Q, M, hp, hs, hc⟩ := hI
  obtain ⟨hb, hc1⟩ := nx9 hL hi
  have b1 : ¬ ((zi (i : Int) + 1) < 0 ∨ L ≤ Int32.toNatClampNeg (zi (i : Int) + 1)) := (bj (i := i) (j := 1) (by omega) hL).1
  have k1 : Int32.toNatClampNeg (zi (i : Int) + 1) < L := (bj (i := i) (j := 1) (by omega) hL).2
  obtain ⟨r, σ1, σ2, P', Q', M', gB, gR, hp2, h8, hr⟩ := L_side (l := l) (D := D) (DA := DA) (b := b) (sz := sz) (d := 100) (L := L) (cu := cu) (by decide) hp (σ 0 (Int32.toNatClampNeg (zi (i : Int) + 1)))
  have hI2 : Ivt cu σ2 := ivt_of (l := l) (D := D) (DA := DA) (b := b) (sz := sz) (L := L) hs hc hp2 h8 hr
  obtain ⟨cu', σ', hcu, g⟩ := IH cu σ2 hI2
  obtain ⟨hX1, hX2⟩ := tt_le (L := L) hcu
  refine ⟨cu', σ', hcu, v_Lc_4 _ hX1 hX2 hb hc1 ho ⟨b1, r, σ1, gB, fun hsc => ?_⟩⟩
  rw [hsc _ k1, e9]
  exact ⟨b1, r, σ2, gR, fun _ => g, fun h0 => absurd rfl h0⟩
theorem LW_5 (hL : L ≤ 4608) (hi : i + 9 ≤ L) (hI : Ivt cu σ) (ho : ((σ 0 (Int32.toNatClampNeg (zi (i : Int)))) &&& 31) = 5) (IH : ∀ cu σ, Ivt cu σ → GOL l D DA b sz L cu σ (i + 9)) : GOL l D DA b sz L cu σ i := by
  obtain ⟨N, P, Q, M, hp, hs, hc⟩ := hI
  obtain ⟨hb, hc1⟩ := nx9 hL hi
  have b1 : ¬ ((zi (i : Int) + 1) < 0 ∨ L ≤ Int32.toNatClampNeg (zi (i : Int) + 1)) := (bj (i := i) (j := 1) (by omega) hL).1
  have k1 : Int32.toNatClampNeg (zi (i : Int) + 1) < L := (bj (i := i) (j := 1) (by omega) hL).2
  have b2 : ¬ ((zi (i : Int) + 2) < 0 ∨ L ≤ Int32.toNatClampNeg (zi (i : Int) + 2)) := (bj (i := i) (j := 2) (by omega) hL).1
  have k2 : Int32.toNatClampNeg (zi (i : Int) + 2) < L := (bj (i := i) (j := 2) (by omega) hL).2
  have b3 : ¬ ((zi (i : Int) + 3) < 0 ∨ L ≤ Int32.toNatClampNeg (zi (i : Int) + 3)) := (bj (i := i) (j := 3) (by omega) hL).1
  have k3 : Int32.toNatClampNeg (zi (i : Int) + 3) < L := (bj (i := i) (j := 3) (by omega) hL).2
  have b4 : ¬ ((zi (i : Int) + 4) < 0 ∨ L ≤ Int32.toNatClampNeg (zi (i : Int) + 4)) := (bj (i := i) (j := 4) (by omega) hL).1
  have k4 : Int32.toNatClampNeg (zi (i : Int) + 4) < L := (bj (i := i) (j := 4) (by omega) hL).2
  have b5 : ¬ ((zi (i : Int) + 5) < 0 ∨ L ≤ Int32.toNatClampNeg (zi (i : Int) + 5)) := (bj (i := i) (j := 5) (by omega) hL).1
  have k5 : Int32.toNatClampNeg (zi (i : Int) + 5) < L := (bj (i := i) (j := 5) (by omega) hL).2
  obtain ⟨r, σ1, σ2, P', Q', M', gB, gR, hp2, h8, hr⟩ := L_wrong (l := l) (D := D) (DA := DA) (b := b) (sz := sz) (d := 100) (L := L) (cu := cu) (by decide) hp (σ 0 (Int32.toNatClampNeg (zi (i : Int) + 1))) (σ 0 (Int32.toNatClampNeg (zi (i : Int) + 2))) (σ 0 (Int32.toNatClampNeg (zi (i : Int) + 3))) (σ 0 (Int32.toNatClampNeg (zi (i : Int) + 4))) (if (σ 0 (Int32.toNatClampNeg (zi (i : Int) + 5))) = 0 then 0 else 1 : Int32) z_b'
  have hI2 : Ivt cu σ2 := ivt_of (l := l) (D := D) (DA := DA) (b := b) (sz := sz) (L := L) hs hc hp2 h8 hr
  obtain ⟨cu', σ', hcu, g⟩ := IH cu σ2 hI2
  obtain ⟨hX1, hX2⟩ := tt_le (L := L) hcu
  refine ⟨cu', σ', hcu, v_Lc_5 _ hX1 hX2 hb hc1 ho ⟨b1, b2, b3, b4, b5, r, σ1, gB, fun hsc => ?_⟩⟩
  rw [hsc _ k1, hsc _ k2, hsc _ k3, hsc _ k4, hsc _ k5, e9]
  exact ⟨b1, b2, b3, b4, b5, r, σ2, gR, fun _ => g, fun h0 => absurd rfl h0⟩
theorem LW_6 (hL : L ≤ 4608) (hi : i + 9 ≤ L) (hI : Ivt cu σ) (ho : ((σ 0 (Int32.toNatClampNeg (zi (i : Int)))) &&& 31) = 6) (IH : ∀ cu σ, Ivt cu σ → GOL l D DA b sz L cu σ (i + 9)) : GOL l D DA b sz L cu σ i := by
  obtain ⟨N, P, Q, M, hp, hs, hc⟩ := hI
  obtain ⟨hb, hc1⟩ := nx9 hL hi
  have b1 : ¬ ((zi (i : Int) + 1) < 0 ∨ L ≤ Int32.toNatClampNeg (zi (i : Int) + 1)) := (bj (i := i) (j := 1) (by omega) hL).1
  have k1 : Int32.toNatClampNeg (zi (i : Int) + 1) < L := (bj (i := i) (j := 1) (by omega) hL).2
  have b2 : ¬ ((zi (i : Int) + 2) < 0 ∨ L ≤ Int32.toNatClampNeg (zi (i : Int) + 2)) := (bj (i := i) (j := 2) (by omega) hL).1
  have k2 : Int32.toNatClampNeg (zi (i : Int) + 2) < L := (bj (i := i) (j := 2) (by omega) hL).2
  have b3 : ¬ ((zi (i : Int) + 3) < 0 ∨ L ≤ Int32.toNatClampNeg (zi (i : Int) + 3)) := (bj (i := i) (j := 3) (by omega) hL).1
  have k3 : Int32.toNatClampNeg (zi (i : Int) + 3) < L := (bj (i := i) (j := 3) (by omega) hL).2
  have b4 : ¬ ((zi (i : Int) + 4) < 0 ∨ L ≤ Int32.toNatClampNeg (zi (i : Int) + 4)) := (bj (i := i) (j := 4) (by omega) hL).1
  have k4 : Int32.toNatClampNeg (zi (i : Int) + 4) < L := (bj (i := i) (j := 4) (by omega) hL).2
  have b5 : ¬ ((zi (i : Int) + 5) < 0 ∨ L ≤ Int32.toNatClampNeg (zi (i : Int) + 5)) := (bj (i := i) (j := 5) (by omega) hL).1
  have k5 : Int32.toNatClampNeg (zi (i : Int) + 5) < L := (bj (i := i) (j := 5) (by omega) hL).2
  obtain ⟨r, σ1, σ2, P', Q', M', gB, gR, hp2, h8, hr⟩ := L_place (l := l) (D := D) (DA := DA) (b := b) (sz := sz) (d := 100) (L := L) (cu := cu) (by decide) hp (σ 0 (Int32.toNatClampNeg (zi (i : Int) + 1))) (σ 0 (Int32.toNatClampNeg (zi (i : Int) + 2))) (σ 0 (Int32.toNatClampNeg (zi (i : Int) + 3))) (σ 0 (Int32.toNatClampNeg (zi (i : Int) + 4))) (if (σ 0 (Int32.toNatClampNeg (zi (i : Int) + 5))) = 0 then 0 else 1 : Int32) z_b'
  have hI2 : Ivt cu σ2 := ivt_of (l := l) (D := D) (DA := DA) (b := b) (sz := sz) (L := L) hs hc hp2 h8 hr
  obtain ⟨cu', σ', hcu, g⟩ := IH cu σ2 hI2
  obtain ⟨hX1, hX2⟩ := tt_le (L := L) hcu
  refine ⟨cu', σ', hcu, v_Lc_6 _ hX1 hX2 hb hc1 ho ⟨b1, b2, b3, b4, b5, r, σ1, gB, fun hsc => ?_⟩⟩
  rw [hsc _ k1, hsc _ k2, hsc _ k3, hsc _ k4, hsc _ k5, e9]
  exact ⟨b1, b2, b3, b4, b5, r, σ2, gR, fun _ => g, fun h0 => absurd rfl h0⟩
theorem LW_7 (hL : L ≤ 4608) (hi : i + 9 ≤ L) (hI : Ivt cu σ) (ho : ((σ 0 (Int32.toNatClampNeg (zi (i : Int)))) &&& 31) = 7) (IH : ∀ cu σ, Ivt cu σ → GOL l D DA b sz L cu σ (i + 9)) : GOL l D DA b sz L cu σ i := by
  obtain ⟨N, P, Q, M, hp, hs, hc⟩ := hI
  obtain ⟨hb, hc1⟩ := nx9 hL hi
  have b1 : ¬ ((zi (i : Int) + 1) < 0 ∨ L ≤ Int32.toNatClampNeg (zi (i : Int) + 1)) := (bj (i := i) (j := 1) (by omega) hL).1
  have k1 : Int32.toNatClampNeg (zi (i : Int) + 1) < L := (bj (i := i) (j := 1) (by omega) hL).2
  obtain ⟨r, σ1, σ2, P', Q', M', gB, gR, hp2, h8, hr⟩ := L_set (l := l) (D := D) (DA := DA) (b := b) (sz := sz) (d := 100) (L := L) (cu := cu) (by decide) hp (σ 0 (Int32.toNatClampNeg (zi (i : Int) + 1)))
  have hI2 : Ivt cu σ2 := ivt_of (l := l) (D := D) (DA := DA) (b := b) (sz := sz) (L := L) hs hc hp2 h8 hr
  obtain ⟨cu', σ', hcu, g⟩ := IH cu σ2 hI2
  obtain ⟨hX1, hX2⟩ := tt_le (L := L) hcu
  refine ⟨cu', σ', hcu, v_Lc_7 _ hX1 hX2 hb hc1 ho ⟨b1, r, σ1, gB, fun hsc => ?_⟩⟩
  rw [hsc _ k1, e9]
  exact ⟨b1, r, σ2, gR, fun _ => g, fun h0 => absurd rfl h0⟩
theorem LW_8 (hL : L ≤ 4608) (hi : i + 9 ≤ L) (hI : Ivt cu σ) (ho : ((σ 0 (Int32.toNatClampNeg (zi (i : Int)))) &&& 31) = 8) (IH : ∀ cu σ, Ivt cu σ → GOL l D DA b sz L cu σ (i + 9)) : GOL l D DA b sz L cu σ i := by
  obtain ⟨N, P, Q, M, hp, hs, hc⟩ := hI
  obtain ⟨hb, hc1⟩ := nx9 hL hi
  have b1 : ¬ ((zi (i : Int) + 1) < 0 ∨ L ≤ Int32.toNatClampNeg (zi (i : Int) + 1)) := (bj (i := i) (j := 1) (by omega) hL).1
  have k1 : Int32.toNatClampNeg (zi (i : Int) + 1) < L := (bj (i := i) (j := 1) (by omega) hL).2
  obtain ⟨r, σ1, σ2, P', Q', M', gB, gR, hp2, h8, hr⟩ := L_take (l := l) (D := D) (DA := DA) (b := b) (sz := sz) (d := 100) (L := L) (cu := cu) (by decide) hp (σ 0 (Int32.toNatClampNeg (zi (i : Int) + 1)))
  have hI2 : Ivt cu σ2 := ivt_of (l := l) (D := D) (DA := DA) (b := b) (sz := sz) (L := L) hs hc hp2 h8 hr
  obtain ⟨cu', σ', hcu, g⟩ := IH cu σ2 hI2
  obtain ⟨hX1, hX2⟩ := tt_le (L := L) hcu
  refine ⟨cu', σ', hcu, v_Lc_8 _ hX1 hX2 hb hc1 ho ⟨b1, r, σ1, gB, fun hsc => ?_⟩⟩
  rw [hsc _ k1, e9]
  exact ⟨b1, r, σ2, gR, fun _ => g, fun h0 => absurd rfl h0⟩
theorem LW_9 (hL : L ≤ 4608) (hi : i + 9 ≤ L) (hI : Ivt cu σ) (ho : ((σ 0 (Int32.toNatClampNeg (zi (i : Int)))) &&& 31) = 9) (IH : ∀ cu σ, Ivt cu σ → GOL l D DA b sz L cu σ (i + 9)) : GOL l D DA b sz L cu σ i := by
  obtain ⟨N, P, Q, M, hp, hs, hc⟩ := hI
  obtain ⟨hb, hc1⟩ := nx9 hL hi
  obtain ⟨r, σ1, σ2, P', Q', M', gB, gR, hp2, h8, hr⟩ := L_clear (l := l) (D := D) (DA := DA) (b := b) (sz := sz) (d := 100) (L := L) (cu := cu) (by decide) hp 
  have hI2 : Ivt cu σ2 := ivt_of (l := l) (D := D) (DA := DA) (b := b) (sz := sz) (L := L) hs hc hp2 h8 hr
  obtain ⟨cu', σ', hcu, g⟩ := IH cu σ2 hI2
  obtain ⟨hX1, hX2⟩ := tt_le (L := L) hcu
  refine ⟨cu', σ', hcu, v_Lc_9 _ hX1 hX2 hb hc1 ho ⟨r, σ1, gB, fun hsc => ?_⟩⟩
  rw [e9]
  exact ⟨r, σ2, gR, fun _ => g, fun h0 => absurd rfl h0⟩
theorem LW_10 (hL : L ≤ 4608) (hi : i + 9 ≤ L) (hI : Ivt cu σ) (ho : ((σ 0 (Int32.toNatClampNeg (zi (i : Int)))) &&& 31) = 10) (IH : ∀ cu σ, Ivt cu σ → GOL l D DA b sz L cu σ (i + 9)) : GOL l D DA b sz L cu σ i := by
  obtain ⟨N, P, Q, M, hp, hs, hc⟩ := hI
  obtain ⟨hb, hc1⟩ := nx9 hL hi
  have b1 : ¬ ((zi (i : Int) + 1) < 0 ∨ L ≤ Int32.toNatClampNeg (zi (i : Int) + 1)) := (bj (i := i) (j := 1) (by omega) hL).1
  have k1 : Int32.toNatClampNeg (zi (i : Int) + 1) < L := (bj (i := i) (j := 1) (by omega) hL).2
  obtain ⟨r, σ1, σ2, P', Q', M', gB, gR, hp2, h8, hr⟩ := L_best (l := l) (D := D) (DA := DA) (b := b) (sz := sz) (d := 100) (L := L) (cu := cu) (by decide) hp (σ 0 (Int32.toNatClampNeg (zi (i : Int) + 1)))
  have hI2 : Ivt cu σ2 := ivt_of (l := l) (D := D) (DA := DA) (b := b) (sz := sz) (L := L) hs hc hp2 h8 hr
  obtain ⟨cu', σ', hcu, g⟩ := IH cu σ2 hI2
  obtain ⟨hX1, hX2⟩ := tt_le (L := L) hcu
  refine ⟨cu', σ', hcu, v_Lc_10 _ hX1 hX2 hb hc1 ho ⟨b1, r, σ1, gB, fun hsc => ?_⟩⟩
  rw [hsc _ k1, e9]
  exact ⟨b1, r, σ2, gR, fun _ => g, fun h0 => absurd rfl h0⟩
theorem LW_11 (hL : L ≤ 4608) (hi : i + 9 ≤ L) (hI : Ivt cu σ) (ho : ((σ 0 (Int32.toNatClampNeg (zi (i : Int)))) &&& 31) = 11) (IH : ∀ cu σ, Ivt cu σ → GOL l D DA b sz L cu σ (i + 9)) : GOL l D DA b sz L cu σ i := by
  obtain ⟨N, P, Q, M, hp, hs, hc⟩ := hI
  obtain ⟨hb, hc1⟩ := nx9 hL hi
  have b1 : ¬ ((zi (i : Int) + 1) < 0 ∨ L ≤ Int32.toNatClampNeg (zi (i : Int) + 1)) := (bj (i := i) (j := 1) (by omega) hL).1
  have k1 : Int32.toNatClampNeg (zi (i : Int) + 1) < L := (bj (i := i) (j := 1) (by omega) hL).2
  have b2 : ¬ ((zi (i : Int) + 2) < 0 ∨ L ≤ Int32.toNatClampNeg (zi (i : Int) + 2)) := (bj (i := i) (j := 2) (by omega) hL).1
  have k2 : Int32.toNatClampNeg (zi (i : Int) + 2) < L := (bj (i := i) (j := 2) (by omega) hL).2
  obtain ⟨r, σ1, σ2, P', Q', M', gB, gR, hp2, h8, hr⟩ := L_about (l := l) (D := D) (DA := DA) (b := b) (sz := sz) (d := 100) (L := L) (cu := cu) (by decide) hp (σ 0 (Int32.toNatClampNeg (zi (i : Int) + 1))) (σ 0 (Int32.toNatClampNeg (zi (i : Int) + 2)))
  have hI2 : Ivt cu σ2 := ivt_of (l := l) (D := D) (DA := DA) (b := b) (sz := sz) (L := L) hs hc hp2 h8 hr
  obtain ⟨cu', σ', hcu, g⟩ := IH cu σ2 hI2
  obtain ⟨hX1, hX2⟩ := tt_le (L := L) hcu
  refine ⟨cu', σ', hcu, v_Lc_11 _ hX1 hX2 hb hc1 ho ⟨b1, b2, r, σ1, gB, fun hsc => ?_⟩⟩
  rw [hsc _ k1, hsc _ k2, e9]
  exact ⟨b1, b2, r, σ2, gR, fun _ => g, fun h0 => absurd rfl h0⟩
theorem LW_12 (hL : L ≤ 4608) (hi : i + 9 ≤ L) (hI : Ivt cu σ) (ho : ((σ 0 (Int32.toNatClampNeg (zi (i : Int)))) &&& 31) = 12) (IH : ∀ cu σ, Ivt cu σ → GOL l D DA b sz L cu σ (i + 9)) : GOL l D DA b sz L cu σ i := by
  obtain ⟨N, P, Q, M, hp, hs, hc⟩ := hI
  obtain ⟨hb, hc1⟩ := nx9 hL hi
  have b1 : ¬ ((zi (i : Int) + 1) < 0 ∨ L ≤ Int32.toNatClampNeg (zi (i : Int) + 1)) := (bj (i := i) (j := 1) (by omega) hL).1
  have k1 : Int32.toNatClampNeg (zi (i : Int) + 1) < L := (bj (i := i) (j := 1) (by omega) hL).2
  have b2 : ¬ ((zi (i : Int) + 2) < 0 ∨ L ≤ Int32.toNatClampNeg (zi (i : Int) + 2)) := (bj (i := i) (j := 2) (by omega) hL).1
  have k2 : Int32.toNatClampNeg (zi (i : Int) + 2) < L := (bj (i := i) (j := 2) (by omega) hL).2
  have b3 : ¬ ((zi (i : Int) + 3) < 0 ∨ L ≤ Int32.toNatClampNeg (zi (i : Int) + 3)) := (bj (i := i) (j := 3) (by omega) hL).1
  have k3 : Int32.toNatClampNeg (zi (i : Int) + 3) < L := (bj (i := i) (j := 3) (by omega) hL).2
  obtain ⟨r, σ1, σ2, P', Q', M', gB, gR, hp2, h8, hr⟩ := L_at (l := l) (D := D) (DA := DA) (b := b) (sz := sz) (d := 100) (L := L) (cu := cu) (by decide) hp (σ 0 (Int32.toNatClampNeg (zi (i : Int) + 1))) (σ 0 (Int32.toNatClampNeg (zi (i : Int) + 2))) (σ 0 (Int32.toNatClampNeg (zi (i : Int) + 3)))
  have hI2 : Ivt cu σ2 := ivt_of (l := l) (D := D) (DA := DA) (b := b) (sz := sz) (L := L) hs hc hp2 h8 hr
  obtain ⟨cu', σ', hcu, g⟩ := IH cu σ2 hI2
  obtain ⟨hX1, hX2⟩ := tt_le (L := L) hcu
  refine ⟨cu', σ', hcu, v_Lc_12 _ hX1 hX2 hb hc1 ho ⟨b1, b2, b3, r, σ1, gB, fun hsc => ?_⟩⟩
  rw [hsc _ k1, hsc _ k2, hsc _ k3, e9]
  exact ⟨b1, b2, b3, r, σ2, gR, fun _ => g, fun h0 => absurd rfl h0⟩
theorem LW_13 (hL : L ≤ 4608) (hi : i + 9 ≤ L) (hI : Ivt cu σ) (ho : ((σ 0 (Int32.toNatClampNeg (zi (i : Int)))) &&& 31) = 13) (IH : ∀ cu σ, Ivt cu σ → GOL l D DA b sz L cu σ (i + 9)) : GOL l D DA b sz L cu σ i := by
  obtain ⟨N, P, Q, M, hp, hs, hc⟩ := hI
  obtain ⟨hb, hc1⟩ := nx9 hL hi
  have b1 : ¬ ((zi (i : Int) + 1) < 0 ∨ L ≤ Int32.toNatClampNeg (zi (i : Int) + 1)) := (bj (i := i) (j := 1) (by omega) hL).1
  have k1 : Int32.toNatClampNeg (zi (i : Int) + 1) < L := (bj (i := i) (j := 1) (by omega) hL).2
  have b2 : ¬ ((zi (i : Int) + 2) < 0 ∨ L ≤ Int32.toNatClampNeg (zi (i : Int) + 2)) := (bj (i := i) (j := 2) (by omega) hL).1
  have k2 : Int32.toNatClampNeg (zi (i : Int) + 2) < L := (bj (i := i) (j := 2) (by omega) hL).2
  have b3 : ¬ ((zi (i : Int) + 3) < 0 ∨ L ≤ Int32.toNatClampNeg (zi (i : Int) + 3)) := (bj (i := i) (j := 3) (by omega) hL).1
  have k3 : Int32.toNatClampNeg (zi (i : Int) + 3) < L := (bj (i := i) (j := 3) (by omega) hL).2
  obtain ⟨r, σ1, σ2, P', Q', M', gB, gR, hp2, h8, hr⟩ := L_axle (l := l) (D := D) (DA := DA) (b := b) (sz := sz) (d := 100) (L := L) (cu := cu) (by decide) hp (σ 0 (Int32.toNatClampNeg (zi (i : Int) + 1))) (σ 0 (Int32.toNatClampNeg (zi (i : Int) + 2))) (σ 0 (Int32.toNatClampNeg (zi (i : Int) + 3)))
  have hI2 : Ivt cu σ2 := ivt_of (l := l) (D := D) (DA := DA) (b := b) (sz := sz) (L := L) hs hc hp2 h8 hr
  obtain ⟨cu', σ', hcu, g⟩ := IH cu σ2 hI2
  obtain ⟨hX1, hX2⟩ := tt_le (L := L) hcu
  refine ⟨cu', σ', hcu, v_Lc_13 _ hX1 hX2 hb hc1 ho ⟨b1, b2, b3, r, σ1, gB, fun hsc => ?_⟩⟩
  rw [hsc _ k1, hsc _ k2, hsc _ k3, e9]
  exact ⟨b1, b2, b3, r, σ2, gR, fun _ => g, fun h0 => absurd rfl h0⟩
theorem LW_14 (hL : L ≤ 4608) (hi : i + 9 ≤ L) (hI : Ivt cu σ) (ho : ((σ 0 (Int32.toNatClampNeg (zi (i : Int)))) &&& 31) = 14) (IH : ∀ cu σ, Ivt cu σ → GOL l D DA b sz L cu σ (i + 9)) : GOL l D DA b sz L cu σ i := by
  obtain ⟨N, P, Q, M, hp, hs, hc⟩ := hI
  obtain ⟨hb, hc1⟩ := nx9 hL hi
  have b1 : ¬ ((zi (i : Int) + 1) < 0 ∨ L ≤ Int32.toNatClampNeg (zi (i : Int) + 1)) := (bj (i := i) (j := 1) (by omega) hL).1
  have k1 : Int32.toNatClampNeg (zi (i : Int) + 1) < L := (bj (i := i) (j := 1) (by omega) hL).2
  obtain ⟨r, σ1, σ2, P', Q', M', gB, gR, hp2, h8, hr⟩ := L_over (l := l) (D := D) (DA := DA) (b := b) (sz := sz) (d := 100) (L := L) (cu := cu) (by decide) hp (σ 0 (Int32.toNatClampNeg (zi (i : Int) + 1)))
  have hI2 : Ivt cu σ2 := ivt_of (l := l) (D := D) (DA := DA) (b := b) (sz := sz) (L := L) hs hc hp2 h8 hr
  obtain ⟨cu', σ', hcu, g⟩ := IH cu σ2 hI2
  obtain ⟨hX1, hX2⟩ := tt_le (L := L) hcu
  refine ⟨cu', σ', hcu, v_Lc_14 _ hX1 hX2 hb hc1 ho ⟨b1, r, σ1, gB, fun hsc => ?_⟩⟩
  rw [hsc _ k1, e9]
  exact ⟨b1, r, σ2, gR, fun _ => g, fun h0 => absurd rfl h0⟩
theorem LW_15 (hL : L ≤ 4608) (hi : i + 9 ≤ L) (hI : Ivt cu σ) (ho : ((σ 0 (Int32.toNatClampNeg (zi (i : Int)))) &&& 31) = 15) (IH : ∀ cu σ, Ivt cu σ → GOL l D DA b sz L cu σ (i + 9)) : GOL l D DA b sz L cu σ i := by
  obtain ⟨N, P, Q, M, hp, hs, hc⟩ := hI
  obtain ⟨hb, hc1⟩ := nx9 hL hi
  obtain ⟨r, σ1, σ2, P', Q', M', gB, gR, hp2, h8, hr⟩ := L_fit (l := l) (D := D) (DA := DA) (b := b) (sz := sz) (d := 100) (L := L) (cu := cu) (by decide) hp 
  have hI2 : Ivt cu σ2 := ivt_of (l := l) (D := D) (DA := DA) (b := b) (sz := sz) (L := L) hs hc hp2 h8 hr
  obtain ⟨cu', σ', hcu, g⟩ := IH cu σ2 hI2
  obtain ⟨hX1, hX2⟩ := tt_le (L := L) hcu
  refine ⟨cu', σ', hcu, v_Lc_15 _ hX1 hX2 hb hc1 ho ⟨r, σ1, gB, fun hsc => ?_⟩⟩
  rw [e9]
  exact ⟨r, σ2, gR, fun _ => g, fun h0 => absurd rfl h0⟩
theorem LW_16 (hL : L ≤ 4608) (hi : i + 9 ≤ L) (hI : Ivt cu σ) (ho : ((σ 0 (Int32.toNatClampNeg (zi (i : Int)))) &&& 31) = 16) (IH : ∀ cu σ, Ivt cu σ → GOL l D DA b sz L cu σ (i + 9)) : GOL l D DA b sz L cu σ i := by
  obtain ⟨N, P, Q, M, hp, hs, hc⟩ := hI
  obtain ⟨hb, hc1⟩ := nx9 hL hi
  have b1 : ¬ ((zi (i : Int) + 1) < 0 ∨ L ≤ Int32.toNatClampNeg (zi (i : Int) + 1)) := (bj (i := i) (j := 1) (by omega) hL).1
  have k1 : Int32.toNatClampNeg (zi (i : Int) + 1) < L := (bj (i := i) (j := 1) (by omega) hL).2
  have b2 : ¬ ((zi (i : Int) + 2) < 0 ∨ L ≤ Int32.toNatClampNeg (zi (i : Int) + 2)) := (bj (i := i) (j := 2) (by omega) hL).1
  have k2 : Int32.toNatClampNeg (zi (i : Int) + 2) < L := (bj (i := i) (j := 2) (by omega) hL).2
  have b3 : ¬ ((zi (i : Int) + 3) < 0 ∨ L ≤ Int32.toNatClampNeg (zi (i : Int) + 3)) := (bj (i := i) (j := 3) (by omega) hL).1
  have k3 : Int32.toNatClampNeg (zi (i : Int) + 3) < L := (bj (i := i) (j := 3) (by omega) hL).2
  obtain ⟨r, cu1, σ1, σ2, gB, gR, hp2, hc2, hs2, hcc⟩ := L_cut (l := l) (D := D) (DA := DA) (b := b) (sz := sz) (d := 100) (L := L) (cu := cu) (by decide) hp hc (σ 0 (Int32.toNatClampNeg (zi (i : Int) + 1))) (σ 0 (Int32.toNatClampNeg (zi (i : Int) + 2))) (σ 0 (Int32.toNatClampNeg (zi (i : Int) + 3)))
  have hI2 : Ivt cu1 σ2 := ⟨N, P, Q, M, hp2, hs2 hs, hc2⟩
  have hcu1 : cu = true → cu1 = true := fun z => by
    rcases hcc with h | h
    · rw [h]; exact z
    · rw [h] at z; cases z
  obtain ⟨cu', σ', hcu, g⟩ := IH cu1 σ2 hI2
  obtain ⟨hX1, hX2⟩ := tt_le (L := L) (fun z => hcu (hcu1 z))
  obtain ⟨hY1, hY2⟩ := tt_le (L := L) hcu
  refine ⟨cu', σ', fun z => hcu (hcu1 z), v_Lc_16 _ hX1 hX2 hb hc1 ho ⟨b1, b2, b3, r, cu1, σ1, gB, ⟨hY1, hY2⟩, fun hsc => ?_⟩⟩
  rw [hsc _ k1, hsc _ k2, hsc _ k3, e9]
  exact ⟨b1, b2, b3, r, σ2, gR, fun _ => g, fun h0 => absurd rfl h0⟩
theorem LW_17 (hL : L ≤ 4608) (hi : i + 9 ≤ L) (hI : Ivt cu σ) (ho : ((σ 0 (Int32.toNatClampNeg (zi (i : Int)))) &&& 31) = 17) (IH : ∀ cu σ, Ivt cu σ → GOL l D DA b sz L cu σ (i + 9)) : GOL l D DA b sz L cu σ i := by
  obtain ⟨N, P, Q, M, hp, hs, hc⟩ := hI
  obtain ⟨hb, hc1⟩ := nx9 hL hi
  have b1 : ¬ ((zi (i : Int) + 1) < 0 ∨ L ≤ Int32.toNatClampNeg (zi (i : Int) + 1)) := (bj (i := i) (j := 1) (by omega) hL).1
  have k1 : Int32.toNatClampNeg (zi (i : Int) + 1) < L := (bj (i := i) (j := 1) (by omega) hL).2
  have b2 : ¬ ((zi (i : Int) + 2) < 0 ∨ L ≤ Int32.toNatClampNeg (zi (i : Int) + 2)) := (bj (i := i) (j := 2) (by omega) hL).1
  have k2 : Int32.toNatClampNeg (zi (i : Int) + 2) < L := (bj (i := i) (j := 2) (by omega) hL).2
  obtain ⟨r, σ1, gB, gR, hp2, hc2, hs2⟩ := L_piece (l := l) (D := D) (DA := DA) (b := b) (sz := sz) (d := 100) (L := L) (cu := cu) (by decide) hp hc (σ 0 (Int32.toNatClampNeg (zi (i : Int) + 1))) (σ 0 (Int32.toNatClampNeg (zi (i : Int) + 2)))
  have hI2 : Ivt cu σ1 := ⟨N, P, Q, M, hp2, hs2 hs, hc2⟩
  obtain ⟨cu', σ', hcu, g⟩ := IH cu σ1 hI2
  obtain ⟨hX1, hX2⟩ := tt_le (L := L) hcu
  refine ⟨cu', σ', hcu, v_Lc_17 _ hX1 hX2 hb hc1 ho ⟨b1, b2, r, σ1, gB, fun hsc => ?_⟩⟩
  rw [hsc _ k1, hsc _ k2, e9]
  exact ⟨b1, b2, r, σ1, gR, fun _ => g, fun h0 => absurd rfl h0⟩
theorem LW_18 (hL : L ≤ 4608) (hi : i + 9 ≤ L) (hI : Ivt cu σ) (ho : ((σ 0 (Int32.toNatClampNeg (zi (i : Int)))) &&& 31) = 18) (IH : ∀ cu σ, Ivt cu σ → GOL l D DA b sz L cu σ (i + 9)) : GOL l D DA b sz L cu σ i := by
  obtain ⟨N, P, Q, M, hp, hs, hc⟩ := hI
  obtain ⟨hb, hc1⟩ := nx9 hL hi
  have b1 : ¬ ((zi (i : Int) + 1) < 0 ∨ L ≤ Int32.toNatClampNeg (zi (i : Int) + 1)) := (bj (i := i) (j := 1) (by omega) hL).1
  have k1 : Int32.toNatClampNeg (zi (i : Int) + 1) < L := (bj (i := i) (j := 1) (by omega) hL).2
  obtain ⟨r, σ1, σ2, gB, gR, hp2, hk, hs2⟩ := L_trucks (l := l) (D := D) (DA := DA) (b := b) (sz := sz) (d := 100) (L := L) (cu := cu) (by decide) hp (σ 0 (Int32.toNatClampNeg (zi (i : Int) + 1)))
  have hI2 : Ivt cu σ2 := ⟨N, P, Q, M, hp2, hs2 hs, cst_kp hk hc⟩
  obtain ⟨cu', σ', hcu, g⟩ := IH cu σ2 hI2
  obtain ⟨hX1, hX2⟩ := tt_le (L := L) hcu
  refine ⟨cu', σ', hcu, v_Lc_18 _ hX1 hX2 hb hc1 ho ⟨b1, r, σ1, gB, fun hsc => ?_⟩⟩
  rw [hsc _ k1, e9]
  exact ⟨b1, r, σ2, gR, fun _ => g, fun h0 => absurd rfl h0⟩
theorem LW_19 (hL : L ≤ 4608) (hi : i + 9 ≤ L) (hI : Ivt cu σ) (ho : ((σ 0 (Int32.toNatClampNeg (zi (i : Int)))) &&& 31) = 19) (IH : ∀ cu σ, Ivt cu σ → GOL l D DA b sz L cu σ (i + 9)) : GOL l D DA b sz L cu σ i := by
  obtain ⟨N, P, Q, M, hp, hs, hc⟩ := hI
  obtain ⟨hb, hc1⟩ := nx9 hL hi
  have b1 : ¬ ((zi (i : Int) + 1) < 0 ∨ L ≤ Int32.toNatClampNeg (zi (i : Int) + 1)) := (bj (i := i) (j := 1) (by omega) hL).1
  have k1 : Int32.toNatClampNeg (zi (i : Int) + 1) < L := (bj (i := i) (j := 1) (by omega) hL).2
  obtain ⟨r, gB, gR⟩ := L_shown (l := l) (D := D) (DA := DA) (b := b) (sz := sz) (d := 100) (L := L) (cu := cu) hs (σ 0 (Int32.toNatClampNeg (zi (i : Int) + 1)))
  have hI2 : Ivt cu σ := ⟨N, P, Q, M, hp, hs, hc⟩
  obtain ⟨cu', σ', hcu, g⟩ := IH cu σ hI2
  obtain ⟨hX1, hX2⟩ := tt_le (L := L) hcu
  refine ⟨cu', σ', hcu, v_Lc_19 _ hX1 hX2 hb hc1 ho ⟨b1, r, σ, gB, fun hsc => ?_⟩⟩
  rw [e9]
  exact ⟨b1, r, σ, gR, fun _ => g, fun h0 => absurd rfl h0⟩
theorem LW_20 (hL : L ≤ 4608) (hi : i + 9 ≤ L) (hI : Ivt cu σ) (ho : ((σ 0 (Int32.toNatClampNeg (zi (i : Int)))) &&& 31) = 20) (IH : ∀ cu σ, Ivt cu σ → GOL l D DA b sz L cu σ (i + 9)) : GOL l D DA b sz L cu σ i := by
  obtain ⟨N, P, Q, M, hp, hs, hc⟩ := hI
  obtain ⟨hb, hc1⟩ := nx9 hL hi
  have b1 : ¬ ((zi (i : Int) + 1) < 0 ∨ L ≤ Int32.toNatClampNeg (zi (i : Int) + 1)) := (bj (i := i) (j := 1) (by omega) hL).1
  have k1 : Int32.toNatClampNeg (zi (i : Int) + 1) < L := (bj (i := i) (j := 1) (by omega) hL).2
  obtain ⟨r, σ1, σ2, P', Q', M', gB, gR, hp2, h8, hr⟩ := L_count (l := l) (D := D) (DA := DA) (b := b) (sz := sz) (d := 100) (L := L) (cu := cu) (by decide) hp (σ 0 (Int32.toNatClampNeg (zi (i : Int) + 1)))
  have hI2 : Ivt cu σ2 := ivt_of (l := l) (D := D) (DA := DA) (b := b) (sz := sz) (L := L) hs hc hp2 h8 hr
  obtain ⟨cu', σ', hcu, g⟩ := IH cu σ2 hI2
  obtain ⟨hX1, hX2⟩ := tt_le (L := L) hcu
  refine ⟨cu', σ', hcu, v_Lc_20 _ hX1 hX2 hb hc1 ho ⟨b1, r, σ1, gB, fun hsc => ?_⟩⟩
  rw [hsc _ k1, e9]
  exact ⟨b1, r, σ2, gR, fun _ => g, fun h0 => absurd rfl h0⟩
theorem LW_all (hL : L ≤ 4608) : ∀ (n i : Nat) (cu : Bool) (σ : Nat → Nat → Int32), L + 9 - i ≤ n → i ≤ L + 9 → Ivt cu σ → GOL l D DA b sz L cu σ i := by
  intro n
  induction n with
  | zero =>
    intro i cu σ hn hi hI
    refine ⟨cu, σ, id, v_L_law_18 _ ?_⟩
    rw [show Int32.ofNat L = zi (L : Int) from rfl, show (9 : Int32) = zi 9 from rfl, zi_sub, zi_lt (by omega) (by omega) (by omega) (by omega)]
    exact ⟨fun _ => (by first | exact ⟨rfl, rfl⟩ | exact ⟨trivial, trivial⟩ | exact ⟨trivial, rfl⟩ | exact ⟨rfl, trivial⟩ | trivial), fun h0 => absurd (by omega) h0⟩
  | succ n ih =>
    intro i cu σ hn hi hI
    by_cases hx : i + 9 ≤ L
    · have IH : ∀ cu σ, Ivt cu σ → GOL l D DA b sz L cu σ (i + 9) := fun cu σ h => ih (i + 9) cu σ (by omega) (by omega) h
      by_cases h0 : ((σ 0 (Int32.toNatClampNeg (zi (i : Int)))) &&& 31) = 0
      · exact LW_0 hL hx hI h0 IH
      by_cases h1 : ((σ 0 (Int32.toNatClampNeg (zi (i : Int)))) &&& 31) = 1
      · exact LW_1 hL hx hI h1 IH
      by_cases h2 : ((σ 0 (Int32.toNatClampNeg (zi (i : Int)))) &&& 31) = 2
      · exact LW_2 hL hx hI h2 IH
      by_cases h3 : ((σ 0 (Int32.toNatClampNeg (zi (i : Int)))) &&& 31) = 3
      · exact LW_3 hL hx hI h3 IH
      by_cases h4 : ((σ 0 (Int32.toNatClampNeg (zi (i : Int)))) &&& 31) = 4
      · exact LW_4 hL hx hI h4 IH
      by_cases h5 : ((σ 0 (Int32.toNatClampNeg (zi (i : Int)))) &&& 31) = 5
      · exact LW_5 hL hx hI h5 IH
      by_cases h6 : ((σ 0 (Int32.toNatClampNeg (zi (i : Int)))) &&& 31) = 6
      · exact LW_6 hL hx hI h6 IH
      by_cases h7 : ((σ 0 (Int32.toNatClampNeg (zi (i : Int)))) &&& 31) = 7
      · exact LW_7 hL hx hI h7 IH
      by_cases h8 : ((σ 0 (Int32.toNatClampNeg (zi (i : Int)))) &&& 31) = 8
      · exact LW_8 hL hx hI h8 IH
      by_cases h9 : ((σ 0 (Int32.toNatClampNeg (zi (i : Int)))) &&& 31) = 9
      · exact LW_9 hL hx hI h9 IH
      by_cases h10 : ((σ 0 (Int32.toNatClampNeg (zi (i : Int)))) &&& 31) = 10
      · exact LW_10 hL hx hI h10 IH
      by_cases h11 : ((σ 0 (Int32.toNatClampNeg (zi (i : Int)))) &&& 31) = 11
      · exact LW_11 hL hx hI h11 IH
      by_cases h12 : ((σ 0 (Int32.toNatClampNeg (zi (i : Int)))) &&& 31) = 12
      · exact LW_12 hL hx hI h12 IH
      by_cases h13 : ((σ 0 (Int32.toNatClampNeg (zi (i : Int)))) &&& 31) = 13
      · exact LW_13 hL hx hI h13 IH
      by_cases h14 : ((σ 0 (Int32.toNatClampNeg (zi (i : Int)))) &&& 31) = 14
      · exact LW_14 hL hx hI h14 IH
      by_cases h15 : ((σ 0 (Int32.toNatClampNeg (zi (i : Int)))) &&& 31) = 15
      · exact LW_15 hL hx hI h15 IH
      by_cases h16 : ((σ 0 (Int32.toNatClampNeg (zi (i : Int)))) &&& 31) = 16
      · exact LW_16 hL hx hI h16 IH
      by_cases h17 : ((σ 0 (Int32.toNatClampNeg (zi (i : Int)))) &&& 31) = 17
      · exact LW_17 hL hx hI h17 IH
      by_cases h18 : ((σ 0 (Int32.toNatClampNeg (zi (i : Int)))) &&& 31) = 18
      · exact LW_18 hL hx hI h18 IH
      by_cases h19 : ((σ 0 (Int32.toNatClampNeg (zi (i : Int)))) &&& 31) = 19
      · exact LW_19 hL hx hI h19 IH
      by_cases h20 : ((σ 0 (Int32.toNatClampNeg (zi (i : Int)))) &&& 31) = 20
      · exact LW_20 hL hx hI h20 IH
      obtain ⟨hb, hc1⟩ := nx9 hL hx
      obtain ⟨cu', σ', hcu, g⟩ := IH cu σ hI
      refine ⟨cu', σ', hcu, v_L_law_18 _ ⟨fun h0 => absurd h0 hb, fun _ => ⟨hc1, fun h => absurd h h0, fun h => absurd h h1, fun h => absurd h h2, fun h => absurd h h3, fun h => absurd h h4, fun h => absurd h h5, fun h => absurd h h6, fun h => absurd h h7, fun h => absurd h h8, fun h => absurd h h9, fun h => absurd h h10, fun h => absurd h h11, fun h => absurd h h12, fun h => absurd h h13, fun h => absurd h h14, fun h => absurd h h15, fun h => absurd h h16, fun h => absurd h h17, fun h => absurd h h18, fun h => absurd h h19, fun h => absurd h h20, fun _ _ _ _ _ _ _ _ _ _ _ _ _ _ _ _ _ _ _ _ _ => ?_⟩⟩⟩
      rw [e9]
      exact g
    · refine ⟨cu, σ, id, v_L_law_18 _ ?_⟩
      rw [show Int32.ofNat L = zi (L : Int) from rfl, show (9 : Int32) = zi 9 from rfl, zi_sub, zi_lt (by omega) (by omega) (by omega) (by omega)]
      exact ⟨fun _ => (by first | exact ⟨rfl, rfl⟩ | exact ⟨trivial, trivial⟩ | exact ⟨trivial, rfl⟩ | exact ⟨rfl, trivial⟩ | trivial), fun h0 => absurd (by omega) h0⟩
end LAW
def Q0I : Nat → Int := fun j => match j with | 0 => 10 | 1 => 4 | 2 => 4 | 3 => 70 | 4 => 2 | 5 => 8 | 6 => 100000 | 7 => 100000 | 8 => 100 | _ => 0
theorem Ivt_0 (xs : Nat → Int32) : Ivt false (am_σI xs) := by
  refine ⟨0, fun _ _ => 0, Q0I, 0, ⟨⟨by decide, fun n hn => absurd hn (by omega), fun n hn => absurd hn (by omega), ?_⟩, fun _ _ _ => rfl, ⟨rfl, fun k hk n hn => ?_, fun j hj => ?_⟩, ⟨rfl, rfl, ⟨by decide, fun n => ?_⟩, fun j hj => ?_, fun n hn k hk => ?_, fun n hn => absurd hn (by omega)⟩⟩, Or.inl ⟨rfl, rfl, rfl, rfl⟩, Or.inl ⟨rfl, fun h => by cases h⟩⟩
  · unfold qOK Q0I; decide
  · have h9 : k = 0 ∨ k = 1 ∨ k = 2 ∨ k = 3 ∨ k = 4 ∨ k = 5 ∨ k = 6 ∨ k = 7 ∨ k = 8 ∨ k = 9 ∨ k = 10 ∨ k = 11 ∨ k = 12 := by omega
    rcases h9 with rfl | rfl | rfl | rfl | rfl | rfl | rfl | rfl | rfl | rfl | rfl | rfl | rfl <;> rfl
  · have h9 : j = 0 ∨ j = 1 ∨ j = 2 ∨ j = 3 ∨ j = 4 ∨ j = 5 ∨ j = 6 ∨ j = 7 ∨ j = 8 := by omega
    rcases h9 with rfl | rfl | rfl | rfl | rfl | rfl | rfl | rfl | rfl <;> rfl
  · rw [Nat.zero_testBit]
    exact ⟨fun h => absurd h (by decide), fun h => absurd h.1 (by omega)⟩
  · have h9 : j = 0 ∨ j = 1 ∨ j = 2 ∨ j = 3 ∨ j = 4 ∨ j = 5 ∨ j = 6 ∨ j = 7 ∨ j = 8 := by omega
    rcases h9 with rfl | rfl | rfl | rfl | rfl | rfl | rfl | rfl | rfl <;> rfl
  · have h9 : n = 0 ∨ n = 1 ∨ n = 2 ∨ n = 3 ∨ n = 4 ∨ n = 5 ∨ n = 6 ∨ n = 7 ∨ n = 8 ∨ n = 9 ∨ n = 10 ∨ n = 11 ∨ n = 12 ∨ n = 13 ∨ n = 14 ∨ n = 15 ∨ n = 16 ∨ n = 17 ∨ n = 18 ∨ n = 19 := by omega
    rcases h9 with rfl | rfl | rfl | rfl | rfl | rfl | rfl | rfl | rfl | rfl | rfl | rfl | rfl | rfl | rfl | rfl | rfl | rfl | rfl | rfl <;> rfl
theorem ns_cons (x : Nat ⊕ (Nat × Nat)) (t : am_T) : am_ns (x :: t) = am_w1 x + am_ns t := by
  unfold am_ns
  rw [List.map_cons, List.sum_cons]
theorem tt_tail (cu : Bool) (L : Nat) : am_TT cu L = (.inr (9, L)) :: (am_TT cu 0).tail := by
  cases cu <;> rfl
theorem tt_n0 : am_ns (am_TT false 0).tail ≤ 60000 := by decide +kernel
theorem tt_n1 : am_ns (am_TT true 0).tail ≤ 60000 := by decide +kernel
theorem tt_l0 : (am_TT false 0).tail.length ≤ 100 := by decide +kernel
theorem tt_l1 : (am_TT true 0).tail.length ≤ 100 := by decide +kernel
theorem tt_room (cu : Bool) (L : Nat) : (am_TT cu L).length ≤ 600001 ∧ am_ns (am_TT cu L) ≤ L + 7302250 := by
  have h0 := tt_n0
  have h1 := tt_n1
  have h2 := tt_l0
  have h3 := tt_l1
  have e : am_w1 (.inr (9, L)) = L := rfl
  rw [tt_tail, ns_cons, e, List.length_cons]
  cases cu with
  | false =>
    generalize am_ns (am_TT false 0).tail = n at h0 ⊢
    generalize (am_TT false 0).tail.length = m at h2 ⊢
    omega
  | true =>
    generalize am_ns (am_TT true 0).tail = n at h1 ⊢
    generalize (am_TT true 0).tail.length = m at h3 ⊢
    omega
theorem law_all : am_Law := by
  intro l D DA b sz L xs hL
  obtain ⟨cu, σ', -, g⟩ := LW_all (l := l) (D := D) (DA := DA) (b := b) (sz := sz) hL (L + 9) 0 false (am_σI xs) (by omega) (by omega) (Ivt_0 xs)
  exact ⟨101, (am_TT cu L, am_RR cu, σ'), by decide, (tt_room cu L).1, (tt_room cu L).2, am_init (d := 98) g⟩
