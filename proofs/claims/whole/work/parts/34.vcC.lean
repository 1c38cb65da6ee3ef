/-! what must hold at each cut point of a method, so that it comes to its return (written by tools/mkvc.py) -/
set_option maxHeartbeats 4000000 in
set_option maxRecDepth 100000 in
theorem v_Cutter_forget_0 {l : Launch} {D : va_G} {DA : Nat → ClassId} {b sz d L : Nat} {σ : Nat → Nat → Int32} {r : Option Value} {X' : am_X}
    (hv : r = none ∧ X' = (am_TT true L, am_RR true, am_us (am_us (am_us σ 69 2 (-1)) 69 3 (-1)) 69 4 (-1))) :
    am_Go l D DA b sz d M_Cutter_forget (0, [some (.ref 69)], [], (am_TT true L, am_RR true, σ)) r X' := by
  refine go_steps q_Cutter_forget kc_Cutter_forget 9 rfl ?_
  obtain ⟨rfl, rfl⟩ := hv
  exact go_retV q_Cutter_forget kc_Cutter_forget rfl rfl
set_option maxHeartbeats 4000000 in
set_option maxRecDepth 100000 in
theorem v_Balance_sum_0 {l : Launch} {D : va_G} {DA : Nat → ClassId} {b sz d L : Nat} {cu : Bool} {σ : Nat → Nat → Int32} {r : Option Value} {X' : am_X} (p2 : Int32)
    (hv : am_Go l D DA b sz (d + 1) M_Balance_sum (38, [some (.ref 42), some (.ref 2), some (.int p2), some (.ref 3), some (.int 0), none], [], (am_TT cu L, am_RR cu, am_us (am_us (am_us (am_us σ 42 0 0) 42 1 0) 42 2 0) 42 3 (2 * ((σ 3 5) - (σ 3 4))))) r X') :
    am_Go l D DA b sz (d + 1) M_Balance_sum (0, [some (.ref 42), some (.ref 2), some (.int p2), none, none, none], [], (am_TT cu L, am_RR cu, σ)) r X' := by
  refine go_steps q_Balance_sum kc_Balance_sum 23 rfl ?_
  refine go_le (L1 := [some (.ref 42), some (.ref 2), some (.int p2), some (.ref 3), some (.int 0), none]) (by repeat (first | exact trivial | refine ⟨rfl, ?_⟩)) ?_
  exact hv
set_option maxHeartbeats 4000000 in
set_option maxRecDepth 100000 in
theorem v_Balance_sum_38 {l : Launch} {D : va_G} {DA : Nat → ClassId} {b sz d L : Nat} {cu : Bool} {σ : Nat → Nat → Int32} {r : Option Value} {X' : am_X} (p2 : Int32) (p4 : Int32)
    (hv : (((σ 2 2) ≤ p4) → (r = none ∧ X' = (am_TT cu L, am_RR cu, σ))) ∧ (¬ ((σ 2 2) ≤ p4) → ((¬ (p4 < 0 ∨ 20 ≤ Int32.toNatClampNeg p4)) ∧ (∃ (r1 : Int32) (σ1 : Nat → Nat → Int32), am_Go l D DA b sz d M_Hold_has (0, [some (.ref 2), some (.int p4)], [], (am_TT cu L, am_RR cu, σ)) (some (.int r1)) (am_TT cu L, am_RR cu, σ1) ∧ (((r1 = 0) → (am_Go l D DA b sz (d + 1) M_Balance_sum (38, [some (.ref 42), some (.ref 2), some (.int p2), some (.ref 3), some (.int (p4 + 1)), none], [], (am_TT cu L, am_RR cu, σ1)) r X')) ∧ (¬ (r1 = 0) → ((((σ1 (19 + Int32.toNatClampNeg p4) 5) < p2) → (am_Go l D DA b sz (d + 1) M_Balance_sum (38, [some (.ref 42), some (.ref 2), some (.int p2), some (.ref 3), some (.int (p4 + 1)), none], [], (am_TT cu L, am_RR cu, σ1)) r X')) ∧ (¬ ((σ1 (19 + Int32.toNatClampNeg p4) 5) < p2) → (am_Go l D DA b sz (d + 1) M_Balance_sum (38, [some (.ref 42), some (.ref 2), some (.int p2), some (.ref 3), some (.int (p4 + 1)), none], [], (am_TT cu L, am_RR cu, am_us (am_us (am_us σ1 42 0 ((σ1 42 0) + (σ1 (19 + Int32.toNatClampNeg p4) 3))) 42 1 ((σ1 42 1) + (((am_us σ1 42 0 ((σ1 42 0) + (σ1 (19 + Int32.toNatClampNeg p4) 3))) (19 + Int32.toNatClampNeg p4) 3) * ((((am_us σ1 42 0 ((σ1 42 0) + (σ1 (19 + Int32.toNatClampNeg p4) 3))) (19 + Int32.toNatClampNeg p4) 8) + ((am_us σ1 42 0 ((σ1 42 0) + (σ1 (19 + Int32.toNatClampNeg p4) 3))) (19 + Int32.toNatClampNeg p4) 11)) - (2 * (σ1 3 4)))))) 42 2 ((σ1 42 2) + (((am_us (am_us σ1 42 0 ((σ1 42 0) + (σ1 (19 + Int32.toNatClampNeg p4) 3))) 42 1 ((σ1 42 1) + (((am_us σ1 42 0 ((σ1 42 0) + (σ1 (19 + Int32.toNatClampNeg p4) 3))) (19 + Int32.toNatClampNeg p4) 3) * ((((am_us σ1 42 0 ((σ1 42 0) + (σ1 (19 + Int32.toNatClampNeg p4) 3))) (19 + Int32.toNatClampNeg p4) 8) + ((am_us σ1 42 0 ((σ1 42 0) + (σ1 (19 + Int32.toNatClampNeg p4) 3))) (19 + Int32.toNatClampNeg p4) 11)) - (2 * (σ1 3 4)))))) (19 + Int32.toNatClampNeg p4) 3) * (((am_us (am_us σ1 42 0 ((σ1 42 0) + (σ1 (19 + Int32.toNatClampNeg p4) 3))) 42 1 ((σ1 42 1) + (((am_us σ1 42 0 ((σ1 42 0) + (σ1 (19 + Int32.toNatClampNeg p4) 3))) (19 + Int32.toNatClampNeg p4) 3) * ((((am_us σ1 42 0 ((σ1 42 0) + (σ1 (19 + Int32.toNatClampNeg p4) 3))) (19 + Int32.toNatClampNeg p4) 8) + ((am_us σ1 42 0 ((σ1 42 0) + (σ1 (19 + Int32.toNatClampNeg p4) 3))) (19 + Int32.toNatClampNeg p4) 11)) - (2 * (σ1 3 4)))))) (19 + Int32.toNatClampNeg p4) 9) + ((am_us (am_us σ1 42 0 ((σ1 42 0) + (σ1 (19 + Int32.toNatClampNeg p4) 3))) 42 1 ((σ1 42 1) + (((am_us σ1 42 0 ((σ1 42 0) + (σ1 (19 + Int32.toNatClampNeg p4) 3))) (19 + Int32.toNatClampNeg p4) 3) * ((((am_us σ1 42 0 ((σ1 42 0) + (σ1 (19 + Int32.toNatClampNeg p4) 3))) (19 + Int32.toNatClampNeg p4) 8) + ((am_us σ1 42 0 ((σ1 42 0) + (σ1 (19 + Int32.toNatClampNeg p4) 3))) (19 + Int32.toNatClampNeg p4) 11)) - (2 * (σ1 3 4)))))) (19 + Int32.toNatClampNeg p4) 12)))))) r X'))))))))) :
    am_Go l D DA b sz (d + 1) M_Balance_sum (38, [some (.ref 42), some (.ref 2), some (.int p2), some (.ref 3), some (.int p4), none], [], (am_TT cu L, am_RR cu, σ)) r X' := by
  refine go_steps q_Balance_sum kc_Balance_sum 4 rfl ?_
  refine go_if (fun hb => ?_) (fun hb => ?_)
  · have hb : (σ 2 2) ≤ p4 := hb
    replace hv := hv.1 hb
    obtain ⟨rfl, rfl⟩ := hv
    exact go_retV q_Balance_sum kc_Balance_sum rfl rfl
  · have hb : ¬ ((σ 2 2) ≤ p4) := hb
    replace hv := hv.2 hb
    refine go_steps q_Balance_sum kc_Balance_sum 3 rfl ?_
    obtain ⟨hc1, hv⟩ := hv
    refine go_aaload q_Balance_sum kc_Balance_sum rfl rfl hc1 (am_rr4 (am_inb hc1)) ?_
    refine go_steps q_Balance_sum kc_Balance_sum 3 rfl ?_
    obtain ⟨r1, σ1, hg, hv⟩ := hv
    refine go_callV q_Balance_sum kc_Balance_sum rfl q_Hold_has am_k18 ⟨rfl, rfl, by decide⟩ rfl rfl (Nat.le_of_ble_eq_true rfl) (Nat.le_of_ble_eq_true rfl) rfl rfl hg ?_
    refine go_steps q_Balance_sum kc_Balance_sum 1 rfl ?_
    refine go_if (fun hb => ?_) (fun hb => ?_)
    · have hb : r1 = 0 := hb
      replace hv := hv.1 hb
      refine go_steps q_Balance_sum kc_Balance_sum 2 rfl ?_
      refine go_le (L1 := [some (.ref 42), some (.ref 2), some (.int p2), some (.ref 3), some (.int (p4 + 1)), none]) (by repeat (first | exact trivial | refine ⟨rfl, ?_⟩)) ?_
      exact hv
    · have hb : ¬ (r1 = 0) := hb
      replace hv := hv.2 hb
      refine go_steps q_Balance_sum kc_Balance_sum 1 rfl ?_
      refine go_getI q_Balance_sum kc_Balance_sum rfl (am_tt_box (am_inb hc1)) rfl ?_
      refine go_steps q_Balance_sum kc_Balance_sum 2 rfl ?_
      refine go_if (fun hb => ?_) (fun hb => ?_)
      · have hb : (σ1 (19 + Int32.toNatClampNeg p4) 5) < p2 := hb
        replace hv := hv.1 hb
        refine go_steps q_Balance_sum kc_Balance_sum 2 rfl ?_
        refine go_le (L1 := [some (.ref 42), some (.ref 2), some (.int p2), some (.ref 3), some (.int (p4 + 1)), none]) (by repeat (first | exact trivial | refine ⟨rfl, ?_⟩)) ?_
        exact hv
      · have hb : ¬ ((σ1 (19 + Int32.toNatClampNeg p4) 5) < p2) := hb
        replace hv := hv.2 hb
        refine go_steps q_Balance_sum kc_Balance_sum 4 rfl ?_
        refine go_getI q_Balance_sum kc_Balance_sum rfl (am_tt_box (am_inb hc1)) rfl ?_
        refine go_steps q_Balance_sum kc_Balance_sum 6 rfl ?_
        refine go_getI q_Balance_sum kc_Balance_sum rfl (am_tt_box (am_inb hc1)) rfl ?_
        refine go_steps q_Balance_sum kc_Balance_sum 1 rfl ?_
        refine go_getI q_Balance_sum kc_Balance_sum rfl (am_tt_box (am_inb hc1)) rfl ?_
        refine go_steps q_Balance_sum kc_Balance_sum 1 rfl ?_
        refine go_getI q_Balance_sum kc_Balance_sum rfl (am_tt_box (am_inb hc1)) rfl ?_
        refine go_steps q_Balance_sum kc_Balance_sum 13 rfl ?_
        refine go_getI q_Balance_sum kc_Balance_sum rfl (am_tt_box (am_inb hc1)) rfl ?_
        refine go_steps q_Balance_sum kc_Balance_sum 1 rfl ?_
        refine go_getI q_Balance_sum kc_Balance_sum rfl (am_tt_box (am_inb hc1)) rfl ?_
        refine go_steps q_Balance_sum kc_Balance_sum 1 rfl ?_
        refine go_getI q_Balance_sum kc_Balance_sum rfl (am_tt_box (am_inb hc1)) rfl ?_
        refine go_steps q_Balance_sum kc_Balance_sum 6 rfl ?_
        refine go_le (L1 := [some (.ref 42), some (.ref 2), some (.int p2), some (.ref 3), some (.int (p4 + 1)), none]) (by repeat (first | exact trivial | refine ⟨rfl, ?_⟩)) ?_
        exact hv
set_option maxHeartbeats 4000000 in
set_option maxRecDepth 100000 in
theorem v_Balance_front_0 {l : Launch} {D : va_G} {DA : Nat → ClassId} {b sz d L : Nat} {cu : Bool} {σ : Nat → Nat → Int32} {r : Option Value} {X' : am_X}
    (hv : r = some (.int (((σ 42 0) * (σ 42 3)) - (σ 42 1))) ∧ X' = (am_TT cu L, am_RR cu, σ)) :
    am_Go l D DA b sz d M_Balance_front (0, [some (.ref 42)], [], (am_TT cu L, am_RR cu, σ)) r X' := by
  refine go_steps q_Balance_front kc_Balance_front 8 rfl ?_
  obtain ⟨rfl, rfl⟩ := hv
  exact go_retI q_Balance_front kc_Balance_front rfl rfl rfl
set_option maxHeartbeats 4000000 in
set_option maxRecDepth 100000 in
theorem v_Balance_rear_0 {l : Launch} {D : va_G} {DA : Nat → ClassId} {b sz d L : Nat} {cu : Bool} {σ : Nat → Nat → Int32} {r : Option Value} {X' : am_X}
    (hv : r = some (.int (σ 42 1)) ∧ X' = (am_TT cu L, am_RR cu, σ)) :
    am_Go l D DA b sz d M_Balance_rear (0, [some (.ref 42)], [], (am_TT cu L, am_RR cu, σ)) r X' := by
  refine go_steps q_Balance_rear kc_Balance_rear 2 rfl ?_
  obtain ⟨rfl, rfl⟩ := hv
  exact go_retI q_Balance_rear kc_Balance_rear rfl rfl rfl
set_option maxHeartbeats 4000000 in
set_option maxRecDepth 100000 in
theorem v_Balance_overBits_0 {l : Launch} {D : va_G} {DA : Nat → ClassId} {b sz d L : Nat} {cu : Bool} {σ : Nat → Nat → Int32} {r : Option Value} {X' : am_X}
    (hv : (∃ (r1 : Int32) (σ1 : Nat → Nat → Int32), am_Go l D DA b sz d M_Balance_front (0, [some (.ref 42)], [], (am_TT cu L, am_RR cu, σ)) (some (.int r1)) (am_TT cu L, am_RR cu, σ1) ∧ (((r1 < 0) → (∃ (r2 : Int32) (σ2 : Nat → Nat → Int32), am_Go l D DA b sz d M_Balance_rear (0, [some (.ref 42)], [], (am_TT cu L, am_RR cu, σ1)) (some (.int r2)) (am_TT cu L, am_RR cu, σ2) ∧ (((r2 < 0) → ((((100 * (if 0 ≤ ((σ2 42 2) - ((σ2 42 0) * (σ2 3 1))) then ((σ2 42 2) - ((σ2 42 0) * (σ2 3 1))) else 0 - ((σ2 42 2) - ((σ2 42 0) * (σ2 3 1))) : Int32)) ≤ (((σ2 3 8) * (σ2 3 1)) * (σ2 42 0))) → (r = some (.int ((0 ||| 1) ||| 2)) ∧ X' = (am_TT cu L, am_RR cu, σ2))) ∧ (¬ ((100 * (if 0 ≤ ((σ2 42 2) - ((σ2 42 0) * (σ2 3 1))) then ((σ2 42 2) - ((σ2 42 0) * (σ2 3 1))) else 0 - ((σ2 42 2) - ((σ2 42 0) * (σ2 3 1))) : Int32)) ≤ (((σ2 3 8) * (σ2 3 1)) * (σ2 42 0))) → (r = some (.int (((0 ||| 1) ||| 2) ||| 4)) ∧ X' = (am_TT cu L, am_RR cu, σ2))))) ∧ (¬ (r2 < 0) → (∃ (r3 : Int32) (σ3 : Nat → Nat → Int32), am_Go l D DA b sz d M_Balance_rear (0, [some (.ref 42)], [], (am_TT cu L, am_RR cu, σ2)) (some (.int r3)) (am_TT cu L, am_RR cu, σ3) ∧ (((r3 ≤ ((σ3 3 7) * (σ3 42 3))) → ((((100 * (if 0 ≤ ((σ3 42 2) - ((σ3 42 0) * (σ3 3 1))) then ((σ3 42 2) - ((σ3 42 0) * (σ3 3 1))) else 0 - ((σ3 42 2) - ((σ3 42 0) * (σ3 3 1))) : Int32)) ≤ (((σ3 3 8) * (σ3 3 1)) * (σ3 42 0))) → (r = some (.int (0 ||| 1)) ∧ X' = (am_TT cu L, am_RR cu, σ3))) ∧ (¬ ((100 * (if 0 ≤ ((σ3 42 2) - ((σ3 42 0) * (σ3 3 1))) then ((σ3 42 2) - ((σ3 42 0) * (σ3 3 1))) else 0 - ((σ3 42 2) - ((σ3 42 0) * (σ3 3 1))) : Int32)) ≤ (((σ3 3 8) * (σ3 3 1)) * (σ3 42 0))) → (r = some (.int ((0 ||| 1) ||| 4)) ∧ X' = (am_TT cu L, am_RR cu, σ3))))) ∧ (¬ (r3 ≤ ((σ3 3 7) * (σ3 42 3))) → ((((100 * (if 0 ≤ ((σ3 42 2) - ((σ3 42 0) * (σ3 3 1))) then ((σ3 42 2) - ((σ3 42 0) * (σ3 3 1))) else 0 - ((σ3 42 2) - ((σ3 42 0) * (σ3 3 1))) : Int32)) ≤ (((σ3 3 8) * (σ3 3 1)) * (σ3 42 0))) → (r = some (.int ((0 ||| 1) ||| 2)) ∧ X' = (am_TT cu L, am_RR cu, σ3))) ∧ (¬ ((100 * (if 0 ≤ ((σ3 42 2) - ((σ3 42 0) * (σ3 3 1))) then ((σ3 42 2) - ((σ3 42 0) * (σ3 3 1))) else 0 - ((σ3 42 2) - ((σ3 42 0) * (σ3 3 1))) : Int32)) ≤ (((σ3 3 8) * (σ3 3 1)) * (σ3 42 0))) → (r = some (.int (((0 ||| 1) ||| 2) ||| 4)) ∧ X' = (am_TT cu L, am_RR cu, σ3))))))))))) ∧ (¬ (r1 < 0) → (∃ (r4 : Int32) (σ4 : Nat → Nat → Int32), am_Go l D DA b sz d M_Balance_front (0, [some (.ref 42)], [], (am_TT cu L, am_RR cu, σ1)) (some (.int r4)) (am_TT cu L, am_RR cu, σ4) ∧ (((r4 ≤ ((σ4 3 6) * (σ4 42 3))) → (∃ (r5 : Int32) (σ5 : Nat → Nat → Int32), am_Go l D DA b sz d M_Balance_rear (0, [some (.ref 42)], [], (am_TT cu L, am_RR cu, σ4)) (some (.int r5)) (am_TT cu L, am_RR cu, σ5) ∧ (((r5 < 0) → ((((100 * (if 0 ≤ ((σ5 42 2) - ((σ5 42 0) * (σ5 3 1))) then ((σ5 42 2) - ((σ5 42 0) * (σ5 3 1))) else 0 - ((σ5 42 2) - ((σ5 42 0) * (σ5 3 1))) : Int32)) ≤ (((σ5 3 8) * (σ5 3 1)) * (σ5 42 0))) → (r = some (.int (0 ||| 2)) ∧ X' = (am_TT cu L, am_RR cu, σ5))) ∧ (¬ ((100 * (if 0 ≤ ((σ5 42 2) - ((σ5 42 0) * (σ5 3 1))) then ((σ5 42 2) - ((σ5 42 0) * (σ5 3 1))) else 0 - ((σ5 42 2) - ((σ5 42 0) * (σ5 3 1))) : Int32)) ≤ (((σ5 3 8) * (σ5 3 1)) * (σ5 42 0))) → (r = some (.int ((0 ||| 2) ||| 4)) ∧ X' = (am_TT cu L, am_RR cu, σ5))))) ∧ (¬ (r5 < 0) → (∃ (r6 : Int32) (σ6 : Nat → Nat → Int32), am_Go l D DA b sz d M_Balance_rear (0, [some (.ref 42)], [], (am_TT cu L, am_RR cu, σ5)) (some (.int r6)) (am_TT cu L, am_RR cu, σ6) ∧ (((r6 ≤ ((σ6 3 7) * (σ6 42 3))) → ((((100 * (if 0 ≤ ((σ6 42 2) - ((σ6 42 0) * (σ6 3 1))) then ((σ6 42 2) - ((σ6 42 0) * (σ6 3 1))) else 0 - ((σ6 42 2) - ((σ6 42 0) * (σ6 3 1))) : Int32)) ≤ (((σ6 3 8) * (σ6 3 1)) * (σ6 42 0))) → (r = some (.int 0) ∧ X' = (am_TT cu L, am_RR cu, σ6))) ∧ (¬ ((100 * (if 0 ≤ ((σ6 42 2) - ((σ6 42 0) * (σ6 3 1))) then ((σ6 42 2) - ((σ6 42 0) * (σ6 3 1))) else 0 - ((σ6 42 2) - ((σ6 42 0) * (σ6 3 1))) : Int32)) ≤ (((σ6 3 8) * (σ6 3 1)) * (σ6 42 0))) → (r = some (.int (0 ||| 4)) ∧ X' = (am_TT cu L, am_RR cu, σ6))))) ∧ (¬ (r6 ≤ ((σ6 3 7) * (σ6 42 3))) → ((((100 * (if 0 ≤ ((σ6 42 2) - ((σ6 42 0) * (σ6 3 1))) then ((σ6 42 2) - ((σ6 42 0) * (σ6 3 1))) else 0 - ((σ6 42 2) - ((σ6 42 0) * (σ6 3 1))) : Int32)) ≤ (((σ6 3 8) * (σ6 3 1)) * (σ6 42 0))) → (r = some (.int (0 ||| 2)) ∧ X' = (am_TT cu L, am_RR cu, σ6))) ∧ (¬ ((100 * (if 0 ≤ ((σ6 42 2) - ((σ6 42 0) * (σ6 3 1))) then ((σ6 42 2) - ((σ6 42 0) * (σ6 3 1))) else 0 - ((σ6 42 2) - ((σ6 42 0) * (σ6 3 1))) : Int32)) ≤ (((σ6 3 8) * (σ6 3 1)) * (σ6 42 0))) → (r = some (.int ((0 ||| 2) ||| 4)) ∧ X' = (am_TT cu L, am_RR cu, σ6))))))))))) ∧ (¬ (r4 ≤ ((σ4 3 6) * (σ4 42 3))) → (∃ (r7 : Int32) (σ7 : Nat → Nat → Int32), am_Go l D DA b sz d M_Balance_rear (0, [some (.ref 42)], [], (am_TT cu L, am_RR cu, σ4)) (some (.int r7)) (am_TT cu L, am_RR cu, σ7) ∧ (((r7 < 0) → ((((100 * (if 0 ≤ ((σ7 42 2) - ((σ7 42 0) * (σ7 3 1))) then ((σ7 42 2) - ((σ7 42 0) * (σ7 3 1))) else 0 - ((σ7 42 2) - ((σ7 42 0) * (σ7 3 1))) : Int32)) ≤ (((σ7 3 8) * (σ7 3 1)) * (σ7 42 0))) → (r = some (.int ((0 ||| 1) ||| 2)) ∧ X' = (am_TT cu L, am_RR cu, σ7))) ∧ (¬ ((100 * (if 0 ≤ ((σ7 42 2) - ((σ7 42 0) * (σ7 3 1))) then ((σ7 42 2) - ((σ7 42 0) * (σ7 3 1))) else 0 - ((σ7 42 2) - ((σ7 42 0) * (σ7 3 1))) : Int32)) ≤ (((σ7 3 8) * (σ7 3 1)) * (σ7 42 0))) → (r = some (.int (((0 ||| 1) ||| 2) ||| 4)) ∧ X' = (am_TT cu L, am_RR cu, σ7))))) ∧ (¬ (r7 < 0) → (∃ (r8 : Int32) (σ8 : Nat → Nat → Int32), am_Go l D DA b sz d M_Balance_rear (0, [some (.ref 42)], [], (am_TT cu L, am_RR cu, σ7)) (some (.int r8)) (am_TT cu L, am_RR cu, σ8) ∧ (((r8 ≤ ((σ8 3 7) * (σ8 42 3))) → ((((100 * (if 0 ≤ ((σ8 42 2) - ((σ8 42 0) * (σ8 3 1))) then ((σ8 42 2) - ((σ8 42 0) * (σ8 3 1))) else 0 - ((σ8 42 2) - ((σ8 42 0) * (σ8 3 1))) : Int32)) ≤ (((σ8 3 8) * (σ8 3 1)) * (σ8 42 0))) → (r = some (.int (0 ||| 1)) ∧ X' = (am_TT cu L, am_RR cu, σ8))) ∧ (¬ ((100 * (if 0 ≤ ((σ8 42 2) - ((σ8 42 0) * (σ8 3 1))) then ((σ8 42 2) - ((σ8 42 0) * (σ8 3 1))) else 0 - ((σ8 42 2) - ((σ8 42 0) * (σ8 3 1))) : Int32)) ≤ (((σ8 3 8) * (σ8 3 1)) * (σ8 42 0))) → (r = some (.int ((0 ||| 1) ||| 4)) ∧ X' = (am_TT cu L, am_RR cu, σ8))))) ∧ (¬ (r8 ≤ ((σ8 3 7) * (σ8 42 3))) → ((((100 * (if 0 ≤ ((σ8 42 2) - ((σ8 42 0) * (σ8 3 1))) then ((σ8 42 2) - ((σ8 42 0) * (σ8 3 1))) else 0 - ((σ8 42 2) - ((σ8 42 0) * (σ8 3 1))) : Int32)) ≤ (((σ8 3 8) * (σ8 3 1)) * (σ8 42 0))) → (r = some (.int ((0 ||| 1) ||| 2)) ∧ X' = (am_TT cu L, am_RR cu, σ8))) ∧ (¬ ((100 * (if 0 ≤ ((σ8 42 2) - ((σ8 42 0) * (σ8 3 1))) then ((σ8 42 2) - ((σ8 42 0) * (σ8 3 1))) else 0 - ((σ8 42 2) - ((σ8 42 0) * (σ8 3 1))) : Int32)) ≤ (((σ8 3 8) * (σ8 3 1)) * (σ8 42 0))) → (r = some (.int (((0 ||| 1) ||| 2) ||| 4)) ∧ X' = (am_TT cu L, am_RR cu, σ8))))))))))))))))) :
    am_Go l D DA b sz (d + 1) M_Balance_overBits (0, [some (.ref 42), some (.ref 3), none, none], [], (am_TT cu L, am_RR cu, σ)) r X' := by
  refine go_steps q_Balance_overBits kc_Balance_overBits 3 rfl ?_
  obtain ⟨r1, σ1, hg, hv⟩ := hv
  refine go_callV q_Balance_overBits kc_Balance_overBits rfl q_Balance_front am_k62 ⟨rfl, rfl, by decide⟩ rfl rfl (Nat.le_of_ble_eq_true rfl) (Nat.le_of_ble_eq_true rfl) rfl rfl hg ?_
  refine go_steps q_Balance_overBits kc_Balance_overBits 1 rfl ?_
  refine go_if (fun hb => ?_) (fun hb => ?_)
  · have hb : r1 < 0 := hb
    replace hv := hv.1 hb
    refine go_steps q_Balance_overBits kc_Balance_overBits 5 rfl ?_
    obtain ⟨r2, σ2, hg, hv⟩ := hv
    refine go_callV q_Balance_overBits kc_Balance_overBits rfl q_Balance_rear am_k63 ⟨rfl, rfl, by decide⟩ rfl rfl (Nat.le_of_ble_eq_true rfl) (Nat.le_of_ble_eq_true rfl) rfl rfl hg ?_
    refine go_steps q_Balance_overBits kc_Balance_overBits 1 rfl ?_
    refine go_if (fun hb => ?_) (fun hb => ?_)
    · have hb : r2 < 0 := hb
      replace hv := hv.1 hb
      refine go_steps q_Balance_overBits kc_Balance_overBits 26 rfl ?_
      refine go_if (fun hb => ?_) (fun hb => ?_)
      · have hb : (100 * (if 0 ≤ ((σ2 42 2) - ((σ2 42 0) * (σ2 3 1))) then ((σ2 42 2) - ((σ2 42 0) * (σ2 3 1))) else 0 - ((σ2 42 2) - ((σ2 42 0) * (σ2 3 1))) : Int32)) ≤ (((σ2 3 8) * (σ2 3 1)) * (σ2 42 0)) := hb
        replace hv := hv.1 hb
        refine go_steps q_Balance_overBits kc_Balance_overBits 1 rfl ?_
        obtain ⟨rfl, rfl⟩ := hv
        exact go_retI q_Balance_overBits kc_Balance_overBits rfl rfl rfl
      · have hb : ¬ ((100 * (if 0 ≤ ((σ2 42 2) - ((σ2 42 0) * (σ2 3 1))) then ((σ2 42 2) - ((σ2 42 0) * (σ2 3 1))) else 0 - ((σ2 42 2) - ((σ2 42 0) * (σ2 3 1))) : Int32)) ≤ (((σ2 3 8) * (σ2 3 1)) * (σ2 42 0))) := hb
        replace hv := hv.2 hb
        refine go_steps q_Balance_overBits kc_Balance_overBits 5 rfl ?_
        obtain ⟨rfl, rfl⟩ := hv
        exact go_retI q_Balance_overBits kc_Balance_overBits rfl rfl rfl
    · have hb : ¬ (r2 < 0) := hb
      replace hv := hv.2 hb
      refine go_steps q_Balance_overBits kc_Balance_overBits 1 rfl ?_
      obtain ⟨r3, σ3, hg, hv⟩ := hv
      refine go_callV q_Balance_overBits kc_Balance_overBits rfl q_Balance_rear am_k63 ⟨rfl, rfl, by decide⟩ rfl rfl (Nat.le_of_ble_eq_true rfl) (Nat.le_of_ble_eq_true rfl) rfl rfl hg ?_
      refine go_steps q_Balance_overBits kc_Balance_overBits 6 rfl ?_
      refine go_if (fun hb => ?_) (fun hb => ?_)
      · have hb : r3 ≤ ((σ3 3 7) * (σ3 42 3)) := hb
        replace hv := hv.1 hb
        refine go_steps q_Balance_overBits kc_Balance_overBits 22 rfl ?_
        refine go_if (fun hb => ?_) (fun hb => ?_)
        · have hb : (100 * (if 0 ≤ ((σ3 42 2) - ((σ3 42 0) * (σ3 3 1))) then ((σ3 42 2) - ((σ3 42 0) * (σ3 3 1))) else 0 - ((σ3 42 2) - ((σ3 42 0) * (σ3 3 1))) : Int32)) ≤ (((σ3 3 8) * (σ3 3 1)) * (σ3 42 0)) := hb
          replace hv := hv.1 hb
          refine go_steps q_Balance_overBits kc_Balance_overBits 1 rfl ?_
          obtain ⟨rfl, rfl⟩ := hv
          exact go_retI q_Balance_overBits kc_Balance_overBits rfl rfl rfl
        · have hb : ¬ ((100 * (if 0 ≤ ((σ3 42 2) - ((σ3 42 0) * (σ3 3 1))) then ((σ3 42 2) - ((σ3 42 0) * (σ3 3 1))) else 0 - ((σ3 42 2) - ((σ3 42 0) * (σ3 3 1))) : Int32)) ≤ (((σ3 3 8) * (σ3 3 1)) * (σ3 42 0))) := hb
          replace hv := hv.2 hb
          refine go_steps q_Balance_overBits kc_Balance_overBits 5 rfl ?_
          obtain ⟨rfl, rfl⟩ := hv
          exact go_retI q_Balance_overBits kc_Balance_overBits rfl rfl rfl
      · have hb : ¬ (r3 ≤ ((σ3 3 7) * (σ3 42 3))) := hb
        replace hv := hv.2 hb
        refine go_steps q_Balance_overBits kc_Balance_overBits 26 rfl ?_
        refine go_if (fun hb => ?_) (fun hb => ?_)
        · have hb : (100 * (if 0 ≤ ((σ3 42 2) - ((σ3 42 0) * (σ3 3 1))) then ((σ3 42 2) - ((σ3 42 0) * (σ3 3 1))) else 0 - ((σ3 42 2) - ((σ3 42 0) * (σ3 3 1))) : Int32)) ≤ (((σ3 3 8) * (σ3 3 1)) * (σ3 42 0)) := hb
          replace hv := hv.1 hb
          refine go_steps q_Balance_overBits kc_Balance_overBits 1 rfl ?_
          obtain ⟨rfl, rfl⟩ := hv
          exact go_retI q_Balance_overBits kc_Balance_overBits rfl rfl rfl
        · have hb : ¬ ((100 * (if 0 ≤ ((σ3 42 2) - ((σ3 42 0) * (σ3 3 1))) then ((σ3 42 2) - ((σ3 42 0) * (σ3 3 1))) else 0 - ((σ3 42 2) - ((σ3 42 0) * (σ3 3 1))) : Int32)) ≤ (((σ3 3 8) * (σ3 3 1)) * (σ3 42 0))) := hb
          replace hv := hv.2 hb
          refine go_steps q_Balance_overBits kc_Balance_overBits 5 rfl ?_
          obtain ⟨rfl, rfl⟩ := hv
          exact go_retI q_Balance_overBits kc_Balance_overBits rfl rfl rfl
  · have hb : ¬ (r1 < 0) := hb
    replace hv := hv.2 hb
    refine go_steps q_Balance_overBits kc_Balance_overBits 1 rfl ?_
    obtain ⟨r4, σ4, hg, hv⟩ := hv
    refine go_callV q_Balance_overBits kc_Balance_overBits rfl q_Balance_front am_k62 ⟨rfl, rfl, by decide⟩ rfl rfl (Nat.le_of_ble_eq_true rfl) (Nat.le_of_ble_eq_true rfl) rfl rfl hg ?_
    refine go_steps q_Balance_overBits kc_Balance_overBits 6 rfl ?_
    refine go_if (fun hb => ?_) (fun hb => ?_)
    · have hb : r4 ≤ ((σ4 3 6) * (σ4 42 3)) := hb
      replace hv := hv.1 hb
      refine go_steps q_Balance_overBits kc_Balance_overBits 1 rfl ?_
      obtain ⟨r5, σ5, hg, hv⟩ := hv
      refine go_callV q_Balance_overBits kc_Balance_overBits rfl q_Balance_rear am_k63 ⟨rfl, rfl, by decide⟩ rfl rfl (Nat.le_of_ble_eq_true rfl) (Nat.le_of_ble_eq_true rfl) rfl rfl hg ?_
      refine go_steps q_Balance_overBits kc_Balance_overBits 1 rfl ?_
      refine go_if (fun hb => ?_) (fun hb => ?_)
      · have hb : r5 < 0 := hb
        replace hv := hv.1 hb
        refine go_steps q_Balance_overBits kc_Balance_overBits 26 rfl ?_
        refine go_if (fun hb => ?_) (fun hb => ?_)
        · have hb : (100 * (if 0 ≤ ((σ5 42 2) - ((σ5 42 0) * (σ5 3 1))) then ((σ5 42 2) - ((σ5 42 0) * (σ5 3 1))) else 0 - ((σ5 42 2) - ((σ5 42 0) * (σ5 3 1))) : Int32)) ≤ (((σ5 3 8) * (σ5 3 1)) * (σ5 42 0)) := hb
          replace hv := hv.1 hb
          refine go_steps q_Balance_overBits kc_Balance_overBits 1 rfl ?_
          obtain ⟨rfl, rfl⟩ := hv
          exact go_retI q_Balance_overBits kc_Balance_overBits rfl rfl rfl
        · have hb : ¬ ((100 * (if 0 ≤ ((σ5 42 2) - ((σ5 42 0) * (σ5 3 1))) then ((σ5 42 2) - ((σ5 42 0) * (σ5 3 1))) else 0 - ((σ5 42 2) - ((σ5 42 0) * (σ5 3 1))) : Int32)) ≤ (((σ5 3 8) * (σ5 3 1)) * (σ5 42 0))) := hb
          replace hv := hv.2 hb
          refine go_steps q_Balance_overBits kc_Balance_overBits 5 rfl ?_
          obtain ⟨rfl, rfl⟩ := hv
          exact go_retI q_Balance_overBits kc_Balance_overBits rfl rfl rfl
      · have hb : ¬ (r5 < 0) := hb
        replace hv := hv.2 hb
        refine go_steps q_Balance_overBits kc_Balance_overBits 1 rfl ?_
        obtain ⟨r6, σ6, hg, hv⟩ := hv
        refine go_callV q_Balance_overBits kc_Balance_overBits rfl q_Balance_rear am_k63 ⟨rfl, rfl, by decide⟩ rfl rfl (Nat.le_of_ble_eq_true rfl) (Nat.le_of_ble_eq_true rfl) rfl rfl hg ?_
        refine go_steps q_Balance_overBits kc_Balance_overBits 6 rfl ?_
        refine go_if (fun hb => ?_) (fun hb => ?_)
        · have hb : r6 ≤ ((σ6 3 7) * (σ6 42 3)) := hb
          replace hv := hv.1 hb
          refine go_steps q_Balance_overBits kc_Balance_overBits 22 rfl ?_
          refine go_if (fun hb => ?_) (fun hb => ?_)
          · have hb : (100 * (if 0 ≤ ((σ6 42 2) - ((σ6 42 0) * (σ6 3 1))) then ((σ6 42 2) - ((σ6 42 0) * (σ6 3 1))) else 0 - ((σ6 42 2) - ((σ6 42 0) * (σ6 3 1))) : Int32)) ≤ (((σ6 3 8) * (σ6 3 1)) * (σ6 42 0)) := hb
            replace hv := hv.1 hb
            refine go_steps q_Balance_overBits kc_Balance_overBits 1 rfl ?_
            obtain ⟨rfl, rfl⟩ := hv
            exact go_retI q_Balance_overBits kc_Balance_overBits rfl rfl rfl
          · have hb : ¬ ((100 * (if 0 ≤ ((σ6 42 2) - ((σ6 42 0) * (σ6 3 1))) then ((σ6 42 2) - ((σ6 42 0) * (σ6 3 1))) else 0 - ((σ6 42 2) - ((σ6 42 0) * (σ6 3 1))) : Int32)) ≤ (((σ6 3 8) * (σ6 3 1)) * (σ6 42 0))) := hb
            replace hv := hv.2 hb
            refine go_steps q_Balance_overBits kc_Balance_overBits 5 rfl ?_
            obtain ⟨rfl, rfl⟩ := hv
            exact go_retI q_Balance_overBits kc_Balance_overBits rfl rfl rfl
        · have hb : ¬ (r6 ≤ ((σ6 3 7) * (σ6 42 3))) := hb
          replace hv := hv.2 hb
          refine go_steps q_Balance_overBits kc_Balance_overBits 26 rfl ?_
          refine go_if (fun hb => ?_) (fun hb => ?_)
          · have hb : (100 * (if 0 ≤ ((σ6 42 2) - ((σ6 42 0) * (σ6 3 1))) then ((σ6 42 2) - ((σ6 42 0) * (σ6 3 1))) else 0 - ((σ6 42 2) - ((σ6 42 0) * (σ6 3 1))) : Int32)) ≤ (((σ6 3 8) * (σ6 3 1)) * (σ6 42 0)) := hb
            replace hv := hv.1 hb
            refine go_steps q_Balance_overBits kc_Balance_overBits 1 rfl ?_
            obtain ⟨rfl, rfl⟩ := hv
            exact go_retI q_Balance_overBits kc_Balance_overBits rfl rfl rfl
          · have hb : ¬ ((100 * (if 0 ≤ ((σ6 42 2) - ((σ6 42 0) * (σ6 3 1))) then ((σ6 42 2) - ((σ6 42 0) * (σ6 3 1))) else 0 - ((σ6 42 2) - ((σ6 42 0) * (σ6 3 1))) : Int32)) ≤ (((σ6 3 8) * (σ6 3 1)) * (σ6 42 0))) := hb
            replace hv := hv.2 hb
            refine go_steps q_Balance_overBits kc_Balance_overBits 5 rfl ?_
            obtain ⟨rfl, rfl⟩ := hv
            exact go_retI q_Balance_overBits kc_Balance_overBits rfl rfl rfl
    · have hb : ¬ (r4 ≤ ((σ4 3 6) * (σ4 42 3))) := hb
      replace hv := hv.2 hb
      refine go_steps q_Balance_overBits kc_Balance_overBits 5 rfl ?_
      obtain ⟨r7, σ7, hg, hv⟩ := hv
      refine go_callV q_Balance_overBits kc_Balance_overBits rfl q_Balance_rear am_k63 ⟨rfl, rfl, by decide⟩ rfl rfl (Nat.le_of_ble_eq_true rfl) (Nat.le_of_ble_eq_true rfl) rfl rfl hg ?_
      refine go_steps q_Balance_overBits kc_Balance_overBits 1 rfl ?_
      refine go_if (fun hb => ?_) (fun hb => ?_)
      · have hb : r7 < 0 := hb
        replace hv := hv.1 hb
        refine go_steps q_Balance_overBits kc_Balance_overBits 26 rfl ?_
        refine go_if (fun hb => ?_) (fun hb => ?_)
        · have hb : (100 * (if 0 ≤ ((σ7 42 2) - ((σ7 42 0) * (σ7 3 1))) then ((σ7 42 2) - ((σ7 42 0) * (σ7 3 1))) else 0 - ((σ7 42 2) - ((σ7 42 0) * (σ7 3 1))) : Int32)) ≤ (((σ7 3 8) * (σ7 3 1)) * (σ7 42 0)) := hb
          replace hv := hv.1 hb
          refine go_steps q_Balance_overBits kc_Balance_overBits 1 rfl ?_
          obtain ⟨rfl, rfl⟩ := hv
          exact go_retI q_Balance_overBits kc_Balance_overBits rfl rfl rfl
        · have hb : ¬ ((100 * (if 0 ≤ ((σ7 42 2) - ((σ7 42 0) * (σ7 3 1))) then ((σ7 42 2) - ((σ7 42 0) * (σ7 3 1))) else 0 - ((σ7 42 2) - ((σ7 42 0) * (σ7 3 1))) : Int32)) ≤ (((σ7 3 8) * (σ7 3 1)) * (σ7 42 0))) := hb
          replace hv := hv.2 hb
          refine go_steps q_Balance_overBits kc_Balance_overBits 5 rfl ?_
          obtain ⟨rfl, rfl⟩ := hv
          exact go_retI q_Balance_overBits kc_Balance_overBits rfl rfl rfl
      · have hb : ¬ (r7 < 0) := hb
        replace hv := hv.2 hb
        refine go_steps q_Balance_overBits kc_Balance_overBits 1 rfl ?_
        obtain ⟨r8, σ8, hg, hv⟩ := hv
        refine go_callV q_Balance_overBits kc_Balance_overBits rfl q_Balance_rear am_k63 ⟨rfl, rfl, by decide⟩ rfl rfl (Nat.le_of_ble_eq_true rfl) (Nat.le_of_ble_eq_true rfl) rfl rfl hg ?_
        refine go_steps q_Balance_overBits kc_Balance_overBits 6 rfl ?_
        refine go_if (fun hb => ?_) (fun hb => ?_)
        · have hb : r8 ≤ ((σ8 3 7) * (σ8 42 3)) := hb
          replace hv := hv.1 hb
          refine go_steps q_Balance_overBits kc_Balance_overBits 22 rfl ?_
          refine go_if (fun hb => ?_) (fun hb => ?_)
          · have hb : (100 * (if 0 ≤ ((σ8 42 2) - ((σ8 42 0) * (σ8 3 1))) then ((σ8 42 2) - ((σ8 42 0) * (σ8 3 1))) else 0 - ((σ8 42 2) - ((σ8 42 0) * (σ8 3 1))) : Int32)) ≤ (((σ8 3 8) * (σ8 3 1)) * (σ8 42 0)) := hb
            replace hv := hv.1 hb
            refine go_steps q_Balance_overBits kc_Balance_overBits 1 rfl ?_
            obtain ⟨rfl, rfl⟩ := hv
            exact go_retI q_Balance_overBits kc_Balance_overBits rfl rfl rfl
          · have hb : ¬ ((100 * (if 0 ≤ ((σ8 42 2) - ((σ8 42 0) * (σ8 3 1))) then ((σ8 42 2) - ((σ8 42 0) * (σ8 3 1))) else 0 - ((σ8 42 2) - ((σ8 42 0) * (σ8 3 1))) : Int32)) ≤ (((σ8 3 8) * (σ8 3 1)) * (σ8 42 0))) := hb
            replace hv := hv.2 hb
            refine go_steps q_Balance_overBits kc_Balance_overBits 5 rfl ?_
            obtain ⟨rfl, rfl⟩ := hv
            exact go_retI q_Balance_overBits kc_Balance_overBits rfl rfl rfl
        · have hb : ¬ (r8 ≤ ((σ8 3 7) * (σ8 42 3))) := hb
          replace hv := hv.2 hb
          refine go_steps q_Balance_overBits kc_Balance_overBits 26 rfl ?_
          refine go_if (fun hb => ?_) (fun hb => ?_)
          · have hb : (100 * (if 0 ≤ ((σ8 42 2) - ((σ8 42 0) * (σ8 3 1))) then ((σ8 42 2) - ((σ8 42 0) * (σ8 3 1))) else 0 - ((σ8 42 2) - ((σ8 42 0) * (σ8 3 1))) : Int32)) ≤ (((σ8 3 8) * (σ8 3 1)) * (σ8 42 0)) := hb
            replace hv := hv.1 hb
            refine go_steps q_Balance_overBits kc_Balance_overBits 1 rfl ?_
            obtain ⟨rfl, rfl⟩ := hv
            exact go_retI q_Balance_overBits kc_Balance_overBits rfl rfl rfl
          · have hb : ¬ ((100 * (if 0 ≤ ((σ8 42 2) - ((σ8 42 0) * (σ8 3 1))) then ((σ8 42 2) - ((σ8 42 0) * (σ8 3 1))) else 0 - ((σ8 42 2) - ((σ8 42 0) * (σ8 3 1))) : Int32)) ≤ (((σ8 3 8) * (σ8 3 1)) * (σ8 42 0))) := hb
            replace hv := hv.2 hb
            refine go_steps q_Balance_overBits kc_Balance_overBits 5 rfl ?_
            obtain ⟨rfl, rfl⟩ := hv
            exact go_retI q_Balance_overBits kc_Balance_overBits rfl rfl rfl
set_option maxHeartbeats 4000000 in
set_option maxRecDepth 100000 in
theorem v_Cutter_mostWorth_0 {l : Launch} {D : va_G} {DA : Nat → ClassId} {b sz d L : Nat} {σ : Nat → Nat → Int32} {r : Option Value} {X' : am_X} (p2 : Int32) (p3 : Int32) (p4 : Int32)
    (hv : (∃ (r1 : Int32) (σ1 : Nat → Nat → Int32), am_Go l D DA b sz d M_Cutter_blockOf (0, [some (.int p2), some (.int p3), some (.int p4)], [], (am_TT true L, am_RR true, σ)) (some (.int r1)) (am_TT true L, am_RR true, σ1) ∧ ((((σ1 69 2) = (-1)) → (((r1 = (σ1 69 2)) → ((¬ (r1 < 0 ∨ 4096 ≤ Int32.toNatClampNeg r1)) ∧ (r = some (.int (σ1 70 (Int32.toNatClampNeg r1))) ∧ X' = (am_TT true L, am_RR true, am_us (am_us σ1 69 3 r1) 69 4 (-1))))) ∧ (¬ (r1 = (σ1 69 2)) → (∃ (σ2 : Nat → Nat → Int32), am_Go l D DA b sz d M_Cutter_fillWorths (0, [some (.ref 69), some (.ref 2), some (.int r1), none, none, none, none], [], (am_TT true L, am_RR true, am_us (am_us σ1 69 3 r1) 69 4 (-1))) none (am_TT true L, am_RR true, σ2) ∧ ((¬ ((σ2 69 3) < 0 ∨ 4096 ≤ Int32.toNatClampNeg (σ2 69 3))) ∧ (r = some (.int (σ2 70 (Int32.toNatClampNeg (σ2 69 3)))) ∧ X' = (am_TT true L, am_RR true, am_us σ2 69 2 r1))))))) ∧ (¬ ((σ1 69 2) = (-1)) → (∃ (r3 : Int32) (σ3 : Nat → Nat → Int32), am_Go l D DA b sz d M_Cutter_greaterOf (0, [some (.int (σ1 69 2)), some (.int r1), none, none, none], [], (am_TT true L, am_RR true, am_us (am_us σ1 69 3 r1) 69 4 (-1))) (some (.int r3)) (am_TT true L, am_RR true, σ3) ∧ (((r3 = (σ3 69 2)) → ((¬ ((σ3 69 3) < 0 ∨ 4096 ≤ Int32.toNatClampNeg (σ3 69 3))) ∧ (r = some (.int (σ3 70 (Int32.toNatClampNeg (σ3 69 3)))) ∧ X' = (am_TT true L, am_RR true, σ3)))) ∧ (¬ (r3 = (σ3 69 2)) → (∃ (σ4 : Nat → Nat → Int32), am_Go l D DA b sz d M_Cutter_fillWorths (0, [some (.ref 69), some (.ref 2), some (.int r3), none, none, none, none], [], (am_TT true L, am_RR true, σ3)) none (am_TT true L, am_RR true, σ4) ∧ ((¬ ((σ4 69 3) < 0 ∨ 4096 ≤ Int32.toNatClampNeg (σ4 69 3))) ∧ (r = some (.int (σ4 70 (Int32.toNatClampNeg (σ4 69 3)))) ∧ X' = (am_TT true L, am_RR true, am_us σ4 69 2 r3))))))))))) :
    am_Go l D DA b sz (d + 1) M_Cutter_mostWorth (0, [some (.ref 69), some (.ref 2), some (.int p2), some (.int p3), some (.int p4), none], [], (am_TT true L, am_RR true, σ)) r X' := by
  refine go_steps q_Cutter_mostWorth kc_Cutter_mostWorth 4 rfl ?_
  obtain ⟨r1, σ1, hg, hv⟩ := hv
  refine go_callS q_Cutter_mostWorth kc_Cutter_mostWorth rfl q_Cutter_blockOf am_k73 rfl rfl rfl (Nat.le_of_ble_eq_true rfl) (Nat.le_of_ble_eq_true rfl) hg ?_
  refine go_steps q_Cutter_mostWorth kc_Cutter_mostWorth 8 rfl ?_
  refine go_if (fun hb => ?_) (fun hb => ?_)
  · have hb : (σ1 69 2) = (-1) := hb
    replace hv := hv.1 hb
    refine go_steps q_Cutter_mostWorth kc_Cutter_mostWorth 8 rfl ?_
    refine go_if (fun hb => ?_) (fun hb => ?_)
    · have hb : r1 = (σ1 69 2) := hb
      replace hv := hv.1 hb
      refine go_steps q_Cutter_mostWorth kc_Cutter_mostWorth 4 rfl ?_
      obtain ⟨hc1, hv⟩ := hv
      refine go_iaload q_Cutter_mostWorth kc_Cutter_mostWorth rfl rfl hc1 ?_
      obtain ⟨rfl, rfl⟩ := hv
      exact go_retI q_Cutter_mostWorth kc_Cutter_mostWorth rfl rfl rfl
    · have hb : ¬ (r1 = (σ1 69 2)) := hb
      replace hv := hv.2 hb
      refine go_steps q_Cutter_mostWorth kc_Cutter_mostWorth 3 rfl ?_
      obtain ⟨σ2, hg, hv⟩ := hv
      refine go_callV q_Cutter_mostWorth kc_Cutter_mostWorth rfl q_Cutter_fillWorths am_k76 ⟨rfl, rfl, by decide⟩ rfl rfl (Nat.le_of_ble_eq_true rfl) (Nat.le_of_ble_eq_true rfl) rfl rfl hg ?_
      refine go_steps q_Cutter_mostWorth kc_Cutter_mostWorth 7 rfl ?_
      obtain ⟨hc2, hv⟩ := hv
      refine go_iaload q_Cutter_mostWorth kc_Cutter_mostWorth rfl rfl hc2 ?_
      obtain ⟨rfl, rfl⟩ := hv
      exact go_retI q_Cutter_mostWorth kc_Cutter_mostWorth rfl rfl rfl
  · have hb : ¬ ((σ1 69 2) = (-1)) := hb
    replace hv := hv.2 hb
    refine go_steps q_Cutter_mostWorth kc_Cutter_mostWorth 4 rfl ?_
    obtain ⟨r3, σ3, hg, hv⟩ := hv
    refine go_callS q_Cutter_mostWorth kc_Cutter_mostWorth rfl q_Cutter_greaterOf am_k74 rfl rfl rfl (Nat.le_of_ble_eq_true rfl) (Nat.le_of_ble_eq_true rfl) hg ?_
    refine go_steps q_Cutter_mostWorth kc_Cutter_mostWorth 5 rfl ?_
    refine go_if (fun hb => ?_) (fun hb => ?_)
    · have hb : r3 = (σ3 69 2) := hb
      replace hv := hv.1 hb
      refine go_steps q_Cutter_mostWorth kc_Cutter_mostWorth 4 rfl ?_
      obtain ⟨hc3, hv⟩ := hv
      refine go_iaload q_Cutter_mostWorth kc_Cutter_mostWorth rfl rfl hc3 ?_
      obtain ⟨rfl, rfl⟩ := hv
      exact go_retI q_Cutter_mostWorth kc_Cutter_mostWorth rfl rfl rfl
    · have hb : ¬ (r3 = (σ3 69 2)) := hb
      replace hv := hv.2 hb
      refine go_steps q_Cutter_mostWorth kc_Cutter_mostWorth 3 rfl ?_
      obtain ⟨σ4, hg, hv⟩ := hv
      refine go_callV q_Cutter_mostWorth kc_Cutter_mostWorth rfl q_Cutter_fillWorths am_k76 ⟨rfl, rfl, by decide⟩ rfl rfl (Nat.le_of_ble_eq_true rfl) (Nat.le_of_ble_eq_true rfl) rfl rfl hg ?_
      refine go_steps q_Cutter_mostWorth kc_Cutter_mostWorth 7 rfl ?_
      obtain ⟨hc4, hv⟩ := hv
      refine go_iaload q_Cutter_mostWorth kc_Cutter_mostWorth rfl rfl hc4 ?_
      obtain ⟨rfl, rfl⟩ := hv
      exact go_retI q_Cutter_mostWorth kc_Cutter_mostWorth rfl rfl rfl
set_option maxHeartbeats 4000000 in
set_option maxRecDepth 100000 in
theorem v_Cutter_blockOf_0 {l : Launch} {D : va_G} {DA : Nat → ClassId} {b sz d L : Nat} {σ : Nat → Nat → Int32} {r : Option Value} {X' : am_X} (p0 : Int32) (p1 : Int32) (p2 : Int32)
    (hv : r = some (.int ((((p0 - 1) <<< (8 &&& 31 : Int32) : Int32) ||| ((p1 - 1) <<< (4 &&& 31 : Int32) : Int32)) ||| (p2 - 1))) ∧ X' = (am_TT true L, am_RR true, σ)) :
    am_Go l D DA b sz d M_Cutter_blockOf (0, [some (.int p0), some (.int p1), some (.int p2)], [], (am_TT true L, am_RR true, σ)) r X' := by
  refine go_steps q_Cutter_blockOf kc_Cutter_blockOf 15 rfl ?_
  obtain ⟨rfl, rfl⟩ := hv
  exact go_retI q_Cutter_blockOf kc_Cutter_blockOf rfl rfl rfl
set_option maxHeartbeats 4000000 in
set_option maxRecDepth 100000 in
theorem v_Cutter_greaterOf_0 {l : Launch} {D : va_G} {DA : Nat → ClassId} {b sz d L : Nat} {σ : Nat → Nat → Int32} {r : Option Value} {X' : am_X} (p0 : Int32) (p1 : Int32)
    (hv : am_Go l D DA b sz d M_Cutter_greaterOf (5, [some (.int p0), some (.int p1), some (.int 0), some (.int 8), none], [], (am_TT true L, am_RR true, σ)) r X') :
    am_Go l D DA b sz d M_Cutter_greaterOf (0, [some (.int p0), some (.int p1), none, none, none], [], (am_TT true L, am_RR true, σ)) r X' := by
  refine go_steps q_Cutter_greaterOf kc_Cutter_greaterOf 4 rfl ?_
  refine go_le (L1 := [some (.int p0), some (.int p1), some (.int 0), some (.int 8), none]) (by repeat (first | exact trivial | refine ⟨rfl, ?_⟩)) ?_
  exact hv
set_option maxHeartbeats 4000000 in
set_option maxRecDepth 100000 in
theorem v_Cutter_greaterOf_5 {l : Launch} {D : va_G} {DA : Nat → ClassId} {b sz d L : Nat} {σ : Nat → Nat → Int32} {r : Option Value} {X' : am_X} (p0 : Int32) (p1 : Int32) (p2 : Int32) (p3 : Int32)
    (hv : ((p3 < 0) → (r = some (.int p2) ∧ X' = (am_TT true L, am_RR true, σ))) ∧ (¬ (p3 < 0) → (am_Go l D DA b sz d M_Cutter_greaterOf (5, [some (.int p0), some (.int p1), some (.int (p2 ||| ((if ((p0 >>> (p3 &&& 31 : Int32) : Int32) &&& 15) < ((p1 >>> (p3 &&& 31 : Int32) : Int32) &&& 15) then ((p1 >>> (p3 &&& 31 : Int32) : Int32) &&& 15) else ((p0 >>> (p3 &&& 31 : Int32) : Int32) &&& 15) : Int32) <<< (p3 &&& 31 : Int32) : Int32))), some (.int (p3 + (-4))), none], [], (am_TT true L, am_RR true, σ)) r X'))) :
    am_Go l D DA b sz d M_Cutter_greaterOf (5, [some (.int p0), some (.int p1), some (.int p2), some (.int p3), none], [], (am_TT true L, am_RR true, σ)) r X' := by
  refine go_steps q_Cutter_greaterOf kc_Cutter_greaterOf 2 rfl ?_
  refine go_if (fun hb => ?_) (fun hb => ?_)
  · have hb : p3 < 0 := hb
    replace hv := hv.1 hb
    refine go_steps q_Cutter_greaterOf kc_Cutter_greaterOf 1 rfl ?_
    obtain ⟨rfl, rfl⟩ := hv
    exact go_retI q_Cutter_greaterOf kc_Cutter_greaterOf rfl rfl rfl
  · have hb : ¬ (p3 < 0) := hb
    replace hv := hv.2 hb
    refine go_steps q_Cutter_greaterOf kc_Cutter_greaterOf 20 rfl ?_
    refine go_le (L1 := [some (.int p0), some (.int p1), some (.int (p2 ||| ((if ((p0 >>> (p3 &&& 31 : Int32) : Int32) &&& 15) < ((p1 >>> (p3 &&& 31 : Int32) : Int32) &&& 15) then ((p1 >>> (p3 &&& 31 : Int32) : Int32) &&& 15) else ((p0 >>> (p3 &&& 31 : Int32) : Int32) &&& 15) : Int32) <<< (p3 &&& 31 : Int32) : Int32))), some (.int (p3 + (-4))), none]) (by repeat (first | exact trivial | refine ⟨rfl, ?_⟩)) ?_
    exact hv
set_option maxHeartbeats 4000000 in
set_option maxRecDepth 100000 in
theorem v_Cutter_fillWorths_0 {l : Launch} {D : va_G} {DA : Nat → ClassId} {b sz d L : Nat} {σ : Nat → Nat → Int32} {r : Option Value} {X' : am_X} (p2 : Int32)
    (hv : (∃ (σ1 : Nat → Nat → Int32), am_Go l D DA b sz d M_Arrays_fill (0, [some (.ref 70), some (.int 0), none, none], [], (am_TT true L, am_RR true, σ)) none (am_TT true L, am_RR true, σ1) ∧ (am_Go l D DA b sz (d + 1) M_Cutter_fillWorths (10, [some (.ref 69), some (.ref 2), some (.int p2), some (.int 0), none, none, none], [], (am_TT true L, am_RR true, σ1)) r X'))) :
    am_Go l D DA b sz (d + 1) M_Cutter_fillWorths (0, [some (.ref 69), some (.ref 2), some (.int p2), none, none, none, none], [], (am_TT true L, am_RR true, σ)) r X' := by
  refine go_steps q_Cutter_fillWorths kc_Cutter_fillWorths 3 rfl ?_
  obtain ⟨σ1, hg, hv⟩ := hv
  refine go_callS q_Cutter_fillWorths kc_Cutter_fillWorths rfl q_Arrays_fill am_k29 rfl rfl rfl (Nat.le_of_ble_eq_true rfl) (Nat.le_of_ble_eq_true rfl) hg ?_
  refine go_steps q_Cutter_fillWorths kc_Cutter_fillWorths 2 rfl ?_
  refine go_le (L1 := [some (.ref 69), some (.ref 2), some (.int p2), some (.int 0), none, none, none]) (by repeat (first | exact trivial | refine ⟨rfl, ?_⟩)) ?_
  exact hv
set_option maxHeartbeats 4000000 in
set_option maxRecDepth 100000 in
theorem v_Cutter_fillWorths_10 {l : Launch} {D : va_G} {DA : Nat → ClassId} {b sz d L : Nat} {σ : Nat → Nat → Int32} {r : Option Value} {X' : am_X} (p2 : Int32) (p3 : Int32)
    (hv : (((σ 2 2) ≤ p3) → (am_Go l D DA b sz (d + 1) M_Cutter_fillWorths (96, [some (.ref 69), none, some (.int p2), some (.int 0), none, none, none], [], (am_TT true L, am_RR true, σ)) r X')) ∧ (¬ ((σ 2 2) ≤ p3) → ((¬ (p3 < 0 ∨ 20 ≤ Int32.toNatClampNeg p3)) ∧ (∃ (r1 : Int32) (σ1 : Nat → Nat → Int32), am_Go l D DA b sz d M_Cutter_blockOf (0, [some (.int (σ (19 + Int32.toNatClampNeg p3) 0)), some (.int (σ (19 + Int32.toNatClampNeg p3) 1)), some (.int (σ (19 + Int32.toNatClampNeg p3) 2))], [], (am_TT true L, am_RR true, σ)) (some (.int r1)) (am_TT true L, am_RR true, σ1) ∧ ((∃ (σ2 : Nat → Nat → Int32), am_Go l D DA b sz d M_Cutter_offer (0, [some (.ref 69), some (.int r1), some (.int (σ1 (19 + Int32.toNatClampNeg p3) 7))], [], (am_TT true L, am_RR true, σ1)) none (am_TT true L, am_RR true, σ2) ∧ ((((σ2 (19 + Int32.toNatClampNeg p3) 6) = 0) → (am_Go l D DA b sz (d + 1) M_Cutter_fillWorths (10, [some (.ref 69), some (.ref 2), some (.int p2), some (.int (p3 + 1)), none, none, none], [], (am_TT true L, am_RR true, σ2)) r X')) ∧ (¬ ((σ2 (19 + Int32.toNatClampNeg p3) 6) = 0) → (∃ (r3 : Int32) (σ3 : Nat → Nat → Int32), am_Go l D DA b sz d M_Cutter_blockOf (0, [some (.int (σ2 (19 + Int32.toNatClampNeg p3) 1)), some (.int (σ2 (19 + Int32.toNatClampNeg p3) 0)), some (.int (σ2 (19 + Int32.toNatClampNeg p3) 2))], [], (am_TT true L, am_RR true, σ2)) (some (.int r3)) (am_TT true L, am_RR true, σ3) ∧ ((∃ (σ4 : Nat → Nat → Int32), am_Go l D DA b sz d M_Cutter_offer (0, [some (.ref 69), some (.int r3), some (.int (σ3 (19 + Int32.toNatClampNeg p3) 7))], [], (am_TT true L, am_RR true, σ3)) none (am_TT true L, am_RR true, σ4) ∧ (am_Go l D DA b sz (d + 1) M_Cutter_fillWorths (10, [some (.ref 69), some (.ref 2), some (.int p2), some (.int (p3 + 1)), none, none, none], [], (am_TT true L, am_RR true, σ4)) r X')))))))))))) :
    am_Go l D DA b sz (d + 1) M_Cutter_fillWorths (10, [some (.ref 69), some (.ref 2), some (.int p2), some (.int p3), none, none, none], [], (am_TT true L, am_RR true, σ)) r X' := by
  refine go_steps q_Cutter_fillWorths kc_Cutter_fillWorths 4 rfl ?_
  refine go_if (fun hb => ?_) (fun hb => ?_)
  · have hb : (σ 2 2) ≤ p3 := hb
    replace hv := hv.1 hb
    refine go_steps q_Cutter_fillWorths kc_Cutter_fillWorths 2 rfl ?_
    refine go_le (L1 := [some (.ref 69), none, some (.int p2), some (.int 0), none, none, none]) (by repeat (first | exact trivial | refine ⟨rfl, ?_⟩)) ?_
    exact hv
  · have hb : ¬ ((σ 2 2) ≤ p3) := hb
    replace hv := hv.2 hb
    refine go_steps q_Cutter_fillWorths kc_Cutter_fillWorths 3 rfl ?_
    obtain ⟨hc1, hv⟩ := hv
    refine go_aaload q_Cutter_fillWorths kc_Cutter_fillWorths rfl rfl hc1 (am_rr4 (am_inb hc1)) ?_
    refine go_steps q_Cutter_fillWorths kc_Cutter_fillWorths 3 rfl ?_
    refine go_getI q_Cutter_fillWorths kc_Cutter_fillWorths rfl (am_tt_box (am_inb hc1)) rfl ?_
    refine go_steps q_Cutter_fillWorths kc_Cutter_fillWorths 1 rfl ?_
    refine go_getI q_Cutter_fillWorths kc_Cutter_fillWorths rfl (am_tt_box (am_inb hc1)) rfl ?_
    refine go_steps q_Cutter_fillWorths kc_Cutter_fillWorths 1 rfl ?_
    refine go_getI q_Cutter_fillWorths kc_Cutter_fillWorths rfl (am_tt_box (am_inb hc1)) rfl ?_
    obtain ⟨r1, σ1, hg, hv⟩ := hv
    refine go_callS q_Cutter_fillWorths kc_Cutter_fillWorths rfl q_Cutter_blockOf am_k73 rfl rfl rfl (Nat.le_of_ble_eq_true rfl) (Nat.le_of_ble_eq_true rfl) hg ?_
    refine go_steps q_Cutter_fillWorths kc_Cutter_fillWorths 1 rfl ?_
    refine go_getI q_Cutter_fillWorths kc_Cutter_fillWorths rfl (am_tt_box (am_inb hc1)) rfl ?_
    obtain ⟨σ2, hg, hv⟩ := hv
    refine go_callV q_Cutter_fillWorths kc_Cutter_fillWorths rfl q_Cutter_offer am_k77 ⟨rfl, rfl, by decide⟩ rfl rfl (Nat.le_of_ble_eq_true rfl) (Nat.le_of_ble_eq_true rfl) rfl rfl hg ?_
    refine go_steps q_Cutter_fillWorths kc_Cutter_fillWorths 1 rfl ?_
    refine go_getI q_Cutter_fillWorths kc_Cutter_fillWorths rfl (am_tt_box (am_inb hc1)) rfl ?_
    refine go_steps q_Cutter_fillWorths kc_Cutter_fillWorths 1 rfl ?_
    refine go_if (fun hb => ?_) (fun hb => ?_)
    · have hb : (σ2 (19 + Int32.toNatClampNeg p3) 6) = 0 := hb
      replace hv := hv.1 hb
      refine go_steps q_Cutter_fillWorths kc_Cutter_fillWorths 2 rfl ?_
      refine go_le (L1 := [some (.ref 69), some (.ref 2), some (.int p2), some (.int (p3 + 1)), none, none, none]) (by repeat (first | exact trivial | refine ⟨rfl, ?_⟩)) ?_
      exact hv
    · have hb : ¬ ((σ2 (19 + Int32.toNatClampNeg p3) 6) = 0) := hb
      replace hv := hv.2 hb
      refine go_steps q_Cutter_fillWorths kc_Cutter_fillWorths 2 rfl ?_
      refine go_getI q_Cutter_fillWorths kc_Cutter_fillWorths rfl (am_tt_box (am_inb hc1)) rfl ?_
      refine go_steps q_Cutter_fillWorths kc_Cutter_fillWorths 1 rfl ?_
      refine go_getI q_Cutter_fillWorths kc_Cutter_fillWorths rfl (am_tt_box (am_inb hc1)) rfl ?_
      refine go_steps q_Cutter_fillWorths kc_Cutter_fillWorths 1 rfl ?_
      refine go_getI q_Cutter_fillWorths kc_Cutter_fillWorths rfl (am_tt_box (am_inb hc1)) rfl ?_
      obtain ⟨r3, σ3, hg, hv⟩ := hv
      refine go_callS q_Cutter_fillWorths kc_Cutter_fillWorths rfl q_Cutter_blockOf am_k73 rfl rfl rfl (Nat.le_of_ble_eq_true rfl) (Nat.le_of_ble_eq_true rfl) hg ?_
      refine go_steps q_Cutter_fillWorths kc_Cutter_fillWorths 1 rfl ?_
      refine go_getI q_Cutter_fillWorths kc_Cutter_fillWorths rfl (am_tt_box (am_inb hc1)) rfl ?_
      obtain ⟨σ4, hg, hv⟩ := hv
      refine go_callV q_Cutter_fillWorths kc_Cutter_fillWorths rfl q_Cutter_offer am_k77 ⟨rfl, rfl, by decide⟩ rfl rfl (Nat.le_of_ble_eq_true rfl) (Nat.le_of_ble_eq_true rfl) rfl rfl hg ?_
      refine go_steps q_Cutter_fillWorths kc_Cutter_fillWorths 2 rfl ?_
      refine go_le (L1 := [some (.ref 69), some (.ref 2), some (.int p2), some (.int (p3 + 1)), none, none, none]) (by repeat (first | exact trivial | refine ⟨rfl, ?_⟩)) ?_
      exact hv
set_option maxHeartbeats 4000000 in
set_option maxRecDepth 100000 in
theorem v_Cutter_fillWorths_96 {l : Launch} {D : va_G} {DA : Nat → ClassId} {b sz d L : Nat} {σ : Nat → Nat → Int32} {r : Option Value} {X' : am_X} (p2 : Int32) (p3 : Int32)
    (hv : (((p2 >>> (8 &&& 31 : Int32) : Int32) < p3) → (r = none ∧ X' = (am_TT true L, am_RR true, σ))) ∧ (¬ ((p2 >>> (8 &&& 31 : Int32) : Int32) < p3) → (am_Go l D DA b sz (d + 1) M_Cutter_fillWorths (107, [some (.ref 69), none, some (.int p2), some (.int p3), some (.int 0), none, none], [], (am_TT true L, am_RR true, σ)) r X'))) :
    am_Go l D DA b sz (d + 1) M_Cutter_fillWorths (96, [some (.ref 69), none, some (.int p2), some (.int p3), none, none, none], [], (am_TT true L, am_RR true, σ)) r X' := by
  refine go_steps q_Cutter_fillWorths kc_Cutter_fillWorths 5 rfl ?_
  refine go_if (fun hb => ?_) (fun hb => ?_)
  · have hb : (p2 >>> (8 &&& 31 : Int32) : Int32) < p3 := hb
    replace hv := hv.1 hb
    obtain ⟨rfl, rfl⟩ := hv
    exact go_retV q_Cutter_fillWorths kc_Cutter_fillWorths rfl rfl
  · have hb : ¬ ((p2 >>> (8 &&& 31 : Int32) : Int32) < p3) := hb
    replace hv := hv.2 hb
    refine go_steps q_Cutter_fillWorths kc_Cutter_fillWorths 2 rfl ?_
    refine go_le (L1 := [some (.ref 69), none, some (.int p2), some (.int p3), some (.int 0), none, none]) (by repeat (first | exact trivial | refine ⟨rfl, ?_⟩)) ?_
    exact hv
set_option maxHeartbeats 4000000 in
set_option maxRecDepth 100000 in
theorem v_Cutter_fillWorths_107 {l : Launch} {D : va_G} {DA : Nat → ClassId} {b sz d L : Nat} {σ : Nat → Nat → Int32} {r : Option Value} {X' : am_X} (p2 : Int32) (p3 : Int32) (p4 : Int32)
    (hv : ((((p2 >>> (4 &&& 31 : Int32) : Int32) &&& 15) < p4) → (am_Go l D DA b sz (d + 1) M_Cutter_fillWorths (96, [some (.ref 69), none, some (.int p2), some (.int (p3 + 1)), none, none, none], [], (am_TT true L, am_RR true, σ)) r X')) ∧ (¬ (((p2 >>> (4 &&& 31 : Int32) : Int32) &&& 15) < p4) → (am_Go l D DA b sz (d + 1) M_Cutter_fillWorths (121, [some (.ref 69), none, some (.int p2), some (.int p3), some (.int p4), some (.int 0), none], [], (am_TT true L, am_RR true, σ)) r X'))) :
    am_Go l D DA b sz (d + 1) M_Cutter_fillWorths (107, [some (.ref 69), none, some (.int p2), some (.int p3), some (.int p4), none, none], [], (am_TT true L, am_RR true, σ)) r X' := by
  refine go_steps q_Cutter_fillWorths kc_Cutter_fillWorths 7 rfl ?_
  refine go_if (fun hb => ?_) (fun hb => ?_)
  · have hb : ((p2 >>> (4 &&& 31 : Int32) : Int32) &&& 15) < p4 := hb
    replace hv := hv.1 hb
    refine go_steps q_Cutter_fillWorths kc_Cutter_fillWorths 2 rfl ?_
    refine go_le (L1 := [some (.ref 69), none, some (.int p2), some (.int (p3 + 1)), none, none, none]) (by repeat (first | exact trivial | refine ⟨rfl, ?_⟩)) ?_
    exact hv
  · have hb : ¬ (((p2 >>> (4 &&& 31 : Int32) : Int32) &&& 15) < p4) := hb
    replace hv := hv.2 hb
    refine go_steps q_Cutter_fillWorths kc_Cutter_fillWorths 2 rfl ?_
    refine go_le (L1 := [some (.ref 69), none, some (.int p2), some (.int p3), some (.int p4), some (.int 0), none]) (by repeat (first | exact trivial | refine ⟨rfl, ?_⟩)) ?_
    exact hv
set_option maxHeartbeats 4000000 in
set_option maxRecDepth 100000 in
theorem v_Cutter_fillWorths_121 {l : Launch} {D : va_G} {DA : Nat → ClassId} {b sz d L : Nat} {σ : Nat → Nat → Int32} {r : Option Value} {X' : am_X} (p2 : Int32) (p3 : Int32) (p4 : Int32) (p5 : Int32)
    (hv : (((p2 &&& 15) < p5) → (am_Go l D DA b sz (d + 1) M_Cutter_fillWorths (107, [some (.ref 69), none, some (.int p2), some (.int p3), some (.int (p4 + 1)), none, none], [], (am_TT true L, am_RR true, σ)) r X')) ∧ (¬ ((p2 &&& 15) < p5) → (∃ (r1 : Int32) (σ1 : Nat → Nat → Int32), am_Go l D DA b sz d M_Cutter_worthCut (0, [some (.ref 69), some (.int (((p3 <<< (8 &&& 31 : Int32) : Int32) ||| (p4 <<< (4 &&& 31 : Int32) : Int32)) ||| p5)), none, none, none, none, none], [], (am_TT true L, am_RR true, σ)) (some (.int r1)) (am_TT true L, am_RR true, σ1) ∧ ((∃ (σ2 : Nat → Nat → Int32), am_Go l D DA b sz d M_Cutter_offer (0, [some (.ref 69), some (.int (((p3 <<< (8 &&& 31 : Int32) : Int32) ||| (p4 <<< (4 &&& 31 : Int32) : Int32)) ||| p5)), some (.int r1)], [], (am_TT true L, am_RR true, σ1)) none (am_TT true L, am_RR true, σ2) ∧ (am_Go l D DA b sz (d + 1) M_Cutter_fillWorths (121, [some (.ref 69), none, some (.int p2), some (.int p3), some (.int p4), some (.int (p5 + 1)), none], [], (am_TT true L, am_RR true, σ2)) r X')))))) :
    am_Go l D DA b sz (d + 1) M_Cutter_fillWorths (121, [some (.ref 69), none, some (.int p2), some (.int p3), some (.int p4), some (.int p5), none], [], (am_TT true L, am_RR true, σ)) r X' := by
  refine go_steps q_Cutter_fillWorths kc_Cutter_fillWorths 5 rfl ?_
  refine go_if (fun hb => ?_) (fun hb => ?_)
  · have hb : (p2 &&& 15) < p5 := hb
    replace hv := hv.1 hb
    refine go_steps q_Cutter_fillWorths kc_Cutter_fillWorths 2 rfl ?_
    refine go_le (L1 := [some (.ref 69), none, some (.int p2), some (.int p3), some (.int (p4 + 1)), none, none]) (by repeat (first | exact trivial | refine ⟨rfl, ?_⟩)) ?_
    exact hv
  · have hb : ¬ ((p2 &&& 15) < p5) := hb
    replace hv := hv.2 hb
    refine go_steps q_Cutter_fillWorths kc_Cutter_fillWorths 14 rfl ?_
    obtain ⟨r1, σ1, hg, hv⟩ := hv
    refine go_callV q_Cutter_fillWorths kc_Cutter_fillWorths rfl q_Cutter_worthCut am_k78 ⟨rfl, rfl, by decide⟩ rfl rfl (Nat.le_of_ble_eq_true rfl) (Nat.le_of_ble_eq_true rfl) rfl rfl hg ?_
    obtain ⟨σ2, hg, hv⟩ := hv
    refine go_callV q_Cutter_fillWorths kc_Cutter_fillWorths rfl q_Cutter_offer am_k77 ⟨rfl, rfl, by decide⟩ rfl rfl (Nat.le_of_ble_eq_true rfl) (Nat.le_of_ble_eq_true rfl) rfl rfl hg ?_
    refine go_steps q_Cutter_fillWorths kc_Cutter_fillWorths 2 rfl ?_
    refine go_le (L1 := [some (.ref 69), none, some (.int p2), some (.int p3), some (.int p4), some (.int (p5 + 1)), none]) (by repeat (first | exact trivial | refine ⟨rfl, ?_⟩)) ?_
    exact hv
set_option maxHeartbeats 4000000 in
set_option maxRecDepth 100000 in
theorem v_Cutter_offer_0 {l : Launch} {D : va_G} {DA : Nat → ClassId} {b sz d L : Nat} {σ : Nat → Nat → Int32} {r : Option Value} {X' : am_X} (p1 : Int32) (p2 : Int32)
    (hv : (¬ (p1 < 0 ∨ 4096 ≤ Int32.toNatClampNeg p1)) ∧ (((p2 ≤ (σ 70 (Int32.toNatClampNeg p1))) → (r = none ∧ X' = (am_TT true L, am_RR true, σ))) ∧ (¬ (p2 ≤ (σ 70 (Int32.toNatClampNeg p1))) → ((¬ (p1 < 0 ∨ 4096 ≤ Int32.toNatClampNeg p1)) ∧ (r = none ∧ X' = (am_TT true L, am_RR true, am_us σ 70 (Int32.toNatClampNeg p1) p2)))))) :
    am_Go l D DA b sz d M_Cutter_offer (0, [some (.ref 69), some (.int p1), some (.int p2)], [], (am_TT true L, am_RR true, σ)) r X' := by
  refine go_steps q_Cutter_offer kc_Cutter_offer 4 rfl ?_
  obtain ⟨hc1, hv⟩ := hv
  refine go_iaload q_Cutter_offer kc_Cutter_offer rfl rfl hc1 ?_
  refine go_steps q_Cutter_offer kc_Cutter_offer 1 rfl ?_
  refine go_if (fun hb => ?_) (fun hb => ?_)
  · have hb : p2 ≤ (σ 70 (Int32.toNatClampNeg p1)) := hb
    replace hv := hv.1 hb
    obtain ⟨rfl, rfl⟩ := hv
    exact go_retV q_Cutter_offer kc_Cutter_offer rfl rfl
  · have hb : ¬ (p2 ≤ (σ 70 (Int32.toNatClampNeg p1))) := hb
    replace hv := hv.2 hb
    refine go_steps q_Cutter_offer kc_Cutter_offer 4 rfl ?_
    obtain ⟨hc, hv⟩ := hv
    refine go_iastore q_Cutter_offer kc_Cutter_offer rfl rfl hc ?_
    obtain ⟨rfl, rfl⟩ := hv
    exact go_retV q_Cutter_offer kc_Cutter_offer rfl rfl
set_option maxHeartbeats 4000000 in
set_option maxRecDepth 100000 in
theorem v_Cutter_worthCut_0 {l : Launch} {D : va_G} {DA : Nat → ClassId} {b sz d L : Nat} {σ : Nat → Nat → Int32} {r : Option Value} {X' : am_X} (p1 : Int32)
    (hv : am_Go l D DA b sz (d + 1) M_Cutter_worthCut (5, [some (.ref 69), some (.int p1), some (.int 0), some (.int 8), none, none, none], [], (am_TT true L, am_RR true, σ)) r X') :
    am_Go l D DA b sz (d + 1) M_Cutter_worthCut (0, [some (.ref 69), some (.int p1), none, none, none, none, none], [], (am_TT true L, am_RR true, σ)) r X' := by
  refine go_steps q_Cutter_worthCut kc_Cutter_worthCut 4 rfl ?_
  refine go_le (L1 := [some (.ref 69), some (.int p1), some (.int 0), some (.int 8), none, none, none]) (by repeat (first | exact trivial | refine ⟨rfl, ?_⟩)) ?_
  exact hv
set_option maxHeartbeats 4000000 in
set_option maxRecDepth 100000 in
theorem v_Cutter_worthCut_5 {l : Launch} {D : va_G} {DA : Nat → ClassId} {b sz d L : Nat} {σ : Nat → Nat → Int32} {r : Option Value} {X' : am_X} (p1 : Int32) (p2 : Int32) (p3 : Int32)
    (hv : ((p3 < 0) → (r = some (.int p2) ∧ X' = (am_TT true L, am_RR true, σ))) ∧ (¬ (p3 < 0) → (am_Go l D DA b sz (d + 1) M_Cutter_worthCut (22, [some (.ref 69), some (.int p1), some (.int p2), some (.int p3), some (.int (((p1 >>> (p3 &&& 31 : Int32) : Int32) &&& 15) + 1)), some (.int 1), none], [], (am_TT true L, am_RR true, σ)) r X'))) :
    am_Go l D DA b sz (d + 1) M_Cutter_worthCut (5, [some (.ref 69), some (.int p1), some (.int p2), some (.int p3), none, none, none], [], (am_TT true L, am_RR true, σ)) r X' := by
  refine go_steps q_Cutter_worthCut kc_Cutter_worthCut 2 rfl ?_
  refine go_if (fun hb => ?_) (fun hb => ?_)
  · have hb : p3 < 0 := hb
    replace hv := hv.1 hb
    refine go_steps q_Cutter_worthCut kc_Cutter_worthCut 1 rfl ?_
    obtain ⟨rfl, rfl⟩ := hv
    exact go_retI q_Cutter_worthCut kc_Cutter_worthCut rfl rfl rfl
  · have hb : ¬ (p3 < 0) := hb
    replace hv := hv.2 hb
    refine go_steps q_Cutter_worthCut kc_Cutter_worthCut 10 rfl ?_
    refine go_le (L1 := [some (.ref 69), some (.int p1), some (.int p2), some (.int p3), some (.int (((p1 >>> (p3 &&& 31 : Int32) : Int32) &&& 15) + 1)), some (.int 1), none]) (by repeat (first | exact trivial | refine ⟨rfl, ?_⟩)) ?_
    exact hv
set_option maxHeartbeats 4000000 in
set_option maxRecDepth 100000 in
theorem v_Cutter_worthCut_22 {l : Launch} {D : va_G} {DA : Nat → ClassId} {b sz d L : Nat} {σ : Nat → Nat → Int32} {r : Option Value} {X' : am_X} (p1 : Int32) (p2 : Int32) (p3 : Int32) (p4 : Int32) (p5 : Int32)
    (hv : ((p4 < (2 * p5)) → (am_Go l D DA b sz (d + 1) M_Cutter_worthCut (5, [some (.ref 69), some (.int p1), some (.int p2), some (.int (p3 + (-4))), none, none, none], [], (am_TT true L, am_RR true, σ)) r X')) ∧ (¬ (p4 < (2 * p5)) → (∃ (r1 : Int32) (σ1 : Nat → Nat → Int32), am_Go l D DA b sz d M_Cutter_aheadOf (0, [some (.int p1), some (.int p5), some (.int p3)], [], (am_TT true L, am_RR true, σ)) (some (.int r1)) (am_TT true L, am_RR true, σ1) ∧ ((¬ (r1 < 0 ∨ 4096 ≤ Int32.toNatClampNeg r1)) ∧ ((¬ ((p1 - (p5 <<< (p3 &&& 31 : Int32) : Int32)) < 0 ∨ 4096 ≤ Int32.toNatClampNeg (p1 - (p5 <<< (p3 &&& 31 : Int32) : Int32)))) ∧ (((((σ1 70 (Int32.toNatClampNeg r1)) + (σ1 70 (Int32.toNatClampNeg (p1 - (p5 <<< (p3 &&& 31 : Int32) : Int32))))) ≤ p2) → (am_Go l D DA b sz (d + 1) M_Cutter_worthCut (22, [some (.ref 69), some (.int p1), some (.int p2), some (.int p3), some (.int p4), some (.int (p5 + 1)), none], [], (am_TT true L, am_RR true, σ1)) r X')) ∧ (¬ (((σ1 70 (Int32.toNatClampNeg r1)) + (σ1 70 (Int32.toNatClampNeg (p1 - (p5 <<< (p3 &&& 31 : Int32) : Int32))))) ≤ p2) → (am_Go l D DA b sz (d + 1) M_Cutter_worthCut (22, [some (.ref 69), some (.int p1), some (.int ((σ1 70 (Int32.toNatClampNeg r1)) + (σ1 70 (Int32.toNatClampNeg (p1 - (p5 <<< (p3 &&& 31 : Int32) : Int32)))))), some (.int p3), some (.int p4), some (.int (p5 + 1)), none], [], (am_TT true L, am_RR true, σ1)) r X')))))))) :
    am_Go l D DA b sz (d + 1) M_Cutter_worthCut (22, [some (.ref 69), some (.int p1), some (.int p2), some (.int p3), some (.int p4), some (.int p5), none], [], (am_TT true L, am_RR true, σ)) r X' := by
  refine go_steps q_Cutter_worthCut kc_Cutter_worthCut 5 rfl ?_
  refine go_if (fun hb => ?_) (fun hb => ?_)
  · have hb : p4 < (2 * p5) := hb
    replace hv := hv.1 hb
    refine go_steps q_Cutter_worthCut kc_Cutter_worthCut 2 rfl ?_
    refine go_le (L1 := [some (.ref 69), some (.int p1), some (.int p2), some (.int (p3 + (-4))), none, none, none]) (by repeat (first | exact trivial | refine ⟨rfl, ?_⟩)) ?_
    exact hv
  · have hb : ¬ (p4 < (2 * p5)) := hb
    replace hv := hv.2 hb
    refine go_steps q_Cutter_worthCut kc_Cutter_worthCut 5 rfl ?_
    obtain ⟨r1, σ1, hg, hv⟩ := hv
    refine go_callS q_Cutter_worthCut kc_Cutter_worthCut rfl q_Cutter_aheadOf am_k79 rfl rfl rfl (Nat.le_of_ble_eq_true rfl) (Nat.le_of_ble_eq_true rfl) hg ?_
    obtain ⟨hc1, hv⟩ := hv
    refine go_iaload q_Cutter_worthCut kc_Cutter_worthCut rfl rfl hc1 ?_
    refine go_steps q_Cutter_worthCut kc_Cutter_worthCut 7 rfl ?_
    obtain ⟨hc2, hv⟩ := hv
    refine go_iaload q_Cutter_worthCut kc_Cutter_worthCut rfl rfl hc2 ?_
    refine go_steps q_Cutter_worthCut kc_Cutter_worthCut 5 rfl ?_
    refine go_if (fun hb => ?_) (fun hb => ?_)
    · have hb : ((σ1 70 (Int32.toNatClampNeg r1)) + (σ1 70 (Int32.toNatClampNeg (p1 - (p5 <<< (p3 &&& 31 : Int32) : Int32))))) ≤ p2 := hb
      replace hv := hv.1 hb
      refine go_steps q_Cutter_worthCut kc_Cutter_worthCut 2 rfl ?_
      refine go_le (L1 := [some (.ref 69), some (.int p1), some (.int p2), some (.int p3), some (.int p4), some (.int (p5 + 1)), none]) (by repeat (first | exact trivial | refine ⟨rfl, ?_⟩)) ?_
      exact hv
    · have hb : ¬ (((σ1 70 (Int32.toNatClampNeg r1)) + (σ1 70 (Int32.toNatClampNeg (p1 - (p5 <<< (p3 &&& 31 : Int32) : Int32))))) ≤ p2) := hb
      replace hv := hv.2 hb
      refine go_steps q_Cutter_worthCut kc_Cutter_worthCut 4 rfl ?_
      refine go_le (L1 := [some (.ref 69), some (.int p1), some (.int ((σ1 70 (Int32.toNatClampNeg r1)) + (σ1 70 (Int32.toNatClampNeg (p1 - (p5 <<< (p3 &&& 31 : Int32) : Int32)))))), some (.int p3), some (.int p4), some (.int (p5 + 1)), none]) (by repeat (first | exact trivial | refine ⟨rfl, ?_⟩)) ?_
      exact hv
set_option maxHeartbeats 4000000 in
set_option maxRecDepth 100000 in
theorem v_Cutter_aheadOf_0 {l : Launch} {D : va_G} {DA : Nat → ClassId} {b sz d L : Nat} {σ : Nat → Nat → Int32} {r : Option Value} {X' : am_X} (p0 : Int32) (p1 : Int32) (p2 : Int32)
    (hv : r = some (.int ((p0 &&& ((15 <<< (p2 &&& 31 : Int32) : Int32) ^^^ (-1))) ||| ((p1 - 1) <<< (p2 &&& 31 : Int32) : Int32))) ∧ X' = (am_TT true L, am_RR true, σ)) :
    am_Go l D DA b sz d M_Cutter_aheadOf (0, [some (.int p0), some (.int p1), some (.int p2)], [], (am_TT true L, am_RR true, σ)) r X' := by
  refine go_steps q_Cutter_aheadOf kc_Cutter_aheadOf 13 rfl ?_
  obtain ⟨rfl, rfl⟩ := hv
  exact go_retI q_Cutter_aheadOf kc_Cutter_aheadOf rfl rfl rfl
set_option maxHeartbeats 4000000 in
set_option maxRecDepth 100000 in
theorem v_Cutter_tell_0 {l : Launch} {D : va_G} {DA : Nat → ClassId} {b sz d L : Nat} {σ : Nat → Nat → Int32} {r : Option Value} {X' : am_X} (p2 : Int32) (p3 : Int32)
    (hv : (((σ 69 3) = (-1)) → (r = some (.int (-1)) ∧ X' = (am_TT true L, am_RR true, σ))) ∧ (¬ ((σ 69 3) = (-1)) → ((((σ 69 4) = (-1)) → (∃ (σ1 : Nat → Nat → Int32), am_Go l D DA b sz d M_Cutter_layOut (0, [some (.ref 69), some (.ref 2), some (.int (σ 69 3)), some (.int 0), some (.int 0), none, none, none, none, none, none], [], (am_TT true L, am_RR true, am_us σ 69 4 0)) none (am_TT true L, am_RR true, σ1) ∧ (((p2 < 0) → (r = some (.int (-1)) ∧ X' = (am_TT true L, am_RR true, σ1))) ∧ (¬ (p2 < 0) → (((p2 < (σ1 69 4)) → ((¬ (p2 < 0 ∨ 4096 ≤ Int32.toNatClampNeg p2)) ∧ ((p3 = 0 → (r = some (.int ((σ1 71 (Int32.toNatClampNeg p2)) >>> (13 &&& 31 : Int32) : Int32)) ∧ X' = (am_TT true L, am_RR true, σ1))) ∧ (p3 = 1 → (r = some (.int (((σ1 71 (Int32.toNatClampNeg p2)) >>> (8 &&& 31 : Int32) : Int32) &&& 15)) ∧ X' = (am_TT true L, am_RR true, σ1))) ∧ (p3 = 2 → (r = some (.int (((σ1 71 (Int32.toNatClampNeg p2)) >>> (4 &&& 31 : Int32) : Int32) &&& 15)) ∧ X' = (am_TT true L, am_RR true, σ1))) ∧ (p3 = 3 → (r = some (.int ((σ1 71 (Int32.toNatClampNeg p2)) &&& 15)) ∧ X' = (am_TT true L, am_RR true, σ1))) ∧ (p3 = 4 → (r = some (.int (((σ1 71 (Int32.toNatClampNeg p2)) >>> (12 &&& 31 : Int32) : Int32) &&& 1)) ∧ X' = (am_TT true L, am_RR true, σ1))) ∧ (¬ p3 = 0 → ¬ p3 = 1 → ¬ p3 = 2 → ¬ p3 = 3 → ¬ p3 = 4 → (r = some (.int (-1)) ∧ X' = (am_TT true L, am_RR true, σ1)))))) ∧ (¬ (p2 < (σ1 69 4)) → (r = some (.int (-1)) ∧ X' = (am_TT true L, am_RR true, σ1)))))))) ∧ (¬ ((σ 69 4) = (-1)) → (((p2 < 0) → (r = some (.int (-1)) ∧ X' = (am_TT true L, am_RR true, σ))) ∧ (¬ (p2 < 0) → (((p2 < (σ 69 4)) → ((¬ (p2 < 0 ∨ 4096 ≤ Int32.toNatClampNeg p2)) ∧ ((p3 = 0 → (r = some (.int ((σ 71 (Int32.toNatClampNeg p2)) >>> (13 &&& 31 : Int32) : Int32)) ∧ X' = (am_TT true L, am_RR true, σ))) ∧ (p3 = 1 → (r = some (.int (((σ 71 (Int32.toNatClampNeg p2)) >>> (8 &&& 31 : Int32) : Int32) &&& 15)) ∧ X' = (am_TT true L, am_RR true, σ))) ∧ (p3 = 2 → (r = some (.int (((σ 71 (Int32.toNatClampNeg p2)) >>> (4 &&& 31 : Int32) : Int32) &&& 15)) ∧ X' = (am_TT true L, am_RR true, σ))) ∧ (p3 = 3 → (r = some (.int ((σ 71 (Int32.toNatClampNeg p2)) &&& 15)) ∧ X' = (am_TT true L, am_RR true, σ))) ∧ (p3 = 4 → (r = some (.int (((σ 71 (Int32.toNatClampNeg p2)) >>> (12 &&& 31 : Int32) : Int32) &&& 1)) ∧ X' = (am_TT true L, am_RR true, σ))) ∧ (¬ p3 = 0 → ¬ p3 = 1 → ¬ p3 = 2 → ¬ p3 = 3 → ¬ p3 = 4 → (r = some (.int (-1)) ∧ X' = (am_TT true L, am_RR true, σ)))))) ∧ (¬ (p2 < (σ 69 4)) → (r = some (.int (-1)) ∧ X' = (am_TT true L, am_RR true, σ)))))))))) :
    am_Go l D DA b sz (d + 1) M_Cutter_tell (0, [some (.ref 69), some (.ref 2), some (.int p2), some (.int p3), none], [], (am_TT true L, am_RR true, σ)) r X' := by
  refine go_steps q_Cutter_tell kc_Cutter_tell 4 rfl ?_
  refine go_if (fun hb => ?_) (fun hb => ?_)
  · have hb : (σ 69 3) = (-1) := hb
    replace hv := hv.1 hb
    refine go_steps q_Cutter_tell kc_Cutter_tell 1 rfl ?_
    obtain ⟨rfl, rfl⟩ := hv
    exact go_retI q_Cutter_tell kc_Cutter_tell rfl rfl rfl
  · have hb : ¬ ((σ 69 3) = (-1)) := hb
    replace hv := hv.2 hb
    refine go_steps q_Cutter_tell kc_Cutter_tell 4 rfl ?_
    refine go_if (fun hb => ?_) (fun hb => ?_)
    · have hb : (σ 69 4) = (-1) := hb
      replace hv := hv.1 hb
      refine go_steps q_Cutter_tell kc_Cutter_tell 9 rfl ?_
      obtain ⟨σ1, hg, hv⟩ := hv
      refine go_callV q_Cutter_tell kc_Cutter_tell rfl q_Cutter_layOut am_k82 ⟨rfl, rfl, by decide⟩ rfl rfl (Nat.le_of_ble_eq_true rfl) (Nat.le_of_ble_eq_true rfl) rfl rfl hg ?_
      refine go_steps q_Cutter_tell kc_Cutter_tell 2 rfl ?_
      refine go_if (fun hb => ?_) (fun hb => ?_)
      · have hb : p2 < 0 := hb
        replace hv := hv.1 hb
        refine go_steps q_Cutter_tell kc_Cutter_tell 1 rfl ?_
        obtain ⟨rfl, rfl⟩ := hv
        exact go_retI q_Cutter_tell kc_Cutter_tell rfl rfl rfl
      · have hb : ¬ (p2 < 0) := hb
        replace hv := hv.2 hb
        refine go_steps q_Cutter_tell kc_Cutter_tell 4 rfl ?_
        refine go_if (fun hb => ?_) (fun hb => ?_)
        · have hb : p2 < (σ1 69 4) := hb
          replace hv := hv.1 hb
          refine go_steps q_Cutter_tell kc_Cutter_tell 3 rfl ?_
          obtain ⟨hc1, hv⟩ := hv
          refine go_iaload q_Cutter_tell kc_Cutter_tell rfl rfl hc1 ?_
          refine go_steps q_Cutter_tell kc_Cutter_tell 2 rfl ?_
          by_cases hs0 : p3 = 0
          · replace hv := hv.1 hs0
            refine go_sw q_Cutter_tell kc_Cutter_tell rfl (g := 92) (by rw [hs0]; rfl) ?_
            refine go_steps q_Cutter_tell kc_Cutter_tell 3 rfl ?_
            obtain ⟨rfl, rfl⟩ := hv
            exact go_retI q_Cutter_tell kc_Cutter_tell rfl rfl rfl
          by_cases hs1 : p3 = 1
          · replace hv := hv.2.1 hs1
            refine go_sw q_Cutter_tell kc_Cutter_tell rfl (g := 98) (by rw [hs1]; rfl) ?_
            refine go_steps q_Cutter_tell kc_Cutter_tell 5 rfl ?_
            obtain ⟨rfl, rfl⟩ := hv
            exact go_retI q_Cutter_tell kc_Cutter_tell rfl rfl rfl
          by_cases hs2 : p3 = 2
          · replace hv := hv.2.2.1 hs2
            refine go_sw q_Cutter_tell kc_Cutter_tell rfl (g := 107) (by rw [hs2]; rfl) ?_
            refine go_steps q_Cutter_tell kc_Cutter_tell 5 rfl ?_
            obtain ⟨rfl, rfl⟩ := hv
            exact go_retI q_Cutter_tell kc_Cutter_tell rfl rfl rfl
          by_cases hs3 : p3 = 3
          · replace hv := hv.2.2.2.1 hs3
            refine go_sw q_Cutter_tell kc_Cutter_tell rfl (g := 115) (by rw [hs3]; rfl) ?_
            refine go_steps q_Cutter_tell kc_Cutter_tell 3 rfl ?_
            obtain ⟨rfl, rfl⟩ := hv
            exact go_retI q_Cutter_tell kc_Cutter_tell rfl rfl rfl
          by_cases hs4 : p3 = 4
          · replace hv := hv.2.2.2.2.1 hs4
            refine go_sw q_Cutter_tell kc_Cutter_tell rfl (g := 121) (by rw [hs4]; rfl) ?_
            refine go_steps q_Cutter_tell kc_Cutter_tell 5 rfl ?_
            obtain ⟨rfl, rfl⟩ := hv
            exact go_retI q_Cutter_tell kc_Cutter_tell rfl rfl rfl
          replace hv := hv.2.2.2.2.2 hs0 hs1 hs2 hs3 hs4
          refine go_sw q_Cutter_tell kc_Cutter_tell rfl (g := 129) (if_pos (am_sw_out (m := 4) (by decide) (fun j hj => match j, hj with | 0, _ => hs0 | 1, _ => hs1 | 2, _ => hs2 | 3, _ => hs3 | 4, _ => hs4 | n + 5, h => absurd h (by omega)))) ?_
          refine go_steps q_Cutter_tell kc_Cutter_tell 1 rfl ?_
          obtain ⟨rfl, rfl⟩ := hv
          exact go_retI q_Cutter_tell kc_Cutter_tell rfl rfl rfl
        · have hb : ¬ (p2 < (σ1 69 4)) := hb
          replace hv := hv.2 hb
          refine go_steps q_Cutter_tell kc_Cutter_tell 1 rfl ?_
          obtain ⟨rfl, rfl⟩ := hv
          exact go_retI q_Cutter_tell kc_Cutter_tell rfl rfl rfl
    · have hb : ¬ ((σ 69 4) = (-1)) := hb
      replace hv := hv.2 hb
      refine go_steps q_Cutter_tell kc_Cutter_tell 2 rfl ?_
      refine go_if (fun hb => ?_) (fun hb => ?_)
      · have hb : p2 < 0 := hb
        replace hv := hv.1 hb
        refine go_steps q_Cutter_tell kc_Cutter_tell 1 rfl ?_
        obtain ⟨rfl, rfl⟩ := hv
        exact go_retI q_Cutter_tell kc_Cutter_tell rfl rfl rfl
      · have hb : ¬ (p2 < 0) := hb
        replace hv := hv.2 hb
        refine go_steps q_Cutter_tell kc_Cutter_tell 4 rfl ?_
        refine go_if (fun hb => ?_) (fun hb => ?_)
        · have hb : p2 < (σ 69 4) := hb
          replace hv := hv.1 hb
          refine go_steps q_Cutter_tell kc_Cutter_tell 3 rfl ?_
          obtain ⟨hc2, hv⟩ := hv
          refine go_iaload q_Cutter_tell kc_Cutter_tell rfl rfl hc2 ?_
          refine go_steps q_Cutter_tell kc_Cutter_tell 2 rfl ?_
          by_cases hs0 : p3 = 0
          · replace hv := hv.1 hs0
            refine go_sw q_Cutter_tell kc_Cutter_tell rfl (g := 92) (by rw [hs0]; rfl) ?_
            refine go_steps q_Cutter_tell kc_Cutter_tell 3 rfl ?_
            obtain ⟨rfl, rfl⟩ := hv
            exact go_retI q_Cutter_tell kc_Cutter_tell rfl rfl rfl
          by_cases hs1 : p3 = 1
          · replace hv := hv.2.1 hs1
            refine go_sw q_Cutter_tell kc_Cutter_tell rfl (g := 98) (by rw [hs1]; rfl) ?_
            refine go_steps q_Cutter_tell kc_Cutter_tell 5 rfl ?_
            obtain ⟨rfl, rfl⟩ := hv
            exact go_retI q_Cutter_tell kc_Cutter_tell rfl rfl rfl
          by_cases hs2 : p3 = 2
          · replace hv := hv.2.2.1 hs2
            refine go_sw q_Cutter_tell kc_Cutter_tell rfl (g := 107) (by rw [hs2]; rfl) ?_
            refine go_steps q_Cutter_tell kc_Cutter_tell 5 rfl ?_
            obtain ⟨rfl, rfl⟩ := hv
            exact go_retI q_Cutter_tell kc_Cutter_tell rfl rfl rfl
          by_cases hs3 : p3 = 3
          · replace hv := hv.2.2.2.1 hs3
            refine go_sw q_Cutter_tell kc_Cutter_tell rfl (g := 115) (by rw [hs3]; rfl) ?_
            refine go_steps q_Cutter_tell kc_Cutter_tell 3 rfl ?_
            obtain ⟨rfl, rfl⟩ := hv
            exact go_retI q_Cutter_tell kc_Cutter_tell rfl rfl rfl
          by_cases hs4 : p3 = 4
          · replace hv := hv.2.2.2.2.1 hs4
            refine go_sw q_Cutter_tell kc_Cutter_tell rfl (g := 121) (by rw [hs4]; rfl) ?_
            refine go_steps q_Cutter_tell kc_Cutter_tell 5 rfl ?_
            obtain ⟨rfl, rfl⟩ := hv
            exact go_retI q_Cutter_tell kc_Cutter_tell rfl rfl rfl
          replace hv := hv.2.2.2.2.2 hs0 hs1 hs2 hs3 hs4
          refine go_sw q_Cutter_tell kc_Cutter_tell rfl (g := 129) (if_pos (am_sw_out (m := 4) (by decide) (fun j hj => match j, hj with | 0, _ => hs0 | 1, _ => hs1 | 2, _ => hs2 | 3, _ => hs3 | 4, _ => hs4 | n + 5, h => absurd h (by omega)))) ?_
          refine go_steps q_Cutter_tell kc_Cutter_tell 1 rfl ?_
          obtain ⟨rfl, rfl⟩ := hv
          exact go_retI q_Cutter_tell kc_Cutter_tell rfl rfl rfl
        · have hb : ¬ (p2 < (σ 69 4)) := hb
          replace hv := hv.2 hb
          refine go_steps q_Cutter_tell kc_Cutter_tell 1 rfl ?_
          obtain ⟨rfl, rfl⟩ := hv
          exact go_retI q_Cutter_tell kc_Cutter_tell rfl rfl rfl
set_option maxHeartbeats 4000000 in
set_option maxRecDepth 100000 in
theorem v_Cutter_layOut_0 {l : Launch} {D : va_G} {DA : Nat → ClassId} {b sz d L : Nat} {σ : Nat → Nat → Int32} {r : Option Value} {X' : am_X} (p2 : Int32) (p3 : Int32) (p4 : Int32)
    (hv : am_Go l D DA b sz (d + 1) M_Cutter_layOut (9, [some (.ref 69), some (.ref 2), none, none, some (.int p4), some (.int p2), some (.int p3), some (.int 0), none, none, none], [], (am_TT true L, am_RR true, σ)) r X') :
    am_Go l D DA b sz (d + 1) M_Cutter_layOut (0, [some (.ref 69), some (.ref 2), some (.int p2), some (.int p3), some (.int p4), none, none, none, none, none, none], [], (am_TT true L, am_RR true, σ)) r X' := by
  refine go_steps q_Cutter_layOut kc_Cutter_layOut 6 rfl ?_
  refine go_le (L1 := [some (.ref 69), some (.ref 2), none, none, some (.int p4), some (.int p2), some (.int p3), some (.int 0), none, none, none]) (by repeat (first | exact trivial | refine ⟨rfl, ?_⟩)) ?_
  exact hv
set_option maxHeartbeats 4000000 in
set_option maxRecDepth 100000 in
theorem v_Cutter_layOut_9 {l : Launch} {D : va_G} {DA : Nat → ClassId} {b sz d L : Nat} {σ : Nat → Nat → Int32} {r : Option Value} {X' : am_X} (p4 : Int32) (p5 : Int32) (p6 : Int32) (p7 : Int32)
    (hv : ((48 ≤ p7) → (r = none ∧ X' = (am_TT true L, am_RR true, σ))) ∧ (¬ (48 ≤ p7) → (((16 ≤ p4) → (r = none ∧ X' = (am_TT true L, am_RR true, σ))) ∧ (¬ (16 ≤ p4) → ((¬ (p5 < 0 ∨ 4096 ≤ Int32.toNatClampNeg p5)) ∧ ((((σ 70 (Int32.toNatClampNeg p5)) = 0) → (r = none ∧ X' = (am_TT true L, am_RR true, σ))) ∧ (¬ ((σ 70 (Int32.toNatClampNeg p5)) = 0) → (∃ (r1 : Int32) (σ1 : Nat → Nat → Int32), am_Go l D DA b sz d M_Cutter_layPiece (0, [some (.ref 69), some (.ref 2), some (.int p5), some (.int p6), none, none, none], [], (am_TT true L, am_RR true, σ)) (some (.int r1)) (am_TT true L, am_RR true, σ1) ∧ (((r1 = 0) → (∃ (r2 : Int32) (σ2 : Nat → Nat → Int32), am_Go l D DA b sz d M_Cutter_firstCut (0, [some (.ref 69), some (.int p5), none, none, none], [], (am_TT true L, am_RR true, σ1)) (some (.int r2)) (am_TT true L, am_RR true, σ2) ∧ ((((1 : Int32) ≤ (r2 >>> (4 &&& 31 : Int32) : Int32)) → (∃ (r3 : Int32) (σ3 : Nat → Nat → Int32), am_Go l D DA b sz d M_Cutter_aheadOf (0, [some (.int p5), some (.int (r2 >>> (4 &&& 31 : Int32) : Int32)), some (.int (r2 &&& 15))], [], (am_TT true L, am_RR true, σ2)) (some (.int r3)) (am_TT true L, am_RR true, σ3) ∧ ((∃ (σ4 : Nat → Nat → Int32), am_Go l D DA b sz d M_Cutter_layOut (0, [some (.ref 69), some (.ref 2), some (.int r3), some (.int p6), some (.int (p4 + 1)), none, none, none, none, none, none], [], (am_TT true L, am_RR true, σ3)) none (am_TT true L, am_RR true, σ4) ∧ (am_Go l D DA b sz (d + 1) M_Cutter_layOut (9, [some (.ref 69), some (.ref 2), none, none, some (.int p4), some (.int (p5 - ((r2 >>> (4 &&& 31 : Int32) : Int32) <<< ((r2 &&& 15) &&& 31 : Int32) : Int32))), some (.int (p6 + ((r2 >>> (4 &&& 31 : Int32) : Int32) <<< ((r2 &&& 15) &&& 31 : Int32) : Int32))), some (.int (p7 + 1)), none, none, none], [], (am_TT true L, am_RR true, σ4)) r X'))))) ∧ (¬ ((1 : Int32) ≤ (r2 >>> (4 &&& 31 : Int32) : Int32)) → (r = none ∧ X' = (am_TT true L, am_RR true, σ2)))))) ∧ (¬ (r1 = 0) → (r = none ∧ X' = (am_TT true L, am_RR true, σ1)))))))))))) :
    am_Go l D DA b sz (d + 1) M_Cutter_layOut (9, [some (.ref 69), some (.ref 2), none, none, some (.int p4), some (.int p5), some (.int p6), some (.int p7), none, none, none], [], (am_TT true L, am_RR true, σ)) r X' := by
  refine go_steps q_Cutter_layOut kc_Cutter_layOut 3 rfl ?_
  refine go_if (fun hb => ?_) (fun hb => ?_)
  · have hb : 48 ≤ p7 := hb
    replace hv := hv.1 hb
    obtain ⟨rfl, rfl⟩ := hv
    exact go_retV q_Cutter_layOut kc_Cutter_layOut rfl rfl
  · have hb : ¬ (48 ≤ p7) := hb
    replace hv := hv.2 hb
    refine go_steps q_Cutter_layOut kc_Cutter_layOut 3 rfl ?_
    refine go_if (fun hb => ?_) (fun hb => ?_)
    · have hb : 16 ≤ p4 := hb
      replace hv := hv.1 hb
      obtain ⟨rfl, rfl⟩ := hv
      exact go_retV q_Cutter_layOut kc_Cutter_layOut rfl rfl
    · have hb : ¬ (16 ≤ p4) := hb
      replace hv := hv.2 hb
      refine go_steps q_Cutter_layOut kc_Cutter_layOut 3 rfl ?_
      obtain ⟨hc1, hv⟩ := hv
      refine go_iaload q_Cutter_layOut kc_Cutter_layOut rfl rfl hc1 ?_
      refine go_steps q_Cutter_layOut kc_Cutter_layOut 1 rfl ?_
      refine go_if (fun hb => ?_) (fun hb => ?_)
      · have hb : (σ 70 (Int32.toNatClampNeg p5)) = 0 := hb
        replace hv := hv.1 hb
        obtain ⟨rfl, rfl⟩ := hv
        exact go_retV q_Cutter_layOut kc_Cutter_layOut rfl rfl
      · have hb : ¬ ((σ 70 (Int32.toNatClampNeg p5)) = 0) := hb
        replace hv := hv.2 hb
        refine go_steps q_Cutter_layOut kc_Cutter_layOut 4 rfl ?_
        obtain ⟨r1, σ1, hg, hv⟩ := hv
        refine go_callV q_Cutter_layOut kc_Cutter_layOut rfl q_Cutter_layPiece am_k83 ⟨rfl, rfl, by decide⟩ rfl rfl (Nat.le_of_ble_eq_true rfl) (Nat.le_of_ble_eq_true rfl) rfl rfl hg ?_
        refine go_steps q_Cutter_layOut kc_Cutter_layOut 1 rfl ?_
        refine go_if (fun hb => ?_) (fun hb => ?_)
        · have hb : r1 = 0 := hb
          replace hv := hv.1 hb
          refine go_steps q_Cutter_layOut kc_Cutter_layOut 2 rfl ?_
          obtain ⟨r2, σ2, hg, hv⟩ := hv
          refine go_callV q_Cutter_layOut kc_Cutter_layOut rfl q_Cutter_firstCut am_k84 ⟨rfl, rfl, by decide⟩ rfl rfl (Nat.le_of_ble_eq_true rfl) (Nat.le_of_ble_eq_true rfl) rfl rfl hg ?_
          refine go_steps q_Cutter_layOut kc_Cutter_layOut 12 rfl ?_
          refine go_if (fun hb => ?_) (fun hb => ?_)
          · have hb : (1 : Int32) ≤ (r2 >>> (4 &&& 31 : Int32) : Int32) := hb
            replace hv := hv.1 hb
            refine go_steps q_Cutter_layOut kc_Cutter_layOut 5 rfl ?_
            obtain ⟨r3, σ3, hg, hv⟩ := hv
            refine go_callS q_Cutter_layOut kc_Cutter_layOut rfl q_Cutter_aheadOf am_k79 rfl rfl rfl (Nat.le_of_ble_eq_true rfl) (Nat.le_of_ble_eq_true rfl) hg ?_
            refine go_steps q_Cutter_layOut kc_Cutter_layOut 4 rfl ?_
            obtain ⟨σ4, hg, hv⟩ := hv
            refine go_callV q_Cutter_layOut kc_Cutter_layOut rfl q_Cutter_layOut am_k82 ⟨rfl, rfl, by decide⟩ rfl rfl (Nat.le_of_ble_eq_true rfl) (Nat.le_of_ble_eq_true rfl) rfl rfl hg ?_
            refine go_steps q_Cutter_layOut kc_Cutter_layOut 14 rfl ?_
            refine go_le (L1 := [some (.ref 69), some (.ref 2), none, none, some (.int p4), some (.int (p5 - ((r2 >>> (4 &&& 31 : Int32) : Int32) <<< ((r2 &&& 15) &&& 31 : Int32) : Int32))), some (.int (p6 + ((r2 >>> (4 &&& 31 : Int32) : Int32) <<< ((r2 &&& 15) &&& 31 : Int32) : Int32))), some (.int (p7 + 1)), none, none, none]) (by repeat (first | exact trivial | refine ⟨rfl, ?_⟩)) ?_
            exact hv
          · have hb : ¬ ((1 : Int32) ≤ (r2 >>> (4 &&& 31 : Int32) : Int32)) := hb
            replace hv := hv.2 hb
            obtain ⟨rfl, rfl⟩ := hv
            exact go_retV q_Cutter_layOut kc_Cutter_layOut rfl rfl
        · have hb : ¬ (r1 = 0) := hb
          replace hv := hv.2 hb
          obtain ⟨rfl, rfl⟩ := hv
          exact go_retV q_Cutter_layOut kc_Cutter_layOut rfl rfl
set_option maxHeartbeats 4000000 in
set_option maxRecDepth 100000 in
theorem v_Cutter_layPiece_0 {l : Launch} {D : va_G} {DA : Nat → ClassId} {b sz d L : Nat} {σ : Nat → Nat → Int32} {r : Option Value} {X' : am_X} (p2 : Int32) (p3 : Int32)
    (hv : am_Go l D DA b sz (d + 1) M_Cutter_layPiece (3, [some (.ref 69), some (.ref 2), some (.int p2), some (.int p3), some (.int 0), none, none], [], (am_TT true L, am_RR true, σ)) r X') :
    am_Go l D DA b sz (d + 1) M_Cutter_layPiece (0, [some (.ref 69), some (.ref 2), some (.int p2), some (.int p3), none, none, none], [], (am_TT true L, am_RR true, σ)) r X' := by
  refine go_steps q_Cutter_layPiece kc_Cutter_layPiece 2 rfl ?_
  refine go_le (L1 := [some (.ref 69), some (.ref 2), some (.int p2), some (.int p3), some (.int 0), none, none]) (by repeat (first | exact trivial | refine ⟨rfl, ?_⟩)) ?_
  exact hv
set_option maxHeartbeats 4000000 in
set_option maxRecDepth 100000 in
theorem v_Cutter_layPiece_3 {l : Launch} {D : va_G} {DA : Nat → ClassId} {b sz d L : Nat} {σ : Nat → Nat → Int32} {r : Option Value} {X' : am_X} (p2 : Int32) (p3 : Int32) (p4 : Int32)
    (hv : (((σ 2 2) ≤ p4) → (r = some (.int 0) ∧ X' = (am_TT true L, am_RR true, σ))) ∧ (¬ ((σ 2 2) ≤ p4) → ((¬ (p4 < 0 ∨ 20 ≤ Int32.toNatClampNeg p4)) ∧ ((¬ (p2 < 0 ∨ 4096 ≤ Int32.toNatClampNeg p2)) ∧ ((((σ (19 + Int32.toNatClampNeg p4) 7) = (σ 70 (Int32.toNatClampNeg p2))) → (∃ (r1 : Int32) (σ1 : Nat → Nat → Int32), am_Go l D DA b sz d M_Cutter_blockOf (0, [some (.int (σ (19 + Int32.toNatClampNeg p4) 0)), some (.int (σ (19 + Int32.toNatClampNeg p4) 1)), some (.int (σ (19 + Int32.toNatClampNeg p4) 2))], [], (am_TT true L, am_RR true, σ)) (some (.int r1)) (am_TT true L, am_RR true, σ1) ∧ ((((if r1 = p2 then 1 else 0 : Int32) = 0) → ((((σ1 (19 + Int32.toNatClampNeg p4) 6) = 0) → (am_Go l D DA b sz (d + 1) M_Cutter_layPiece (3, [some (.ref 69), some (.ref 2), some (.int p2), some (.int p3), some (.int (p4 + 1)), none, none], [], (am_TT true L, am_RR true, σ1)) r X')) ∧ (¬ ((σ1 (19 + Int32.toNatClampNeg p4) 6) = 0) → (∃ (r2 : Int32) (σ2 : Nat → Nat → Int32), am_Go l D DA b sz d M_Cutter_blockOf (0, [some (.int (σ1 (19 + Int32.toNatClampNeg p4) 1)), some (.int (σ1 (19 + Int32.toNatClampNeg p4) 0)), some (.int (σ1 (19 + Int32.toNatClampNeg p4) 2))], [], (am_TT true L, am_RR true, σ1)) (some (.int r2)) (am_TT true L, am_RR true, σ2) ∧ (((r2 = p2) → ((((σ2 69 4) < 0) → (r = some (.int 1) ∧ X' = (am_TT true L, am_RR true, σ2))) ∧ (¬ ((σ2 69 4) < 0) → (((4096 ≤ (σ2 69 4)) → (r = some (.int 1) ∧ X' = (am_TT true L, am_RR true, σ2))) ∧ (¬ (4096 ≤ (σ2 69 4)) → ((¬ ((σ2 69 4) < 0 ∨ 4096 ≤ Int32.toNatClampNeg (σ2 69 4))) ∧ (r = some (.int 1) ∧ X' = (am_TT true L, am_RR true, am_us (am_us σ2 71 (Int32.toNatClampNeg (σ2 69 4)) (((p4 <<< (13 &&& 31 : Int32) : Int32) ||| ((if (if r1 = p2 then 1 else 0 : Int32) = 0 then 1 else 0 : Int32) <<< (12 &&& 31 : Int32) : Int32)) ||| p3)) 69 4 ((σ2 69 4) + 1))))))))) ∧ (¬ (r2 = p2) → (am_Go l D DA b sz (d + 1) M_Cutter_layPiece (3, [some (.ref 69), some (.ref 2), some (.int p2), some (.int p3), some (.int (p4 + 1)), none, none], [], (am_TT true L, am_RR true, σ2)) r X'))))))) ∧ (¬ ((if r1 = p2 then 1 else 0 : Int32) = 0) → ((((σ1 69 4) < 0) → (r = some (.int 1) ∧ X' = (am_TT true L, am_RR true, σ1))) ∧ (¬ ((σ1 69 4) < 0) → (((4096 ≤ (σ1 69 4)) → (r = some (.int 1) ∧ X' = (am_TT true L, am_RR true, σ1))) ∧ (¬ (4096 ≤ (σ1 69 4)) → ((¬ ((σ1 69 4) < 0 ∨ 4096 ≤ Int32.toNatClampNeg (σ1 69 4))) ∧ (r = some (.int 1) ∧ X' = (am_TT true L, am_RR true, am_us (am_us σ1 71 (Int32.toNatClampNeg (σ1 69 4)) (((p4 <<< (13 &&& 31 : Int32) : Int32) ||| ((if (if r1 = p2 then 1 else 0 : Int32) = 0 then 1 else 0 : Int32) <<< (12 &&& 31 : Int32) : Int32)) ||| p3)) 69 4 ((σ1 69 4) + 1)))))))))))) ∧ (¬ ((σ (19 + Int32.toNatClampNeg p4) 7) = (σ 70 (Int32.toNatClampNeg p2))) → (am_Go l D DA b sz (d + 1) M_Cutter_layPiece (3, [some (.ref 69), some (.ref 2), some (.int p2), some (.int p3), some (.int (p4 + 1)), none, none], [], (am_TT true L, am_RR true, σ)) r X'))))))) :
    am_Go l D DA b sz (d + 1) M_Cutter_layPiece (3, [some (.ref 69), some (.ref 2), some (.int p2), some (.int p3), some (.int p4), none, none], [], (am_TT true L, am_RR true, σ)) r X' := by
  refine go_steps q_Cutter_layPiece kc_Cutter_layPiece 4 rfl ?_
  refine go_if (fun hb => ?_) (fun hb => ?_)
  · have hb : (σ 2 2) ≤ p4 := hb
    replace hv := hv.1 hb
    refine go_steps q_Cutter_layPiece kc_Cutter_layPiece 1 rfl ?_
    obtain ⟨rfl, rfl⟩ := hv
    exact go_retI q_Cutter_layPiece kc_Cutter_layPiece rfl rfl rfl
  · have hb : ¬ ((σ 2 2) ≤ p4) := hb
    replace hv := hv.2 hb
    refine go_steps q_Cutter_layPiece kc_Cutter_layPiece 3 rfl ?_
    obtain ⟨hc1, hv⟩ := hv
    refine go_aaload q_Cutter_layPiece kc_Cutter_layPiece rfl rfl hc1 (am_rr4 (am_inb hc1)) ?_
    refine go_steps q_Cutter_layPiece kc_Cutter_layPiece 2 rfl ?_
    refine go_getI q_Cutter_layPiece kc_Cutter_layPiece rfl (am_tt_box (am_inb hc1)) rfl ?_
    refine go_steps q_Cutter_layPiece kc_Cutter_layPiece 3 rfl ?_
    obtain ⟨hc2, hv⟩ := hv
    refine go_iaload q_Cutter_layPiece kc_Cutter_layPiece rfl rfl hc2 ?_
    refine go_steps q_Cutter_layPiece kc_Cutter_layPiece 1 rfl ?_
    refine go_if (fun hb => ?_) (fun hb => ?_)
    · have hb : (σ (19 + Int32.toNatClampNeg p4) 7) = (σ 70 (Int32.toNatClampNeg p2)) := hb
      replace hv := hv.1 hb
      refine go_steps q_Cutter_layPiece kc_Cutter_layPiece 1 rfl ?_
      refine go_getI q_Cutter_layPiece kc_Cutter_layPiece rfl (am_tt_box (am_inb hc1)) rfl ?_
      refine go_steps q_Cutter_layPiece kc_Cutter_layPiece 1 rfl ?_
      refine go_getI q_Cutter_layPiece kc_Cutter_layPiece rfl (am_tt_box (am_inb hc1)) rfl ?_
      refine go_steps q_Cutter_layPiece kc_Cutter_layPiece 1 rfl ?_
      refine go_getI q_Cutter_layPiece kc_Cutter_layPiece rfl (am_tt_box (am_inb hc1)) rfl ?_
      obtain ⟨r1, σ1, hg, hv⟩ := hv
      refine go_callS q_Cutter_layPiece kc_Cutter_layPiece rfl q_Cutter_blockOf am_k73 rfl rfl rfl (Nat.le_of_ble_eq_true rfl) (Nat.le_of_ble_eq_true rfl) hg ?_
      refine go_steps q_Cutter_layPiece kc_Cutter_layPiece 2 rfl ?_
      have key : am_Go l D DA b sz (d + 1) M_Cutter_layPiece (65, [some (.ref 69), some (.ref 2), some (.int p2), some (.int p3), some (.int p4), some (.ref (19 + Int32.toNatClampNeg p4)), none], [.int (if r1 = p2 then 1 else 0 : Int32)], (am_TT true L, am_RR true, σ1)) r X' := by
        refine go_steps q_Cutter_layPiece kc_Cutter_layPiece 3 rfl ?_
        refine go_if (fun hb => ?_) (fun hb => ?_)
        · have hb : (if r1 = p2 then 1 else 0 : Int32) = 0 := hb
          replace hv := hv.1 hb
          refine go_steps q_Cutter_layPiece kc_Cutter_layPiece 1 rfl ?_
          refine go_getI q_Cutter_layPiece kc_Cutter_layPiece rfl (am_tt_box (am_inb hc1)) rfl ?_
          refine go_steps q_Cutter_layPiece kc_Cutter_layPiece 1 rfl ?_
          refine go_if (fun hb => ?_) (fun hb => ?_)
          · have hb : (σ1 (19 + Int32.toNatClampNeg p4) 6) = 0 := hb
            replace hv := hv.1 hb
            refine go_steps q_Cutter_layPiece kc_Cutter_layPiece 2 rfl ?_
            refine go_le (L1 := [some (.ref 69), some (.ref 2), some (.int p2), some (.int p3), some (.int (p4 + 1)), none, none]) (by repeat (first | exact trivial | refine ⟨rfl, ?_⟩)) ?_
            exact hv
          · have hb : ¬ ((σ1 (19 + Int32.toNatClampNeg p4) 6) = 0) := hb
            replace hv := hv.2 hb
            refine go_steps q_Cutter_layPiece kc_Cutter_layPiece 1 rfl ?_
            refine go_getI q_Cutter_layPiece kc_Cutter_layPiece rfl (am_tt_box (am_inb hc1)) rfl ?_
            refine go_steps q_Cutter_layPiece kc_Cutter_layPiece 1 rfl ?_
            refine go_getI q_Cutter_layPiece kc_Cutter_layPiece rfl (am_tt_box (am_inb hc1)) rfl ?_
            refine go_steps q_Cutter_layPiece kc_Cutter_layPiece 1 rfl ?_
            refine go_getI q_Cutter_layPiece kc_Cutter_layPiece rfl (am_tt_box (am_inb hc1)) rfl ?_
            obtain ⟨r2, σ2, hg, hv⟩ := hv
            refine go_callS q_Cutter_layPiece kc_Cutter_layPiece rfl q_Cutter_blockOf am_k73 rfl rfl rfl (Nat.le_of_ble_eq_true rfl) (Nat.le_of_ble_eq_true rfl) hg ?_
            refine go_steps q_Cutter_layPiece kc_Cutter_layPiece 2 rfl ?_
            refine go_if (fun hb => ?_) (fun hb => ?_)
            · have hb : r2 = p2 := hb
              replace hv := hv.1 hb
              refine go_steps q_Cutter_layPiece kc_Cutter_layPiece 3 rfl ?_
              refine go_if (fun hb => ?_) (fun hb => ?_)
              · have hb : (σ2 69 4) < 0 := hb
                replace hv := hv.1 hb
                refine go_steps q_Cutter_layPiece kc_Cutter_layPiece 1 rfl ?_
                obtain ⟨rfl, rfl⟩ := hv
                exact go_retI q_Cutter_layPiece kc_Cutter_layPiece rfl rfl rfl
              · have hb : ¬ ((σ2 69 4) < 0) := hb
                replace hv := hv.2 hb
                refine go_steps q_Cutter_layPiece kc_Cutter_layPiece 4 rfl ?_
                refine go_if (fun hb => ?_) (fun hb => ?_)
                · have hb : 4096 ≤ (σ2 69 4) := hb
                  replace hv := hv.1 hb
                  refine go_steps q_Cutter_layPiece kc_Cutter_layPiece 1 rfl ?_
                  obtain ⟨rfl, rfl⟩ := hv
                  exact go_retI q_Cutter_layPiece kc_Cutter_layPiece rfl rfl rfl
                · have hb : ¬ (4096 ≤ (σ2 69 4)) := hb
                  replace hv := hv.2 hb
                  refine go_steps q_Cutter_layPiece kc_Cutter_layPiece 9 rfl ?_
                  have key : am_Go l D DA b sz (d + 1) M_Cutter_layPiece (142, [some (.ref 69), some (.ref 2), some (.int p2), some (.int p3), some (.int p4), some (.ref (19 + Int32.toNatClampNeg p4)), some (.int (if r1 = p2 then 1 else 0 : Int32))], [.int (if (if r1 = p2 then 1 else 0 : Int32) = 0 then 1 else 0 : Int32), .int (p4 <<< (13 &&& 31 : Int32) : Int32), .int (σ2 69 4), .ref 71], (am_TT true L, am_RR true, σ2)) r X' := by
                    refine go_steps q_Cutter_layPiece kc_Cutter_layPiece 5 rfl ?_
                    obtain ⟨hc, hv⟩ := hv
                    refine go_iastore q_Cutter_layPiece kc_Cutter_layPiece rfl rfl hc ?_
                    refine go_steps q_Cutter_layPiece kc_Cutter_layPiece 7 rfl ?_
                    obtain ⟨rfl, rfl⟩ := hv
                    exact go_retI q_Cutter_layPiece kc_Cutter_layPiece rfl rfl rfl
                  refine go_if (fun hb => ?_) (fun hb => ?_)
                  · have hb : (if r1 = p2 then 1 else 0 : Int32) = 0 := hb
                    rw [show (if (if r1 = p2 then 1 else 0 : Int32) = 0 then 1 else 0 : Int32) = 1 from if_pos hb] at key
                    refine go_steps q_Cutter_layPiece kc_Cutter_layPiece 1 rfl ?_
                    exact key
                  · have hb : ¬ ((if r1 = p2 then 1 else 0 : Int32) = 0) := hb
                    rw [show (if (if r1 = p2 then 1 else 0 : Int32) = 0 then 1 else 0 : Int32) = 0 from if_neg hb] at key
                    refine go_steps q_Cutter_layPiece kc_Cutter_layPiece 2 rfl ?_
                    exact key
            · have hb : ¬ (r2 = p2) := hb
              replace hv := hv.2 hb
              refine go_steps q_Cutter_layPiece kc_Cutter_layPiece 2 rfl ?_
              refine go_le (L1 := [some (.ref 69), some (.ref 2), some (.int p2), some (.int p3), some (.int (p4 + 1)), none, none]) (by repeat (first | exact trivial | refine ⟨rfl, ?_⟩)) ?_
              exact hv
        · have hb : ¬ ((if r1 = p2 then 1 else 0 : Int32) = 0) := hb
          replace hv := hv.2 hb
          refine go_steps q_Cutter_layPiece kc_Cutter_layPiece 3 rfl ?_
          refine go_if (fun hb => ?_) (fun hb => ?_)
          · have hb : (σ1 69 4) < 0 := hb
            replace hv := hv.1 hb
            refine go_steps q_Cutter_layPiece kc_Cutter_layPiece 1 rfl ?_
            obtain ⟨rfl, rfl⟩ := hv
            exact go_retI q_Cutter_layPiece kc_Cutter_layPiece rfl rfl rfl
          · have hb : ¬ ((σ1 69 4) < 0) := hb
            replace hv := hv.2 hb
            refine go_steps q_Cutter_layPiece kc_Cutter_layPiece 4 rfl ?_
            refine go_if (fun hb => ?_) (fun hb => ?_)
            · have hb : 4096 ≤ (σ1 69 4) := hb
              replace hv := hv.1 hb
              refine go_steps q_Cutter_layPiece kc_Cutter_layPiece 1 rfl ?_
              obtain ⟨rfl, rfl⟩ := hv
              exact go_retI q_Cutter_layPiece kc_Cutter_layPiece rfl rfl rfl
            · have hb : ¬ (4096 ≤ (σ1 69 4)) := hb
              replace hv := hv.2 hb
              refine go_steps q_Cutter_layPiece kc_Cutter_layPiece 9 rfl ?_
              have key : am_Go l D DA b sz (d + 1) M_Cutter_layPiece (142, [some (.ref 69), some (.ref 2), some (.int p2), some (.int p3), some (.int p4), some (.ref (19 + Int32.toNatClampNeg p4)), some (.int (if r1 = p2 then 1 else 0 : Int32))], [.int (if (if r1 = p2 then 1 else 0 : Int32) = 0 then 1 else 0 : Int32), .int (p4 <<< (13 &&& 31 : Int32) : Int32), .int (σ1 69 4), .ref 71], (am_TT true L, am_RR true, σ1)) r X' := by
                refine go_steps q_Cutter_layPiece kc_Cutter_layPiece 5 rfl ?_
                obtain ⟨hc, hv⟩ := hv
                refine go_iastore q_Cutter_layPiece kc_Cutter_layPiece rfl rfl hc ?_
                refine go_steps q_Cutter_layPiece kc_Cutter_layPiece 7 rfl ?_
                obtain ⟨rfl, rfl⟩ := hv
                exact go_retI q_Cutter_layPiece kc_Cutter_layPiece rfl rfl rfl
              refine go_if (fun hb => ?_) (fun hb => ?_)
              · have hb : (if r1 = p2 then 1 else 0 : Int32) = 0 := hb
                rw [show (if (if r1 = p2 then 1 else 0 : Int32) = 0 then 1 else 0 : Int32) = 1 from if_pos hb] at key
                refine go_steps q_Cutter_layPiece kc_Cutter_layPiece 1 rfl ?_
                exact key
              · have hb : ¬ ((if r1 = p2 then 1 else 0 : Int32) = 0) := hb
                rw [show (if (if r1 = p2 then 1 else 0 : Int32) = 0 then 1 else 0 : Int32) = 0 from if_neg hb] at key
                refine go_steps q_Cutter_layPiece kc_Cutter_layPiece 2 rfl ?_
                exact key
      refine go_if (fun hb => ?_) (fun hb => ?_)
      · have hb : r1 = p2 := hb
        rw [show (if r1 = p2 then 1 else 0 : Int32) = 1 from if_pos hb] at key
        refine go_steps q_Cutter_layPiece kc_Cutter_layPiece 2 rfl ?_
        exact key
      · have hb : ¬ (r1 = p2) := hb
        rw [show (if r1 = p2 then 1 else 0 : Int32) = 0 from if_neg hb] at key
        refine go_steps q_Cutter_layPiece kc_Cutter_layPiece 1 rfl ?_
        exact key
    · have hb : ¬ ((σ (19 + Int32.toNatClampNeg p4) 7) = (σ 70 (Int32.toNatClampNeg p2))) := hb
      replace hv := hv.2 hb
      refine go_steps q_Cutter_layPiece kc_Cutter_layPiece 3 rfl ?_
      refine go_le (L1 := [some (.ref 69), some (.ref 2), some (.int p2), some (.int p3), some (.int (p4 + 1)), none, none]) (by repeat (first | exact trivial | refine ⟨rfl, ?_⟩)) ?_
      exact hv
set_option maxHeartbeats 4000000 in
set_option maxRecDepth 100000 in
theorem v_Cutter_firstCut_0 {l : Launch} {D : va_G} {DA : Nat → ClassId} {b sz d L : Nat} {σ : Nat → Nat → Int32} {r : Option Value} {X' : am_X} (p1 : Int32)
    (hv : am_Go l D DA b sz (d + 1) M_Cutter_firstCut (3, [some (.ref 69), some (.int p1), some (.int 8), none, none], [], (am_TT true L, am_RR true, σ)) r X') :
    am_Go l D DA b sz (d + 1) M_Cutter_firstCut (0, [some (.ref 69), some (.int p1), none, none, none], [], (am_TT true L, am_RR true, σ)) r X' := by
  refine go_steps q_Cutter_firstCut kc_Cutter_firstCut 2 rfl ?_
  refine go_le (L1 := [some (.ref 69), some (.int p1), some (.int 8), none, none]) (by repeat (first | exact trivial | refine ⟨rfl, ?_⟩)) ?_
  exact hv
set_option maxHeartbeats 4000000 in
set_option maxRecDepth 100000 in
theorem v_Cutter_firstCut_3 {l : Launch} {D : va_G} {DA : Nat → ClassId} {b sz d L : Nat} {σ : Nat → Nat → Int32} {r : Option Value} {X' : am_X} (p1 : Int32) (p2 : Int32)
    (hv : ((p2 < 0) → (r = some (.int 0) ∧ X' = (am_TT true L, am_RR true, σ))) ∧ (¬ (p2 < 0) → (am_Go l D DA b sz (d + 1) M_Cutter_firstCut (19, [some (.ref 69), some (.int p1), some (.int p2), some (.int (((p1 >>> (p2 &&& 31 : Int32) : Int32) &&& 15) + 1)), some (.int 1)], [], (am_TT true L, am_RR true, σ)) r X'))) :
    am_Go l D DA b sz (d + 1) M_Cutter_firstCut (3, [some (.ref 69), some (.int p1), some (.int p2), none, none], [], (am_TT true L, am_RR true, σ)) r X' := by
  refine go_steps q_Cutter_firstCut kc_Cutter_firstCut 2 rfl ?_
  refine go_if (fun hb => ?_) (fun hb => ?_)
  · have hb : p2 < 0 := hb
    replace hv := hv.1 hb
    refine go_steps q_Cutter_firstCut kc_Cutter_firstCut 1 rfl ?_
    obtain ⟨rfl, rfl⟩ := hv
    exact go_retI q_Cutter_firstCut kc_Cutter_firstCut rfl rfl rfl
  · have hb : ¬ (p2 < 0) := hb
    replace hv := hv.2 hb
    refine go_steps q_Cutter_firstCut kc_Cutter_firstCut 10 rfl ?_
    refine go_le (L1 := [some (.ref 69), some (.int p1), some (.int p2), some (.int (((p1 >>> (p2 &&& 31 : Int32) : Int32) &&& 15) + 1)), some (.int 1)]) (by repeat (first | exact trivial | refine ⟨rfl, ?_⟩)) ?_
    exact hv
set_option maxHeartbeats 4000000 in
set_option maxRecDepth 100000 in
theorem v_Cutter_firstCut_19 {l : Launch} {D : va_G} {DA : Nat → ClassId} {b sz d L : Nat} {σ : Nat → Nat → Int32} {r : Option Value} {X' : am_X} (p1 : Int32) (p2 : Int32) (p3 : Int32) (p4 : Int32)
    (hv : ((p3 < (2 * p4)) → (am_Go l D DA b sz (d + 1) M_Cutter_firstCut (3, [some (.ref 69), some (.int p1), some (.int (p2 + (-4))), none, none], [], (am_TT true L, am_RR true, σ)) r X')) ∧ (¬ (p3 < (2 * p4)) → (∃ (r1 : Int32) (σ1 : Nat → Nat → Int32), am_Go l D DA b sz d M_Cutter_aheadOf (0, [some (.int p1), some (.int p4), some (.int p2)], [], (am_TT true L, am_RR true, σ)) (some (.int r1)) (am_TT true L, am_RR true, σ1) ∧ ((¬ (r1 < 0 ∨ 4096 ≤ Int32.toNatClampNeg r1)) ∧ ((¬ ((p1 - (p4 <<< (p2 &&& 31 : Int32) : Int32)) < 0 ∨ 4096 ≤ Int32.toNatClampNeg (p1 - (p4 <<< (p2 &&& 31 : Int32) : Int32)))) ∧ ((¬ (p1 < 0 ∨ 4096 ≤ Int32.toNatClampNeg p1)) ∧ (((((σ1 70 (Int32.toNatClampNeg r1)) + (σ1 70 (Int32.toNatClampNeg (p1 - (p4 <<< (p2 &&& 31 : Int32) : Int32))))) = (σ1 70 (Int32.toNatClampNeg p1))) → (r = some (.int ((p4 <<< (4 &&& 31 : Int32) : Int32) ||| p2)) ∧ X' = (am_TT true L, am_RR true, σ1))) ∧ (¬ (((σ1 70 (Int32.toNatClampNeg r1)) + (σ1 70 (Int32.toNatClampNeg (p1 - (p4 <<< (p2 &&& 31 : Int32) : Int32))))) = (σ1 70 (Int32.toNatClampNeg p1))) → (am_Go l D DA b sz (d + 1) M_Cutter_firstCut (19, [some (.ref 69), some (.int p1), some (.int p2), some (.int p3), some (.int (p4 + 1))], [], (am_TT true L, am_RR true, σ1)) r X'))))))))) :
    am_Go l D DA b sz (d + 1) M_Cutter_firstCut (19, [some (.ref 69), some (.int p1), some (.int p2), some (.int p3), some (.int p4)], [], (am_TT true L, am_RR true, σ)) r X' := by
  refine go_steps q_Cutter_firstCut kc_Cutter_firstCut 5 rfl ?_
  refine go_if (fun hb => ?_) (fun hb => ?_)
  · have hb : p3 < (2 * p4) := hb
    replace hv := hv.1 hb
    refine go_steps q_Cutter_firstCut kc_Cutter_firstCut 2 rfl ?_
    refine go_le (L1 := [some (.ref 69), some (.int p1), some (.int (p2 + (-4))), none, none]) (by repeat (first | exact trivial | refine ⟨rfl, ?_⟩)) ?_
    exact hv
  · have hb : ¬ (p3 < (2 * p4)) := hb
    replace hv := hv.2 hb
    refine go_steps q_Cutter_firstCut kc_Cutter_firstCut 5 rfl ?_
    obtain ⟨r1, σ1, hg, hv⟩ := hv
    refine go_callS q_Cutter_firstCut kc_Cutter_firstCut rfl q_Cutter_aheadOf am_k79 rfl rfl rfl (Nat.le_of_ble_eq_true rfl) (Nat.le_of_ble_eq_true rfl) hg ?_
    obtain ⟨hc1, hv⟩ := hv
    refine go_iaload q_Cutter_firstCut kc_Cutter_firstCut rfl rfl hc1 ?_
    refine go_steps q_Cutter_firstCut kc_Cutter_firstCut 7 rfl ?_
    obtain ⟨hc2, hv⟩ := hv
    refine go_iaload q_Cutter_firstCut kc_Cutter_firstCut rfl rfl hc2 ?_
    refine go_steps q_Cutter_firstCut kc_Cutter_firstCut 4 rfl ?_
    obtain ⟨hc3, hv⟩ := hv
    refine go_iaload q_Cutter_firstCut kc_Cutter_firstCut rfl rfl hc3 ?_
    refine go_steps q_Cutter_firstCut kc_Cutter_firstCut 1 rfl ?_
    refine go_if (fun hb => ?_) (fun hb => ?_)
    · have hb : ((σ1 70 (Int32.toNatClampNeg r1)) + (σ1 70 (Int32.toNatClampNeg (p1 - (p4 <<< (p2 &&& 31 : Int32) : Int32))))) = (σ1 70 (Int32.toNatClampNeg p1)) := hb
      replace hv := hv.1 hb
      refine go_steps q_Cutter_firstCut kc_Cutter_firstCut 5 rfl ?_
      obtain ⟨rfl, rfl⟩ := hv
      exact go_retI q_Cutter_firstCut kc_Cutter_firstCut rfl rfl rfl
    · have hb : ¬ (((σ1 70 (Int32.toNatClampNeg r1)) + (σ1 70 (Int32.toNatClampNeg (p1 - (p4 <<< (p2 &&& 31 : Int32) : Int32))))) = (σ1 70 (Int32.toNatClampNeg p1))) := hb
      replace hv := hv.2 hb
      refine go_steps q_Cutter_firstCut kc_Cutter_firstCut 2 rfl ?_
      refine go_le (L1 := [some (.ref 69), some (.int p1), some (.int p2), some (.int p3), some (.int (p4 + 1))]) (by repeat (first | exact trivial | refine ⟨rfl, ?_⟩)) ?_
      exact hv
set_option maxHeartbeats 4000000 in
set_option maxRecDepth 100000 in
theorem v_Bounds_judge_0 {l : Launch} {D : va_G} {DA : Nat → ClassId} {b sz d L : Nat} {cu : Bool} {σ : Nat → Nat → Int32} {r : Option Value} {X' : am_X} (p2 : Int32)
    (hv : am_Go l D DA b sz (d + 1) M_Bounds_judge (30, [some (.ref 43), some (.ref 2), some (.int p2), some (.int (((σ 3 0) * (σ 3 1)) * (σ 3 2))), some (.int 0), some (.int 0)], [], (am_TT cu L, am_RR cu, σ)) r X') :
    am_Go l D DA b sz (d + 1) M_Bounds_judge (0, [some (.ref 43), some (.ref 2), some (.int p2), none, none, none], [], (am_TT cu L, am_RR cu, σ)) r X' := by
  refine go_steps q_Bounds_judge kc_Bounds_judge 16 rfl ?_
  refine go_le (L1 := [some (.ref 43), some (.ref 2), some (.int p2), some (.int (((σ 3 0) * (σ 3 1)) * (σ 3 2))), some (.int 0), some (.int 0)]) (by repeat (first | exact trivial | refine ⟨rfl, ?_⟩)) ?_
  exact hv
set_option maxHeartbeats 4000000 in
set_option maxRecDepth 100000 in
theorem v_Bounds_judge_30 {l : Launch} {D : va_G} {DA : Nat → ClassId} {b sz d L : Nat} {cu : Bool} {σ : Nat → Nat → Int32} {r : Option Value} {X' : am_X} (p2 : Int32) (p3 : Int32) (p4 : Int32) (p5 : Int32)
    (hv : (((σ 2 2) ≤ p5) → (((1 ≤ p3) → ((¬ p3 = 0) ∧ (∃ (σ1 : Nat → Nat → Int32), am_Go l D DA b sz d M_Bounds_findApart (0, [some (.ref 43), some (.ref 2), some (.int p2), none, none], [], (am_TT cu L, am_RR cu, am_us (am_us (am_us (am_us σ 43 0 1) 43 1 (((p4 + p3) - 1) / p3)) 43 2 0) 43 3 0)) none (am_TT cu L, am_RR cu, σ1) ∧ ((∃ (σ2 : Nat → Nat → Int32), am_Go l D DA b sz d M_Bounds_findBig (0, [some (.ref 43), some (.int p2), some (.int 0), some (.int (σ1 2 2)), none, none], [], (am_TT cu L, am_RR cu, σ1)) none (am_TT cu L, am_RR cu, σ2) ∧ (r = none ∧ X' = (am_TT cu L, am_RR cu, σ2))))))) ∧ (¬ (1 ≤ p3) → (∃ (σ3 : Nat → Nat → Int32), am_Go l D DA b sz d M_Bounds_findApart (0, [some (.ref 43), some (.ref 2), some (.int p2), none, none], [], (am_TT cu L, am_RR cu, am_us (am_us (am_us (am_us σ 43 0 1) 43 1 0) 43 2 0) 43 3 0)) none (am_TT cu L, am_RR cu, σ3) ∧ ((∃ (σ4 : Nat → Nat → Int32), am_Go l D DA b sz d M_Bounds_findBig (0, [some (.ref 43), some (.int p2), some (.int 0), some (.int (σ3 2 2)), none, none], [], (am_TT cu L, am_RR cu, σ3)) none (am_TT cu L, am_RR cu, σ4) ∧ (r = none ∧ X' = (am_TT cu L, am_RR cu, σ4)))))))) ∧ (¬ ((σ 2 2) ≤ p5) → (((((p2 >>> (p5 &&& 31 : Int32) : Int32) &&& 1) = (0 : Int32)) → (am_Go l D DA b sz (d + 1) M_Bounds_judge (30, [some (.ref 43), some (.ref 2), some (.int p2), some (.int p3), some (.int p4), some (.int (p5 + 1))], [], (am_TT cu L, am_RR cu, σ)) r X')) ∧ (¬ (((p2 >>> (p5 &&& 31 : Int32) : Int32) &&& 1) = (0 : Int32)) → ((¬ (p5 < 0 ∨ 20 ≤ Int32.toNatClampNeg p5)) ∧ (∃ (r5 : Int32) (σ5 : Nat → Nat → Int32), am_Go l D DA b sz d M_Box_volume (0, [some (.ref (19 + Int32.toNatClampNeg p5))], [], (am_TT cu L, am_RR cu, σ)) (some (.int r5)) (am_TT cu L, am_RR cu, σ5) ∧ ((∃ (σ6 : Nat → Nat → Int32), am_Go l D DA b sz d M_Bounds_measure (0, [some (.ref 43), some (.ref 2), some (.int p5), none, none, none], [], (am_TT cu L, am_RR cu, σ5)) none (am_TT cu L, am_RR cu, σ6) ∧ (am_Go l D DA b sz (d + 1) M_Bounds_judge (30, [some (.ref 43), some (.ref 2), some (.int p2), some (.int p3), some (.int (p4 + r5)), some (.int (p5 + 1))], [], (am_TT cu L, am_RR cu, σ6)) r X'))))))))) :
    am_Go l D DA b sz (d + 1) M_Bounds_judge (30, [some (.ref 43), some (.ref 2), some (.int p2), some (.int p3), some (.int p4), some (.int p5)], [], (am_TT cu L, am_RR cu, σ)) r X' := by
  refine go_steps q_Bounds_judge kc_Bounds_judge 4 rfl ?_
  refine go_if (fun hb => ?_) (fun hb => ?_)
  · have hb : (σ 2 2) ≤ p5 := hb
    replace hv := hv.1 hb
    refine go_steps q_Bounds_judge kc_Bounds_judge 7 rfl ?_
    refine go_if (fun hb => ?_) (fun hb => ?_)
    · have hb : 1 ≤ p3 := hb
      replace hv := hv.1 hb
      refine go_steps q_Bounds_judge kc_Bounds_judge 6 rfl ?_
      obtain ⟨hc, hv⟩ := hv
      refine go_idiv q_Bounds_judge kc_Bounds_judge rfl hc ?_
      refine go_steps q_Bounds_judge kc_Bounds_judge 10 rfl ?_
      obtain ⟨σ1, hg, hv⟩ := hv
      refine go_callV q_Bounds_judge kc_Bounds_judge rfl q_Bounds_findApart am_k91 ⟨rfl, rfl, by decide⟩ rfl rfl (Nat.le_of_ble_eq_true rfl) (Nat.le_of_ble_eq_true rfl) rfl rfl hg ?_
      refine go_steps q_Bounds_judge kc_Bounds_judge 5 rfl ?_
      obtain ⟨σ2, hg, hv⟩ := hv
      refine go_callV q_Bounds_judge kc_Bounds_judge rfl q_Bounds_findBig am_k93 ⟨rfl, rfl, by decide⟩ rfl rfl (Nat.le_of_ble_eq_true rfl) (Nat.le_of_ble_eq_true rfl) rfl rfl hg ?_
      obtain ⟨rfl, rfl⟩ := hv
      exact go_retV q_Bounds_judge kc_Bounds_judge rfl rfl
    · have hb : ¬ (1 ≤ p3) := hb
      replace hv := hv.2 hb
      refine go_steps q_Bounds_judge kc_Bounds_judge 12 rfl ?_
      obtain ⟨σ3, hg, hv⟩ := hv
      refine go_callV q_Bounds_judge kc_Bounds_judge rfl q_Bounds_findApart am_k91 ⟨rfl, rfl, by decide⟩ rfl rfl (Nat.le_of_ble_eq_true rfl) (Nat.le_of_ble_eq_true rfl) rfl rfl hg ?_
      refine go_steps q_Bounds_judge kc_Bounds_judge 5 rfl ?_
      obtain ⟨σ4, hg, hv⟩ := hv
      refine go_callV q_Bounds_judge kc_Bounds_judge rfl q_Bounds_findBig am_k93 ⟨rfl, rfl, by decide⟩ rfl rfl (Nat.le_of_ble_eq_true rfl) (Nat.le_of_ble_eq_true rfl) rfl rfl hg ?_
      obtain ⟨rfl, rfl⟩ := hv
      exact go_retV q_Bounds_judge kc_Bounds_judge rfl rfl
  · have hb : ¬ ((σ 2 2) ≤ p5) := hb
    replace hv := hv.2 hb
    refine go_steps q_Bounds_judge kc_Bounds_judge 6 rfl ?_
    refine go_if (fun hb => ?_) (fun hb => ?_)
    · have hb : ((p2 >>> (p5 &&& 31 : Int32) : Int32) &&& 1) = (0 : Int32) := hb
      replace hv := hv.1 hb
      refine go_steps q_Bounds_judge kc_Bounds_judge 2 rfl ?_
      refine go_le (L1 := [some (.ref 43), some (.ref 2), some (.int p2), some (.int p3), some (.int p4), some (.int (p5 + 1))]) (by repeat (first | exact trivial | refine ⟨rfl, ?_⟩)) ?_
      exact hv
    · have hb : ¬ (((p2 >>> (p5 &&& 31 : Int32) : Int32) &&& 1) = (0 : Int32)) := hb
      replace hv := hv.2 hb
      refine go_steps q_Bounds_judge kc_Bounds_judge 4 rfl ?_
      obtain ⟨hc1, hv⟩ := hv
      refine go_aaload q_Bounds_judge kc_Bounds_judge rfl rfl hc1 (am_rr4 (am_inb hc1)) ?_
      obtain ⟨r5, σ5, hg, hv⟩ := hv
      refine go_callV q_Bounds_judge kc_Bounds_judge rfl q_Box_volume am_k88 ⟨rfl, rfl, by decide⟩ rfl rfl (Nat.le_of_ble_eq_true rfl) (Nat.le_of_ble_eq_true rfl) rfl (am_tt_box (am_inb hc1)) hg ?_
      refine go_steps q_Bounds_judge kc_Bounds_judge 5 rfl ?_
      obtain ⟨σ6, hg, hv⟩ := hv
      refine go_callV q_Bounds_judge kc_Bounds_judge rfl q_Bounds_measure am_k89 ⟨rfl, rfl, by decide⟩ rfl rfl (Nat.le_of_ble_eq_true rfl) (Nat.le_of_ble_eq_true rfl) rfl rfl hg ?_
      refine go_steps q_Bounds_judge kc_Bounds_judge 2 rfl ?_
      refine go_le (L1 := [some (.ref 43), some (.ref 2), some (.int p2), some (.int p3), some (.int (p4 + r5)), some (.int (p5 + 1))]) (by repeat (first | exact trivial | refine ⟨rfl, ?_⟩)) ?_
      exact hv
set_option maxHeartbeats 4000000 in
set_option maxRecDepth 100000 in
theorem v_Bounds_measure_0 {l : Launch} {D : va_G} {DA : Nat → ClassId} {b sz d L : Nat} {cu : Bool} {σ : Nat → Nat → Int32} {r : Option Value} {X' : am_X} (p2 : Int32)
    (hv : (¬ (p2 < 0 ∨ 20 ≤ Int32.toNatClampNeg p2)) ∧ (∃ (r1 : Int32) (σ1 : Nat → Nat → Int32), am_Go l D DA b sz d M_Hold_fitsEmpty (0, [some (.ref 2), some (.int p2), some (.int 0), none, none, none], [], (am_TT cu L, am_RR cu, σ)) (some (.int r1)) (am_TT cu L, am_RR cu, σ1) ∧ ((∃ (r2 : Int32) (σ2 : Nat → Nat → Int32), am_Go l D DA b sz d M_Hold_fitsEmpty (0, [some (.ref 2), some (.int p2), some (.int 1), none, none, none], [], (am_TT cu L, am_RR cu, σ1)) (some (.int r2)) (am_TT cu L, am_RR cu, σ2) ∧ ((¬ (p2 < 0 ∨ 20 ≤ Int32.toNatClampNeg p2)) ∧ ((¬ (p2 < 0 ∨ 20 ≤ Int32.toNatClampNeg p2)) ∧ (((r1 = 0) → (r = none ∧ X' = (am_TT cu L, am_RR cu, am_us (am_us σ2 44 (Int32.toNatClampNeg p2) (if r1 = 0 then σ2 (19 + Int32.toNatClampNeg p2) 1 else σ2 (19 + Int32.toNatClampNeg p2) 0 : Int32)) 45 (Int32.toNatClampNeg p2) (if r1 = 0 then (am_us σ2 44 (Int32.toNatClampNeg p2) (if r1 = 0 then σ2 (19 + Int32.toNatClampNeg p2) 1 else σ2 (19 + Int32.toNatClampNeg p2) 0 : Int32)) (19 + Int32.toNatClampNeg p2) 0 else (am_us σ2 44 (Int32.toNatClampNeg p2) (if r1 = 0 then σ2 (19 + Int32.toNatClampNeg p2) 1 else σ2 (19 + Int32.toNatClampNeg p2) 0 : Int32)) (19 + Int32.toNatClampNeg p2) 1 : Int32)))) ∧ (¬ (r1 = 0) → (((r2 = 0) → (r = none ∧ X' = (am_TT cu L, am_RR cu, am_us (am_us σ2 44 (Int32.toNatClampNeg p2) (if r1 = 0 then σ2 (19 + Int32.toNatClampNeg p2) 1 else σ2 (19 + Int32.toNatClampNeg p2) 0 : Int32)) 45 (Int32.toNatClampNeg p2) (if r1 = 0 then (am_us σ2 44 (Int32.toNatClampNeg p2) (if r1 = 0 then σ2 (19 + Int32.toNatClampNeg p2) 1 else σ2 (19 + Int32.toNatClampNeg p2) 0 : Int32)) (19 + Int32.toNatClampNeg p2) 0 else (am_us σ2 44 (Int32.toNatClampNeg p2) (if r1 = 0 then σ2 (19 + Int32.toNatClampNeg p2) 1 else σ2 (19 + Int32.toNatClampNeg p2) 0 : Int32)) (19 + Int32.toNatClampNeg p2) 1 : Int32)))) ∧ (¬ (r2 = 0) → ((¬ (p2 < 0 ∨ 20 ≤ Int32.toNatClampNeg p2)) ∧ ((¬ (p2 < 0 ∨ 20 ≤ Int32.toNatClampNeg p2)) ∧ ((¬ (p2 < 0 ∨ 20 ≤ Int32.toNatClampNeg p2)) ∧ (r = none ∧ X' = (am_TT cu L, am_RR cu, am_us (am_us (am_us (am_us σ2 44 (Int32.toNatClampNeg p2) (if r1 = 0 then σ2 (19 + Int32.toNatClampNeg p2) 1 else σ2 (19 + Int32.toNatClampNeg p2) 0 : Int32)) 45 (Int32.toNatClampNeg p2) (if r1 = 0 then (am_us σ2 44 (Int32.toNatClampNeg p2) (if r1 = 0 then σ2 (19 + Int32.toNatClampNeg p2) 1 else σ2 (19 + Int32.toNatClampNeg p2) 0 : Int32)) (19 + Int32.toNatClampNeg p2) 0 else (am_us σ2 44 (Int32.toNatClampNeg p2) (if r1 = 0 then σ2 (19 + Int32.toNatClampNeg p2) 1 else σ2 (19 + Int32.toNatClampNeg p2) 0 : Int32)) (19 + Int32.toNatClampNeg p2) 1 : Int32)) 44 (Int32.toNatClampNeg p2) (if ((am_us (am_us σ2 44 (Int32.toNatClampNeg p2) (if r1 = 0 then σ2 (19 + Int32.toNatClampNeg p2) 1 else σ2 (19 + Int32.toNatClampNeg p2) 0 : Int32)) 45 (Int32.toNatClampNeg p2) (if r1 = 0 then (am_us σ2 44 (Int32.toNatClampNeg p2) (if r1 = 0 then σ2 (19 + Int32.toNatClampNeg p2) 1 else σ2 (19 + Int32.toNatClampNeg p2) 0 : Int32)) (19 + Int32.toNatClampNeg p2) 0 else (am_us σ2 44 (Int32.toNatClampNeg p2) (if r1 = 0 then σ2 (19 + Int32.toNatClampNeg p2) 1 else σ2 (19 + Int32.toNatClampNeg p2) 0 : Int32)) (19 + Int32.toNatClampNeg p2) 1 : Int32)) (19 + Int32.toNatClampNeg p2) 1) < ((am_us (am_us σ2 44 (Int32.toNatClampNeg p2) (if r1 = 0 then σ2 (19 + Int32.toNatClampNeg p2) 1 else σ2 (19 + Int32.toNatClampNeg p2) 0 : Int32)) 45 (Int32.toNatClampNeg p2) (if r1 = 0 then (am_us σ2 44 (Int32.toNatClampNeg p2) (if r1 = 0 then σ2 (19 + Int32.toNatClampNeg p2) 1 else σ2 (19 + Int32.toNatClampNeg p2) 0 : Int32)) (19 + Int32.toNatClampNeg p2) 0 else (am_us σ2 44 (Int32.toNatClampNeg p2) (if r1 = 0 then σ2 (19 + Int32.toNatClampNeg p2) 1 else σ2 (19 + Int32.toNatClampNeg p2) 0 : Int32)) (19 + Int32.toNatClampNeg p2) 1 : Int32)) (19 + Int32.toNatClampNeg p2) 0) then ((am_us (am_us σ2 44 (Int32.toNatClampNeg p2) (if r1 = 0 then σ2 (19 + Int32.toNatClampNeg p2) 1 else σ2 (19 + Int32.toNatClampNeg p2) 0 : Int32)) 45 (Int32.toNatClampNeg p2) (if r1 = 0 then (am_us σ2 44 (Int32.toNatClampNeg p2) (if r1 = 0 then σ2 (19 + Int32.toNatClampNeg p2) 1 else σ2 (19 + Int32.toNatClampNeg p2) 0 : Int32)) (19 + Int32.toNatClampNeg p2) 0 else (am_us σ2 44 (Int32.toNatClampNeg p2) (if r1 = 0 then σ2 (19 + Int32.toNatClampNeg p2) 1 else σ2 (19 + Int32.toNatClampNeg p2) 0 : Int32)) (19 + Int32.toNatClampNeg p2) 1 : Int32)) (19 + Int32.toNatClampNeg p2) 1) else ((am_us (am_us σ2 44 (Int32.toNatClampNeg p2) (if r1 = 0 then σ2 (19 + Int32.toNatClampNeg p2) 1 else σ2 (19 + Int32.toNatClampNeg p2) 0 : Int32)) 45 (Int32.toNatClampNeg p2) (if r1 = 0 then (am_us σ2 44 (Int32.toNatClampNeg p2) (if r1 = 0 then σ2 (19 + Int32.toNatClampNeg p2) 1 else σ2 (19 + Int32.toNatClampNeg p2) 0 : Int32)) (19 + Int32.toNatClampNeg p2) 0 else (am_us σ2 44 (Int32.toNatClampNeg p2) (if r1 = 0 then σ2 (19 + Int32.toNatClampNeg p2) 1 else σ2 (19 + Int32.toNatClampNeg p2) 0 : Int32)) (19 + Int32.toNatClampNeg p2) 1 : Int32)) (19 + Int32.toNatClampNeg p2) 0) : Int32)) 45 (Int32.toNatClampNeg p2) ((am_us (am_us (am_us σ2 44 (Int32.toNatClampNeg p2) (if r1 = 0 then σ2 (19 + Int32.toNatClampNeg p2) 1 else σ2 (19 + Int32.toNatClampNeg p2) 0 : Int32)) 45 (Int32.toNatClampNeg p2) (if r1 = 0 then (am_us σ2 44 (Int32.toNatClampNeg p2) (if r1 = 0 then σ2 (19 + Int32.toNatClampNeg p2) 1 else σ2 (19 + Int32.toNatClampNeg p2) 0 : Int32)) (19 + Int32.toNatClampNeg p2) 0 else (am_us σ2 44 (Int32.toNatClampNeg p2) (if r1 = 0 then σ2 (19 + Int32.toNatClampNeg p2) 1 else σ2 (19 + Int32.toNatClampNeg p2) 0 : Int32)) (19 + Int32.toNatClampNeg p2) 1 : Int32)) 44 (Int32.toNatClampNeg p2) (if ((am_us (am_us σ2 44 (Int32.toNatClampNeg p2) (if r1 = 0 then σ2 (19 + Int32.toNatClampNeg p2) 1 else σ2 (19 + Int32.toNatClampNeg p2) 0 : Int32)) 45 (Int32.toNatClampNeg p2) (if r1 = 0 then (am_us σ2 44 (Int32.toNatClampNeg p2) (if r1 = 0 then σ2 (19 + Int32.toNatClampNeg p2) 1 else σ2 (19 + Int32.toNatClampNeg p2) 0 : Int32)) (19 + Int32.toNatClampNeg p2) 0 else (am_us σ2 44 (Int32.toNatClampNeg p2) (if r1 = 0 then σ2 (19 + Int32.toNatClampNeg p2) 1 else σ2 (19 + Int32.toNatClampNeg p2) 0 : Int32)) (19 + Int32.toNatClampNeg p2) 1 : Int32)) (19 + Int32.toNatClampNeg p2) 1) < ((am_us (am_us σ2 44 (Int32.toNatClampNeg p2) (if r1 = 0 then σ2 (19 + Int32.toNatClampNeg p2) 1 else σ2 (19 + Int32.toNatClampNeg p2) 0 : Int32)) 45 (Int32.toNatClampNeg p2) (if r1 = 0 then (am_us σ2 44 (Int32.toNatClampNeg p2) (if r1 = 0 then σ2 (19 + Int32.toNatClampNeg p2) 1 else σ2 (19 + Int32.toNatClampNeg p2) 0 : Int32)) (19 + Int32.toNatClampNeg p2) 0 else (am_us σ2 44 (Int32.toNatClampNeg p2) (if r1 = 0 then σ2 (19 + Int32.toNatClampNeg p2) 1 else σ2 (19 + Int32.toNatClampNeg p2) 0 : Int32)) (19 + Int32.toNatClampNeg p2) 1 : Int32)) (19 + Int32.toNatClampNeg p2) 0) then ((am_us (am_us σ2 44 (Int32.toNatClampNeg p2) (if r1 = 0 then σ2 (19 + Int32.toNatClampNeg p2) 1 else σ2 (19 + Int32.toNatClampNeg p2) 0 : Int32)) 45 (Int32.toNatClampNeg p2) (if r1 = 0 then (am_us σ2 44 (Int32.toNatClampNeg p2) (if r1 = 0 then σ2 (19 + Int32.toNatClampNeg p2) 1 else σ2 (19 + Int32.toNatClampNeg p2) 0 : Int32)) (19 + Int32.toNatClampNeg p2) 0 else (am_us σ2 44 (Int32.toNatClampNeg p2) (if r1 = 0 then σ2 (19 + Int32.toNatClampNeg p2) 1 else σ2 (19 + Int32.toNatClampNeg p2) 0 : Int32)) (19 + Int32.toNatClampNeg p2) 1 : Int32)) (19 + Int32.toNatClampNeg p2) 1) else ((am_us (am_us σ2 44 (Int32.toNatClampNeg p2) (if r1 = 0 then σ2 (19 + Int32.toNatClampNeg p2) 1 else σ2 (19 + Int32.toNatClampNeg p2) 0 : Int32)) 45 (Int32.toNatClampNeg p2) (if r1 = 0 then (am_us σ2 44 (Int32.toNatClampNeg p2) (if r1 = 0 then σ2 (19 + Int32.toNatClampNeg p2) 1 else σ2 (19 + Int32.toNatClampNeg p2) 0 : Int32)) (19 + Int32.toNatClampNeg p2) 0 else (am_us σ2 44 (Int32.toNatClampNeg p2) (if r1 = 0 then σ2 (19 + Int32.toNatClampNeg p2) 1 else σ2 (19 + Int32.toNatClampNeg p2) 0 : Int32)) (19 + Int32.toNatClampNeg p2) 1 : Int32)) (19 + Int32.toNatClampNeg p2) 0) : Int32)) 44 (Int32.toNatClampNeg p2))))))))))))))))) :
    am_Go l D DA b sz (d + 1) M_Bounds_measure (0, [some (.ref 43), some (.ref 2), some (.int p2), none, none, none], [], (am_TT cu L, am_RR cu, σ)) r X' := by
  refine go_steps q_Bounds_measure kc_Bounds_measure 3 rfl ?_
  obtain ⟨hc1, hv⟩ := hv
  refine go_aaload q_Bounds_measure kc_Bounds_measure rfl rfl hc1 (am_rr4 (am_inb hc1)) ?_
  refine go_steps q_Bounds_measure kc_Bounds_measure 4 rfl ?_
  obtain ⟨r1, σ1, hg, hv⟩ := hv
  refine go_callV q_Bounds_measure kc_Bounds_measure rfl q_Hold_fitsEmpty am_k86 ⟨rfl, rfl, by decide⟩ rfl rfl (Nat.le_of_ble_eq_true rfl) (Nat.le_of_ble_eq_true rfl) rfl rfl hg ?_
  refine go_steps q_Bounds_measure kc_Bounds_measure 4 rfl ?_
  obtain ⟨r2, σ2, hg, hv⟩ := hv
  refine go_callV q_Bounds_measure kc_Bounds_measure rfl q_Hold_fitsEmpty am_k86 ⟨rfl, rfl, by decide⟩ rfl rfl (Nat.le_of_ble_eq_true rfl) (Nat.le_of_ble_eq_true rfl) rfl rfl hg ?_
  refine go_steps q_Bounds_measure kc_Bounds_measure 6 rfl ?_
  have key : am_Go l D DA b sz (d + 1) M_Bounds_measure (44, [some (.ref 43), some (.ref 2), some (.int p2), some (.ref (19 + Int32.toNatClampNeg p2)), some (.int r1), some (.int r2)], [.int (if r1 = 0 then σ2 (19 + Int32.toNatClampNeg p2) 1 else σ2 (19 + Int32.toNatClampNeg p2) 0 : Int32), .int p2, .ref 44], (am_TT cu L, am_RR cu, σ2)) r X' := by
    obtain ⟨hc, hv⟩ := hv
    refine go_iastore q_Bounds_measure kc_Bounds_measure rfl rfl hc ?_
    refine go_steps q_Bounds_measure kc_Bounds_measure 5 rfl ?_
    have key : am_Go l D DA b sz (d + 1) M_Bounds_measure (66, [some (.ref 43), some (.ref 2), some (.int p2), some (.ref (19 + Int32.toNatClampNeg p2)), some (.int r1), some (.int r2)], [.int (if r1 = 0 then (am_us σ2 44 (Int32.toNatClampNeg p2) (if r1 = 0 then σ2 (19 + Int32.toNatClampNeg p2) 1 else σ2 (19 + Int32.toNatClampNeg p2) 0 : Int32)) (19 + Int32.toNatClampNeg p2) 0 else (am_us σ2 44 (Int32.toNatClampNeg p2) (if r1 = 0 then σ2 (19 + Int32.toNatClampNeg p2) 1 else σ2 (19 + Int32.toNatClampNeg p2) 0 : Int32)) (19 + Int32.toNatClampNeg p2) 1 : Int32), .int p2, .ref 45], (am_TT cu L, am_RR cu, am_us σ2 44 (Int32.toNatClampNeg p2) (if r1 = 0 then σ2 (19 + Int32.toNatClampNeg p2) 1 else σ2 (19 + Int32.toNatClampNeg p2) 0 : Int32))) r X' := by
      obtain ⟨hc, hv⟩ := hv
      refine go_iastore q_Bounds_measure kc_Bounds_measure rfl rfl hc ?_
      refine go_steps q_Bounds_measure kc_Bounds_measure 2 rfl ?_
      refine go_if (fun hb => ?_) (fun hb => ?_)
      · have hb : r1 = 0 := hb
        replace hv := hv.1 hb
        obtain ⟨rfl, rfl⟩ := hv
        exact go_retV q_Bounds_measure kc_Bounds_measure rfl rfl
      · have hb : ¬ (r1 = 0) := hb
        replace hv := hv.2 hb
        refine go_steps q_Bounds_measure kc_Bounds_measure 2 rfl ?_
        refine go_if (fun hb => ?_) (fun hb => ?_)
        · have hb : r2 = 0 := hb
          replace hv := hv.1 hb
          obtain ⟨rfl, rfl⟩ := hv
          exact go_retV q_Bounds_measure kc_Bounds_measure rfl rfl
        · have hb : ¬ (r2 = 0) := hb
          replace hv := hv.2 hb
          refine go_steps q_Bounds_measure kc_Bounds_measure 4 rfl ?_
          refine go_getI q_Bounds_measure kc_Bounds_measure rfl (am_tt_box (am_inb hc1)) rfl ?_
          refine go_steps q_Bounds_measure kc_Bounds_measure 1 rfl ?_
          refine go_getI q_Bounds_measure kc_Bounds_measure rfl (am_tt_box (am_inb hc1)) rfl ?_
          refine go_steps q_Bounds_measure kc_Bounds_measure 1 rfl ?_
          obtain ⟨hc, hv⟩ := hv
          refine go_iastore q_Bounds_measure kc_Bounds_measure rfl rfl hc ?_
          refine go_steps q_Bounds_measure kc_Bounds_measure 6 rfl ?_
          obtain ⟨hc2, hv⟩ := hv
          refine go_iaload q_Bounds_measure kc_Bounds_measure rfl rfl hc2 ?_
          obtain ⟨hc, hv⟩ := hv
          refine go_iastore q_Bounds_measure kc_Bounds_measure rfl rfl hc ?_
          obtain ⟨rfl, rfl⟩ := hv
          exact go_retV q_Bounds_measure kc_Bounds_measure rfl rfl
    refine go_if (fun hb => ?_) (fun hb => ?_)
    · have hb : r1 = 0 := hb
      rw [show (if r1 = 0 then (am_us σ2 44 (Int32.toNatClampNeg p2) (if r1 = 0 then σ2 (19 + Int32.toNatClampNeg p2) 1 else σ2 (19 + Int32.toNatClampNeg p2) 0 : Int32)) (19 + Int32.toNatClampNeg p2) 0 else (am_us σ2 44 (Int32.toNatClampNeg p2) (if r1 = 0 then σ2 (19 + Int32.toNatClampNeg p2) 1 else σ2 (19 + Int32.toNatClampNeg p2) 0 : Int32)) (19 + Int32.toNatClampNeg p2) 1 : Int32) = ((am_us σ2 44 (Int32.toNatClampNeg p2) (if r1 = 0 then σ2 (19 + Int32.toNatClampNeg p2) 1 else σ2 (19 + Int32.toNatClampNeg p2) 0 : Int32)) (19 + Int32.toNatClampNeg p2) 0) from if_pos hb] at key
      refine go_steps q_Bounds_measure kc_Bounds_measure 1 rfl ?_
      refine go_getI q_Bounds_measure kc_Bounds_measure rfl (am_tt_box (am_inb hc1)) rfl ?_
      exact key
    · have hb : ¬ (r1 = 0) := hb
      rw [show (if r1 = 0 then (am_us σ2 44 (Int32.toNatClampNeg p2) (if r1 = 0 then σ2 (19 + Int32.toNatClampNeg p2) 1 else σ2 (19 + Int32.toNatClampNeg p2) 0 : Int32)) (19 + Int32.toNatClampNeg p2) 0 else (am_us σ2 44 (Int32.toNatClampNeg p2) (if r1 = 0 then σ2 (19 + Int32.toNatClampNeg p2) 1 else σ2 (19 + Int32.toNatClampNeg p2) 0 : Int32)) (19 + Int32.toNatClampNeg p2) 1 : Int32) = ((am_us σ2 44 (Int32.toNatClampNeg p2) (if r1 = 0 then σ2 (19 + Int32.toNatClampNeg p2) 1 else σ2 (19 + Int32.toNatClampNeg p2) 0 : Int32)) (19 + Int32.toNatClampNeg p2) 1) from if_neg hb] at key
      refine go_steps q_Bounds_measure kc_Bounds_measure 1 rfl ?_
      refine go_getI q_Bounds_measure kc_Bounds_measure rfl (am_tt_box (am_inb hc1)) rfl ?_
      refine go_steps q_Bounds_measure kc_Bounds_measure 1 rfl ?_
      exact key
  refine go_if (fun hb => ?_) (fun hb => ?_)
  · have hb : r1 = 0 := hb
    rw [show (if r1 = 0 then σ2 (19 + Int32.toNatClampNeg p2) 1 else σ2 (19 + Int32.toNatClampNeg p2) 0 : Int32) = (σ2 (19 + Int32.toNatClampNeg p2) 1) from if_pos hb] at key
    refine go_steps q_Bounds_measure kc_Bounds_measure 1 rfl ?_
    refine go_getI q_Bounds_measure kc_Bounds_measure rfl (am_tt_box (am_inb hc1)) rfl ?_
    exact key
  · have hb : ¬ (r1 = 0) := hb
    rw [show (if r1 = 0 then σ2 (19 + Int32.toNatClampNeg p2) 1 else σ2 (19 + Int32.toNatClampNeg p2) 0 : Int32) = (σ2 (19 + Int32.toNatClampNeg p2) 0) from if_neg hb] at key
    refine go_steps q_Bounds_measure kc_Bounds_measure 1 rfl ?_
    refine go_getI q_Bounds_measure kc_Bounds_measure rfl (am_tt_box (am_inb hc1)) rfl ?_
    refine go_steps q_Bounds_measure kc_Bounds_measure 1 rfl ?_
    exact key
set_option maxHeartbeats 4000000 in
set_option maxRecDepth 100000 in
theorem v_Bounds_findApart_0 {l : Launch} {D : va_G} {DA : Nat → ClassId} {b sz d L : Nat} {cu : Bool} {σ : Nat → Nat → Int32} {r : Option Value} {X' : am_X} (p2 : Int32)
    (hv : am_Go l D DA b sz (d + 1) M_Bounds_findApart (2, [some (.ref 43), some (.ref 2), some (.int p2), some (.int 0), none], [], (am_TT cu L, am_RR cu, σ)) r X') :
    am_Go l D DA b sz (d + 1) M_Bounds_findApart (0, [some (.ref 43), some (.ref 2), some (.int p2), none, none], [], (am_TT cu L, am_RR cu, σ)) r X' := by
  refine go_steps q_Bounds_findApart kc_Bounds_findApart 2 rfl ?_
  refine go_le (L1 := [some (.ref 43), some (.ref 2), some (.int p2), some (.int 0), none]) (by repeat (first | exact trivial | refine ⟨rfl, ?_⟩)) ?_
  exact hv
set_option maxHeartbeats 4000000 in
set_option maxRecDepth 100000 in
theorem v_Bounds_findApart_2 {l : Launch} {D : va_G} {DA : Nat → ClassId} {b sz d L : Nat} {cu : Bool} {σ : Nat → Nat → Int32} {r : Option Value} {X' : am_X} (p2 : Int32) (p3 : Int32)
    (hv : (((σ 2 2) ≤ p3) → (r = none ∧ X' = (am_TT cu L, am_RR cu, σ))) ∧ (¬ ((σ 2 2) ≤ p3) → ((¬ (p3 < 0 ∨ 20 ≤ Int32.toNatClampNeg p3)) ∧ (am_Go l D DA b sz (d + 1) M_Bounds_findApart (20, [some (.ref 43), some (.ref 2), some (.int p2), some (.int p3), some (.int 0)], [], (am_TT cu L, am_RR cu, am_us σ 46 (Int32.toNatClampNeg p3) 0)) r X')))) :
    am_Go l D DA b sz (d + 1) M_Bounds_findApart (2, [some (.ref 43), some (.ref 2), some (.int p2), some (.int p3), none], [], (am_TT cu L, am_RR cu, σ)) r X' := by
  refine go_steps q_Bounds_findApart kc_Bounds_findApart 4 rfl ?_
  refine go_if (fun hb => ?_) (fun hb => ?_)
  · have hb : (σ 2 2) ≤ p3 := hb
    replace hv := hv.1 hb
    obtain ⟨rfl, rfl⟩ := hv
    exact go_retV q_Bounds_findApart kc_Bounds_findApart rfl rfl
  · have hb : ¬ ((σ 2 2) ≤ p3) := hb
    replace hv := hv.2 hb
    refine go_steps q_Bounds_findApart kc_Bounds_findApart 4 rfl ?_
    obtain ⟨hc, hv⟩ := hv
    refine go_iastore q_Bounds_findApart kc_Bounds_findApart rfl rfl hc ?_
    refine go_steps q_Bounds_findApart kc_Bounds_findApart 2 rfl ?_
    refine go_le (L1 := [some (.ref 43), some (.ref 2), some (.int p2), some (.int p3), some (.int 0)]) (by repeat (first | exact trivial | refine ⟨rfl, ?_⟩)) ?_
    exact hv
set_option maxHeartbeats 4000000 in
set_option maxRecDepth 100000 in
theorem v_Bounds_findApart_20 {l : Launch} {D : va_G} {DA : Nat → ClassId} {b sz d L : Nat} {cu : Bool} {σ : Nat → Nat → Int32} {r : Option Value} {X' : am_X} (p2 : Int32) (p3 : Int32) (p4 : Int32)
    (hv : (((σ 2 2) ≤ p4) → (am_Go l D DA b sz (d + 1) M_Bounds_findApart (2, [some (.ref 43), some (.ref 2), some (.int p2), some (.int (p3 + 1)), none], [], (am_TT cu L, am_RR cu, σ)) r X')) ∧ (¬ ((σ 2 2) ≤ p4) → (((p4 = p3) → (am_Go l D DA b sz (d + 1) M_Bounds_findApart (20, [some (.ref 43), some (.ref 2), some (.int p2), some (.int p3), some (.int (p4 + 1))], [], (am_TT cu L, am_RR cu, σ)) r X')) ∧ (¬ (p4 = p3) → (((((p2 >>> (p3 &&& 31 : Int32) : Int32) &&& 1) = (0 : Int32)) → (am_Go l D DA b sz (d + 1) M_Bounds_findApart (20, [some (.ref 43), some (.ref 2), some (.int p2), some (.int p3), some (.int (p4 + 1))], [], (am_TT cu L, am_RR cu, σ)) r X')) ∧ (¬ (((p2 >>> (p3 &&& 31 : Int32) : Int32) &&& 1) = (0 : Int32)) → (((((p2 >>> (p4 &&& 31 : Int32) : Int32) &&& 1) = (0 : Int32)) → (am_Go l D DA b sz (d + 1) M_Bounds_findApart (20, [some (.ref 43), some (.ref 2), some (.int p2), some (.int p3), some (.int (p4 + 1))], [], (am_TT cu L, am_RR cu, σ)) r X')) ∧ (¬ (((p2 >>> (p4 &&& 31 : Int32) : Int32) &&& 1) = (0 : Int32)) → (∃ (r1 : Int32) (σ1 : Nat → Nat → Int32), am_Go l D DA b sz d M_Bounds_areApart (0, [some (.ref 43), some (.ref 2), some (.int p3), some (.int p4), none], [], (am_TT cu L, am_RR cu, σ)) (some (.int r1)) (am_TT cu L, am_RR cu, σ1) ∧ (((r1 = 0) → (am_Go l D DA b sz (d + 1) M_Bounds_findApart (20, [some (.ref 43), some (.ref 2), some (.int p2), some (.int p3), some (.int (p4 + 1))], [], (am_TT cu L, am_RR cu, σ1)) r X')) ∧ (¬ (r1 = 0) → ((¬ (p3 < 0 ∨ 20 ≤ Int32.toNatClampNeg p3)) ∧ ((¬ (p3 < 0 ∨ 20 ≤ Int32.toNatClampNeg p3)) ∧ (am_Go l D DA b sz (d + 1) M_Bounds_findApart (20, [some (.ref 43), some (.ref 2), some (.int p2), some (.int p3), some (.int (p4 + 1))], [], (am_TT cu L, am_RR cu, am_us σ1 46 (Int32.toNatClampNeg p3) ((σ1 46 (Int32.toNatClampNeg p3)) ||| (1 <<< (p4 &&& 31 : Int32) : Int32)))) r X')))))))))))))) :
    am_Go l D DA b sz (d + 1) M_Bounds_findApart (20, [some (.ref 43), some (.ref 2), some (.int p2), some (.int p3), some (.int p4)], [], (am_TT cu L, am_RR cu, σ)) r X' := by
  refine go_steps q_Bounds_findApart kc_Bounds_findApart 4 rfl ?_
  refine go_if (fun hb => ?_) (fun hb => ?_)
  · have hb : (σ 2 2) ≤ p4 := hb
    replace hv := hv.1 hb
    refine go_steps q_Bounds_findApart kc_Bounds_findApart 2 rfl ?_
    refine go_le (L1 := [some (.ref 43), some (.ref 2), some (.int p2), some (.int (p3 + 1)), none]) (by repeat (first | exact trivial | refine ⟨rfl, ?_⟩)) ?_
    exact hv
  · have hb : ¬ ((σ 2 2) ≤ p4) := hb
    replace hv := hv.2 hb
    refine go_steps q_Bounds_findApart kc_Bounds_findApart 3 rfl ?_
    refine go_if (fun hb => ?_) (fun hb => ?_)
    · have hb : p4 = p3 := hb
      replace hv := hv.1 hb
      refine go_steps q_Bounds_findApart kc_Bounds_findApart 2 rfl ?_
      refine go_le (L1 := [some (.ref 43), some (.ref 2), some (.int p2), some (.int p3), some (.int (p4 + 1))]) (by repeat (first | exact trivial | refine ⟨rfl, ?_⟩)) ?_
      exact hv
    · have hb : ¬ (p4 = p3) := hb
      replace hv := hv.2 hb
      refine go_steps q_Bounds_findApart kc_Bounds_findApart 6 rfl ?_
      refine go_if (fun hb => ?_) (fun hb => ?_)
      · have hb : ((p2 >>> (p3 &&& 31 : Int32) : Int32) &&& 1) = (0 : Int32) := hb
        replace hv := hv.1 hb
        refine go_steps q_Bounds_findApart kc_Bounds_findApart 2 rfl ?_
        refine go_le (L1 := [some (.ref 43), some (.ref 2), some (.int p2), some (.int p3), some (.int (p4 + 1))]) (by repeat (first | exact trivial | refine ⟨rfl, ?_⟩)) ?_
        exact hv
      · have hb : ¬ (((p2 >>> (p3 &&& 31 : Int32) : Int32) &&& 1) = (0 : Int32)) := hb
        replace hv := hv.2 hb
        refine go_steps q_Bounds_findApart kc_Bounds_findApart 6 rfl ?_
        refine go_if (fun hb => ?_) (fun hb => ?_)
        · have hb : ((p2 >>> (p4 &&& 31 : Int32) : Int32) &&& 1) = (0 : Int32) := hb
          replace hv := hv.1 hb
          refine go_steps q_Bounds_findApart kc_Bounds_findApart 2 rfl ?_
          refine go_le (L1 := [some (.ref 43), some (.ref 2), some (.int p2), some (.int p3), some (.int (p4 + 1))]) (by repeat (first | exact trivial | refine ⟨rfl, ?_⟩)) ?_
          exact hv
        · have hb : ¬ (((p2 >>> (p4 &&& 31 : Int32) : Int32) &&& 1) = (0 : Int32)) := hb
          replace hv := hv.2 hb
          refine go_steps q_Bounds_findApart kc_Bounds_findApart 4 rfl ?_
          obtain ⟨r1, σ1, hg, hv⟩ := hv
          refine go_callV q_Bounds_findApart kc_Bounds_findApart rfl q_Bounds_areApart am_k92 ⟨rfl, rfl, by decide⟩ rfl rfl (Nat.le_of_ble_eq_true rfl) (Nat.le_of_ble_eq_true rfl) rfl rfl hg ?_
          refine go_steps q_Bounds_findApart kc_Bounds_findApart 1 rfl ?_
          refine go_if (fun hb => ?_) (fun hb => ?_)
          · have hb : r1 = 0 := hb
            replace hv := hv.1 hb
            refine go_steps q_Bounds_findApart kc_Bounds_findApart 2 rfl ?_
            refine go_le (L1 := [some (.ref 43), some (.ref 2), some (.int p2), some (.int p3), some (.int (p4 + 1))]) (by repeat (first | exact trivial | refine ⟨rfl, ?_⟩)) ?_
            exact hv
          · have hb : ¬ (r1 = 0) := hb
            replace hv := hv.2 hb
            refine go_steps q_Bounds_findApart kc_Bounds_findApart 4 rfl ?_
            obtain ⟨hc1, hv⟩ := hv
            refine go_iaload q_Bounds_findApart kc_Bounds_findApart rfl rfl hc1 ?_
            refine go_steps q_Bounds_findApart kc_Bounds_findApart 4 rfl ?_
            obtain ⟨hc, hv⟩ := hv
            refine go_iastore q_Bounds_findApart kc_Bounds_findApart rfl rfl hc ?_
            refine go_steps q_Bounds_findApart kc_Bounds_findApart 2 rfl ?_
            refine go_le (L1 := [some (.ref 43), some (.ref 2), some (.int p2), some (.int p3), some (.int (p4 + 1))]) (by repeat (first | exact trivial | refine ⟨rfl, ?_⟩)) ?_
            exact hv
set_option maxHeartbeats 4000000 in
set_option maxRecDepth 100000 in
theorem v_Bounds_areApart_0 {l : Launch} {D : va_G} {DA : Nat → ClassId} {b sz d L : Nat} {cu : Bool} {σ : Nat → Nat → Int32} {r : Option Value} {X' : am_X} (p2 : Int32) (p3 : Int32)
    (hv : (¬ (p2 < 0 ∨ 20 ≤ Int32.toNatClampNeg p2)) ∧ ((¬ (p3 < 0 ∨ 20 ≤ Int32.toNatClampNeg p3)) ∧ (((((σ 44 (Int32.toNatClampNeg p2)) + (σ 44 (Int32.toNatClampNeg p3))) ≤ (σ 3 0)) → (r = some (.int 0) ∧ X' = (am_TT cu L, am_RR cu, σ))) ∧ (¬ (((σ 44 (Int32.toNatClampNeg p2)) + (σ 44 (Int32.toNatClampNeg p3))) ≤ (σ 3 0)) → ((¬ (p2 < 0 ∨ 20 ≤ Int32.toNatClampNeg p2)) ∧ ((¬ (p3 < 0 ∨ 20 ≤ Int32.toNatClampNeg p3)) ∧ (((((σ 45 (Int32.toNatClampNeg p2)) + (σ 45 (Int32.toNatClampNeg p3))) ≤ (σ 3 1)) → (r = some (.int 0) ∧ X' = (am_TT cu L, am_RR cu, σ))) ∧ (¬ (((σ 45 (Int32.toNatClampNeg p2)) + (σ 45 (Int32.toNatClampNeg p3))) ≤ (σ 3 1)) → ((¬ (p2 < 0 ∨ 20 ≤ Int32.toNatClampNeg p2)) ∧ ((¬ (p3 < 0 ∨ 20 ≤ Int32.toNatClampNeg p3)) ∧ (((if ((σ (19 + Int32.toNatClampNeg p2) 2) + (σ (19 + Int32.toNatClampNeg p3) 2)) ≤ (σ 3 2) then 0 else 1 : Int32) = 0 ∨ (if ((σ (19 + Int32.toNatClampNeg p2) 2) + (σ (19 + Int32.toNatClampNeg p3) 2)) ≤ (σ 3 2) then 0 else 1 : Int32) = 1) ∧ (r = some (.int (if ((σ (19 + Int32.toNatClampNeg p2) 2) + (σ (19 + Int32.toNatClampNeg p3) 2)) ≤ (σ 3 2) then 0 else 1 : Int32)) ∧ X' = (am_TT cu L, am_RR cu, σ))))))))))))) :
    am_Go l D DA b sz d M_Bounds_areApart (0, [some (.ref 43), some (.ref 2), some (.int p2), some (.int p3), none], [], (am_TT cu L, am_RR cu, σ)) r X' := by
  refine go_steps q_Bounds_areApart kc_Bounds_areApart 6 rfl ?_
  obtain ⟨hc1, hv⟩ := hv
  refine go_iaload q_Bounds_areApart kc_Bounds_areApart rfl rfl hc1 ?_
  refine go_steps q_Bounds_areApart kc_Bounds_areApart 3 rfl ?_
  obtain ⟨hc2, hv⟩ := hv
  refine go_iaload q_Bounds_areApart kc_Bounds_areApart rfl rfl hc2 ?_
  refine go_steps q_Bounds_areApart kc_Bounds_areApart 4 rfl ?_
  refine go_if (fun hb => ?_) (fun hb => ?_)
  · have hb : ((σ 44 (Int32.toNatClampNeg p2)) + (σ 44 (Int32.toNatClampNeg p3))) ≤ (σ 3 0) := hb
    replace hv := hv.1 hb
    refine go_steps q_Bounds_areApart kc_Bounds_areApart 1 rfl ?_
    obtain ⟨rfl, rfl⟩ := hv
    exact go_retI q_Bounds_areApart kc_Bounds_areApart rfl rfl rfl
  · have hb : ¬ (((σ 44 (Int32.toNatClampNeg p2)) + (σ 44 (Int32.toNatClampNeg p3))) ≤ (σ 3 0)) := hb
    replace hv := hv.2 hb
    refine go_steps q_Bounds_areApart kc_Bounds_areApart 3 rfl ?_
    obtain ⟨hc3, hv⟩ := hv
    refine go_iaload q_Bounds_areApart kc_Bounds_areApart rfl rfl hc3 ?_
    refine go_steps q_Bounds_areApart kc_Bounds_areApart 3 rfl ?_
    obtain ⟨hc4, hv⟩ := hv
    refine go_iaload q_Bounds_areApart kc_Bounds_areApart rfl rfl hc4 ?_
    refine go_steps q_Bounds_areApart kc_Bounds_areApart 4 rfl ?_
    refine go_if (fun hb => ?_) (fun hb => ?_)
    · have hb : ((σ 45 (Int32.toNatClampNeg p2)) + (σ 45 (Int32.toNatClampNeg p3))) ≤ (σ 3 1) := hb
      replace hv := hv.1 hb
      refine go_steps q_Bounds_areApart kc_Bounds_areApart 1 rfl ?_
      obtain ⟨rfl, rfl⟩ := hv
      exact go_retI q_Bounds_areApart kc_Bounds_areApart rfl rfl rfl
    · have hb : ¬ (((σ 45 (Int32.toNatClampNeg p2)) + (σ 45 (Int32.toNatClampNeg p3))) ≤ (σ 3 1)) := hb
      replace hv := hv.2 hb
      refine go_steps q_Bounds_areApart kc_Bounds_areApart 3 rfl ?_
      obtain ⟨hc5, hv⟩ := hv
      refine go_aaload q_Bounds_areApart kc_Bounds_areApart rfl rfl hc5 (am_rr4 (am_inb hc5)) ?_
      refine go_getI q_Bounds_areApart kc_Bounds_areApart rfl (am_tt_box (am_inb hc5)) rfl ?_
      refine go_steps q_Bounds_areApart kc_Bounds_areApart 3 rfl ?_
      obtain ⟨hc6, hv⟩ := hv
      refine go_aaload q_Bounds_areApart kc_Bounds_areApart rfl rfl hc6 (am_rr4 (am_inb hc6)) ?_
      refine go_getI q_Bounds_areApart kc_Bounds_areApart rfl (am_tt_box (am_inb hc6)) rfl ?_
      refine go_steps q_Bounds_areApart kc_Bounds_areApart 4 rfl ?_
      have key : am_Go l D DA b sz d M_Bounds_areApart (80, [some (.ref 43), some (.ref 2), some (.int p2), some (.int p3), some (.ref 3)], [.int (if ((σ (19 + Int32.toNatClampNeg p2) 2) + (σ (19 + Int32.toNatClampNeg p3) 2)) ≤ (σ 3 2) then 0 else 1 : Int32)], (am_TT cu L, am_RR cu, σ)) r X' := by
        obtain ⟨hc, rfl, rfl⟩ := hv
        exact go_retI q_Bounds_areApart kc_Bounds_areApart rfl rfl (am_nar hc)
      refine go_if (fun hb => ?_) (fun hb => ?_)
      · have hb : ((σ (19 + Int32.toNatClampNeg p2) 2) + (σ (19 + Int32.toNatClampNeg p3) 2)) ≤ (σ 3 2) := hb
        rw [show (if ((σ (19 + Int32.toNatClampNeg p2) 2) + (σ (19 + Int32.toNatClampNeg p3) 2)) ≤ (σ 3 2) then 0 else 1 : Int32) = 0 from if_pos hb] at key
        refine go_steps q_Bounds_areApart kc_Bounds_areApart 1 rfl ?_
        exact key
      · have hb : ¬ (((σ (19 + Int32.toNatClampNeg p2) 2) + (σ (19 + Int32.toNatClampNeg p3) 2)) ≤ (σ 3 2)) := hb
        rw [show (if ((σ (19 + Int32.toNatClampNeg p2) 2) + (σ (19 + Int32.toNatClampNeg p3) 2)) ≤ (σ 3 2) then 0 else 1 : Int32) = 1 from if_neg hb] at key
        refine go_steps q_Bounds_areApart kc_Bounds_areApart 2 rfl ?_
        exact key
set_option maxHeartbeats 4000000 in
set_option maxRecDepth 100000 in
theorem v_Bounds_findBig_0 {l : Launch} {D : va_G} {DA : Nat → ClassId} {b sz d L : Nat} {cu : Bool} {σ : Nat → Nat → Int32} {r : Option Value} {X' : am_X} (p1 : Int32) (p2 : Int32) (p3 : Int32)
    (hv : (∃ (r1 : Int32) (σ1 : Nat → Nat → Int32), am_Go l D DA b sz d M_Integer_bitCount (0, [some (.int p2)], [], (am_TT cu L, am_RR cu, σ)) (some (.int r1)) (am_TT cu L, am_RR cu, σ1) ∧ ((∃ (r2 : Int32) (σ2 : Nat → Nat → Int32), am_Go l D DA b sz d M_Integer_bitCount (0, [some (.int p1)], [], (am_TT cu L, am_RR cu, σ1)) (some (.int r2)) (am_TT cu L, am_RR cu, σ2) ∧ ((((σ2 43 2) < (r1 + r2)) → (am_Go l D DA b sz (d + 1) M_Bounds_findBig (26, [some (.ref 43), some (.int p1), some (.int p2), none, some (.int r1), some (.int (p3 - 1))], [], (am_TT cu L, am_RR cu, σ2)) r X')) ∧ (¬ ((σ2 43 2) < (r1 + r2)) → (r = none ∧ X' = (am_TT cu L, am_RR cu, σ2)))))))) :
    am_Go l D DA b sz (d + 1) M_Bounds_findBig (0, [some (.ref 43), some (.int p1), some (.int p2), some (.int p3), none, none], [], (am_TT cu L, am_RR cu, σ)) r X' := by
  refine go_steps q_Bounds_findBig kc_Bounds_findBig 1 rfl ?_
  obtain ⟨r1, σ1, hg, hv⟩ := hv
  refine go_callS q_Bounds_findBig kc_Bounds_findBig rfl q_Integer_bitCount am_k46 rfl rfl rfl (Nat.le_of_ble_eq_true rfl) (Nat.le_of_ble_eq_true rfl) hg ?_
  refine go_steps q_Bounds_findBig kc_Bounds_findBig 3 rfl ?_
  obtain ⟨r2, σ2, hg, hv⟩ := hv
  refine go_callS q_Bounds_findBig kc_Bounds_findBig rfl q_Integer_bitCount am_k46 rfl rfl rfl (Nat.le_of_ble_eq_true rfl) (Nat.le_of_ble_eq_true rfl) hg ?_
  refine go_steps q_Bounds_findBig kc_Bounds_findBig 4 rfl ?_
  refine go_if (fun hb => ?_) (fun hb => ?_)
  · have hb : (σ2 43 2) < (r1 + r2) := hb
    replace hv := hv.1 hb
    refine go_steps q_Bounds_findBig kc_Bounds_findBig 4 rfl ?_
    refine go_le (L1 := [some (.ref 43), some (.int p1), some (.int p2), none, some (.int r1), some (.int (p3 - 1))]) (by repeat (first | exact trivial | refine ⟨rfl, ?_⟩)) ?_
    exact hv
  · have hb : ¬ ((σ2 43 2) < (r1 + r2)) := hb
    replace hv := hv.2 hb
    obtain ⟨rfl, rfl⟩ := hv
    exact go_retV q_Bounds_findBig kc_Bounds_findBig rfl rfl
set_option maxHeartbeats 4000000 in
set_option maxRecDepth 100000 in
theorem v_Bounds_findBig_26 {l : Launch} {D : va_G} {DA : Nat → ClassId} {b sz d L : Nat} {cu : Bool} {σ : Nat → Nat → Int32} {r : Option Value} {X' : am_X} (p1 : Int32) (p2 : Int32) (p4 : Int32) (p5 : Int32)
    (hv : ((p5 < 0) → (((0 ≤ p5) → (∃ (σ1 : Nat → Nat → Int32), am_Go l D DA b sz d M_Bounds_findBig (0, [some (.ref 43), some (.int (p1 &&& ((1 <<< (p5 &&& 31 : Int32) : Int32) ^^^ (-1)))), some (.int p2), some (.int p5), none, none], [], (am_TT cu L, am_RR cu, σ)) none (am_TT cu L, am_RR cu, σ1) ∧ ((¬ (p5 < 0 ∨ 20 ≤ Int32.toNatClampNeg p5)) ∧ (∃ (σ2 : Nat → Nat → Int32), am_Go l D DA b sz d M_Bounds_findBig (0, [some (.ref 43), some (.int (p1 &&& (σ1 46 (Int32.toNatClampNeg p5)))), some (.int (p2 ||| (1 <<< (p5 &&& 31 : Int32) : Int32))), some (.int p5), none, none], [], (am_TT cu L, am_RR cu, σ1)) none (am_TT cu L, am_RR cu, σ2) ∧ (r = none ∧ X' = (am_TT cu L, am_RR cu, σ2)))))) ∧ (¬ (0 ≤ p5) → (r = none ∧ X' = (am_TT cu L, am_RR cu, am_us (am_us σ 43 2 p4) 43 3 p2))))) ∧ (¬ (p5 < 0) → (((((p1 >>> (p5 &&& 31 : Int32) : Int32) &&& 1) = (0 : Int32)) → (am_Go l D DA b sz (d + 1) M_Bounds_findBig (26, [some (.ref 43), some (.int p1), some (.int p2), none, some (.int p4), some (.int (p5 + (-1)))], [], (am_TT cu L, am_RR cu, σ)) r X')) ∧ (¬ (((p1 >>> (p5 &&& 31 : Int32) : Int32) &&& 1) = (0 : Int32)) → (((0 ≤ p5) → (∃ (σ3 : Nat → Nat → Int32), am_Go l D DA b sz d M_Bounds_findBig (0, [some (.ref 43), some (.int (p1 &&& ((1 <<< (p5 &&& 31 : Int32) : Int32) ^^^ (-1)))), some (.int p2), some (.int p5), none, none], [], (am_TT cu L, am_RR cu, σ)) none (am_TT cu L, am_RR cu, σ3) ∧ ((¬ (p5 < 0 ∨ 20 ≤ Int32.toNatClampNeg p5)) ∧ (∃ (σ4 : Nat → Nat → Int32), am_Go l D DA b sz d M_Bounds_findBig (0, [some (.ref 43), some (.int (p1 &&& (σ3 46 (Int32.toNatClampNeg p5)))), some (.int (p2 ||| (1 <<< (p5 &&& 31 : Int32) : Int32))), some (.int p5), none, none], [], (am_TT cu L, am_RR cu, σ3)) none (am_TT cu L, am_RR cu, σ4) ∧ (r = none ∧ X' = (am_TT cu L, am_RR cu, σ4)))))) ∧ (¬ (0 ≤ p5) → (r = none ∧ X' = (am_TT cu L, am_RR cu, am_us (am_us σ 43 2 p4) 43 3 p2)))))))) :
    am_Go l D DA b sz (d + 1) M_Bounds_findBig (26, [some (.ref 43), some (.int p1), some (.int p2), none, some (.int p4), some (.int p5)], [], (am_TT cu L, am_RR cu, σ)) r X' := by
  refine go_steps q_Bounds_findBig kc_Bounds_findBig 2 rfl ?_
  refine go_if (fun hb => ?_) (fun hb => ?_)
  · have hb : p5 < 0 := hb
    replace hv := hv.1 hb
    refine go_steps q_Bounds_findBig kc_Bounds_findBig 2 rfl ?_
    refine go_if (fun hb => ?_) (fun hb => ?_)
    · have hb : 0 ≤ p5 := hb
      replace hv := hv.1 hb
      refine go_steps q_Bounds_findBig kc_Bounds_findBig 10 rfl ?_
      obtain ⟨σ1, hg, hv⟩ := hv
      refine go_callV q_Bounds_findBig kc_Bounds_findBig rfl q_Bounds_findBig am_k93 ⟨rfl, rfl, by decide⟩ rfl rfl (Nat.le_of_ble_eq_true rfl) (Nat.le_of_ble_eq_true rfl) rfl rfl hg ?_
      refine go_steps q_Bounds_findBig kc_Bounds_findBig 5 rfl ?_
      obtain ⟨hc1, hv⟩ := hv
      refine go_iaload q_Bounds_findBig kc_Bounds_findBig rfl rfl hc1 ?_
      refine go_steps q_Bounds_findBig kc_Bounds_findBig 7 rfl ?_
      obtain ⟨σ2, hg, hv⟩ := hv
      refine go_callV q_Bounds_findBig kc_Bounds_findBig rfl q_Bounds_findBig am_k93 ⟨rfl, rfl, by decide⟩ rfl rfl (Nat.le_of_ble_eq_true rfl) (Nat.le_of_ble_eq_true rfl) rfl rfl hg ?_
      obtain ⟨rfl, rfl⟩ := hv
      exact go_retV q_Bounds_findBig kc_Bounds_findBig rfl rfl
    · have hb : ¬ (0 ≤ p5) := hb
      replace hv := hv.2 hb
      refine go_steps q_Bounds_findBig kc_Bounds_findBig 6 rfl ?_
      obtain ⟨rfl, rfl⟩ := hv
      exact go_retV q_Bounds_findBig kc_Bounds_findBig rfl rfl
  · have hb : ¬ (p5 < 0) := hb
    replace hv := hv.2 hb
    refine go_steps q_Bounds_findBig kc_Bounds_findBig 6 rfl ?_
    refine go_if (fun hb => ?_) (fun hb => ?_)
    · have hb : ((p1 >>> (p5 &&& 31 : Int32) : Int32) &&& 1) = (0 : Int32) := hb
      replace hv := hv.1 hb
      refine go_steps q_Bounds_findBig kc_Bounds_findBig 2 rfl ?_
      refine go_le (L1 := [some (.ref 43), some (.int p1), some (.int p2), none, some (.int p4), some (.int (p5 + (-1)))]) (by repeat (first | exact trivial | refine ⟨rfl, ?_⟩)) ?_
      exact hv
    · have hb : ¬ (((p1 >>> (p5 &&& 31 : Int32) : Int32) &&& 1) = (0 : Int32)) := hb
      replace hv := hv.2 hb
      refine go_steps q_Bounds_findBig kc_Bounds_findBig 2 rfl ?_
      refine go_if (fun hb => ?_) (fun hb => ?_)
      · have hb : 0 ≤ p5 := hb
        replace hv := hv.1 hb
        refine go_steps q_Bounds_findBig kc_Bounds_findBig 10 rfl ?_
        obtain ⟨σ3, hg, hv⟩ := hv
        refine go_callV q_Bounds_findBig kc_Bounds_findBig rfl q_Bounds_findBig am_k93 ⟨rfl, rfl, by decide⟩ rfl rfl (Nat.le_of_ble_eq_true rfl) (Nat.le_of_ble_eq_true rfl) rfl rfl hg ?_
        refine go_steps q_Bounds_findBig kc_Bounds_findBig 5 rfl ?_
        obtain ⟨hc2, hv⟩ := hv
        refine go_iaload q_Bounds_findBig kc_Bounds_findBig rfl rfl hc2 ?_
        refine go_steps q_Bounds_findBig kc_Bounds_findBig 7 rfl ?_
        obtain ⟨σ4, hg, hv⟩ := hv
        refine go_callV q_Bounds_findBig kc_Bounds_findBig rfl q_Bounds_findBig am_k93 ⟨rfl, rfl, by decide⟩ rfl rfl (Nat.le_of_ble_eq_true rfl) (Nat.le_of_ble_eq_true rfl) rfl rfl hg ?_
        obtain ⟨rfl, rfl⟩ := hv
        exact go_retV q_Bounds_findBig kc_Bounds_findBig rfl rfl
      · have hb : ¬ (0 ≤ p5) := hb
        replace hv := hv.2 hb
        refine go_steps q_Bounds_findBig kc_Bounds_findBig 6 rfl ?_
        obtain ⟨rfl, rfl⟩ := hv
        exact go_retV q_Bounds_findBig kc_Bounds_findBig rfl rfl
