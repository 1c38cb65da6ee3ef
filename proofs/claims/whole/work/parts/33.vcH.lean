/-! what must hold at each cut point of a method, so that it comes to its return (written by tools/mkvc.py) -/
set_option maxHeartbeats 4000000 in
set_option maxRecDepth 100000 in
theorem v_Hold_knows_0 {l : Launch} {D : va_G} {DA : Nat → ClassId} {b sz d L : Nat} {cu : Bool} {σ : Nat → Nat → Int32} {r : Option Value} {X' : am_X} (p1 : Int32)
    (hv : ((if p1 < 0 then 0 else (if (σ 2 2) ≤ p1 then 0 else 1 : Int32) : Int32) = 0 ∨ (if p1 < 0 then 0 else (if (σ 2 2) ≤ p1 then 0 else 1 : Int32) : Int32) = 1) ∧ (r = some (.int (if p1 < 0 then 0 else (if (σ 2 2) ≤ p1 then 0 else 1 : Int32) : Int32)) ∧ X' = (am_TT cu L, am_RR cu, σ))) :
    am_Go l D DA b sz d M_Hold_knows (0, [some (.ref 2), some (.int p1)], [], (am_TT cu L, am_RR cu, σ)) r X' := by
  refine go_steps q_Hold_knows kc_Hold_knows 2 rfl ?_
  have key : am_Go l D DA b sz d M_Hold_knows (17, [some (.ref 2), some (.int p1)], [.int (if p1 < 0 then 0 else (if (σ 2 2) ≤ p1 then 0 else 1 : Int32) : Int32)], (am_TT cu L, am_RR cu, σ)) r X' := by
    obtain ⟨hc, rfl, rfl⟩ := hv
    exact go_retI q_Hold_knows kc_Hold_knows rfl rfl (am_nar hc)
  refine go_if (fun hb => ?_) (fun hb => ?_)
  · have hb : p1 < 0 := hb
    rw [show (if p1 < 0 then 0 else (if (σ 2 2) ≤ p1 then 0 else 1 : Int32) : Int32) = 0 from if_pos hb] at key
    refine go_steps q_Hold_knows kc_Hold_knows 1 rfl ?_
    exact key
  · have hb : ¬ (p1 < 0) := hb
    rw [show (if p1 < 0 then 0 else (if (σ 2 2) ≤ p1 then 0 else 1 : Int32) : Int32) = (if (σ 2 2) ≤ p1 then 0 else 1 : Int32) from if_neg hb] at key
    refine go_steps q_Hold_knows kc_Hold_knows 4 rfl ?_
    refine go_if (fun hb => ?_) (fun hb => ?_)
    · have hb : (σ 2 2) ≤ p1 := hb
      rw [show (if (σ 2 2) ≤ p1 then 0 else 1 : Int32) = 0 from if_pos hb] at key
      refine go_steps q_Hold_knows kc_Hold_knows 1 rfl ?_
      exact key
    · have hb : ¬ ((σ 2 2) ≤ p1) := hb
      rw [show (if (σ 2 2) ≤ p1 then 0 else 1 : Int32) = 1 from if_neg hb] at key
      refine go_steps q_Hold_knows kc_Hold_knows 2 rfl ?_
      exact key
set_option maxHeartbeats 4000000 in
set_option maxRecDepth 100000 in
theorem v_Hold_has_0 {l : Launch} {D : va_G} {DA : Nat → ClassId} {b sz d L : Nat} {cu : Bool} {σ : Nat → Nat → Int32} {r : Option Value} {X' : am_X} (p1 : Int32)
    (hv : ((if (((σ 2 3) >>> (p1 &&& 31 : Int32) : Int32) &&& 1) = (0 : Int32) then 0 else 1 : Int32) = 0 ∨ (if (((σ 2 3) >>> (p1 &&& 31 : Int32) : Int32) &&& 1) = (0 : Int32) then 0 else 1 : Int32) = 1) ∧ (r = some (.int (if (((σ 2 3) >>> (p1 &&& 31 : Int32) : Int32) &&& 1) = (0 : Int32) then 0 else 1 : Int32)) ∧ X' = (am_TT cu L, am_RR cu, σ))) :
    am_Go l D DA b sz d M_Hold_has (0, [some (.ref 2), some (.int p1)], [], (am_TT cu L, am_RR cu, σ)) r X' := by
  refine go_steps q_Hold_has kc_Hold_has 7 rfl ?_
  have key : am_Go l D DA b sz d M_Hold_has (16, [some (.ref 2), some (.int p1)], [.int (if (((σ 2 3) >>> (p1 &&& 31 : Int32) : Int32) &&& 1) = (0 : Int32) then 0 else 1 : Int32)], (am_TT cu L, am_RR cu, σ)) r X' := by
    obtain ⟨hc, rfl, rfl⟩ := hv
    exact go_retI q_Hold_has kc_Hold_has rfl rfl (am_nar hc)
  refine go_if (fun hb => ?_) (fun hb => ?_)
  · have hb : (((σ 2 3) >>> (p1 &&& 31 : Int32) : Int32) &&& 1) = (0 : Int32) := hb
    rw [show (if (((σ 2 3) >>> (p1 &&& 31 : Int32) : Int32) &&& 1) = (0 : Int32) then 0 else 1 : Int32) = 0 from if_pos hb] at key
    refine go_steps q_Hold_has kc_Hold_has 1 rfl ?_
    exact key
  · have hb : ¬ ((((σ 2 3) >>> (p1 &&& 31 : Int32) : Int32) &&& 1) = (0 : Int32)) := hb
    rw [show (if (((σ 2 3) >>> (p1 &&& 31 : Int32) : Int32) &&& 1) = (0 : Int32) then 0 else 1 : Int32) = 1 from if_neg hb] at key
    refine go_steps q_Hold_has kc_Hold_has 2 rfl ?_
    exact key
set_option maxHeartbeats 4000000 in
set_option maxRecDepth 100000 in
theorem v_Hold_stand_0 {l : Launch} {D : va_G} {DA : Nat → ClassId} {b sz d L : Nat} {cu : Bool} {σ : Nat → Nat → Int32} {r : Option Value} {X' : am_X} (p1 : Int32) (p2 : Int32) (p3 : Int32) (p4 : Int32) (p5 : Int32)
    (hv : (¬ (p1 < 0 ∨ 20 ≤ Int32.toNatClampNeg p1)) ∧ (∃ (σ1 : Nat → Nat → Int32), am_Go l D DA b sz d M_Box_moveTo (0, [some (.ref (19 + Int32.toNatClampNeg p1)), some (.int p2), some (.int p3), some (.int p4), some (.int p5)], [], (am_TT cu L, am_RR cu, σ)) none (am_TT cu L, am_RR cu, σ1) ∧ ((∃ (r2 : Int32) (σ2 : Nat → Nat → Int32), am_Go l D DA b sz d M_Hold_commonInX (0, [some (.ref 2), some (.int (σ1 (19 + Int32.toNatClampNeg p1) 8)), some (.int (σ1 (19 + Int32.toNatClampNeg p1) 11)), none, none], [], (am_TT cu L, am_RR cu, σ1)) (some (.int r2)) (am_TT cu L, am_RR cu, σ2) ∧ ((∃ (r3 : Int32) (σ3 : Nat → Nat → Int32), am_Go l D DA b sz d M_Hold_commonInY (0, [some (.ref 2), some (.int ((am_us σ2 2 9 r2) (19 + Int32.toNatClampNeg p1) 9)), some (.int ((am_us σ2 2 9 r2) (19 + Int32.toNatClampNeg p1) 12)), none, none], [], (am_TT cu L, am_RR cu, am_us σ2 2 9 r2)) (some (.int r3)) (am_TT cu L, am_RR cu, σ3) ∧ ((∃ (r4 : Int32) (σ4 : Nat → Nat → Int32), am_Go l D DA b sz d M_Hold_commonInZ (0, [some (.ref 2), some (.int ((am_us σ3 2 10 r3) (19 + Int32.toNatClampNeg p1) 10)), some (.int ((am_us σ3 2 10 r3) (19 + Int32.toNatClampNeg p1) 13)), none, none], [], (am_TT cu L, am_RR cu, am_us σ3 2 10 r3)) (some (.int r4)) (am_TT cu L, am_RR cu, σ4) ∧ (r = none ∧ X' = (am_TT cu L, am_RR cu, am_us σ4 2 11 r4)))))))))) :
    am_Go l D DA b sz (d + 1) M_Hold_stand (0, [some (.ref 2), some (.int p1), some (.int p2), some (.int p3), some (.int p4), some (.int p5), none], [], (am_TT cu L, am_RR cu, σ)) r X' := by
  refine go_steps q_Hold_stand kc_Hold_stand 3 rfl ?_
  obtain ⟨hc1, hv⟩ := hv
  refine go_aaload q_Hold_stand kc_Hold_stand rfl rfl hc1 (am_rr4 (am_inb hc1)) ?_
  refine go_steps q_Hold_stand kc_Hold_stand 6 rfl ?_
  obtain ⟨σ1, hg, hv⟩ := hv
  refine go_callV q_Hold_stand kc_Hold_stand rfl q_Box_moveTo am_k20 ⟨rfl, rfl, by decide⟩ rfl rfl (Nat.le_of_ble_eq_true rfl) (Nat.le_of_ble_eq_true rfl) rfl (am_tt_box (am_inb hc1)) hg ?_
  refine go_steps q_Hold_stand kc_Hold_stand 3 rfl ?_
  refine go_getI q_Hold_stand kc_Hold_stand rfl (am_tt_box (am_inb hc1)) rfl ?_
  refine go_steps q_Hold_stand kc_Hold_stand 1 rfl ?_
  refine go_getI q_Hold_stand kc_Hold_stand rfl (am_tt_box (am_inb hc1)) rfl ?_
  obtain ⟨r2, σ2, hg, hv⟩ := hv
  refine go_callV q_Hold_stand kc_Hold_stand rfl q_Hold_commonInX am_k21 ⟨rfl, rfl, by decide⟩ rfl rfl (Nat.le_of_ble_eq_true rfl) (Nat.le_of_ble_eq_true rfl) rfl rfl hg ?_
  refine go_steps q_Hold_stand kc_Hold_stand 4 rfl ?_
  refine go_getI q_Hold_stand kc_Hold_stand rfl (am_tt_box (am_inb hc1)) rfl ?_
  refine go_steps q_Hold_stand kc_Hold_stand 1 rfl ?_
  refine go_getI q_Hold_stand kc_Hold_stand rfl (am_tt_box (am_inb hc1)) rfl ?_
  obtain ⟨r3, σ3, hg, hv⟩ := hv
  refine go_callV q_Hold_stand kc_Hold_stand rfl q_Hold_commonInY am_k22 ⟨rfl, rfl, by decide⟩ rfl rfl (Nat.le_of_ble_eq_true rfl) (Nat.le_of_ble_eq_true rfl) rfl rfl hg ?_
  refine go_steps q_Hold_stand kc_Hold_stand 4 rfl ?_
  refine go_getI q_Hold_stand kc_Hold_stand rfl (am_tt_box (am_inb hc1)) rfl ?_
  refine go_steps q_Hold_stand kc_Hold_stand 1 rfl ?_
  refine go_getI q_Hold_stand kc_Hold_stand rfl (am_tt_box (am_inb hc1)) rfl ?_
  obtain ⟨r4, σ4, hg, hv⟩ := hv
  refine go_callV q_Hold_stand kc_Hold_stand rfl q_Hold_commonInZ am_k23 ⟨rfl, rfl, by decide⟩ rfl rfl (Nat.le_of_ble_eq_true rfl) (Nat.le_of_ble_eq_true rfl) rfl rfl hg ?_
  refine go_steps q_Hold_stand kc_Hold_stand 1 rfl ?_
  obtain ⟨rfl, rfl⟩ := hv
  exact go_retV q_Hold_stand kc_Hold_stand rfl rfl
set_option maxHeartbeats 4000000 in
set_option maxRecDepth 100000 in
theorem v_Box_moveTo_0 {l : Launch} {D : va_G} {DA : Nat → ClassId} {b sz d L : Nat} {cu : Bool} {σ : Nat → Nat → Int32} {r : Option Value} {X' : am_X} (p1 : Int32) (p2 : Int32) (p3 : Int32) (p4 : Int32) (n0 : Nat) (hn_n0 : n0 < 20)
    (hv : (p4 = 0 ∨ p4 = 1) ∧ (r = none ∧ X' = (am_TT cu L, am_RR cu, am_us (am_us (am_us (am_us (am_us (am_us (am_us σ (19 + n0) 8 p1) (19 + n0) 9 p2) (19 + n0) 10 p3) (19 + n0) 14 p4) (19 + n0) 11 (p1 + (if p4 = 0 then (am_us (am_us (am_us (am_us σ (19 + n0) 8 p1) (19 + n0) 9 p2) (19 + n0) 10 p3) (19 + n0) 14 p4) (19 + n0) 0 else (am_us (am_us (am_us (am_us σ (19 + n0) 8 p1) (19 + n0) 9 p2) (19 + n0) 10 p3) (19 + n0) 14 p4) (19 + n0) 1 : Int32))) (19 + n0) 12 (p2 + (if p4 = 0 then (am_us (am_us (am_us (am_us (am_us σ (19 + n0) 8 p1) (19 + n0) 9 p2) (19 + n0) 10 p3) (19 + n0) 14 p4) (19 + n0) 11 (p1 + (if p4 = 0 then (am_us (am_us (am_us (am_us σ (19 + n0) 8 p1) (19 + n0) 9 p2) (19 + n0) 10 p3) (19 + n0) 14 p4) (19 + n0) 0 else (am_us (am_us (am_us (am_us σ (19 + n0) 8 p1) (19 + n0) 9 p2) (19 + n0) 10 p3) (19 + n0) 14 p4) (19 + n0) 1 : Int32))) (19 + n0) 1 else (am_us (am_us (am_us (am_us (am_us σ (19 + n0) 8 p1) (19 + n0) 9 p2) (19 + n0) 10 p3) (19 + n0) 14 p4) (19 + n0) 11 (p1 + (if p4 = 0 then (am_us (am_us (am_us (am_us σ (19 + n0) 8 p1) (19 + n0) 9 p2) (19 + n0) 10 p3) (19 + n0) 14 p4) (19 + n0) 0 else (am_us (am_us (am_us (am_us σ (19 + n0) 8 p1) (19 + n0) 9 p2) (19 + n0) 10 p3) (19 + n0) 14 p4) (19 + n0) 1 : Int32))) (19 + n0) 0 : Int32))) (19 + n0) 13 (p3 + ((am_us (am_us (am_us (am_us (am_us (am_us σ (19 + n0) 8 p1) (19 + n0) 9 p2) (19 + n0) 10 p3) (19 + n0) 14 p4) (19 + n0) 11 (p1 + (if p4 = 0 then (am_us (am_us (am_us (am_us σ (19 + n0) 8 p1) (19 + n0) 9 p2) (19 + n0) 10 p3) (19 + n0) 14 p4) (19 + n0) 0 else (am_us (am_us (am_us (am_us σ (19 + n0) 8 p1) (19 + n0) 9 p2) (19 + n0) 10 p3) (19 + n0) 14 p4) (19 + n0) 1 : Int32))) (19 + n0) 12 (p2 + (if p4 = 0 then (am_us (am_us (am_us (am_us (am_us σ (19 + n0) 8 p1) (19 + n0) 9 p2) (19 + n0) 10 p3) (19 + n0) 14 p4) (19 + n0) 11 (p1 + (if p4 = 0 then (am_us (am_us (am_us (am_us σ (19 + n0) 8 p1) (19 + n0) 9 p2) (19 + n0) 10 p3) (19 + n0) 14 p4) (19 + n0) 0 else (am_us (am_us (am_us (am_us σ (19 + n0) 8 p1) (19 + n0) 9 p2) (19 + n0) 10 p3) (19 + n0) 14 p4) (19 + n0) 1 : Int32))) (19 + n0) 1 else (am_us (am_us (am_us (am_us (am_us σ (19 + n0) 8 p1) (19 + n0) 9 p2) (19 + n0) 10 p3) (19 + n0) 14 p4) (19 + n0) 11 (p1 + (if p4 = 0 then (am_us (am_us (am_us (am_us σ (19 + n0) 8 p1) (19 + n0) 9 p2) (19 + n0) 10 p3) (19 + n0) 14 p4) (19 + n0) 0 else (am_us (am_us (am_us (am_us σ (19 + n0) 8 p1) (19 + n0) 9 p2) (19 + n0) 10 p3) (19 + n0) 14 p4) (19 + n0) 1 : Int32))) (19 + n0) 0 : Int32))) (19 + n0) 2))))) :
    am_Go l D DA b sz d M_Box_moveTo (0, [some (.ref (19 + n0)), some (.int p1), some (.int p2), some (.int p3), some (.int p4)], [], (am_TT cu L, am_RR cu, σ)) r X' := by
  refine go_steps q_Box_moveTo kc_Box_moveTo 2 rfl ?_
  refine go_putI q_Box_moveTo kc_Box_moveTo rfl (am_tt_box hn_n0) rfl ?_
  refine go_steps q_Box_moveTo kc_Box_moveTo 2 rfl ?_
  refine go_putI q_Box_moveTo kc_Box_moveTo rfl (am_tt_box hn_n0) rfl ?_
  refine go_steps q_Box_moveTo kc_Box_moveTo 2 rfl ?_
  refine go_putI q_Box_moveTo kc_Box_moveTo rfl (am_tt_box hn_n0) rfl ?_
  refine go_steps q_Box_moveTo kc_Box_moveTo 2 rfl ?_
  obtain ⟨hc, hv⟩ := hv
  refine go_putZ q_Box_moveTo kc_Box_moveTo rfl (am_tt_box hn_n0) rfl hc ?_
  refine go_steps q_Box_moveTo kc_Box_moveTo 4 rfl ?_
  have key : am_Go l D DA b sz d M_Box_moveTo (39, [some (.ref (19 + n0)), some (.int p1), some (.int p2), some (.int p3), some (.int p4)], [.int (if p4 = 0 then (am_us (am_us (am_us (am_us σ (19 + n0) 8 p1) (19 + n0) 9 p2) (19 + n0) 10 p3) (19 + n0) 14 p4) (19 + n0) 0 else (am_us (am_us (am_us (am_us σ (19 + n0) 8 p1) (19 + n0) 9 p2) (19 + n0) 10 p3) (19 + n0) 14 p4) (19 + n0) 1 : Int32), .int p1, .ref (19 + n0)], (am_TT cu L, am_RR cu, am_us (am_us (am_us (am_us σ (19 + n0) 8 p1) (19 + n0) 9 p2) (19 + n0) 10 p3) (19 + n0) 14 p4)) r X' := by
    refine go_steps q_Box_moveTo kc_Box_moveTo 1 rfl ?_
    refine go_putI q_Box_moveTo kc_Box_moveTo rfl (am_tt_box hn_n0) rfl ?_
    refine go_steps q_Box_moveTo kc_Box_moveTo 4 rfl ?_
    have key : am_Go l D DA b sz d M_Box_moveTo (61, [some (.ref (19 + n0)), some (.int p1), some (.int p2), some (.int p3), some (.int p4)], [.int (if p4 = 0 then (am_us (am_us (am_us (am_us (am_us σ (19 + n0) 8 p1) (19 + n0) 9 p2) (19 + n0) 10 p3) (19 + n0) 14 p4) (19 + n0) 11 (p1 + (if p4 = 0 then (am_us (am_us (am_us (am_us σ (19 + n0) 8 p1) (19 + n0) 9 p2) (19 + n0) 10 p3) (19 + n0) 14 p4) (19 + n0) 0 else (am_us (am_us (am_us (am_us σ (19 + n0) 8 p1) (19 + n0) 9 p2) (19 + n0) 10 p3) (19 + n0) 14 p4) (19 + n0) 1 : Int32))) (19 + n0) 1 else (am_us (am_us (am_us (am_us (am_us σ (19 + n0) 8 p1) (19 + n0) 9 p2) (19 + n0) 10 p3) (19 + n0) 14 p4) (19 + n0) 11 (p1 + (if p4 = 0 then (am_us (am_us (am_us (am_us σ (19 + n0) 8 p1) (19 + n0) 9 p2) (19 + n0) 10 p3) (19 + n0) 14 p4) (19 + n0) 0 else (am_us (am_us (am_us (am_us σ (19 + n0) 8 p1) (19 + n0) 9 p2) (19 + n0) 10 p3) (19 + n0) 14 p4) (19 + n0) 1 : Int32))) (19 + n0) 0 : Int32), .int p2, .ref (19 + n0)], (am_TT cu L, am_RR cu, am_us (am_us (am_us (am_us (am_us σ (19 + n0) 8 p1) (19 + n0) 9 p2) (19 + n0) 10 p3) (19 + n0) 14 p4) (19 + n0) 11 (p1 + (if p4 = 0 then (am_us (am_us (am_us (am_us σ (19 + n0) 8 p1) (19 + n0) 9 p2) (19 + n0) 10 p3) (19 + n0) 14 p4) (19 + n0) 0 else (am_us (am_us (am_us (am_us σ (19 + n0) 8 p1) (19 + n0) 9 p2) (19 + n0) 10 p3) (19 + n0) 14 p4) (19 + n0) 1 : Int32)))) r X' := by
      refine go_steps q_Box_moveTo kc_Box_moveTo 1 rfl ?_
      refine go_putI q_Box_moveTo kc_Box_moveTo rfl (am_tt_box hn_n0) rfl ?_
      refine go_steps q_Box_moveTo kc_Box_moveTo 3 rfl ?_
      refine go_getI q_Box_moveTo kc_Box_moveTo rfl (am_tt_box hn_n0) rfl ?_
      refine go_steps q_Box_moveTo kc_Box_moveTo 1 rfl ?_
      refine go_putI q_Box_moveTo kc_Box_moveTo rfl (am_tt_box hn_n0) rfl ?_
      obtain ⟨rfl, rfl⟩ := hv
      exact go_retV q_Box_moveTo kc_Box_moveTo rfl rfl
    refine go_if (fun hb => ?_) (fun hb => ?_)
    · have hb : p4 = 0 := hb
      rw [show (if p4 = 0 then (am_us (am_us (am_us (am_us (am_us σ (19 + n0) 8 p1) (19 + n0) 9 p2) (19 + n0) 10 p3) (19 + n0) 14 p4) (19 + n0) 11 (p1 + (if p4 = 0 then (am_us (am_us (am_us (am_us σ (19 + n0) 8 p1) (19 + n0) 9 p2) (19 + n0) 10 p3) (19 + n0) 14 p4) (19 + n0) 0 else (am_us (am_us (am_us (am_us σ (19 + n0) 8 p1) (19 + n0) 9 p2) (19 + n0) 10 p3) (19 + n0) 14 p4) (19 + n0) 1 : Int32))) (19 + n0) 1 else (am_us (am_us (am_us (am_us (am_us σ (19 + n0) 8 p1) (19 + n0) 9 p2) (19 + n0) 10 p3) (19 + n0) 14 p4) (19 + n0) 11 (p1 + (if p4 = 0 then (am_us (am_us (am_us (am_us σ (19 + n0) 8 p1) (19 + n0) 9 p2) (19 + n0) 10 p3) (19 + n0) 14 p4) (19 + n0) 0 else (am_us (am_us (am_us (am_us σ (19 + n0) 8 p1) (19 + n0) 9 p2) (19 + n0) 10 p3) (19 + n0) 14 p4) (19 + n0) 1 : Int32))) (19 + n0) 0 : Int32) = ((am_us (am_us (am_us (am_us (am_us σ (19 + n0) 8 p1) (19 + n0) 9 p2) (19 + n0) 10 p3) (19 + n0) 14 p4) (19 + n0) 11 (p1 + (if p4 = 0 then (am_us (am_us (am_us (am_us σ (19 + n0) 8 p1) (19 + n0) 9 p2) (19 + n0) 10 p3) (19 + n0) 14 p4) (19 + n0) 0 else (am_us (am_us (am_us (am_us σ (19 + n0) 8 p1) (19 + n0) 9 p2) (19 + n0) 10 p3) (19 + n0) 14 p4) (19 + n0) 1 : Int32))) (19 + n0) 1) from if_pos hb] at key
      refine go_steps q_Box_moveTo kc_Box_moveTo 1 rfl ?_
      refine go_getI q_Box_moveTo kc_Box_moveTo rfl (am_tt_box hn_n0) rfl ?_
      exact key
    · have hb : ¬ (p4 = 0) := hb
      rw [show (if p4 = 0 then (am_us (am_us (am_us (am_us (am_us σ (19 + n0) 8 p1) (19 + n0) 9 p2) (19 + n0) 10 p3) (19 + n0) 14 p4) (19 + n0) 11 (p1 + (if p4 = 0 then (am_us (am_us (am_us (am_us σ (19 + n0) 8 p1) (19 + n0) 9 p2) (19 + n0) 10 p3) (19 + n0) 14 p4) (19 + n0) 0 else (am_us (am_us (am_us (am_us σ (19 + n0) 8 p1) (19 + n0) 9 p2) (19 + n0) 10 p3) (19 + n0) 14 p4) (19 + n0) 1 : Int32))) (19 + n0) 1 else (am_us (am_us (am_us (am_us (am_us σ (19 + n0) 8 p1) (19 + n0) 9 p2) (19 + n0) 10 p3) (19 + n0) 14 p4) (19 + n0) 11 (p1 + (if p4 = 0 then (am_us (am_us (am_us (am_us σ (19 + n0) 8 p1) (19 + n0) 9 p2) (19 + n0) 10 p3) (19 + n0) 14 p4) (19 + n0) 0 else (am_us (am_us (am_us (am_us σ (19 + n0) 8 p1) (19 + n0) 9 p2) (19 + n0) 10 p3) (19 + n0) 14 p4) (19 + n0) 1 : Int32))) (19 + n0) 0 : Int32) = ((am_us (am_us (am_us (am_us (am_us σ (19 + n0) 8 p1) (19 + n0) 9 p2) (19 + n0) 10 p3) (19 + n0) 14 p4) (19 + n0) 11 (p1 + (if p4 = 0 then (am_us (am_us (am_us (am_us σ (19 + n0) 8 p1) (19 + n0) 9 p2) (19 + n0) 10 p3) (19 + n0) 14 p4) (19 + n0) 0 else (am_us (am_us (am_us (am_us σ (19 + n0) 8 p1) (19 + n0) 9 p2) (19 + n0) 10 p3) (19 + n0) 14 p4) (19 + n0) 1 : Int32))) (19 + n0) 0) from if_neg hb] at key
      refine go_steps q_Box_moveTo kc_Box_moveTo 1 rfl ?_
      refine go_getI q_Box_moveTo kc_Box_moveTo rfl (am_tt_box hn_n0) rfl ?_
      refine go_steps q_Box_moveTo kc_Box_moveTo 1 rfl ?_
      exact key
  refine go_if (fun hb => ?_) (fun hb => ?_)
  · have hb : p4 = 0 := hb
    rw [show (if p4 = 0 then (am_us (am_us (am_us (am_us σ (19 + n0) 8 p1) (19 + n0) 9 p2) (19 + n0) 10 p3) (19 + n0) 14 p4) (19 + n0) 0 else (am_us (am_us (am_us (am_us σ (19 + n0) 8 p1) (19 + n0) 9 p2) (19 + n0) 10 p3) (19 + n0) 14 p4) (19 + n0) 1 : Int32) = ((am_us (am_us (am_us (am_us σ (19 + n0) 8 p1) (19 + n0) 9 p2) (19 + n0) 10 p3) (19 + n0) 14 p4) (19 + n0) 0) from if_pos hb] at key
    refine go_steps q_Box_moveTo kc_Box_moveTo 1 rfl ?_
    refine go_getI q_Box_moveTo kc_Box_moveTo rfl (am_tt_box hn_n0) rfl ?_
    exact key
  · have hb : ¬ (p4 = 0) := hb
    rw [show (if p4 = 0 then (am_us (am_us (am_us (am_us σ (19 + n0) 8 p1) (19 + n0) 9 p2) (19 + n0) 10 p3) (19 + n0) 14 p4) (19 + n0) 0 else (am_us (am_us (am_us (am_us σ (19 + n0) 8 p1) (19 + n0) 9 p2) (19 + n0) 10 p3) (19 + n0) 14 p4) (19 + n0) 1 : Int32) = ((am_us (am_us (am_us (am_us σ (19 + n0) 8 p1) (19 + n0) 9 p2) (19 + n0) 10 p3) (19 + n0) 14 p4) (19 + n0) 1) from if_neg hb] at key
    refine go_steps q_Box_moveTo kc_Box_moveTo 1 rfl ?_
    refine go_getI q_Box_moveTo kc_Box_moveTo rfl (am_tt_box hn_n0) rfl ?_
    refine go_steps q_Box_moveTo kc_Box_moveTo 1 rfl ?_
    exact key
set_option maxHeartbeats 4000000 in
set_option maxRecDepth 100000 in
theorem v_Hold_commonInX_0 {l : Launch} {D : va_G} {DA : Nat → ClassId} {b sz d L : Nat} {cu : Bool} {σ : Nat → Nat → Int32} {r : Option Value} {X' : am_X} (p1 : Int32) (p2 : Int32)
    (hv : am_Go l D DA b sz (d + 1) M_Hold_commonInX (5, [some (.ref 2), some (.int p1), some (.int p2), some (.int 0), some (.int 0)], [], (am_TT cu L, am_RR cu, σ)) r X') :
    am_Go l D DA b sz (d + 1) M_Hold_commonInX (0, [some (.ref 2), some (.int p1), some (.int p2), none, none], [], (am_TT cu L, am_RR cu, σ)) r X' := by
  refine go_steps q_Hold_commonInX kc_Hold_commonInX 4 rfl ?_
  refine go_le (L1 := [some (.ref 2), some (.int p1), some (.int p2), some (.int 0), some (.int 0)]) (by repeat (first | exact trivial | refine ⟨rfl, ?_⟩)) ?_
  exact hv
set_option maxHeartbeats 4000000 in
set_option maxRecDepth 100000 in
theorem v_Hold_commonInX_5 {l : Launch} {D : va_G} {DA : Nat → ClassId} {b sz d L : Nat} {cu : Bool} {σ : Nat → Nat → Int32} {r : Option Value} {X' : am_X} (p1 : Int32) (p2 : Int32) (p3 : Int32) (p4 : Int32)
    (hv : (((σ 2 2) ≤ p4) → (r = some (.int p3) ∧ X' = (am_TT cu L, am_RR cu, σ))) ∧ (¬ ((σ 2 2) ≤ p4) → (∃ (r1 : Int32) (σ1 : Nat → Nat → Int32), am_Go l D DA b sz d M_Hold_has (0, [some (.ref 2), some (.int p4)], [], (am_TT cu L, am_RR cu, σ)) (some (.int r1)) (am_TT cu L, am_RR cu, σ1) ∧ (((r1 = 0) → (am_Go l D DA b sz (d + 1) M_Hold_commonInX (5, [some (.ref 2), some (.int p1), some (.int p2), some (.int p3), some (.int (p4 + 1))], [], (am_TT cu L, am_RR cu, σ1)) r X')) ∧ (¬ (r1 = 0) → ((¬ (p4 < 0 ∨ 20 ≤ Int32.toNatClampNeg p4)) ∧ (((p2 ≤ (σ1 (19 + Int32.toNatClampNeg p4) 8)) → (am_Go l D DA b sz (d + 1) M_Hold_commonInX (5, [some (.ref 2), some (.int p1), some (.int p2), some (.int p3), some (.int (p4 + 1))], [], (am_TT cu L, am_RR cu, σ1)) r X')) ∧ (¬ (p2 ≤ (σ1 (19 + Int32.toNatClampNeg p4) 8)) → ((¬ (p4 < 0 ∨ 20 ≤ Int32.toNatClampNeg p4)) ∧ ((((σ1 (19 + Int32.toNatClampNeg p4) 11) ≤ p1) → (am_Go l D DA b sz (d + 1) M_Hold_commonInX (5, [some (.ref 2), some (.int p1), some (.int p2), some (.int p3), some (.int (p4 + 1))], [], (am_TT cu L, am_RR cu, σ1)) r X')) ∧ (¬ ((σ1 (19 + Int32.toNatClampNeg p4) 11) ≤ p1) → (am_Go l D DA b sz (d + 1) M_Hold_commonInX (5, [some (.ref 2), some (.int p1), some (.int p2), some (.int (p3 ||| (1 <<< (p4 &&& 31 : Int32) : Int32))), some (.int (p4 + 1))], [], (am_TT cu L, am_RR cu, σ1)) r X')))))))))))) :
    am_Go l D DA b sz (d + 1) M_Hold_commonInX (5, [some (.ref 2), some (.int p1), some (.int p2), some (.int p3), some (.int p4)], [], (am_TT cu L, am_RR cu, σ)) r X' := by
  refine go_steps q_Hold_commonInX kc_Hold_commonInX 4 rfl ?_
  refine go_if (fun hb => ?_) (fun hb => ?_)
  · have hb : (σ 2 2) ≤ p4 := hb
    replace hv := hv.1 hb
    refine go_steps q_Hold_commonInX kc_Hold_commonInX 1 rfl ?_
    obtain ⟨rfl, rfl⟩ := hv
    exact go_retI q_Hold_commonInX kc_Hold_commonInX rfl rfl rfl
  · have hb : ¬ ((σ 2 2) ≤ p4) := hb
    replace hv := hv.2 hb
    refine go_steps q_Hold_commonInX kc_Hold_commonInX 2 rfl ?_
    obtain ⟨r1, σ1, hg, hv⟩ := hv
    refine go_callV q_Hold_commonInX kc_Hold_commonInX rfl q_Hold_has am_k18 ⟨rfl, rfl, by decide⟩ rfl rfl (Nat.le_of_ble_eq_true rfl) (Nat.le_of_ble_eq_true rfl) rfl rfl hg ?_
    refine go_steps q_Hold_commonInX kc_Hold_commonInX 1 rfl ?_
    refine go_if (fun hb => ?_) (fun hb => ?_)
    · have hb : r1 = 0 := hb
      replace hv := hv.1 hb
      refine go_steps q_Hold_commonInX kc_Hold_commonInX 2 rfl ?_
      refine go_le (L1 := [some (.ref 2), some (.int p1), some (.int p2), some (.int p3), some (.int (p4 + 1))]) (by repeat (first | exact trivial | refine ⟨rfl, ?_⟩)) ?_
      exact hv
    · have hb : ¬ (r1 = 0) := hb
      replace hv := hv.2 hb
      refine go_steps q_Hold_commonInX kc_Hold_commonInX 3 rfl ?_
      obtain ⟨hc1, hv⟩ := hv
      refine go_aaload q_Hold_commonInX kc_Hold_commonInX rfl rfl hc1 (am_rr4 (am_inb hc1)) ?_
      refine go_getI q_Hold_commonInX kc_Hold_commonInX rfl (am_tt_box (am_inb hc1)) rfl ?_
      refine go_steps q_Hold_commonInX kc_Hold_commonInX 2 rfl ?_
      refine go_if (fun hb => ?_) (fun hb => ?_)
      · have hb : p2 ≤ (σ1 (19 + Int32.toNatClampNeg p4) 8) := hb
        replace hv := hv.1 hb
        refine go_steps q_Hold_commonInX kc_Hold_commonInX 2 rfl ?_
        refine go_le (L1 := [some (.ref 2), some (.int p1), some (.int p2), some (.int p3), some (.int (p4 + 1))]) (by repeat (first | exact trivial | refine ⟨rfl, ?_⟩)) ?_
        exact hv
      · have hb : ¬ (p2 ≤ (σ1 (19 + Int32.toNatClampNeg p4) 8)) := hb
        replace hv := hv.2 hb
        refine go_steps q_Hold_commonInX kc_Hold_commonInX 4 rfl ?_
        obtain ⟨hc2, hv⟩ := hv
        refine go_aaload q_Hold_commonInX kc_Hold_commonInX rfl rfl hc2 (am_rr4 (am_inb hc2)) ?_
        refine go_getI q_Hold_commonInX kc_Hold_commonInX rfl (am_tt_box (am_inb hc2)) rfl ?_
        refine go_steps q_Hold_commonInX kc_Hold_commonInX 1 rfl ?_
        refine go_if (fun hb => ?_) (fun hb => ?_)
        · have hb : (σ1 (19 + Int32.toNatClampNeg p4) 11) ≤ p1 := hb
          replace hv := hv.1 hb
          refine go_steps q_Hold_commonInX kc_Hold_commonInX 2 rfl ?_
          refine go_le (L1 := [some (.ref 2), some (.int p1), some (.int p2), some (.int p3), some (.int (p4 + 1))]) (by repeat (first | exact trivial | refine ⟨rfl, ?_⟩)) ?_
          exact hv
        · have hb : ¬ ((σ1 (19 + Int32.toNatClampNeg p4) 11) ≤ p1) := hb
          replace hv := hv.2 hb
          refine go_steps q_Hold_commonInX kc_Hold_commonInX 8 rfl ?_
          refine go_le (L1 := [some (.ref 2), some (.int p1), some (.int p2), some (.int (p3 ||| (1 <<< (p4 &&& 31 : Int32) : Int32))), some (.int (p4 + 1))]) (by repeat (first | exact trivial | refine ⟨rfl, ?_⟩)) ?_
          exact hv
set_option maxHeartbeats 4000000 in
set_option maxRecDepth 100000 in
theorem v_Hold_commonInY_0 {l : Launch} {D : va_G} {DA : Nat → ClassId} {b sz d L : Nat} {cu : Bool} {σ : Nat → Nat → Int32} {r : Option Value} {X' : am_X} (p1 : Int32) (p2 : Int32)
    (hv : am_Go l D DA b sz (d + 1) M_Hold_commonInY (5, [some (.ref 2), some (.int p1), some (.int p2), some (.int 0), some (.int 0)], [], (am_TT cu L, am_RR cu, σ)) r X') :
    am_Go l D DA b sz (d + 1) M_Hold_commonInY (0, [some (.ref 2), some (.int p1), some (.int p2), none, none], [], (am_TT cu L, am_RR cu, σ)) r X' := by
  refine go_steps q_Hold_commonInY kc_Hold_commonInY 4 rfl ?_
  refine go_le (L1 := [some (.ref 2), some (.int p1), some (.int p2), some (.int 0), some (.int 0)]) (by repeat (first | exact trivial | refine ⟨rfl, ?_⟩)) ?_
  exact hv
set_option maxHeartbeats 4000000 in
set_option maxRecDepth 100000 in
theorem v_Hold_commonInY_5 {l : Launch} {D : va_G} {DA : Nat → ClassId} {b sz d L : Nat} {cu : Bool} {σ : Nat → Nat → Int32} {r : Option Value} {X' : am_X} (p1 : Int32) (p2 : Int32) (p3 : Int32) (p4 : Int32)
    (hv : (((σ 2 2) ≤ p4) → (r = some (.int p3) ∧ X' = (am_TT cu L, am_RR cu, σ))) ∧ (¬ ((σ 2 2) ≤ p4) → (∃ (r1 : Int32) (σ1 : Nat → Nat → Int32), am_Go l D DA b sz d M_Hold_has (0, [some (.ref 2), some (.int p4)], [], (am_TT cu L, am_RR cu, σ)) (some (.int r1)) (am_TT cu L, am_RR cu, σ1) ∧ (((r1 = 0) → (am_Go l D DA b sz (d + 1) M_Hold_commonInY (5, [some (.ref 2), some (.int p1), some (.int p2), some (.int p3), some (.int (p4 + 1))], [], (am_TT cu L, am_RR cu, σ1)) r X')) ∧ (¬ (r1 = 0) → ((¬ (p4 < 0 ∨ 20 ≤ Int32.toNatClampNeg p4)) ∧ (((p2 ≤ (σ1 (19 + Int32.toNatClampNeg p4) 9)) → (am_Go l D DA b sz (d + 1) M_Hold_commonInY (5, [some (.ref 2), some (.int p1), some (.int p2), some (.int p3), some (.int (p4 + 1))], [], (am_TT cu L, am_RR cu, σ1)) r X')) ∧ (¬ (p2 ≤ (σ1 (19 + Int32.toNatClampNeg p4) 9)) → ((¬ (p4 < 0 ∨ 20 ≤ Int32.toNatClampNeg p4)) ∧ ((((σ1 (19 + Int32.toNatClampNeg p4) 12) ≤ p1) → (am_Go l D DA b sz (d + 1) M_Hold_commonInY (5, [some (.ref 2), some (.int p1), some (.int p2), some (.int p3), some (.int (p4 + 1))], [], (am_TT cu L, am_RR cu, σ1)) r X')) ∧ (¬ ((σ1 (19 + Int32.toNatClampNeg p4) 12) ≤ p1) → (am_Go l D DA b sz (d + 1) M_Hold_commonInY (5, [some (.ref 2), some (.int p1), some (.int p2), some (.int (p3 ||| (1 <<< (p4 &&& 31 : Int32) : Int32))), some (.int (p4 + 1))], [], (am_TT cu L, am_RR cu, σ1)) r X')))))))))))) :
    am_Go l D DA b sz (d + 1) M_Hold_commonInY (5, [some (.ref 2), some (.int p1), some (.int p2), some (.int p3), some (.int p4)], [], (am_TT cu L, am_RR cu, σ)) r X' := by
  refine go_steps q_Hold_commonInY kc_Hold_commonInY 4 rfl ?_
  refine go_if (fun hb => ?_) (fun hb => ?_)
  · have hb : (σ 2 2) ≤ p4 := hb
    replace hv := hv.1 hb
    refine go_steps q_Hold_commonInY kc_Hold_commonInY 1 rfl ?_
    obtain ⟨rfl, rfl⟩ := hv
    exact go_retI q_Hold_commonInY kc_Hold_commonInY rfl rfl rfl
  · have hb : ¬ ((σ 2 2) ≤ p4) := hb
    replace hv := hv.2 hb
    refine go_steps q_Hold_commonInY kc_Hold_commonInY 2 rfl ?_
    obtain ⟨r1, σ1, hg, hv⟩ := hv
    refine go_callV q_Hold_commonInY kc_Hold_commonInY rfl q_Hold_has am_k18 ⟨rfl, rfl, by decide⟩ rfl rfl (Nat.le_of_ble_eq_true rfl) (Nat.le_of_ble_eq_true rfl) rfl rfl hg ?_
    refine go_steps q_Hold_commonInY kc_Hold_commonInY 1 rfl ?_
    refine go_if (fun hb => ?_) (fun hb => ?_)
    · have hb : r1 = 0 := hb
      replace hv := hv.1 hb
      refine go_steps q_Hold_commonInY kc_Hold_commonInY 2 rfl ?_
      refine go_le (L1 := [some (.ref 2), some (.int p1), some (.int p2), some (.int p3), some (.int (p4 + 1))]) (by repeat (first | exact trivial | refine ⟨rfl, ?_⟩)) ?_
      exact hv
    · have hb : ¬ (r1 = 0) := hb
      replace hv := hv.2 hb
      refine go_steps q_Hold_commonInY kc_Hold_commonInY 3 rfl ?_
      obtain ⟨hc1, hv⟩ := hv
      refine go_aaload q_Hold_commonInY kc_Hold_commonInY rfl rfl hc1 (am_rr4 (am_inb hc1)) ?_
      refine go_getI q_Hold_commonInY kc_Hold_commonInY rfl (am_tt_box (am_inb hc1)) rfl ?_
      refine go_steps q_Hold_commonInY kc_Hold_commonInY 2 rfl ?_
      refine go_if (fun hb => ?_) (fun hb => ?_)
      · have hb : p2 ≤ (σ1 (19 + Int32.toNatClampNeg p4) 9) := hb
        replace hv := hv.1 hb
        refine go_steps q_Hold_commonInY kc_Hold_commonInY 2 rfl ?_
        refine go_le (L1 := [some (.ref 2), some (.int p1), some (.int p2), some (.int p3), some (.int (p4 + 1))]) (by repeat (first | exact trivial | refine ⟨rfl, ?_⟩)) ?_
        exact hv
      · have hb : ¬ (p2 ≤ (σ1 (19 + Int32.toNatClampNeg p4) 9)) := hb
        replace hv := hv.2 hb
        refine go_steps q_Hold_commonInY kc_Hold_commonInY 4 rfl ?_
        obtain ⟨hc2, hv⟩ := hv
        refine go_aaload q_Hold_commonInY kc_Hold_commonInY rfl rfl hc2 (am_rr4 (am_inb hc2)) ?_
        refine go_getI q_Hold_commonInY kc_Hold_commonInY rfl (am_tt_box (am_inb hc2)) rfl ?_
        refine go_steps q_Hold_commonInY kc_Hold_commonInY 1 rfl ?_
        refine go_if (fun hb => ?_) (fun hb => ?_)
        · have hb : (σ1 (19 + Int32.toNatClampNeg p4) 12) ≤ p1 := hb
          replace hv := hv.1 hb
          refine go_steps q_Hold_commonInY kc_Hold_commonInY 2 rfl ?_
          refine go_le (L1 := [some (.ref 2), some (.int p1), some (.int p2), some (.int p3), some (.int (p4 + 1))]) (by repeat (first | exact trivial | refine ⟨rfl, ?_⟩)) ?_
          exact hv
        · have hb : ¬ ((σ1 (19 + Int32.toNatClampNeg p4) 12) ≤ p1) := hb
          replace hv := hv.2 hb
          refine go_steps q_Hold_commonInY kc_Hold_commonInY 8 rfl ?_
          refine go_le (L1 := [some (.ref 2), some (.int p1), some (.int p2), some (.int (p3 ||| (1 <<< (p4 &&& 31 : Int32) : Int32))), some (.int (p4 + 1))]) (by repeat (first | exact trivial | refine ⟨rfl, ?_⟩)) ?_
          exact hv
set_option maxHeartbeats 4000000 in
set_option maxRecDepth 100000 in
theorem v_Hold_commonInZ_0 {l : Launch} {D : va_G} {DA : Nat → ClassId} {b sz d L : Nat} {cu : Bool} {σ : Nat → Nat → Int32} {r : Option Value} {X' : am_X} (p1 : Int32) (p2 : Int32)
    (hv : am_Go l D DA b sz (d + 1) M_Hold_commonInZ (5, [some (.ref 2), some (.int p1), some (.int p2), some (.int 0), some (.int 0)], [], (am_TT cu L, am_RR cu, σ)) r X') :
    am_Go l D DA b sz (d + 1) M_Hold_commonInZ (0, [some (.ref 2), some (.int p1), some (.int p2), none, none], [], (am_TT cu L, am_RR cu, σ)) r X' := by
  refine go_steps q_Hold_commonInZ kc_Hold_commonInZ 4 rfl ?_
  refine go_le (L1 := [some (.ref 2), some (.int p1), some (.int p2), some (.int 0), some (.int 0)]) (by repeat (first | exact trivial | refine ⟨rfl, ?_⟩)) ?_
  exact hv
set_option maxHeartbeats 4000000 in
set_option maxRecDepth 100000 in
theorem v_Hold_commonInZ_5 {l : Launch} {D : va_G} {DA : Nat → ClassId} {b sz d L : Nat} {cu : Bool} {σ : Nat → Nat → Int32} {r : Option Value} {X' : am_X} (p1 : Int32) (p2 : Int32) (p3 : Int32) (p4 : Int32)
    (hv : (((σ 2 2) ≤ p4) → (r = some (.int p3) ∧ X' = (am_TT cu L, am_RR cu, σ))) ∧ (¬ ((σ 2 2) ≤ p4) → (∃ (r1 : Int32) (σ1 : Nat → Nat → Int32), am_Go l D DA b sz d M_Hold_has (0, [some (.ref 2), some (.int p4)], [], (am_TT cu L, am_RR cu, σ)) (some (.int r1)) (am_TT cu L, am_RR cu, σ1) ∧ (((r1 = 0) → (am_Go l D DA b sz (d + 1) M_Hold_commonInZ (5, [some (.ref 2), some (.int p1), some (.int p2), some (.int p3), some (.int (p4 + 1))], [], (am_TT cu L, am_RR cu, σ1)) r X')) ∧ (¬ (r1 = 0) → ((¬ (p4 < 0 ∨ 20 ≤ Int32.toNatClampNeg p4)) ∧ (((p2 ≤ (σ1 (19 + Int32.toNatClampNeg p4) 10)) → (am_Go l D DA b sz (d + 1) M_Hold_commonInZ (5, [some (.ref 2), some (.int p1), some (.int p2), some (.int p3), some (.int (p4 + 1))], [], (am_TT cu L, am_RR cu, σ1)) r X')) ∧ (¬ (p2 ≤ (σ1 (19 + Int32.toNatClampNeg p4) 10)) → ((¬ (p4 < 0 ∨ 20 ≤ Int32.toNatClampNeg p4)) ∧ ((((σ1 (19 + Int32.toNatClampNeg p4) 13) ≤ p1) → (am_Go l D DA b sz (d + 1) M_Hold_commonInZ (5, [some (.ref 2), some (.int p1), some (.int p2), some (.int p3), some (.int (p4 + 1))], [], (am_TT cu L, am_RR cu, σ1)) r X')) ∧ (¬ ((σ1 (19 + Int32.toNatClampNeg p4) 13) ≤ p1) → (am_Go l D DA b sz (d + 1) M_Hold_commonInZ (5, [some (.ref 2), some (.int p1), some (.int p2), some (.int (p3 ||| (1 <<< (p4 &&& 31 : Int32) : Int32))), some (.int (p4 + 1))], [], (am_TT cu L, am_RR cu, σ1)) r X')))))))))))) :
    am_Go l D DA b sz (d + 1) M_Hold_commonInZ (5, [some (.ref 2), some (.int p1), some (.int p2), some (.int p3), some (.int p4)], [], (am_TT cu L, am_RR cu, σ)) r X' := by
  refine go_steps q_Hold_commonInZ kc_Hold_commonInZ 4 rfl ?_
  refine go_if (fun hb => ?_) (fun hb => ?_)
  · have hb : (σ 2 2) ≤ p4 := hb
    replace hv := hv.1 hb
    refine go_steps q_Hold_commonInZ kc_Hold_commonInZ 1 rfl ?_
    obtain ⟨rfl, rfl⟩ := hv
    exact go_retI q_Hold_commonInZ kc_Hold_commonInZ rfl rfl rfl
  · have hb : ¬ ((σ 2 2) ≤ p4) := hb
    replace hv := hv.2 hb
    refine go_steps q_Hold_commonInZ kc_Hold_commonInZ 2 rfl ?_
    obtain ⟨r1, σ1, hg, hv⟩ := hv
    refine go_callV q_Hold_commonInZ kc_Hold_commonInZ rfl q_Hold_has am_k18 ⟨rfl, rfl, by decide⟩ rfl rfl (Nat.le_of_ble_eq_true rfl) (Nat.le_of_ble_eq_true rfl) rfl rfl hg ?_
    refine go_steps q_Hold_commonInZ kc_Hold_commonInZ 1 rfl ?_
    refine go_if (fun hb => ?_) (fun hb => ?_)
    · have hb : r1 = 0 := hb
      replace hv := hv.1 hb
      refine go_steps q_Hold_commonInZ kc_Hold_commonInZ 2 rfl ?_
      refine go_le (L1 := [some (.ref 2), some (.int p1), some (.int p2), some (.int p3), some (.int (p4 + 1))]) (by repeat (first | exact trivial | refine ⟨rfl, ?_⟩)) ?_
      exact hv
    · have hb : ¬ (r1 = 0) := hb
      replace hv := hv.2 hb
      refine go_steps q_Hold_commonInZ kc_Hold_commonInZ 3 rfl ?_
      obtain ⟨hc1, hv⟩ := hv
      refine go_aaload q_Hold_commonInZ kc_Hold_commonInZ rfl rfl hc1 (am_rr4 (am_inb hc1)) ?_
      refine go_getI q_Hold_commonInZ kc_Hold_commonInZ rfl (am_tt_box (am_inb hc1)) rfl ?_
      refine go_steps q_Hold_commonInZ kc_Hold_commonInZ 2 rfl ?_
      refine go_if (fun hb => ?_) (fun hb => ?_)
      · have hb : p2 ≤ (σ1 (19 + Int32.toNatClampNeg p4) 10) := hb
        replace hv := hv.1 hb
        refine go_steps q_Hold_commonInZ kc_Hold_commonInZ 2 rfl ?_
        refine go_le (L1 := [some (.ref 2), some (.int p1), some (.int p2), some (.int p3), some (.int (p4 + 1))]) (by repeat (first | exact trivial | refine ⟨rfl, ?_⟩)) ?_
        exact hv
      · have hb : ¬ (p2 ≤ (σ1 (19 + Int32.toNatClampNeg p4) 10)) := hb
        replace hv := hv.2 hb
        refine go_steps q_Hold_commonInZ kc_Hold_commonInZ 4 rfl ?_
        obtain ⟨hc2, hv⟩ := hv
        refine go_aaload q_Hold_commonInZ kc_Hold_commonInZ rfl rfl hc2 (am_rr4 (am_inb hc2)) ?_
        refine go_getI q_Hold_commonInZ kc_Hold_commonInZ rfl (am_tt_box (am_inb hc2)) rfl ?_
        refine go_steps q_Hold_commonInZ kc_Hold_commonInZ 1 rfl ?_
        refine go_if (fun hb => ?_) (fun hb => ?_)
        · have hb : (σ1 (19 + Int32.toNatClampNeg p4) 13) ≤ p1 := hb
          replace hv := hv.1 hb
          refine go_steps q_Hold_commonInZ kc_Hold_commonInZ 2 rfl ?_
          refine go_le (L1 := [some (.ref 2), some (.int p1), some (.int p2), some (.int p3), some (.int (p4 + 1))]) (by repeat (first | exact trivial | refine ⟨rfl, ?_⟩)) ?_
          exact hv
        · have hb : ¬ ((σ1 (19 + Int32.toNatClampNeg p4) 13) ≤ p1) := hb
          replace hv := hv.2 hb
          refine go_steps q_Hold_commonInZ kc_Hold_commonInZ 8 rfl ?_
          refine go_le (L1 := [some (.ref 2), some (.int p1), some (.int p2), some (.int (p3 ||| (1 <<< (p4 &&& 31 : Int32) : Int32))), some (.int (p4 + 1))]) (by repeat (first | exact trivial | refine ⟨rfl, ?_⟩)) ?_
          exact hv
set_option maxHeartbeats 4000000 in
set_option maxRecDepth 100000 in
theorem v_Hold_faults_0 {l : Launch} {D : va_G} {DA : Nat → ClassId} {b sz d L : Nat} {cu : Bool} {σ : Nat → Nat → Int32} {r : Option Value} {X' : am_X} (p1 : Int32)
    (hv : (¬ (p1 < 0 ∨ 20 ≤ Int32.toNatClampNeg p1)) ∧ (∃ (r1 : Int32) (σ1 : Nat → Nat → Int32), am_Go l D DA b sz d M_Hold_isInside (0, [some (.ref 2), some (.ref (19 + Int32.toNatClampNeg p1))], [], (am_TT cu L, am_RR cu, σ)) (some (.int r1)) (am_TT cu L, am_RR cu, σ1) ∧ ((((((σ1 2 9) &&& (σ1 2 10)) &&& (σ1 2 11)) = 0) → ((((if r1 = 0 then 1 else 0 : Int32) = 0) → (∃ (r2 : Int32) (σ2 : Nat → Nat → Int32), am_Go l D DA b sz d M_Hold_isHeld (0, [some (.ref 2), some (.ref (19 + Int32.toNatClampNeg p1)), none, none, none], [], (am_TT cu L, am_RR cu, σ1)) (some (.int r2)) (am_TT cu L, am_RR cu, σ2) ∧ (((r2 = 0) → (∃ (r3 : Int32) (σ3 : Nat → Nat → Int32), am_Go l D DA b sz d M_Hold_isInWay (0, [some (.ref 2), some (.ref (19 + Int32.toNatClampNeg p1)), none, none, none, none, none, none], [], (am_TT cu L, am_RR cu, σ2)) (some (.int r3)) (am_TT cu L, am_RR cu, σ3) ∧ (r = some (.int (if r3 = 0 then (if r1 = 0 then 1 else 0 : Int32) ||| 4 else ((if r1 = 0 then 1 else 0 : Int32) ||| 4) ||| 16 : Int32)) ∧ X' = (am_TT cu L, am_RR cu, σ3)))) ∧ (¬ (r2 = 0) → (∃ (r4 : Int32) (σ4 : Nat → Nat → Int32), am_Go l D DA b sz d M_Hold_bearAll (0, [some (.ref 2), some (.int ((σ2 2 3) ||| (1 <<< (p1 &&& 31 : Int32) : Int32))), none, none, none], [], (am_TT cu L, am_RR cu, σ2)) (some (.int r4)) (am_TT cu L, am_RR cu, σ4) ∧ (((r4 = 0) → (∃ (r5 : Int32) (σ5 : Nat → Nat → Int32), am_Go l D DA b sz d M_Hold_isInWay (0, [some (.ref 2), some (.ref (19 + Int32.toNatClampNeg p1)), none, none, none, none, none, none], [], (am_TT cu L, am_RR cu, σ4)) (some (.int r5)) (am_TT cu L, am_RR cu, σ5) ∧ (r = some (.int (if r5 = 0 then (if r1 = 0 then 1 else 0 : Int32) ||| 8 else ((if r1 = 0 then 1 else 0 : Int32) ||| 8) ||| 16 : Int32)) ∧ X' = (am_TT cu L, am_RR cu, σ5)))) ∧ (¬ (r4 = 0) → (∃ (r6 : Int32) (σ6 : Nat → Nat → Int32), am_Go l D DA b sz d M_Hold_isInWay (0, [some (.ref 2), some (.ref (19 + Int32.toNatClampNeg p1)), none, none, none, none, none, none], [], (am_TT cu L, am_RR cu, σ4)) (some (.int r6)) (am_TT cu L, am_RR cu, σ6) ∧ (r = some (.int (if r6 = 0 then (if r1 = 0 then 1 else 0 : Int32) else (if r1 = 0 then 1 else 0 : Int32) ||| 16 : Int32)) ∧ X' = (am_TT cu L, am_RR cu, σ6)))))))))) ∧ (¬ ((if r1 = 0 then 1 else 0 : Int32) = 0) → (r = some (.int (if r1 = 0 then 1 else 0 : Int32)) ∧ X' = (am_TT cu L, am_RR cu, σ1))))) ∧ (¬ ((((σ1 2 9) &&& (σ1 2 10)) &&& (σ1 2 11)) = 0) → (((((if r1 = 0 then 1 else 0 : Int32) ||| 2) = 0) → (∃ (r7 : Int32) (σ7 : Nat → Nat → Int32), am_Go l D DA b sz d M_Hold_isHeld (0, [some (.ref 2), some (.ref (19 + Int32.toNatClampNeg p1)), none, none, none], [], (am_TT cu L, am_RR cu, σ1)) (some (.int r7)) (am_TT cu L, am_RR cu, σ7) ∧ (((r7 = 0) → (∃ (r8 : Int32) (σ8 : Nat → Nat → Int32), am_Go l D DA b sz d M_Hold_isInWay (0, [some (.ref 2), some (.ref (19 + Int32.toNatClampNeg p1)), none, none, none, none, none, none], [], (am_TT cu L, am_RR cu, σ7)) (some (.int r8)) (am_TT cu L, am_RR cu, σ8) ∧ (r = some (.int (if r8 = 0 then ((if r1 = 0 then 1 else 0 : Int32) ||| 2) ||| 4 else (((if r1 = 0 then 1 else 0 : Int32) ||| 2) ||| 4) ||| 16 : Int32)) ∧ X' = (am_TT cu L, am_RR cu, σ8)))) ∧ (¬ (r7 = 0) → (∃ (r9 : Int32) (σ9 : Nat → Nat → Int32), am_Go l D DA b sz d M_Hold_bearAll (0, [some (.ref 2), some (.int ((σ7 2 3) ||| (1 <<< (p1 &&& 31 : Int32) : Int32))), none, none, none], [], (am_TT cu L, am_RR cu, σ7)) (some (.int r9)) (am_TT cu L, am_RR cu, σ9) ∧ (((r9 = 0) → (∃ (r10 : Int32) (σ10 : Nat → Nat → Int32), am_Go l D DA b sz d M_Hold_isInWay (0, [some (.ref 2), some (.ref (19 + Int32.toNatClampNeg p1)), none, none, none, none, none, none], [], (am_TT cu L, am_RR cu, σ9)) (some (.int r10)) (am_TT cu L, am_RR cu, σ10) ∧ (r = some (.int (if r10 = 0 then ((if r1 = 0 then 1 else 0 : Int32) ||| 2) ||| 8 else (((if r1 = 0 then 1 else 0 : Int32) ||| 2) ||| 8) ||| 16 : Int32)) ∧ X' = (am_TT cu L, am_RR cu, σ10)))) ∧ (¬ (r9 = 0) → (∃ (r11 : Int32) (σ11 : Nat → Nat → Int32), am_Go l D DA b sz d M_Hold_isInWay (0, [some (.ref 2), some (.ref (19 + Int32.toNatClampNeg p1)), none, none, none, none, none, none], [], (am_TT cu L, am_RR cu, σ9)) (some (.int r11)) (am_TT cu L, am_RR cu, σ11) ∧ (r = some (.int (if r11 = 0 then (if r1 = 0 then 1 else 0 : Int32) ||| 2 else ((if r1 = 0 then 1 else 0 : Int32) ||| 2) ||| 16 : Int32)) ∧ X' = (am_TT cu L, am_RR cu, σ11)))))))))) ∧ (¬ (((if r1 = 0 then 1 else 0 : Int32) ||| 2) = 0) → (r = some (.int ((if r1 = 0 then 1 else 0 : Int32) ||| 2)) ∧ X' = (am_TT cu L, am_RR cu, σ1)))))))) :
    am_Go l D DA b sz (d + 1) M_Hold_faults (0, [some (.ref 2), some (.int p1), none, none], [], (am_TT cu L, am_RR cu, σ)) r X' := by
  refine go_steps q_Hold_faults kc_Hold_faults 3 rfl ?_
  obtain ⟨hc1, hv⟩ := hv
  refine go_aaload q_Hold_faults kc_Hold_faults rfl rfl hc1 (am_rr4 (am_inb hc1)) ?_
  refine go_steps q_Hold_faults kc_Hold_faults 3 rfl ?_
  obtain ⟨r1, σ1, hg, hv⟩ := hv
  refine go_callV q_Hold_faults kc_Hold_faults rfl q_Hold_isInside am_k25 ⟨rfl, rfl, by decide⟩ rfl rfl (Nat.le_of_ble_eq_true rfl) (Nat.le_of_ble_eq_true rfl) rfl rfl hg ?_
  refine go_steps q_Hold_faults kc_Hold_faults 1 rfl ?_
  have key : am_Go l D DA b sz (d + 1) M_Hold_faults (20, [some (.ref 2), some (.int p1), some (.ref (19 + Int32.toNatClampNeg p1)), none], [.int (if r1 = 0 then 1 else 0 : Int32)], (am_TT cu L, am_RR cu, σ1)) r X' := by
    refine go_steps q_Hold_faults kc_Hold_faults 10 rfl ?_
    refine go_if (fun hb => ?_) (fun hb => ?_)
    · have hb : (((σ1 2 9) &&& (σ1 2 10)) &&& (σ1 2 11)) = 0 := hb
      replace hv := hv.1 hb
      refine go_steps q_Hold_faults kc_Hold_faults 2 rfl ?_
      refine go_if (fun hb => ?_) (fun hb => ?_)
      · have hb : (if r1 = 0 then 1 else 0 : Int32) = 0 := hb
        replace hv := hv.1 hb
        refine go_steps q_Hold_faults kc_Hold_faults 2 rfl ?_
        obtain ⟨r2, σ2, hg, hv⟩ := hv
        refine go_callV q_Hold_faults kc_Hold_faults rfl q_Hold_isHeld am_k26 ⟨rfl, rfl, by decide⟩ rfl rfl (Nat.le_of_ble_eq_true rfl) (Nat.le_of_ble_eq_true rfl) rfl rfl hg ?_
        refine go_steps q_Hold_faults kc_Hold_faults 1 rfl ?_
        refine go_if (fun hb => ?_) (fun hb => ?_)
        · have hb : r2 = 0 := hb
          replace hv := hv.1 hb
          refine go_steps q_Hold_faults kc_Hold_faults 7 rfl ?_
          obtain ⟨r3, σ3, hg, hv⟩ := hv
          refine go_callV q_Hold_faults kc_Hold_faults rfl q_Hold_isInWay am_k31 ⟨rfl, rfl, by decide⟩ rfl rfl (Nat.le_of_ble_eq_true rfl) (Nat.le_of_ble_eq_true rfl) rfl rfl hg ?_
          refine go_steps q_Hold_faults kc_Hold_faults 1 rfl ?_
          have key : am_Go l D DA b sz (d + 1) M_Hold_faults (99, [some (.ref 2), some (.int p1), some (.ref (19 + Int32.toNatClampNeg p1)), some (.int ((if r1 = 0 then 1 else 0 : Int32) ||| 4))], [.int (if r3 = 0 then (if r1 = 0 then 1 else 0 : Int32) ||| 4 else ((if r1 = 0 then 1 else 0 : Int32) ||| 4) ||| 16 : Int32)], (am_TT cu L, am_RR cu, σ3)) r X' := by
            obtain ⟨rfl, rfl⟩ := hv
            exact go_retI q_Hold_faults kc_Hold_faults rfl rfl rfl
          refine go_if (fun hb => ?_) (fun hb => ?_)
          · have hb : r3 = 0 := hb
            rw [show (if r3 = 0 then (if r1 = 0 then 1 else 0 : Int32) ||| 4 else ((if r1 = 0 then 1 else 0 : Int32) ||| 4) ||| 16 : Int32) = ((if r1 = 0 then 1 else 0 : Int32) ||| 4) from if_pos hb] at key
            refine go_steps q_Hold_faults kc_Hold_faults 1 rfl ?_
            exact key
          · have hb : ¬ (r3 = 0) := hb
            rw [show (if r3 = 0 then (if r1 = 0 then 1 else 0 : Int32) ||| 4 else ((if r1 = 0 then 1 else 0 : Int32) ||| 4) ||| 16 : Int32) = (((if r1 = 0 then 1 else 0 : Int32) ||| 4) ||| 16) from if_neg hb] at key
            refine go_steps q_Hold_faults kc_Hold_faults 4 rfl ?_
            exact key
        · have hb : ¬ (r2 = 0) := hb
          replace hv := hv.2 hb
          refine go_steps q_Hold_faults kc_Hold_faults 7 rfl ?_
          obtain ⟨r4, σ4, hg, hv⟩ := hv
          refine go_callV q_Hold_faults kc_Hold_faults rfl q_Hold_bearAll am_k28 ⟨rfl, rfl, by decide⟩ rfl rfl (Nat.le_of_ble_eq_true rfl) (Nat.le_of_ble_eq_true rfl) rfl rfl hg ?_
          refine go_steps q_Hold_faults kc_Hold_faults 1 rfl ?_
          refine go_if (fun hb => ?_) (fun hb => ?_)
          · have hb : r4 = 0 := hb
            replace hv := hv.1 hb
            refine go_steps q_Hold_faults kc_Hold_faults 6 rfl ?_
            obtain ⟨r5, σ5, hg, hv⟩ := hv
            refine go_callV q_Hold_faults kc_Hold_faults rfl q_Hold_isInWay am_k31 ⟨rfl, rfl, by decide⟩ rfl rfl (Nat.le_of_ble_eq_true rfl) (Nat.le_of_ble_eq_true rfl) rfl rfl hg ?_
            refine go_steps q_Hold_faults kc_Hold_faults 1 rfl ?_
            have key : am_Go l D DA b sz (d + 1) M_Hold_faults (99, [some (.ref 2), some (.int p1), some (.ref (19 + Int32.toNatClampNeg p1)), some (.int ((if r1 = 0 then 1 else 0 : Int32) ||| 8))], [.int (if r5 = 0 then (if r1 = 0 then 1 else 0 : Int32) ||| 8 else ((if r1 = 0 then 1 else 0 : Int32) ||| 8) ||| 16 : Int32)], (am_TT cu L, am_RR cu, σ5)) r X' := by
              obtain ⟨rfl, rfl⟩ := hv
              exact go_retI q_Hold_faults kc_Hold_faults rfl rfl rfl
            refine go_if (fun hb => ?_) (fun hb => ?_)
            · have hb : r5 = 0 := hb
              rw [show (if r5 = 0 then (if r1 = 0 then 1 else 0 : Int32) ||| 8 else ((if r1 = 0 then 1 else 0 : Int32) ||| 8) ||| 16 : Int32) = ((if r1 = 0 then 1 else 0 : Int32) ||| 8) from if_pos hb] at key
              refine go_steps q_Hold_faults kc_Hold_faults 1 rfl ?_
              exact key
            · have hb : ¬ (r5 = 0) := hb
              rw [show (if r5 = 0 then (if r1 = 0 then 1 else 0 : Int32) ||| 8 else ((if r1 = 0 then 1 else 0 : Int32) ||| 8) ||| 16 : Int32) = (((if r1 = 0 then 1 else 0 : Int32) ||| 8) ||| 16) from if_neg hb] at key
              refine go_steps q_Hold_faults kc_Hold_faults 4 rfl ?_
              exact key
          · have hb : ¬ (r4 = 0) := hb
            replace hv := hv.2 hb
            refine go_steps q_Hold_faults kc_Hold_faults 2 rfl ?_
            obtain ⟨r6, σ6, hg, hv⟩ := hv
            refine go_callV q_Hold_faults kc_Hold_faults rfl q_Hold_isInWay am_k31 ⟨rfl, rfl, by decide⟩ rfl rfl (Nat.le_of_ble_eq_true rfl) (Nat.le_of_ble_eq_true rfl) rfl rfl hg ?_
            refine go_steps q_Hold_faults kc_Hold_faults 1 rfl ?_
            have key : am_Go l D DA b sz (d + 1) M_Hold_faults (99, [some (.ref 2), some (.int p1), some (.ref (19 + Int32.toNatClampNeg p1)), some (.int (if r1 = 0 then 1 else 0 : Int32))], [.int (if r6 = 0 then (if r1 = 0 then 1 else 0 : Int32) else (if r1 = 0 then 1 else 0 : Int32) ||| 16 : Int32)], (am_TT cu L, am_RR cu, σ6)) r X' := by
              obtain ⟨rfl, rfl⟩ := hv
              exact go_retI q_Hold_faults kc_Hold_faults rfl rfl rfl
            refine go_if (fun hb => ?_) (fun hb => ?_)
            · have hb : r6 = 0 := hb
              rw [show (if r6 = 0 then (if r1 = 0 then 1 else 0 : Int32) else (if r1 = 0 then 1 else 0 : Int32) ||| 16 : Int32) = (if r1 = 0 then 1 else 0 : Int32) from if_pos hb] at key
              refine go_steps q_Hold_faults kc_Hold_faults 1 rfl ?_
              exact key
            · have hb : ¬ (r6 = 0) := hb
              rw [show (if r6 = 0 then (if r1 = 0 then 1 else 0 : Int32) else (if r1 = 0 then 1 else 0 : Int32) ||| 16 : Int32) = ((if r1 = 0 then 1 else 0 : Int32) ||| 16) from if_neg hb] at key
              refine go_steps q_Hold_faults kc_Hold_faults 4 rfl ?_
              exact key
      · have hb : ¬ ((if r1 = 0 then 1 else 0 : Int32) = 0) := hb
        replace hv := hv.2 hb
        refine go_steps q_Hold_faults kc_Hold_faults 1 rfl ?_
        obtain ⟨rfl, rfl⟩ := hv
        exact go_retI q_Hold_faults kc_Hold_faults rfl rfl rfl
    · have hb : ¬ ((((σ1 2 9) &&& (σ1 2 10)) &&& (σ1 2 11)) = 0) := hb
      replace hv := hv.2 hb
      refine go_steps q_Hold_faults kc_Hold_faults 6 rfl ?_
      refine go_if (fun hb => ?_) (fun hb => ?_)
      · have hb : ((if r1 = 0 then 1 else 0 : Int32) ||| 2) = 0 := hb
        replace hv := hv.1 hb
        refine go_steps q_Hold_faults kc_Hold_faults 2 rfl ?_
        obtain ⟨r7, σ7, hg, hv⟩ := hv
        refine go_callV q_Hold_faults kc_Hold_faults rfl q_Hold_isHeld am_k26 ⟨rfl, rfl, by decide⟩ rfl rfl (Nat.le_of_ble_eq_true rfl) (Nat.le_of_ble_eq_true rfl) rfl rfl hg ?_
        refine go_steps q_Hold_faults kc_Hold_faults 1 rfl ?_
        refine go_if (fun hb => ?_) (fun hb => ?_)
        · have hb : r7 = 0 := hb
          replace hv := hv.1 hb
          refine go_steps q_Hold_faults kc_Hold_faults 7 rfl ?_
          obtain ⟨r8, σ8, hg, hv⟩ := hv
          refine go_callV q_Hold_faults kc_Hold_faults rfl q_Hold_isInWay am_k31 ⟨rfl, rfl, by decide⟩ rfl rfl (Nat.le_of_ble_eq_true rfl) (Nat.le_of_ble_eq_true rfl) rfl rfl hg ?_
          refine go_steps q_Hold_faults kc_Hold_faults 1 rfl ?_
          have key : am_Go l D DA b sz (d + 1) M_Hold_faults (99, [some (.ref 2), some (.int p1), some (.ref (19 + Int32.toNatClampNeg p1)), some (.int (((if r1 = 0 then 1 else 0 : Int32) ||| 2) ||| 4))], [.int (if r8 = 0 then ((if r1 = 0 then 1 else 0 : Int32) ||| 2) ||| 4 else (((if r1 = 0 then 1 else 0 : Int32) ||| 2) ||| 4) ||| 16 : Int32)], (am_TT cu L, am_RR cu, σ8)) r X' := by
            obtain ⟨rfl, rfl⟩ := hv
            exact go_retI q_Hold_faults kc_Hold_faults rfl rfl rfl
          refine go_if (fun hb => ?_) (fun hb => ?_)
          · have hb : r8 = 0 := hb
            rw [show (if r8 = 0 then ((if r1 = 0 then 1 else 0 : Int32) ||| 2) ||| 4 else (((if r1 = 0 then 1 else 0 : Int32) ||| 2) ||| 4) ||| 16 : Int32) = (((if r1 = 0 then 1 else 0 : Int32) ||| 2) ||| 4) from if_pos hb] at key
            refine go_steps q_Hold_faults kc_Hold_faults 1 rfl ?_
            exact key
          · have hb : ¬ (r8 = 0) := hb
            rw [show (if r8 = 0 then ((if r1 = 0 then 1 else 0 : Int32) ||| 2) ||| 4 else (((if r1 = 0 then 1 else 0 : Int32) ||| 2) ||| 4) ||| 16 : Int32) = ((((if r1 = 0 then 1 else 0 : Int32) ||| 2) ||| 4) ||| 16) from if_neg hb] at key
            refine go_steps q_Hold_faults kc_Hold_faults 4 rfl ?_
            exact key
        · have hb : ¬ (r7 = 0) := hb
          replace hv := hv.2 hb
          refine go_steps q_Hold_faults kc_Hold_faults 7 rfl ?_
          obtain ⟨r9, σ9, hg, hv⟩ := hv
          refine go_callV q_Hold_faults kc_Hold_faults rfl q_Hold_bearAll am_k28 ⟨rfl, rfl, by decide⟩ rfl rfl (Nat.le_of_ble_eq_true rfl) (Nat.le_of_ble_eq_true rfl) rfl rfl hg ?_
          refine go_steps q_Hold_faults kc_Hold_faults 1 rfl ?_
          refine go_if (fun hb => ?_) (fun hb => ?_)
          · have hb : r9 = 0 := hb
            replace hv := hv.1 hb
            refine go_steps q_Hold_faults kc_Hold_faults 6 rfl ?_
            obtain ⟨r10, σ10, hg, hv⟩ := hv
            refine go_callV q_Hold_faults kc_Hold_faults rfl q_Hold_isInWay am_k31 ⟨rfl, rfl, by decide⟩ rfl rfl (Nat.le_of_ble_eq_true rfl) (Nat.le_of_ble_eq_true rfl) rfl rfl hg ?_
            refine go_steps q_Hold_faults kc_Hold_faults 1 rfl ?_
            have key : am_Go l D DA b sz (d + 1) M_Hold_faults (99, [some (.ref 2), some (.int p1), some (.ref (19 + Int32.toNatClampNeg p1)), some (.int (((if r1 = 0 then 1 else 0 : Int32) ||| 2) ||| 8))], [.int (if r10 = 0 then ((if r1 = 0 then 1 else 0 : Int32) ||| 2) ||| 8 else (((if r1 = 0 then 1 else 0 : Int32) ||| 2) ||| 8) ||| 16 : Int32)], (am_TT cu L, am_RR cu, σ10)) r X' := by
              obtain ⟨rfl, rfl⟩ := hv
              exact go_retI q_Hold_faults kc_Hold_faults rfl rfl rfl
            refine go_if (fun hb => ?_) (fun hb => ?_)
            · have hb : r10 = 0 := hb
              rw [show (if r10 = 0 then ((if r1 = 0 then 1 else 0 : Int32) ||| 2) ||| 8 else (((if r1 = 0 then 1 else 0 : Int32) ||| 2) ||| 8) ||| 16 : Int32) = (((if r1 = 0 then 1 else 0 : Int32) ||| 2) ||| 8) from if_pos hb] at key
              refine go_steps q_Hold_faults kc_Hold_faults 1 rfl ?_
              exact key
            · have hb : ¬ (r10 = 0) := hb
              rw [show (if r10 = 0 then ((if r1 = 0 then 1 else 0 : Int32) ||| 2) ||| 8 else (((if r1 = 0 then 1 else 0 : Int32) ||| 2) ||| 8) ||| 16 : Int32) = ((((if r1 = 0 then 1 else 0 : Int32) ||| 2) ||| 8) ||| 16) from if_neg hb] at key
              refine go_steps q_Hold_faults kc_Hold_faults 4 rfl ?_
              exact key
          · have hb : ¬ (r9 = 0) := hb
            replace hv := hv.2 hb
            refine go_steps q_Hold_faults kc_Hold_faults 2 rfl ?_
            obtain ⟨r11, σ11, hg, hv⟩ := hv
            refine go_callV q_Hold_faults kc_Hold_faults rfl q_Hold_isInWay am_k31 ⟨rfl, rfl, by decide⟩ rfl rfl (Nat.le_of_ble_eq_true rfl) (Nat.le_of_ble_eq_true rfl) rfl rfl hg ?_
            refine go_steps q_Hold_faults kc_Hold_faults 1 rfl ?_
            have key : am_Go l D DA b sz (d + 1) M_Hold_faults (99, [some (.ref 2), some (.int p1), some (.ref (19 + Int32.toNatClampNeg p1)), some (.int ((if r1 = 0 then 1 else 0 : Int32) ||| 2))], [.int (if r11 = 0 then (if r1 = 0 then 1 else 0 : Int32) ||| 2 else ((if r1 = 0 then 1 else 0 : Int32) ||| 2) ||| 16 : Int32)], (am_TT cu L, am_RR cu, σ11)) r X' := by
              obtain ⟨rfl, rfl⟩ := hv
              exact go_retI q_Hold_faults kc_Hold_faults rfl rfl rfl
            refine go_if (fun hb => ?_) (fun hb => ?_)
            · have hb : r11 = 0 := hb
              rw [show (if r11 = 0 then (if r1 = 0 then 1 else 0 : Int32) ||| 2 else ((if r1 = 0 then 1 else 0 : Int32) ||| 2) ||| 16 : Int32) = ((if r1 = 0 then 1 else 0 : Int32) ||| 2) from if_pos hb] at key
              refine go_steps q_Hold_faults kc_Hold_faults 1 rfl ?_
              exact key
            · have hb : ¬ (r11 = 0) := hb
              rw [show (if r11 = 0 then (if r1 = 0 then 1 else 0 : Int32) ||| 2 else ((if r1 = 0 then 1 else 0 : Int32) ||| 2) ||| 16 : Int32) = (((if r1 = 0 then 1 else 0 : Int32) ||| 2) ||| 16) from if_neg hb] at key
              refine go_steps q_Hold_faults kc_Hold_faults 4 rfl ?_
              exact key
      · have hb : ¬ (((if r1 = 0 then 1 else 0 : Int32) ||| 2) = 0) := hb
        replace hv := hv.2 hb
        refine go_steps q_Hold_faults kc_Hold_faults 1 rfl ?_
        obtain ⟨rfl, rfl⟩ := hv
        exact go_retI q_Hold_faults kc_Hold_faults rfl rfl rfl
  refine go_if (fun hb => ?_) (fun hb => ?_)
  · have hb : r1 = 0 := hb
    rw [show (if r1 = 0 then 1 else 0 : Int32) = 1 from if_pos hb] at key
    refine go_steps q_Hold_faults kc_Hold_faults 1 rfl ?_
    exact key
  · have hb : ¬ (r1 = 0) := hb
    rw [show (if r1 = 0 then 1 else 0 : Int32) = 0 from if_neg hb] at key
    refine go_steps q_Hold_faults kc_Hold_faults 2 rfl ?_
    exact key
set_option maxHeartbeats 4000000 in
set_option maxRecDepth 100000 in
theorem v_Hold_isInside_0 {l : Launch} {D : va_G} {DA : Nat → ClassId} {b sz d L : Nat} {cu : Bool} {σ : Nat → Nat → Int32} {r : Option Value} {X' : am_X} (n1 : Nat) (hn_n1 : n1 < 20)
    (hv : ((if (σ 3 0) < (σ (19 + n1) 11) then 0 else (if (σ 3 1) < (σ (19 + n1) 12) then 0 else (if (σ 3 2) < (σ (19 + n1) 13) then 0 else 1 : Int32) : Int32) : Int32) = 0 ∨ (if (σ 3 0) < (σ (19 + n1) 11) then 0 else (if (σ 3 1) < (σ (19 + n1) 12) then 0 else (if (σ 3 2) < (σ (19 + n1) 13) then 0 else 1 : Int32) : Int32) : Int32) = 1) ∧ (r = some (.int (if (σ 3 0) < (σ (19 + n1) 11) then 0 else (if (σ 3 1) < (σ (19 + n1) 12) then 0 else (if (σ 3 2) < (σ (19 + n1) 13) then 0 else 1 : Int32) : Int32) : Int32)) ∧ X' = (am_TT cu L, am_RR cu, σ))) :
    am_Go l D DA b sz d M_Hold_isInside (0, [some (.ref 2), some (.ref (19 + n1))], [], (am_TT cu L, am_RR cu, σ)) r X' := by
  refine go_steps q_Hold_isInside kc_Hold_isInside 1 rfl ?_
  refine go_getI q_Hold_isInside kc_Hold_isInside rfl (am_tt_box hn_n1) rfl ?_
  refine go_steps q_Hold_isInside kc_Hold_isInside 4 rfl ?_
  have key : am_Go l D DA b sz d M_Hold_isInside (47, [some (.ref 2), some (.ref (19 + n1))], [.int (if (σ 3 0) < (σ (19 + n1) 11) then 0 else (if (σ 3 1) < (σ (19 + n1) 12) then 0 else (if (σ 3 2) < (σ (19 + n1) 13) then 0 else 1 : Int32) : Int32) : Int32)], (am_TT cu L, am_RR cu, σ)) r X' := by
    obtain ⟨hc, rfl, rfl⟩ := hv
    exact go_retI q_Hold_isInside kc_Hold_isInside rfl rfl (am_nar hc)
  refine go_if (fun hb => ?_) (fun hb => ?_)
  · have hb : (σ 3 0) < (σ (19 + n1) 11) := hb
    rw [show (if (σ 3 0) < (σ (19 + n1) 11) then 0 else (if (σ 3 1) < (σ (19 + n1) 12) then 0 else (if (σ 3 2) < (σ (19 + n1) 13) then 0 else 1 : Int32) : Int32) : Int32) = 0 from if_pos hb] at key
    refine go_steps q_Hold_isInside kc_Hold_isInside 1 rfl ?_
    exact key
  · have hb : ¬ ((σ 3 0) < (σ (19 + n1) 11)) := hb
    rw [show (if (σ 3 0) < (σ (19 + n1) 11) then 0 else (if (σ 3 1) < (σ (19 + n1) 12) then 0 else (if (σ 3 2) < (σ (19 + n1) 13) then 0 else 1 : Int32) : Int32) : Int32) = (if (σ 3 1) < (σ (19 + n1) 12) then 0 else (if (σ 3 2) < (σ (19 + n1) 13) then 0 else 1 : Int32) : Int32) from if_neg hb] at key
    refine go_steps q_Hold_isInside kc_Hold_isInside 1 rfl ?_
    refine go_getI q_Hold_isInside kc_Hold_isInside rfl (am_tt_box hn_n1) rfl ?_
    refine go_steps q_Hold_isInside kc_Hold_isInside 4 rfl ?_
    refine go_if (fun hb => ?_) (fun hb => ?_)
    · have hb : (σ 3 1) < (σ (19 + n1) 12) := hb
      rw [show (if (σ 3 1) < (σ (19 + n1) 12) then 0 else (if (σ 3 2) < (σ (19 + n1) 13) then 0 else 1 : Int32) : Int32) = 0 from if_pos hb] at key
      refine go_steps q_Hold_isInside kc_Hold_isInside 1 rfl ?_
      exact key
    · have hb : ¬ ((σ 3 1) < (σ (19 + n1) 12)) := hb
      rw [show (if (σ 3 1) < (σ (19 + n1) 12) then 0 else (if (σ 3 2) < (σ (19 + n1) 13) then 0 else 1 : Int32) : Int32) = (if (σ 3 2) < (σ (19 + n1) 13) then 0 else 1 : Int32) from if_neg hb] at key
      refine go_steps q_Hold_isInside kc_Hold_isInside 1 rfl ?_
      refine go_getI q_Hold_isInside kc_Hold_isInside rfl (am_tt_box hn_n1) rfl ?_
      refine go_steps q_Hold_isInside kc_Hold_isInside 4 rfl ?_
      refine go_if (fun hb => ?_) (fun hb => ?_)
      · have hb : (σ 3 2) < (σ (19 + n1) 13) := hb
        rw [show (if (σ 3 2) < (σ (19 + n1) 13) then 0 else 1 : Int32) = 0 from if_pos hb] at key
        refine go_steps q_Hold_isInside kc_Hold_isInside 1 rfl ?_
        exact key
      · have hb : ¬ ((σ 3 2) < (σ (19 + n1) 13)) := hb
        rw [show (if (σ 3 2) < (σ (19 + n1) 13) then 0 else 1 : Int32) = 1 from if_neg hb] at key
        refine go_steps q_Hold_isInside kc_Hold_isInside 2 rfl ?_
        exact key
set_option maxHeartbeats 4000000 in
set_option maxRecDepth 100000 in
theorem v_Hold_isHeld_0 {l : Launch} {D : va_G} {DA : Nat → ClassId} {b sz d L : Nat} {cu : Bool} {σ : Nat → Nat → Int32} {r : Option Value} {X' : am_X} (n1 : Nat) (hn_n1 : n1 < 20)
    (hv : (((σ (19 + n1) 10) = 0) → (r = some (.int 1) ∧ X' = (am_TT cu L, am_RR cu, σ))) ∧ (¬ ((σ (19 + n1) 10) = 0) → (am_Go l D DA b sz (d + 1) M_Hold_isHeld (24, [some (.ref 2), some (.ref (19 + n1)), some (.int 0), some (.int ((σ 2 9) &&& (σ 2 10))), some (.int 0)], [], (am_TT cu L, am_RR cu, σ)) r X'))) :
    am_Go l D DA b sz (d + 1) M_Hold_isHeld (0, [some (.ref 2), some (.ref (19 + n1)), none, none, none], [], (am_TT cu L, am_RR cu, σ)) r X' := by
  refine go_steps q_Hold_isHeld kc_Hold_isHeld 1 rfl ?_
  refine go_getI q_Hold_isHeld kc_Hold_isHeld rfl (am_tt_box hn_n1) rfl ?_
  refine go_steps q_Hold_isHeld kc_Hold_isHeld 1 rfl ?_
  refine go_if (fun hb => ?_) (fun hb => ?_)
  · have hb : (σ (19 + n1) 10) = 0 := hb
    replace hv := hv.1 hb
    refine go_steps q_Hold_isHeld kc_Hold_isHeld 1 rfl ?_
    obtain ⟨rfl, rfl⟩ := hv
    exact go_retI q_Hold_isHeld kc_Hold_isHeld rfl rfl rfl
  · have hb : ¬ ((σ (19 + n1) 10) = 0) := hb
    replace hv := hv.2 hb
    refine go_steps q_Hold_isHeld kc_Hold_isHeld 10 rfl ?_
    refine go_le (L1 := [some (.ref 2), some (.ref (19 + n1)), some (.int 0), some (.int ((σ 2 9) &&& (σ 2 10))), some (.int 0)]) (by repeat (first | exact trivial | refine ⟨rfl, ?_⟩)) ?_
    exact hv
set_option maxHeartbeats 4000000 in
set_option maxRecDepth 100000 in
theorem v_Hold_isHeld_24 {l : Launch} {D : va_G} {DA : Nat → ClassId} {b sz d L : Nat} {cu : Bool} {σ : Nat → Nat → Int32} {r : Option Value} {X' : am_X} (p2 : Int32) (p3 : Int32) (p4 : Int32) (n1 : Nat) (hn_n1 : n1 < 20)
    (hv : (((σ 2 2) ≤ p4) → (((if (100 * p2) < (((σ 3 3) * (σ (19 + n1) 0)) * (σ (19 + n1) 1)) then 0 else 1 : Int32) = 0 ∨ (if (100 * p2) < (((σ 3 3) * (σ (19 + n1) 0)) * (σ (19 + n1) 1)) then 0 else 1 : Int32) = 1) ∧ (r = some (.int (if (100 * p2) < (((σ 3 3) * (σ (19 + n1) 0)) * (σ (19 + n1) 1)) then 0 else 1 : Int32)) ∧ X' = (am_TT cu L, am_RR cu, σ)))) ∧ (¬ ((σ 2 2) ≤ p4) → (((((p3 >>> (p4 &&& 31 : Int32) : Int32) &&& 1) = (0 : Int32)) → (am_Go l D DA b sz (d + 1) M_Hold_isHeld (24, [some (.ref 2), some (.ref (19 + n1)), some (.int p2), some (.int p3), some (.int (p4 + 1))], [], (am_TT cu L, am_RR cu, σ)) r X')) ∧ (¬ (((p3 >>> (p4 &&& 31 : Int32) : Int32) &&& 1) = (0 : Int32)) → ((¬ (p4 < 0 ∨ 20 ≤ Int32.toNatClampNeg p4)) ∧ (∃ (r1 : Int32) (σ1 : Nat → Nat → Int32), am_Go l D DA b sz d M_Box_areaOn (0, [some (.ref (19 + n1)), some (.ref (19 + Int32.toNatClampNeg p4)), none, none], [], (am_TT cu L, am_RR cu, σ)) (some (.int r1)) (am_TT cu L, am_RR cu, σ1) ∧ (am_Go l D DA b sz (d + 1) M_Hold_isHeld (24, [some (.ref 2), some (.ref (19 + n1)), some (.int (p2 + r1)), some (.int p3), some (.int (p4 + 1))], [], (am_TT cu L, am_RR cu, σ1)) r X'))))))) :
    am_Go l D DA b sz (d + 1) M_Hold_isHeld (24, [some (.ref 2), some (.ref (19 + n1)), some (.int p2), some (.int p3), some (.int p4)], [], (am_TT cu L, am_RR cu, σ)) r X' := by
  refine go_steps q_Hold_isHeld kc_Hold_isHeld 4 rfl ?_
  refine go_if (fun hb => ?_) (fun hb => ?_)
  · have hb : (σ 2 2) ≤ p4 := hb
    replace hv := hv.1 hb
    refine go_steps q_Hold_isHeld kc_Hold_isHeld 7 rfl ?_
    refine go_getI q_Hold_isHeld kc_Hold_isHeld rfl (am_tt_box hn_n1) rfl ?_
    refine go_steps q_Hold_isHeld kc_Hold_isHeld 2 rfl ?_
    refine go_getI q_Hold_isHeld kc_Hold_isHeld rfl (am_tt_box hn_n1) rfl ?_
    refine go_steps q_Hold_isHeld kc_Hold_isHeld 2 rfl ?_
    have key : am_Go l D DA b sz (d + 1) M_Hold_isHeld (91, [some (.ref 2), some (.ref (19 + n1)), some (.int p2), some (.int p3), some (.int p4)], [.int (if (100 * p2) < (((σ 3 3) * (σ (19 + n1) 0)) * (σ (19 + n1) 1)) then 0 else 1 : Int32)], (am_TT cu L, am_RR cu, σ)) r X' := by
      obtain ⟨hc, rfl, rfl⟩ := hv
      exact go_retI q_Hold_isHeld kc_Hold_isHeld rfl rfl (am_nar hc)
    refine go_if (fun hb => ?_) (fun hb => ?_)
    · have hb : (100 * p2) < (((σ 3 3) * (σ (19 + n1) 0)) * (σ (19 + n1) 1)) := hb
      rw [show (if (100 * p2) < (((σ 3 3) * (σ (19 + n1) 0)) * (σ (19 + n1) 1)) then 0 else 1 : Int32) = 0 from if_pos hb] at key
      refine go_steps q_Hold_isHeld kc_Hold_isHeld 1 rfl ?_
      exact key
    · have hb : ¬ ((100 * p2) < (((σ 3 3) * (σ (19 + n1) 0)) * (σ (19 + n1) 1))) := hb
      rw [show (if (100 * p2) < (((σ 3 3) * (σ (19 + n1) 0)) * (σ (19 + n1) 1)) then 0 else 1 : Int32) = 1 from if_neg hb] at key
      refine go_steps q_Hold_isHeld kc_Hold_isHeld 2 rfl ?_
      exact key
  · have hb : ¬ ((σ 2 2) ≤ p4) := hb
    replace hv := hv.2 hb
    refine go_steps q_Hold_isHeld kc_Hold_isHeld 6 rfl ?_
    refine go_if (fun hb => ?_) (fun hb => ?_)
    · have hb : ((p3 >>> (p4 &&& 31 : Int32) : Int32) &&& 1) = (0 : Int32) := hb
      replace hv := hv.1 hb
      refine go_steps q_Hold_isHeld kc_Hold_isHeld 2 rfl ?_
      refine go_le (L1 := [some (.ref 2), some (.ref (19 + n1)), some (.int p2), some (.int p3), some (.int (p4 + 1))]) (by repeat (first | exact trivial | refine ⟨rfl, ?_⟩)) ?_
      exact hv
    · have hb : ¬ (((p3 >>> (p4 &&& 31 : Int32) : Int32) &&& 1) = (0 : Int32)) := hb
      replace hv := hv.2 hb
      refine go_steps q_Hold_isHeld kc_Hold_isHeld 5 rfl ?_
      obtain ⟨hc1, hv⟩ := hv
      refine go_aaload q_Hold_isHeld kc_Hold_isHeld rfl rfl hc1 (am_rr4 (am_inb hc1)) ?_
      obtain ⟨r1, σ1, hg, hv⟩ := hv
      refine go_callV q_Hold_isHeld kc_Hold_isHeld rfl q_Box_areaOn am_k27 ⟨rfl, rfl, by decide⟩ rfl rfl (Nat.le_of_ble_eq_true rfl) (Nat.le_of_ble_eq_true rfl) rfl (am_tt_box hn_n1) hg ?_
      refine go_steps q_Hold_isHeld kc_Hold_isHeld 4 rfl ?_
      refine go_le (L1 := [some (.ref 2), some (.ref (19 + n1)), some (.int (p2 + r1)), some (.int p3), some (.int (p4 + 1))]) (by repeat (first | exact trivial | refine ⟨rfl, ?_⟩)) ?_
      exact hv
set_option maxHeartbeats 4000000 in
set_option maxRecDepth 100000 in
theorem v_Box_areaOn_0 {l : Launch} {D : va_G} {DA : Nat → ClassId} {b sz d L : Nat} {cu : Bool} {σ : Nat → Nat → Int32} {r : Option Value} {X' : am_X} (n0 : Nat) (n1 : Nat) (hn_n0 : n0 < 20) (hn_n1 : n1 < 20)
    (hv : (((σ (19 + n1) 13) = (σ (19 + n0) 10)) → (r = some (.int (if ((if (σ (19 + n1) 11) ≤ (σ (19 + n0) 11) then σ (19 + n1) 11 else σ (19 + n0) 11 : Int32) - (if (σ (19 + n0) 8) ≤ (σ (19 + n1) 8) then σ (19 + n1) 8 else σ (19 + n0) 8 : Int32)) ≤ 0 then 0 else (if ((if (σ (19 + n1) 12) ≤ (σ (19 + n0) 12) then σ (19 + n1) 12 else σ (19 + n0) 12 : Int32) - (if (σ (19 + n0) 9) ≤ (σ (19 + n1) 9) then σ (19 + n1) 9 else σ (19 + n0) 9 : Int32)) ≤ 0 then 0 else ((if (σ (19 + n1) 11) ≤ (σ (19 + n0) 11) then σ (19 + n1) 11 else σ (19 + n0) 11 : Int32) - (if (σ (19 + n0) 8) ≤ (σ (19 + n1) 8) then σ (19 + n1) 8 else σ (19 + n0) 8 : Int32)) * ((if (σ (19 + n1) 12) ≤ (σ (19 + n0) 12) then σ (19 + n1) 12 else σ (19 + n0) 12 : Int32) - (if (σ (19 + n0) 9) ≤ (σ (19 + n1) 9) then σ (19 + n1) 9 else σ (19 + n0) 9 : Int32)) : Int32) : Int32)) ∧ X' = (am_TT cu L, am_RR cu, σ))) ∧ (¬ ((σ (19 + n1) 13) = (σ (19 + n0) 10)) → (r = some (.int 0) ∧ X' = (am_TT cu L, am_RR cu, σ)))) :
    am_Go l D DA b sz d M_Box_areaOn (0, [some (.ref (19 + n0)), some (.ref (19 + n1)), none, none], [], (am_TT cu L, am_RR cu, σ)) r X' := by
  refine go_steps q_Box_areaOn kc_Box_areaOn 1 rfl ?_
  refine go_getI q_Box_areaOn kc_Box_areaOn rfl (am_tt_box hn_n1) rfl ?_
  refine go_steps q_Box_areaOn kc_Box_areaOn 1 rfl ?_
  refine go_getI q_Box_areaOn kc_Box_areaOn rfl (am_tt_box hn_n0) rfl ?_
  refine go_steps q_Box_areaOn kc_Box_areaOn 1 rfl ?_
  refine go_if (fun hb => ?_) (fun hb => ?_)
  · have hb : (σ (19 + n1) 13) = (σ (19 + n0) 10) := hb
    replace hv := hv.1 hb
    refine go_steps q_Box_areaOn kc_Box_areaOn 1 rfl ?_
    refine go_getI q_Box_areaOn kc_Box_areaOn rfl (am_tt_box hn_n0) rfl ?_
    refine go_steps q_Box_areaOn kc_Box_areaOn 1 rfl ?_
    refine go_getI q_Box_areaOn kc_Box_areaOn rfl (am_tt_box hn_n1) rfl ?_
    refine go_steps q_Box_areaOn kc_Box_areaOn 1 rfl ?_
    have key : am_Go l D DA b sz d M_Box_areaOn (35, [some (.ref (19 + n0)), some (.ref (19 + n1)), none, none], [.int (if (σ (19 + n1) 11) ≤ (σ (19 + n0) 11) then σ (19 + n1) 11 else σ (19 + n0) 11 : Int32)], (am_TT cu L, am_RR cu, σ)) r X' := by
      refine go_steps q_Box_areaOn kc_Box_areaOn 1 rfl ?_
      refine go_getI q_Box_areaOn kc_Box_areaOn rfl (am_tt_box hn_n0) rfl ?_
      refine go_steps q_Box_areaOn kc_Box_areaOn 1 rfl ?_
      refine go_getI q_Box_areaOn kc_Box_areaOn rfl (am_tt_box hn_n1) rfl ?_
      refine go_steps q_Box_areaOn kc_Box_areaOn 1 rfl ?_
      have key : am_Go l D DA b sz d M_Box_areaOn (57, [some (.ref (19 + n0)), some (.ref (19 + n1)), none, none], [.int (if (σ (19 + n0) 8) ≤ (σ (19 + n1) 8) then σ (19 + n1) 8 else σ (19 + n0) 8 : Int32), .int (if (σ (19 + n1) 11) ≤ (σ (19 + n0) 11) then σ (19 + n1) 11 else σ (19 + n0) 11 : Int32)], (am_TT cu L, am_RR cu, σ)) r X' := by
        refine go_steps q_Box_areaOn kc_Box_areaOn 3 rfl ?_
        refine go_getI q_Box_areaOn kc_Box_areaOn rfl (am_tt_box hn_n0) rfl ?_
        refine go_steps q_Box_areaOn kc_Box_areaOn 1 rfl ?_
        refine go_getI q_Box_areaOn kc_Box_areaOn rfl (am_tt_box hn_n1) rfl ?_
        refine go_steps q_Box_areaOn kc_Box_areaOn 1 rfl ?_
        have key : am_Go l D DA b sz d M_Box_areaOn (81, [some (.ref (19 + n0)), some (.ref (19 + n1)), some (.int ((if (σ (19 + n1) 11) ≤ (σ (19 + n0) 11) then σ (19 + n1) 11 else σ (19 + n0) 11 : Int32) - (if (σ (19 + n0) 8) ≤ (σ (19 + n1) 8) then σ (19 + n1) 8 else σ (19 + n0) 8 : Int32))), none], [.int (if (σ (19 + n1) 12) ≤ (σ (19 + n0) 12) then σ (19 + n1) 12 else σ (19 + n0) 12 : Int32)], (am_TT cu L, am_RR cu, σ)) r X' := by
          refine go_steps q_Box_areaOn kc_Box_areaOn 1 rfl ?_
          refine go_getI q_Box_areaOn kc_Box_areaOn rfl (am_tt_box hn_n0) rfl ?_
          refine go_steps q_Box_areaOn kc_Box_areaOn 1 rfl ?_
          refine go_getI q_Box_areaOn kc_Box_areaOn rfl (am_tt_box hn_n1) rfl ?_
          refine go_steps q_Box_areaOn kc_Box_areaOn 1 rfl ?_
          have key : am_Go l D DA b sz d M_Box_areaOn (103, [some (.ref (19 + n0)), some (.ref (19 + n1)), some (.int ((if (σ (19 + n1) 11) ≤ (σ (19 + n0) 11) then σ (19 + n1) 11 else σ (19 + n0) 11 : Int32) - (if (σ (19 + n0) 8) ≤ (σ (19 + n1) 8) then σ (19 + n1) 8 else σ (19 + n0) 8 : Int32))), none], [.int (if (σ (19 + n0) 9) ≤ (σ (19 + n1) 9) then σ (19 + n1) 9 else σ (19 + n0) 9 : Int32), .int (if (σ (19 + n1) 12) ≤ (σ (19 + n0) 12) then σ (19 + n1) 12 else σ (19 + n0) 12 : Int32)], (am_TT cu L, am_RR cu, σ)) r X' := by
            refine go_steps q_Box_areaOn kc_Box_areaOn 4 rfl ?_
            have key : am_Go l D DA b sz d M_Box_areaOn (120, [some (.ref (19 + n0)), some (.ref (19 + n1)), some (.int ((if (σ (19 + n1) 11) ≤ (σ (19 + n0) 11) then σ (19 + n1) 11 else σ (19 + n0) 11 : Int32) - (if (σ (19 + n0) 8) ≤ (σ (19 + n1) 8) then σ (19 + n1) 8 else σ (19 + n0) 8 : Int32))), some (.int ((if (σ (19 + n1) 12) ≤ (σ (19 + n0) 12) then σ (19 + n1) 12 else σ (19 + n0) 12 : Int32) - (if (σ (19 + n0) 9) ≤ (σ (19 + n1) 9) then σ (19 + n1) 9 else σ (19 + n0) 9 : Int32)))], [.int (if ((if (σ (19 + n1) 11) ≤ (σ (19 + n0) 11) then σ (19 + n1) 11 else σ (19 + n0) 11 : Int32) - (if (σ (19 + n0) 8) ≤ (σ (19 + n1) 8) then σ (19 + n1) 8 else σ (19 + n0) 8 : Int32)) ≤ 0 then 0 else (if ((if (σ (19 + n1) 12) ≤ (σ (19 + n0) 12) then σ (19 + n1) 12 else σ (19 + n0) 12 : Int32) - (if (σ (19 + n0) 9) ≤ (σ (19 + n1) 9) then σ (19 + n1) 9 else σ (19 + n0) 9 : Int32)) ≤ 0 then 0 else ((if (σ (19 + n1) 11) ≤ (σ (19 + n0) 11) then σ (19 + n1) 11 else σ (19 + n0) 11 : Int32) - (if (σ (19 + n0) 8) ≤ (σ (19 + n1) 8) then σ (19 + n1) 8 else σ (19 + n0) 8 : Int32)) * ((if (σ (19 + n1) 12) ≤ (σ (19 + n0) 12) then σ (19 + n1) 12 else σ (19 + n0) 12 : Int32) - (if (σ (19 + n0) 9) ≤ (σ (19 + n1) 9) then σ (19 + n1) 9 else σ (19 + n0) 9 : Int32)) : Int32) : Int32)], (am_TT cu L, am_RR cu, σ)) r X' := by
              obtain ⟨rfl, rfl⟩ := hv
              exact go_retI q_Box_areaOn kc_Box_areaOn rfl rfl rfl
            refine go_if (fun hb => ?_) (fun hb => ?_)
            · have hb : ((if (σ (19 + n1) 11) ≤ (σ (19 + n0) 11) then σ (19 + n1) 11 else σ (19 + n0) 11 : Int32) - (if (σ (19 + n0) 8) ≤ (σ (19 + n1) 8) then σ (19 + n1) 8 else σ (19 + n0) 8 : Int32)) ≤ 0 := hb
              rw [show (if ((if (σ (19 + n1) 11) ≤ (σ (19 + n0) 11) then σ (19 + n1) 11 else σ (19 + n0) 11 : Int32) - (if (σ (19 + n0) 8) ≤ (σ (19 + n1) 8) then σ (19 + n1) 8 else σ (19 + n0) 8 : Int32)) ≤ 0 then 0 else (if ((if (σ (19 + n1) 12) ≤ (σ (19 + n0) 12) then σ (19 + n1) 12 else σ (19 + n0) 12 : Int32) - (if (σ (19 + n0) 9) ≤ (σ (19 + n1) 9) then σ (19 + n1) 9 else σ (19 + n0) 9 : Int32)) ≤ 0 then 0 else ((if (σ (19 + n1) 11) ≤ (σ (19 + n0) 11) then σ (19 + n1) 11 else σ (19 + n0) 11 : Int32) - (if (σ (19 + n0) 8) ≤ (σ (19 + n1) 8) then σ (19 + n1) 8 else σ (19 + n0) 8 : Int32)) * ((if (σ (19 + n1) 12) ≤ (σ (19 + n0) 12) then σ (19 + n1) 12 else σ (19 + n0) 12 : Int32) - (if (σ (19 + n0) 9) ≤ (σ (19 + n1) 9) then σ (19 + n1) 9 else σ (19 + n0) 9 : Int32)) : Int32) : Int32) = 0 from if_pos hb] at key
              refine go_steps q_Box_areaOn kc_Box_areaOn 1 rfl ?_
              exact key
            · have hb : ¬ (((if (σ (19 + n1) 11) ≤ (σ (19 + n0) 11) then σ (19 + n1) 11 else σ (19 + n0) 11 : Int32) - (if (σ (19 + n0) 8) ≤ (σ (19 + n1) 8) then σ (19 + n1) 8 else σ (19 + n0) 8 : Int32)) ≤ 0) := hb
              rw [show (if ((if (σ (19 + n1) 11) ≤ (σ (19 + n0) 11) then σ (19 + n1) 11 else σ (19 + n0) 11 : Int32) - (if (σ (19 + n0) 8) ≤ (σ (19 + n1) 8) then σ (19 + n1) 8 else σ (19 + n0) 8 : Int32)) ≤ 0 then 0 else (if ((if (σ (19 + n1) 12) ≤ (σ (19 + n0) 12) then σ (19 + n1) 12 else σ (19 + n0) 12 : Int32) - (if (σ (19 + n0) 9) ≤ (σ (19 + n1) 9) then σ (19 + n1) 9 else σ (19 + n0) 9 : Int32)) ≤ 0 then 0 else ((if (σ (19 + n1) 11) ≤ (σ (19 + n0) 11) then σ (19 + n1) 11 else σ (19 + n0) 11 : Int32) - (if (σ (19 + n0) 8) ≤ (σ (19 + n1) 8) then σ (19 + n1) 8 else σ (19 + n0) 8 : Int32)) * ((if (σ (19 + n1) 12) ≤ (σ (19 + n0) 12) then σ (19 + n1) 12 else σ (19 + n0) 12 : Int32) - (if (σ (19 + n0) 9) ≤ (σ (19 + n1) 9) then σ (19 + n1) 9 else σ (19 + n0) 9 : Int32)) : Int32) : Int32) = (if ((if (σ (19 + n1) 12) ≤ (σ (19 + n0) 12) then σ (19 + n1) 12 else σ (19 + n0) 12 : Int32) - (if (σ (19 + n0) 9) ≤ (σ (19 + n1) 9) then σ (19 + n1) 9 else σ (19 + n0) 9 : Int32)) ≤ 0 then 0 else ((if (σ (19 + n1) 11) ≤ (σ (19 + n0) 11) then σ (19 + n1) 11 else σ (19 + n0) 11 : Int32) - (if (σ (19 + n0) 8) ≤ (σ (19 + n1) 8) then σ (19 + n1) 8 else σ (19 + n0) 8 : Int32)) * ((if (σ (19 + n1) 12) ≤ (σ (19 + n0) 12) then σ (19 + n1) 12 else σ (19 + n0) 12 : Int32) - (if (σ (19 + n0) 9) ≤ (σ (19 + n1) 9) then σ (19 + n1) 9 else σ (19 + n0) 9 : Int32)) : Int32) from if_neg hb] at key
              refine go_steps q_Box_areaOn kc_Box_areaOn 2 rfl ?_
              refine go_if (fun hb => ?_) (fun hb => ?_)
              · have hb : ((if (σ (19 + n1) 12) ≤ (σ (19 + n0) 12) then σ (19 + n1) 12 else σ (19 + n0) 12 : Int32) - (if (σ (19 + n0) 9) ≤ (σ (19 + n1) 9) then σ (19 + n1) 9 else σ (19 + n0) 9 : Int32)) ≤ 0 := hb
                rw [show (if ((if (σ (19 + n1) 12) ≤ (σ (19 + n0) 12) then σ (19 + n1) 12 else σ (19 + n0) 12 : Int32) - (if (σ (19 + n0) 9) ≤ (σ (19 + n1) 9) then σ (19 + n1) 9 else σ (19 + n0) 9 : Int32)) ≤ 0 then 0 else ((if (σ (19 + n1) 11) ≤ (σ (19 + n0) 11) then σ (19 + n1) 11 else σ (19 + n0) 11 : Int32) - (if (σ (19 + n0) 8) ≤ (σ (19 + n1) 8) then σ (19 + n1) 8 else σ (19 + n0) 8 : Int32)) * ((if (σ (19 + n1) 12) ≤ (σ (19 + n0) 12) then σ (19 + n1) 12 else σ (19 + n0) 12 : Int32) - (if (σ (19 + n0) 9) ≤ (σ (19 + n1) 9) then σ (19 + n1) 9 else σ (19 + n0) 9 : Int32)) : Int32) = 0 from if_pos hb] at key
                refine go_steps q_Box_areaOn kc_Box_areaOn 1 rfl ?_
                exact key
              · have hb : ¬ (((if (σ (19 + n1) 12) ≤ (σ (19 + n0) 12) then σ (19 + n1) 12 else σ (19 + n0) 12 : Int32) - (if (σ (19 + n0) 9) ≤ (σ (19 + n1) 9) then σ (19 + n1) 9 else σ (19 + n0) 9 : Int32)) ≤ 0) := hb
                rw [show (if ((if (σ (19 + n1) 12) ≤ (σ (19 + n0) 12) then σ (19 + n1) 12 else σ (19 + n0) 12 : Int32) - (if (σ (19 + n0) 9) ≤ (σ (19 + n1) 9) then σ (19 + n1) 9 else σ (19 + n0) 9 : Int32)) ≤ 0 then 0 else ((if (σ (19 + n1) 11) ≤ (σ (19 + n0) 11) then σ (19 + n1) 11 else σ (19 + n0) 11 : Int32) - (if (σ (19 + n0) 8) ≤ (σ (19 + n1) 8) then σ (19 + n1) 8 else σ (19 + n0) 8 : Int32)) * ((if (σ (19 + n1) 12) ≤ (σ (19 + n0) 12) then σ (19 + n1) 12 else σ (19 + n0) 12 : Int32) - (if (σ (19 + n0) 9) ≤ (σ (19 + n1) 9) then σ (19 + n1) 9 else σ (19 + n0) 9 : Int32)) : Int32) = (((if (σ (19 + n1) 11) ≤ (σ (19 + n0) 11) then σ (19 + n1) 11 else σ (19 + n0) 11 : Int32) - (if (σ (19 + n0) 8) ≤ (σ (19 + n1) 8) then σ (19 + n1) 8 else σ (19 + n0) 8 : Int32)) * ((if (σ (19 + n1) 12) ≤ (σ (19 + n0) 12) then σ (19 + n1) 12 else σ (19 + n0) 12 : Int32) - (if (σ (19 + n0) 9) ≤ (σ (19 + n1) 9) then σ (19 + n1) 9 else σ (19 + n0) 9 : Int32))) from if_neg hb] at key
                refine go_steps q_Box_areaOn kc_Box_areaOn 4 rfl ?_
                exact key
          refine go_if (fun hb => ?_) (fun hb => ?_)
          · have hb : (σ (19 + n0) 9) ≤ (σ (19 + n1) 9) := hb
            rw [show (if (σ (19 + n0) 9) ≤ (σ (19 + n1) 9) then σ (19 + n1) 9 else σ (19 + n0) 9 : Int32) = (σ (19 + n1) 9) from if_pos hb] at key
            refine go_steps q_Box_areaOn kc_Box_areaOn 1 rfl ?_
            refine go_getI q_Box_areaOn kc_Box_areaOn rfl (am_tt_box hn_n1) rfl ?_
            exact key
          · have hb : ¬ ((σ (19 + n0) 9) ≤ (σ (19 + n1) 9)) := hb
            rw [show (if (σ (19 + n0) 9) ≤ (σ (19 + n1) 9) then σ (19 + n1) 9 else σ (19 + n0) 9 : Int32) = (σ (19 + n0) 9) from if_neg hb] at key
            refine go_steps q_Box_areaOn kc_Box_areaOn 1 rfl ?_
            refine go_getI q_Box_areaOn kc_Box_areaOn rfl (am_tt_box hn_n0) rfl ?_
            refine go_steps q_Box_areaOn kc_Box_areaOn 1 rfl ?_
            exact key
        refine go_if (fun hb => ?_) (fun hb => ?_)
        · have hb : (σ (19 + n1) 12) ≤ (σ (19 + n0) 12) := hb
          rw [show (if (σ (19 + n1) 12) ≤ (σ (19 + n0) 12) then σ (19 + n1) 12 else σ (19 + n0) 12 : Int32) = (σ (19 + n1) 12) from if_pos hb] at key
          refine go_steps q_Box_areaOn kc_Box_areaOn 1 rfl ?_
          refine go_getI q_Box_areaOn kc_Box_areaOn rfl (am_tt_box hn_n1) rfl ?_
          exact key
        · have hb : ¬ ((σ (19 + n1) 12) ≤ (σ (19 + n0) 12)) := hb
          rw [show (if (σ (19 + n1) 12) ≤ (σ (19 + n0) 12) then σ (19 + n1) 12 else σ (19 + n0) 12 : Int32) = (σ (19 + n0) 12) from if_neg hb] at key
          refine go_steps q_Box_areaOn kc_Box_areaOn 1 rfl ?_
          refine go_getI q_Box_areaOn kc_Box_areaOn rfl (am_tt_box hn_n0) rfl ?_
          refine go_steps q_Box_areaOn kc_Box_areaOn 1 rfl ?_
          exact key
      refine go_if (fun hb => ?_) (fun hb => ?_)
      · have hb : (σ (19 + n0) 8) ≤ (σ (19 + n1) 8) := hb
        rw [show (if (σ (19 + n0) 8) ≤ (σ (19 + n1) 8) then σ (19 + n1) 8 else σ (19 + n0) 8 : Int32) = (σ (19 + n1) 8) from if_pos hb] at key
        refine go_steps q_Box_areaOn kc_Box_areaOn 1 rfl ?_
        refine go_getI q_Box_areaOn kc_Box_areaOn rfl (am_tt_box hn_n1) rfl ?_
        exact key
      · have hb : ¬ ((σ (19 + n0) 8) ≤ (σ (19 + n1) 8)) := hb
        rw [show (if (σ (19 + n0) 8) ≤ (σ (19 + n1) 8) then σ (19 + n1) 8 else σ (19 + n0) 8 : Int32) = (σ (19 + n0) 8) from if_neg hb] at key
        refine go_steps q_Box_areaOn kc_Box_areaOn 1 rfl ?_
        refine go_getI q_Box_areaOn kc_Box_areaOn rfl (am_tt_box hn_n0) rfl ?_
        refine go_steps q_Box_areaOn kc_Box_areaOn 1 rfl ?_
        exact key
    refine go_if (fun hb => ?_) (fun hb => ?_)
    · have hb : (σ (19 + n1) 11) ≤ (σ (19 + n0) 11) := hb
      rw [show (if (σ (19 + n1) 11) ≤ (σ (19 + n0) 11) then σ (19 + n1) 11 else σ (19 + n0) 11 : Int32) = (σ (19 + n1) 11) from if_pos hb] at key
      refine go_steps q_Box_areaOn kc_Box_areaOn 1 rfl ?_
      refine go_getI q_Box_areaOn kc_Box_areaOn rfl (am_tt_box hn_n1) rfl ?_
      exact key
    · have hb : ¬ ((σ (19 + n1) 11) ≤ (σ (19 + n0) 11)) := hb
      rw [show (if (σ (19 + n1) 11) ≤ (σ (19 + n0) 11) then σ (19 + n1) 11 else σ (19 + n0) 11 : Int32) = (σ (19 + n0) 11) from if_neg hb] at key
      refine go_steps q_Box_areaOn kc_Box_areaOn 1 rfl ?_
      refine go_getI q_Box_areaOn kc_Box_areaOn rfl (am_tt_box hn_n0) rfl ?_
      refine go_steps q_Box_areaOn kc_Box_areaOn 1 rfl ?_
      exact key
  · have hb : ¬ ((σ (19 + n1) 13) = (σ (19 + n0) 10)) := hb
    replace hv := hv.2 hb
    refine go_steps q_Box_areaOn kc_Box_areaOn 1 rfl ?_
    obtain ⟨rfl, rfl⟩ := hv
    exact go_retI q_Box_areaOn kc_Box_areaOn rfl rfl rfl
set_option maxHeartbeats 4000000 in
set_option maxRecDepth 100000 in
theorem v_Hold_bearAll_0 {l : Launch} {D : va_G} {DA : Nat → ClassId} {b sz d L : Nat} {cu : Bool} {σ : Nat → Nat → Int32} {r : Option Value} {X' : am_X} (p1 : Int32)
    (hv : (∃ (σ1 : Nat → Nat → Int32), am_Go l D DA b sz d M_Arrays_fill (0, [some (.ref 5), some (.int 0), none, none], [], (am_TT cu L, am_RR cu, σ)) none (am_TT cu L, am_RR cu, σ1) ∧ (am_Go l D DA b sz (d + 1) M_Hold_bearAll (13, [some (.ref 2), some (.int p1), some (.int 1), some (.int 12), none], [], (am_TT cu L, am_RR cu, σ1)) r X'))) :
    am_Go l D DA b sz (d + 1) M_Hold_bearAll (0, [some (.ref 2), some (.int p1), none, none, none], [], (am_TT cu L, am_RR cu, σ)) r X' := by
  refine go_steps q_Hold_bearAll kc_Hold_bearAll 5 rfl ?_
  obtain ⟨σ1, hg, hv⟩ := hv
  refine go_callS q_Hold_bearAll kc_Hold_bearAll rfl q_Arrays_fill am_k29 rfl rfl rfl (Nat.le_of_ble_eq_true rfl) (Nat.le_of_ble_eq_true rfl) hg ?_
  refine go_steps q_Hold_bearAll kc_Hold_bearAll 2 rfl ?_
  refine go_le (L1 := [some (.ref 2), some (.int p1), some (.int 1), some (.int 12), none]) (by repeat (first | exact trivial | refine ⟨rfl, ?_⟩)) ?_
  exact hv
set_option maxHeartbeats 4000000 in
set_option maxRecDepth 100000 in
theorem v_Hold_bearAll_13 {l : Launch} {D : va_G} {DA : Nat → ClassId} {b sz d L : Nat} {cu : Bool} {σ : Nat → Nat → Int32} {r : Option Value} {X' : am_X} (p1 : Int32) (p2 : Int32) (p3 : Int32)
    (hv : ((p3 ≤ 0) → ((p2 = 0 ∨ p2 = 1) ∧ (r = some (.int p2) ∧ X' = (am_TT cu L, am_RR cu, σ)))) ∧ (¬ (p3 ≤ 0) → (am_Go l D DA b sz (d + 1) M_Hold_bearAll (20, [some (.ref 2), some (.int p1), some (.int p2), some (.int p3), some (.int 0)], [], (am_TT cu L, am_RR cu, σ)) r X'))) :
    am_Go l D DA b sz (d + 1) M_Hold_bearAll (13, [some (.ref 2), some (.int p1), some (.int p2), some (.int p3), none], [], (am_TT cu L, am_RR cu, σ)) r X' := by
  refine go_steps q_Hold_bearAll kc_Hold_bearAll 2 rfl ?_
  refine go_if (fun hb => ?_) (fun hb => ?_)
  · have hb : p3 ≤ 0 := hb
    replace hv := hv.1 hb
    refine go_steps q_Hold_bearAll kc_Hold_bearAll 1 rfl ?_
    obtain ⟨hc, rfl, rfl⟩ := hv
    exact go_retI q_Hold_bearAll kc_Hold_bearAll rfl rfl (am_nar hc)
  · have hb : ¬ (p3 ≤ 0) := hb
    replace hv := hv.2 hb
    refine go_steps q_Hold_bearAll kc_Hold_bearAll 2 rfl ?_
    refine go_le (L1 := [some (.ref 2), some (.int p1), some (.int p2), some (.int p3), some (.int 0)]) (by repeat (first | exact trivial | refine ⟨rfl, ?_⟩)) ?_
    exact hv
set_option maxHeartbeats 4000000 in
set_option maxRecDepth 100000 in
theorem v_Hold_bearAll_20 {l : Launch} {D : va_G} {DA : Nat → ClassId} {b sz d L : Nat} {cu : Bool} {σ : Nat → Nat → Int32} {r : Option Value} {X' : am_X} (p1 : Int32) (p2 : Int32) (p3 : Int32) (p4 : Int32)
    (hv : (((σ 2 2) ≤ p4) → (am_Go l D DA b sz (d + 1) M_Hold_bearAll (13, [some (.ref 2), some (.int p1), some (.int p2), some (.int (p3 + (-1))), none], [], (am_TT cu L, am_RR cu, σ)) r X')) ∧ (¬ ((σ 2 2) ≤ p4) → (((((p1 >>> (p4 &&& 31 : Int32) : Int32) &&& 1) = (0 : Int32)) → (am_Go l D DA b sz (d + 1) M_Hold_bearAll (20, [some (.ref 2), some (.int p1), some (.int p2), some (.int p3), some (.int (p4 + 1))], [], (am_TT cu L, am_RR cu, σ)) r X')) ∧ (¬ (((p1 >>> (p4 &&& 31 : Int32) : Int32) &&& 1) = (0 : Int32)) → ((¬ (p4 < 0 ∨ 20 ≤ Int32.toNatClampNeg p4)) ∧ ((((σ (19 + Int32.toNatClampNeg p4) 13) = p3) → (((p2 = 0) → ((¬ (p4 < 0 ∨ 20 ≤ Int32.toNatClampNeg p4)) ∧ ((((σ (19 + Int32.toNatClampNeg p4) 10) ≤ 0) → (am_Go l D DA b sz (d + 1) M_Hold_bearAll (20, [some (.ref 2), some (.int p1), some (.int 0), some (.int p3), some (.int (p4 + 1))], [], (am_TT cu L, am_RR cu, σ)) r X')) ∧ (¬ ((σ (19 + Int32.toNatClampNeg p4) 10) ≤ 0) → (∃ (σ1 : Nat → Nat → Int32), am_Go l D DA b sz d M_Hold_giveLoad (0, [some (.ref 2), some (.int p4), some (.int p1), none, none, none, none, none, none], [], (am_TT cu L, am_RR cu, σ)) none (am_TT cu L, am_RR cu, σ1) ∧ (am_Go l D DA b sz (d + 1) M_Hold_bearAll (20, [some (.ref 2), some (.int p1), some (.int 0), some (.int p3), some (.int (p4 + 1))], [], (am_TT cu L, am_RR cu, σ1)) r X')))))) ∧ (¬ (p2 = 0) → ((¬ (p4 < 0 ∨ 20 ≤ Int32.toNatClampNeg p4)) ∧ ((¬ (p4 < 0 ∨ 20 ≤ Int32.toNatClampNeg p4)) ∧ ((¬ (p4 < 0 ∨ 20 ≤ Int32.toNatClampNeg p4)) ∧ ((((σ (19 + Int32.toNatClampNeg p4) 10) ≤ 0) → (am_Go l D DA b sz (d + 1) M_Hold_bearAll (20, [some (.ref 2), some (.int p1), some (.int (if (σ (19 + Int32.toNatClampNeg p4) 4) < (σ 5 (Int32.toNatClampNeg p4)) then 0 else 1 : Int32)), some (.int p3), some (.int (p4 + 1))], [], (am_TT cu L, am_RR cu, σ)) r X')) ∧ (¬ ((σ (19 + Int32.toNatClampNeg p4) 10) ≤ 0) → (∃ (σ2 : Nat → Nat → Int32), am_Go l D DA b sz d M_Hold_giveLoad (0, [some (.ref 2), some (.int p4), some (.int p1), none, none, none, none, none, none], [], (am_TT cu L, am_RR cu, σ)) none (am_TT cu L, am_RR cu, σ2) ∧ (am_Go l D DA b sz (d + 1) M_Hold_bearAll (20, [some (.ref 2), some (.int p1), some (.int (if (σ (19 + Int32.toNatClampNeg p4) 4) < (σ 5 (Int32.toNatClampNeg p4)) then 0 else 1 : Int32)), some (.int p3), some (.int (p4 + 1))], [], (am_TT cu L, am_RR cu, σ2)) r X')))))))))) ∧ (¬ ((σ (19 + Int32.toNatClampNeg p4) 13) = p3) → (am_Go l D DA b sz (d + 1) M_Hold_bearAll (20, [some (.ref 2), some (.int p1), some (.int p2), some (.int p3), some (.int (p4 + 1))], [], (am_TT cu L, am_RR cu, σ)) r X')))))))) :
    am_Go l D DA b sz (d + 1) M_Hold_bearAll (20, [some (.ref 2), some (.int p1), some (.int p2), some (.int p3), some (.int p4)], [], (am_TT cu L, am_RR cu, σ)) r X' := by
  refine go_steps q_Hold_bearAll kc_Hold_bearAll 4 rfl ?_
  refine go_if (fun hb => ?_) (fun hb => ?_)
  · have hb : (σ 2 2) ≤ p4 := hb
    replace hv := hv.1 hb
    refine go_steps q_Hold_bearAll kc_Hold_bearAll 2 rfl ?_
    refine go_le (L1 := [some (.ref 2), some (.int p1), some (.int p2), some (.int (p3 + (-1))), none]) (by repeat (first | exact trivial | refine ⟨rfl, ?_⟩)) ?_
    exact hv
  · have hb : ¬ ((σ 2 2) ≤ p4) := hb
    replace hv := hv.2 hb
    refine go_steps q_Hold_bearAll kc_Hold_bearAll 6 rfl ?_
    refine go_if (fun hb => ?_) (fun hb => ?_)
    · have hb : ((p1 >>> (p4 &&& 31 : Int32) : Int32) &&& 1) = (0 : Int32) := hb
      replace hv := hv.1 hb
      refine go_steps q_Hold_bearAll kc_Hold_bearAll 2 rfl ?_
      refine go_le (L1 := [some (.ref 2), some (.int p1), some (.int p2), some (.int p3), some (.int (p4 + 1))]) (by repeat (first | exact trivial | refine ⟨rfl, ?_⟩)) ?_
      exact hv
    · have hb : ¬ (((p1 >>> (p4 &&& 31 : Int32) : Int32) &&& 1) = (0 : Int32)) := hb
      replace hv := hv.2 hb
      refine go_steps q_Hold_bearAll kc_Hold_bearAll 3 rfl ?_
      obtain ⟨hc1, hv⟩ := hv
      refine go_aaload q_Hold_bearAll kc_Hold_bearAll rfl rfl hc1 (am_rr4 (am_inb hc1)) ?_
      refine go_getI q_Hold_bearAll kc_Hold_bearAll rfl (am_tt_box (am_inb hc1)) rfl ?_
      refine go_steps q_Hold_bearAll kc_Hold_bearAll 2 rfl ?_
      refine go_if (fun hb => ?_) (fun hb => ?_)
      · have hb : (σ (19 + Int32.toNatClampNeg p4) 13) = p3 := hb
        replace hv := hv.1 hb
        refine go_steps q_Hold_bearAll kc_Hold_bearAll 2 rfl ?_
        refine go_if (fun hb => ?_) (fun hb => ?_)
        · have hb : p2 = 0 := hb
          replace hv := hv.1 hb
          refine go_steps q_Hold_bearAll kc_Hold_bearAll 5 rfl ?_
          obtain ⟨hc2, hv⟩ := hv
          refine go_aaload q_Hold_bearAll kc_Hold_bearAll rfl rfl hc2 (am_rr4 (am_inb hc2)) ?_
          refine go_getI q_Hold_bearAll kc_Hold_bearAll rfl (am_tt_box (am_inb hc2)) rfl ?_
          refine go_steps q_Hold_bearAll kc_Hold_bearAll 1 rfl ?_
          refine go_if (fun hb => ?_) (fun hb => ?_)
          · have hb : (σ (19 + Int32.toNatClampNeg p4) 10) ≤ 0 := hb
            replace hv := hv.1 hb
            refine go_steps q_Hold_bearAll kc_Hold_bearAll 2 rfl ?_
            refine go_le (L1 := [some (.ref 2), some (.int p1), some (.int 0), some (.int p3), some (.int (p4 + 1))]) (by repeat (first | exact trivial | refine ⟨rfl, ?_⟩)) ?_
            exact hv
          · have hb : ¬ ((σ (19 + Int32.toNatClampNeg p4) 10) ≤ 0) := hb
            replace hv := hv.2 hb
            refine go_steps q_Hold_bearAll kc_Hold_bearAll 3 rfl ?_
            obtain ⟨σ1, hg, hv⟩ := hv
            refine go_callV q_Hold_bearAll kc_Hold_bearAll rfl q_Hold_giveLoad am_k30 ⟨rfl, rfl, by decide⟩ rfl rfl (Nat.le_of_ble_eq_true rfl) (Nat.le_of_ble_eq_true rfl) rfl rfl hg ?_
            refine go_steps q_Hold_bearAll kc_Hold_bearAll 2 rfl ?_
            refine go_le (L1 := [some (.ref 2), some (.int p1), some (.int 0), some (.int p3), some (.int (p4 + 1))]) (by repeat (first | exact trivial | refine ⟨rfl, ?_⟩)) ?_
            exact hv
        · have hb : ¬ (p2 = 0) := hb
          replace hv := hv.2 hb
          refine go_steps q_Hold_bearAll kc_Hold_bearAll 3 rfl ?_
          obtain ⟨hc3, hv⟩ := hv
          refine go_iaload q_Hold_bearAll kc_Hold_bearAll rfl rfl hc3 ?_
          refine go_steps q_Hold_bearAll kc_Hold_bearAll 3 rfl ?_
          obtain ⟨hc4, hv⟩ := hv
          refine go_aaload q_Hold_bearAll kc_Hold_bearAll rfl rfl hc4 (am_rr4 (am_inb hc4)) ?_
          refine go_getI q_Hold_bearAll kc_Hold_bearAll rfl (am_tt_box (am_inb hc4)) rfl ?_
          refine go_steps q_Hold_bearAll kc_Hold_bearAll 1 rfl ?_
          have key : am_Go l D DA b sz (d + 1) M_Hold_bearAll (81, [some (.ref 2), some (.int p1), some (.int p2), some (.int p3), some (.int p4)], [.int (if (σ (19 + Int32.toNatClampNeg p4) 4) < (σ 5 (Int32.toNatClampNeg p4)) then 0 else 1 : Int32)], (am_TT cu L, am_RR cu, σ)) r X' := by
            refine go_steps q_Hold_bearAll kc_Hold_bearAll 4 rfl ?_
            obtain ⟨hc5, hv⟩ := hv
            refine go_aaload q_Hold_bearAll kc_Hold_bearAll rfl rfl hc5 (am_rr4 (am_inb hc5)) ?_
            refine go_getI q_Hold_bearAll kc_Hold_bearAll rfl (am_tt_box (am_inb hc5)) rfl ?_
            refine go_steps q_Hold_bearAll kc_Hold_bearAll 1 rfl ?_
            refine go_if (fun hb => ?_) (fun hb => ?_)
            · have hb : (σ (19 + Int32.toNatClampNeg p4) 10) ≤ 0 := hb
              replace hv := hv.1 hb
              refine go_steps q_Hold_bearAll kc_Hold_bearAll 2 rfl ?_
              refine go_le (L1 := [some (.ref 2), some (.int p1), some (.int (if (σ (19 + Int32.toNatClampNeg p4) 4) < (σ 5 (Int32.toNatClampNeg p4)) then 0 else 1 : Int32)), some (.int p3), some (.int (p4 + 1))]) (by repeat (first | exact trivial | refine ⟨rfl, ?_⟩)) ?_
              exact hv
            · have hb : ¬ ((σ (19 + Int32.toNatClampNeg p4) 10) ≤ 0) := hb
              replace hv := hv.2 hb
              refine go_steps q_Hold_bearAll kc_Hold_bearAll 3 rfl ?_
              obtain ⟨σ2, hg, hv⟩ := hv
              refine go_callV q_Hold_bearAll kc_Hold_bearAll rfl q_Hold_giveLoad am_k30 ⟨rfl, rfl, by decide⟩ rfl rfl (Nat.le_of_ble_eq_true rfl) (Nat.le_of_ble_eq_true rfl) rfl rfl hg ?_
              refine go_steps q_Hold_bearAll kc_Hold_bearAll 2 rfl ?_
              refine go_le (L1 := [some (.ref 2), some (.int p1), some (.int (if (σ (19 + Int32.toNatClampNeg p4) 4) < (σ 5 (Int32.toNatClampNeg p4)) then 0 else 1 : Int32)), some (.int p3), some (.int (p4 + 1))]) (by repeat (first | exact trivial | refine ⟨rfl, ?_⟩)) ?_
              exact hv
          refine go_if (fun hb => ?_) (fun hb => ?_)
          · have hb : (σ (19 + Int32.toNatClampNeg p4) 4) < (σ 5 (Int32.toNatClampNeg p4)) := hb
            rw [show (if (σ (19 + Int32.toNatClampNeg p4) 4) < (σ 5 (Int32.toNatClampNeg p4)) then 0 else 1 : Int32) = 0 from if_pos hb] at key
            refine go_steps q_Hold_bearAll kc_Hold_bearAll 1 rfl ?_
            exact key
          · have hb : ¬ ((σ (19 + Int32.toNatClampNeg p4) 4) < (σ 5 (Int32.toNatClampNeg p4))) := hb
            rw [show (if (σ (19 + Int32.toNatClampNeg p4) 4) < (σ 5 (Int32.toNatClampNeg p4)) then 0 else 1 : Int32) = 1 from if_neg hb] at key
            refine go_steps q_Hold_bearAll kc_Hold_bearAll 2 rfl ?_
            exact key
      · have hb : ¬ ((σ (19 + Int32.toNatClampNeg p4) 13) = p3) := hb
        replace hv := hv.2 hb
        refine go_steps q_Hold_bearAll kc_Hold_bearAll 2 rfl ?_
        refine go_le (L1 := [some (.ref 2), some (.int p1), some (.int p2), some (.int p3), some (.int (p4 + 1))]) (by repeat (first | exact trivial | refine ⟨rfl, ?_⟩)) ?_
        exact hv
set_option maxHeartbeats 4000000 in
set_option maxRecDepth 100000 in
theorem v_Hold_giveLoad_0 {l : Launch} {D : va_G} {DA : Nat → ClassId} {b sz d L : Nat} {cu : Bool} {σ : Nat → Nat → Int32} {r : Option Value} {X' : am_X} (p1 : Int32) (p2 : Int32)
    (hv : (¬ (p1 < 0 ∨ 20 ≤ Int32.toNatClampNeg p1)) ∧ (am_Go l D DA b sz (d + 1) M_Hold_giveLoad (13, [some (.ref 2), some (.int p1), some (.int p2), some (.ref (19 + Int32.toNatClampNeg p1)), some (.int 0), some (.int 0), none, none, none], [], (am_TT cu L, am_RR cu, σ)) r X')) :
    am_Go l D DA b sz (d + 1) M_Hold_giveLoad (0, [some (.ref 2), some (.int p1), some (.int p2), none, none, none, none, none, none], [], (am_TT cu L, am_RR cu, σ)) r X' := by
  refine go_steps q_Hold_giveLoad kc_Hold_giveLoad 3 rfl ?_
  obtain ⟨hc1, hv⟩ := hv
  refine go_aaload q_Hold_giveLoad kc_Hold_giveLoad rfl rfl hc1 (am_rr4 (am_inb hc1)) ?_
  refine go_steps q_Hold_giveLoad kc_Hold_giveLoad 5 rfl ?_
  refine go_le (L1 := [some (.ref 2), some (.int p1), some (.int p2), some (.ref (19 + Int32.toNatClampNeg p1)), some (.int 0), some (.int 0), none, none, none]) (by repeat (first | exact trivial | refine ⟨rfl, ?_⟩)) ?_
  exact hv
set_option maxHeartbeats 4000000 in
set_option maxRecDepth 100000 in
theorem v_Hold_giveLoad_13 {l : Launch} {D : va_G} {DA : Nat → ClassId} {b sz d L : Nat} {cu : Bool} {σ : Nat → Nat → Int32} {r : Option Value} {X' : am_X} (p1 : Int32) (p2 : Int32) (p4 : Int32) (p5 : Int32) (n3 : Nat) (hn_n3 : n3 < 20)
    (hv : (((σ 2 2) ≤ p5) → (((0 < p4) → ((¬ (p1 < 0 ∨ 20 ≤ Int32.toNatClampNeg p1)) ∧ (am_Go l D DA b sz (d + 1) M_Hold_giveLoad (97, [some (.ref 2), none, none, none, some (.int p4), some (.int ((σ (19 + n3) 3) + (σ 5 (Int32.toNatClampNeg p1)))), some (.int ((σ (19 + n3) 3) + (σ 5 (Int32.toNatClampNeg p1)))), some (.int 0), none], [], (am_TT cu L, am_RR cu, σ)) r X'))) ∧ (¬ (0 < p4) → (r = none ∧ X' = (am_TT cu L, am_RR cu, σ))))) ∧ (¬ ((σ 2 2) ≤ p5) → (((((p2 >>> (p5 &&& 31 : Int32) : Int32) &&& 1) = (0 : Int32)) → ((¬ (p5 < 0 ∨ 20 ≤ Int32.toNatClampNeg p5)) ∧ ((¬ (p5 < 0 ∨ 20 ≤ Int32.toNatClampNeg p5)) ∧ (am_Go l D DA b sz (d + 1) M_Hold_giveLoad (13, [some (.ref 2), some (.int p1), some (.int p2), some (.ref (19 + n3)), some (.int (p4 + ((am_us σ 6 (Int32.toNatClampNeg p5) 0) 6 (Int32.toNatClampNeg p5)))), some (.int (p5 + 1)), none, none, none], [], (am_TT cu L, am_RR cu, am_us σ 6 (Int32.toNatClampNeg p5) 0)) r X')))) ∧ (¬ (((p2 >>> (p5 &&& 31 : Int32) : Int32) &&& 1) = (0 : Int32)) → ((¬ (p5 < 0 ∨ 20 ≤ Int32.toNatClampNeg p5)) ∧ (∃ (r1 : Int32) (σ1 : Nat → Nat → Int32), am_Go l D DA b sz d M_Box_areaOn (0, [some (.ref (19 + n3)), some (.ref (19 + Int32.toNatClampNeg p5)), none, none], [], (am_TT cu L, am_RR cu, σ)) (some (.int r1)) (am_TT cu L, am_RR cu, σ1) ∧ ((¬ (p5 < 0 ∨ 20 ≤ Int32.toNatClampNeg p5)) ∧ ((¬ (p5 < 0 ∨ 20 ≤ Int32.toNatClampNeg p5)) ∧ (am_Go l D DA b sz (d + 1) M_Hold_giveLoad (13, [some (.ref 2), some (.int p1), some (.int p2), some (.ref (19 + n3)), some (.int (p4 + ((am_us σ1 6 (Int32.toNatClampNeg p5) r1) 6 (Int32.toNatClampNeg p5)))), some (.int (p5 + 1)), none, none, none], [], (am_TT cu L, am_RR cu, am_us σ1 6 (Int32.toNatClampNeg p5) r1)) r X'))))))))) :
    am_Go l D DA b sz (d + 1) M_Hold_giveLoad (13, [some (.ref 2), some (.int p1), some (.int p2), some (.ref (19 + n3)), some (.int p4), some (.int p5), none, none, none], [], (am_TT cu L, am_RR cu, σ)) r X' := by
  refine go_steps q_Hold_giveLoad kc_Hold_giveLoad 4 rfl ?_
  refine go_if (fun hb => ?_) (fun hb => ?_)
  · have hb : (σ 2 2) ≤ p5 := hb
    replace hv := hv.1 hb
    refine go_steps q_Hold_giveLoad kc_Hold_giveLoad 2 rfl ?_
    refine go_if (fun hb => ?_) (fun hb => ?_)
    · have hb : 0 < p4 := hb
      replace hv := hv.1 hb
      refine go_steps q_Hold_giveLoad kc_Hold_giveLoad 1 rfl ?_
      refine go_getI q_Hold_giveLoad kc_Hold_giveLoad rfl (am_tt_box hn_n3) rfl ?_
      refine go_steps q_Hold_giveLoad kc_Hold_giveLoad 3 rfl ?_
      obtain ⟨hc1, hv⟩ := hv
      refine go_iaload q_Hold_giveLoad kc_Hold_giveLoad rfl rfl hc1 ?_
      refine go_steps q_Hold_giveLoad kc_Hold_giveLoad 6 rfl ?_
      refine go_le (L1 := [some (.ref 2), none, none, none, some (.int p4), some (.int ((σ (19 + n3) 3) + (σ 5 (Int32.toNatClampNeg p1)))), some (.int ((σ (19 + n3) 3) + (σ 5 (Int32.toNatClampNeg p1)))), some (.int 0), none]) (by repeat (first | exact trivial | refine ⟨rfl, ?_⟩)) ?_
      exact hv
    · have hb : ¬ (0 < p4) := hb
      replace hv := hv.2 hb
      obtain ⟨rfl, rfl⟩ := hv
      exact go_retV q_Hold_giveLoad kc_Hold_giveLoad rfl rfl
  · have hb : ¬ ((σ 2 2) ≤ p5) := hb
    replace hv := hv.2 hb
    refine go_steps q_Hold_giveLoad kc_Hold_giveLoad 9 rfl ?_
    refine go_if (fun hb => ?_) (fun hb => ?_)
    · have hb : ((p2 >>> (p5 &&& 31 : Int32) : Int32) &&& 1) = (0 : Int32) := hb
      replace hv := hv.1 hb
      refine go_steps q_Hold_giveLoad kc_Hold_giveLoad 1 rfl ?_
      obtain ⟨hc, hv⟩ := hv
      refine go_iastore q_Hold_giveLoad kc_Hold_giveLoad rfl rfl hc ?_
      refine go_steps q_Hold_giveLoad kc_Hold_giveLoad 4 rfl ?_
      obtain ⟨hc2, hv⟩ := hv
      refine go_iaload q_Hold_giveLoad kc_Hold_giveLoad rfl rfl hc2 ?_
      refine go_steps q_Hold_giveLoad kc_Hold_giveLoad 4 rfl ?_
      refine go_le (L1 := [some (.ref 2), some (.int p1), some (.int p2), some (.ref (19 + n3)), some (.int (p4 + ((am_us σ 6 (Int32.toNatClampNeg p5) 0) 6 (Int32.toNatClampNeg p5)))), some (.int (p5 + 1)), none, none, none]) (by repeat (first | exact trivial | refine ⟨rfl, ?_⟩)) ?_
      exact hv
    · have hb : ¬ (((p2 >>> (p5 &&& 31 : Int32) : Int32) &&& 1) = (0 : Int32)) := hb
      replace hv := hv.2 hb
      refine go_steps q_Hold_giveLoad kc_Hold_giveLoad 4 rfl ?_
      obtain ⟨hc3, hv⟩ := hv
      refine go_aaload q_Hold_giveLoad kc_Hold_giveLoad rfl rfl hc3 (am_rr4 (am_inb hc3)) ?_
      obtain ⟨r1, σ1, hg, hv⟩ := hv
      refine go_callV q_Hold_giveLoad kc_Hold_giveLoad rfl q_Box_areaOn am_k27 ⟨rfl, rfl, by decide⟩ rfl rfl (Nat.le_of_ble_eq_true rfl) (Nat.le_of_ble_eq_true rfl) rfl (am_tt_box hn_n3) hg ?_
      refine go_steps q_Hold_giveLoad kc_Hold_giveLoad 1 rfl ?_
      obtain ⟨hc, hv⟩ := hv
      refine go_iastore q_Hold_giveLoad kc_Hold_giveLoad rfl rfl hc ?_
      refine go_steps q_Hold_giveLoad kc_Hold_giveLoad 4 rfl ?_
      obtain ⟨hc4, hv⟩ := hv
      refine go_iaload q_Hold_giveLoad kc_Hold_giveLoad rfl rfl hc4 ?_
      refine go_steps q_Hold_giveLoad kc_Hold_giveLoad 4 rfl ?_
      refine go_le (L1 := [some (.ref 2), some (.int p1), some (.int p2), some (.ref (19 + n3)), some (.int (p4 + ((am_us σ1 6 (Int32.toNatClampNeg p5) r1) 6 (Int32.toNatClampNeg p5)))), some (.int (p5 + 1)), none, none, none]) (by repeat (first | exact trivial | refine ⟨rfl, ?_⟩)) ?_
      exact hv
set_option maxHeartbeats 4000000 in
set_option maxRecDepth 100000 in
theorem v_Hold_giveLoad_97 {l : Launch} {D : va_G} {DA : Nat → ClassId} {b sz d L : Nat} {cu : Bool} {σ : Nat → Nat → Int32} {r : Option Value} {X' : am_X} (p4 : Int32) (p5 : Int32) (p6 : Int32) (p7 : Int32)
    (hv : (((σ 2 2) ≤ p7) → (am_Go l D DA b sz (d + 1) M_Hold_giveLoad (149, [some (.ref 2), none, none, none, none, none, some (.int p6), some (.int 0), none], [], (am_TT cu L, am_RR cu, σ)) r X')) ∧ (¬ ((σ 2 2) ≤ p7) → ((¬ (p7 < 0 ∨ 20 ≤ Int32.toNatClampNeg p7)) ∧ ((¬ p4 = 0) ∧ ((¬ (p7 < 0 ∨ 20 ≤ Int32.toNatClampNeg p7)) ∧ ((¬ (p7 < 0 ∨ 20 ≤ Int32.toNatClampNeg p7)) ∧ (am_Go l D DA b sz (d + 1) M_Hold_giveLoad (97, [some (.ref 2), none, none, none, some (.int p4), some (.int p5), some (.int (p6 - ((p5 * (σ 6 (Int32.toNatClampNeg p7))) / p4))), some (.int (p7 + 1)), none], [], (am_TT cu L, am_RR cu, am_us σ 5 (Int32.toNatClampNeg p7) ((σ 5 (Int32.toNatClampNeg p7)) + ((p5 * (σ 6 (Int32.toNatClampNeg p7))) / p4)))) r X'))))))) :
    am_Go l D DA b sz (d + 1) M_Hold_giveLoad (97, [some (.ref 2), none, none, none, some (.int p4), some (.int p5), some (.int p6), some (.int p7), none], [], (am_TT cu L, am_RR cu, σ)) r X' := by
  refine go_steps q_Hold_giveLoad kc_Hold_giveLoad 4 rfl ?_
  refine go_if (fun hb => ?_) (fun hb => ?_)
  · have hb : (σ 2 2) ≤ p7 := hb
    replace hv := hv.1 hb
    refine go_steps q_Hold_giveLoad kc_Hold_giveLoad 2 rfl ?_
    refine go_le (L1 := [some (.ref 2), none, none, none, none, none, some (.int p6), some (.int 0), none]) (by repeat (first | exact trivial | refine ⟨rfl, ?_⟩)) ?_
    exact hv
  · have hb : ¬ ((σ 2 2) ≤ p7) := hb
    replace hv := hv.2 hb
    refine go_steps q_Hold_giveLoad kc_Hold_giveLoad 4 rfl ?_
    obtain ⟨hc1, hv⟩ := hv
    refine go_iaload q_Hold_giveLoad kc_Hold_giveLoad rfl rfl hc1 ?_
    refine go_steps q_Hold_giveLoad kc_Hold_giveLoad 2 rfl ?_
    obtain ⟨hc, hv⟩ := hv
    refine go_idiv q_Hold_giveLoad kc_Hold_giveLoad rfl hc ?_
    refine go_steps q_Hold_giveLoad kc_Hold_giveLoad 5 rfl ?_
    obtain ⟨hc2, hv⟩ := hv
    refine go_iaload q_Hold_giveLoad kc_Hold_giveLoad rfl rfl hc2 ?_
    refine go_steps q_Hold_giveLoad kc_Hold_giveLoad 2 rfl ?_
    obtain ⟨hc, hv⟩ := hv
    refine go_iastore q_Hold_giveLoad kc_Hold_giveLoad rfl rfl hc ?_
    refine go_steps q_Hold_giveLoad kc_Hold_giveLoad 6 rfl ?_
    refine go_le (L1 := [some (.ref 2), none, none, none, some (.int p4), some (.int p5), some (.int (p6 - ((p5 * (σ 6 (Int32.toNatClampNeg p7))) / p4))), some (.int (p7 + 1)), none]) (by repeat (first | exact trivial | refine ⟨rfl, ?_⟩)) ?_
    exact hv
set_option maxHeartbeats 4000000 in
set_option maxRecDepth 100000 in
theorem v_Hold_giveLoad_149 {l : Launch} {D : va_G} {DA : Nat → ClassId} {b sz d L : Nat} {cu : Bool} {σ : Nat → Nat → Int32} {r : Option Value} {X' : am_X} (p6 : Int32) (p7 : Int32)
    (hv : (((σ 2 2) ≤ p7) → (r = none ∧ X' = (am_TT cu L, am_RR cu, σ))) ∧ (¬ ((σ 2 2) ≤ p7) → (((p6 ≤ 0) → (r = none ∧ X' = (am_TT cu L, am_RR cu, σ))) ∧ (¬ (p6 ≤ 0) → ((¬ (p7 < 0 ∨ 20 ≤ Int32.toNatClampNeg p7)) ∧ ((((σ 6 (Int32.toNatClampNeg p7)) ≤ 0) → (am_Go l D DA b sz (d + 1) M_Hold_giveLoad (149, [some (.ref 2), none, none, none, none, none, some (.int p6), some (.int (p7 + 1)), none], [], (am_TT cu L, am_RR cu, σ)) r X')) ∧ (¬ ((σ 6 (Int32.toNatClampNeg p7)) ≤ 0) → ((¬ (p7 < 0 ∨ 20 ≤ Int32.toNatClampNeg p7)) ∧ ((¬ (p7 < 0 ∨ 20 ≤ Int32.toNatClampNeg p7)) ∧ (am_Go l D DA b sz (d + 1) M_Hold_giveLoad (149, [some (.ref 2), none, none, none, none, none, some (.int (p6 + (-1))), some (.int (p7 + 1)), none], [], (am_TT cu L, am_RR cu, am_us σ 5 (Int32.toNatClampNeg p7) ((σ 5 (Int32.toNatClampNeg p7)) + 1))) r X')))))))))) :
    am_Go l D DA b sz (d + 1) M_Hold_giveLoad (149, [some (.ref 2), none, none, none, none, none, some (.int p6), some (.int p7), none], [], (am_TT cu L, am_RR cu, σ)) r X' := by
  refine go_steps q_Hold_giveLoad kc_Hold_giveLoad 4 rfl ?_
  refine go_if (fun hb => ?_) (fun hb => ?_)
  · have hb : (σ 2 2) ≤ p7 := hb
    replace hv := hv.1 hb
    obtain ⟨rfl, rfl⟩ := hv
    exact go_retV q_Hold_giveLoad kc_Hold_giveLoad rfl rfl
  · have hb : ¬ ((σ 2 2) ≤ p7) := hb
    replace hv := hv.2 hb
    refine go_steps q_Hold_giveLoad kc_Hold_giveLoad 2 rfl ?_
    refine go_if (fun hb => ?_) (fun hb => ?_)
    · have hb : p6 ≤ 0 := hb
      replace hv := hv.1 hb
      obtain ⟨rfl, rfl⟩ := hv
      exact go_retV q_Hold_giveLoad kc_Hold_giveLoad rfl rfl
    · have hb : ¬ (p6 ≤ 0) := hb
      replace hv := hv.2 hb
      refine go_steps q_Hold_giveLoad kc_Hold_giveLoad 3 rfl ?_
      obtain ⟨hc1, hv⟩ := hv
      refine go_iaload q_Hold_giveLoad kc_Hold_giveLoad rfl rfl hc1 ?_
      refine go_steps q_Hold_giveLoad kc_Hold_giveLoad 1 rfl ?_
      refine go_if (fun hb => ?_) (fun hb => ?_)
      · have hb : (σ 6 (Int32.toNatClampNeg p7)) ≤ 0 := hb
        replace hv := hv.1 hb
        refine go_steps q_Hold_giveLoad kc_Hold_giveLoad 2 rfl ?_
        refine go_le (L1 := [some (.ref 2), none, none, none, none, none, some (.int p6), some (.int (p7 + 1)), none]) (by repeat (first | exact trivial | refine ⟨rfl, ?_⟩)) ?_
        exact hv
      · have hb : ¬ ((σ 6 (Int32.toNatClampNeg p7)) ≤ 0) := hb
        replace hv := hv.2 hb
        refine go_steps q_Hold_giveLoad kc_Hold_giveLoad 4 rfl ?_
        obtain ⟨hc2, hv⟩ := hv
        refine go_iaload q_Hold_giveLoad kc_Hold_giveLoad rfl rfl hc2 ?_
        refine go_steps q_Hold_giveLoad kc_Hold_giveLoad 2 rfl ?_
        obtain ⟨hc, hv⟩ := hv
        refine go_iastore q_Hold_giveLoad kc_Hold_giveLoad rfl rfl hc ?_
        refine go_steps q_Hold_giveLoad kc_Hold_giveLoad 3 rfl ?_
        refine go_le (L1 := [some (.ref 2), none, none, none, none, none, some (.int (p6 + (-1))), some (.int (p7 + 1)), none]) (by repeat (first | exact trivial | refine ⟨rfl, ?_⟩)) ?_
        exact hv
set_option maxHeartbeats 4000000 in
set_option maxRecDepth 100000 in
theorem v_Hold_isInWay_0 {l : Launch} {D : va_G} {DA : Nat → ClassId} {b sz d L : Nat} {cu : Bool} {σ : Nat → Nat → Int32} {r : Option Value} {X' : am_X} (n1 : Nat) (hn_n1 : n1 < 20)
    (hv : am_Go l D DA b sz d M_Hold_isInWay (23, [some (.ref 2), some (.ref (19 + n1)), some (.int ((σ 2 10) &&& (σ 2 11))), some (.int ((σ 2 9) &&& (σ 2 10))), some (.int 0), none, none, none], [], (am_TT cu L, am_RR cu, σ)) r X') :
    am_Go l D DA b sz d M_Hold_isInWay (0, [some (.ref 2), some (.ref (19 + n1)), none, none, none, none, none, none], [], (am_TT cu L, am_RR cu, σ)) r X' := by
  refine go_steps q_Hold_isInWay kc_Hold_isInWay 14 rfl ?_
  refine go_le (L1 := [some (.ref 2), some (.ref (19 + n1)), some (.int ((σ 2 10) &&& (σ 2 11))), some (.int ((σ 2 9) &&& (σ 2 10))), some (.int 0), none, none, none]) (by repeat (first | exact trivial | refine ⟨rfl, ?_⟩)) ?_
  exact hv
set_option maxHeartbeats 4000000 in
set_option maxRecDepth 100000 in
theorem v_Hold_isInWay_23 {l : Launch} {D : va_G} {DA : Nat → ClassId} {b sz d L : Nat} {cu : Bool} {σ : Nat → Nat → Int32} {r : Option Value} {X' : am_X} (p2 : Int32) (p3 : Int32) (p4 : Int32) (n1 : Nat) (hn_n1 : n1 < 20)
    (hv : (((σ 2 2) ≤ p4) → (r = some (.int 0) ∧ X' = (am_TT cu L, am_RR cu, σ))) ∧ (¬ ((σ 2 2) ≤ p4) → ((¬ (p4 < 0 ∨ 20 ≤ Int32.toNatClampNeg p4)) ∧ ((((((p2 ||| p3) >>> (p4 &&& 31 : Int32) : Int32) &&& 1) = (0 : Int32)) → (am_Go l D DA b sz d M_Hold_isInWay (23, [some (.ref 2), some (.ref (19 + n1)), some (.int p2), some (.int p3), some (.int (p4 + 1)), none, none, none], [], (am_TT cu L, am_RR cu, σ)) r X')) ∧ (¬ ((((p2 ||| p3) >>> (p4 &&& 31 : Int32) : Int32) &&& 1) = (0 : Int32)) → ((((σ (19 + Int32.toNatClampNeg p4) 5) = (σ (19 + n1) 5)) → (am_Go l D DA b sz d M_Hold_isInWay (23, [some (.ref 2), some (.ref (19 + n1)), some (.int p2), some (.int p3), some (.int (p4 + 1)), none, none, none], [], (am_TT cu L, am_RR cu, σ)) r X')) ∧ (¬ ((σ (19 + Int32.toNatClampNeg p4) 5) = (σ (19 + n1) 5)) → ((((σ (19 + n1) 5) ≤ (σ (19 + Int32.toNatClampNeg p4) 5)) → ((((σ (19 + n1) 5) ≤ (σ (19 + Int32.toNatClampNeg p4) 5)) → (((((p2 >>> (p4 &&& 31 : Int32) : Int32) &&& 1) = (0 : Int32)) → (((((p3 >>> (p4 &&& 31 : Int32) : Int32) &&& 1) = (0 : Int32)) → (am_Go l D DA b sz d M_Hold_isInWay (23, [some (.ref 2), some (.ref (19 + n1)), some (.int p2), some (.int p3), some (.int (p4 + 1)), none, none, none], [], (am_TT cu L, am_RR cu, σ)) r X')) ∧ (¬ (((p3 >>> (p4 &&& 31 : Int32) : Int32) &&& 1) = (0 : Int32)) → ((((σ (19 + Int32.toNatClampNeg p4) 10) < (σ (19 + n1) 13)) → (am_Go l D DA b sz d M_Hold_isInWay (23, [some (.ref 2), some (.ref (19 + n1)), some (.int p2), some (.int p3), some (.int (p4 + 1)), none, none, none], [], (am_TT cu L, am_RR cu, σ)) r X')) ∧ (¬ ((σ (19 + Int32.toNatClampNeg p4) 10) < (σ (19 + n1) 13)) → (r = some (.int 1) ∧ X' = (am_TT cu L, am_RR cu, σ))))))) ∧ (¬ (((p2 >>> (p4 &&& 31 : Int32) : Int32) &&& 1) = (0 : Int32)) → ((((σ (19 + Int32.toNatClampNeg p4) 8) < (σ (19 + n1) 11)) → (((((p3 >>> (p4 &&& 31 : Int32) : Int32) &&& 1) = (0 : Int32)) → (am_Go l D DA b sz d M_Hold_isInWay (23, [some (.ref 2), some (.ref (19 + n1)), some (.int p2), some (.int p3), some (.int (p4 + 1)), none, none, none], [], (am_TT cu L, am_RR cu, σ)) r X')) ∧ (¬ (((p3 >>> (p4 &&& 31 : Int32) : Int32) &&& 1) = (0 : Int32)) → ((((σ (19 + Int32.toNatClampNeg p4) 10) < (σ (19 + n1) 13)) → (am_Go l D DA b sz d M_Hold_isInWay (23, [some (.ref 2), some (.ref (19 + n1)), some (.int p2), some (.int p3), some (.int (p4 + 1)), none, none, none], [], (am_TT cu L, am_RR cu, σ)) r X')) ∧ (¬ ((σ (19 + Int32.toNatClampNeg p4) 10) < (σ (19 + n1) 13)) → (r = some (.int 1) ∧ X' = (am_TT cu L, am_RR cu, σ))))))) ∧ (¬ ((σ (19 + Int32.toNatClampNeg p4) 8) < (σ (19 + n1) 11)) → (r = some (.int 1) ∧ X' = (am_TT cu L, am_RR cu, σ))))))) ∧ (¬ ((σ (19 + n1) 5) ≤ (σ (19 + Int32.toNatClampNeg p4) 5)) → (((((p2 >>> (p4 &&& 31 : Int32) : Int32) &&& 1) = (0 : Int32)) → (((((p3 >>> (p4 &&& 31 : Int32) : Int32) &&& 1) = (0 : Int32)) → (am_Go l D DA b sz d M_Hold_isInWay (23, [some (.ref 2), some (.ref (19 + n1)), some (.int p2), some (.int p3), some (.int (p4 + 1)), none, none, none], [], (am_TT cu L, am_RR cu, σ)) r X')) ∧ (¬ (((p3 >>> (p4 &&& 31 : Int32) : Int32) &&& 1) = (0 : Int32)) → ((((σ (19 + n1) 10) < (σ (19 + n1) 13)) → (am_Go l D DA b sz d M_Hold_isInWay (23, [some (.ref 2), some (.ref (19 + n1)), some (.int p2), some (.int p3), some (.int (p4 + 1)), none, none, none], [], (am_TT cu L, am_RR cu, σ)) r X')) ∧ (¬ ((σ (19 + n1) 10) < (σ (19 + n1) 13)) → (r = some (.int 1) ∧ X' = (am_TT cu L, am_RR cu, σ))))))) ∧ (¬ (((p2 >>> (p4 &&& 31 : Int32) : Int32) &&& 1) = (0 : Int32)) → ((((σ (19 + n1) 8) < (σ (19 + n1) 11)) → (((((p3 >>> (p4 &&& 31 : Int32) : Int32) &&& 1) = (0 : Int32)) → (am_Go l D DA b sz d M_Hold_isInWay (23, [some (.ref 2), some (.ref (19 + n1)), some (.int p2), some (.int p3), some (.int (p4 + 1)), none, none, none], [], (am_TT cu L, am_RR cu, σ)) r X')) ∧ (¬ (((p3 >>> (p4 &&& 31 : Int32) : Int32) &&& 1) = (0 : Int32)) → ((((σ (19 + n1) 10) < (σ (19 + n1) 13)) → (am_Go l D DA b sz d M_Hold_isInWay (23, [some (.ref 2), some (.ref (19 + n1)), some (.int p2), some (.int p3), some (.int (p4 + 1)), none, none, none], [], (am_TT cu L, am_RR cu, σ)) r X')) ∧ (¬ ((σ (19 + n1) 10) < (σ (19 + n1) 13)) → (r = some (.int 1) ∧ X' = (am_TT cu L, am_RR cu, σ))))))) ∧ (¬ ((σ (19 + n1) 8) < (σ (19 + n1) 11)) → (r = some (.int 1) ∧ X' = (am_TT cu L, am_RR cu, σ))))))))) ∧ (¬ ((σ (19 + n1) 5) ≤ (σ (19 + Int32.toNatClampNeg p4) 5)) → ((((σ (19 + n1) 5) ≤ (σ (19 + Int32.toNatClampNeg p4) 5)) → (((((p2 >>> (p4 &&& 31 : Int32) : Int32) &&& 1) = (0 : Int32)) → (((((p3 >>> (p4 &&& 31 : Int32) : Int32) &&& 1) = (0 : Int32)) → (am_Go l D DA b sz d M_Hold_isInWay (23, [some (.ref 2), some (.ref (19 + n1)), some (.int p2), some (.int p3), some (.int (p4 + 1)), none, none, none], [], (am_TT cu L, am_RR cu, σ)) r X')) ∧ (¬ (((p3 >>> (p4 &&& 31 : Int32) : Int32) &&& 1) = (0 : Int32)) → ((((σ (19 + Int32.toNatClampNeg p4) 10) < (σ (19 + Int32.toNatClampNeg p4) 13)) → (am_Go l D DA b sz d M_Hold_isInWay (23, [some (.ref 2), some (.ref (19 + n1)), some (.int p2), some (.int p3), some (.int (p4 + 1)), none, none, none], [], (am_TT cu L, am_RR cu, σ)) r X')) ∧ (¬ ((σ (19 + Int32.toNatClampNeg p4) 10) < (σ (19 + Int32.toNatClampNeg p4) 13)) → (r = some (.int 1) ∧ X' = (am_TT cu L, am_RR cu, σ))))))) ∧ (¬ (((p2 >>> (p4 &&& 31 : Int32) : Int32) &&& 1) = (0 : Int32)) → ((((σ (19 + Int32.toNatClampNeg p4) 8) < (σ (19 + Int32.toNatClampNeg p4) 11)) → (((((p3 >>> (p4 &&& 31 : Int32) : Int32) &&& 1) = (0 : Int32)) → (am_Go l D DA b sz d M_Hold_isInWay (23, [some (.ref 2), some (.ref (19 + n1)), some (.int p2), some (.int p3), some (.int (p4 + 1)), none, none, none], [], (am_TT cu L, am_RR cu, σ)) r X')) ∧ (¬ (((p3 >>> (p4 &&& 31 : Int32) : Int32) &&& 1) = (0 : Int32)) → ((((σ (19 + Int32.toNatClampNeg p4) 10) < (σ (19 + Int32.toNatClampNeg p4) 13)) → (am_Go l D DA b sz d M_Hold_isInWay (23, [some (.ref 2), some (.ref (19 + n1)), some (.int p2), some (.int p3), some (.int (p4 + 1)), none, none, none], [], (am_TT cu L, am_RR cu, σ)) r X')) ∧ (¬ ((σ (19 + Int32.toNatClampNeg p4) 10) < (σ (19 + Int32.toNatClampNeg p4) 13)) → (r = some (.int 1) ∧ X' = (am_TT cu L, am_RR cu, σ))))))) ∧ (¬ ((σ (19 + Int32.toNatClampNeg p4) 8) < (σ (19 + Int32.toNatClampNeg p4) 11)) → (r = some (.int 1) ∧ X' = (am_TT cu L, am_RR cu, σ))))))) ∧ (¬ ((σ (19 + n1) 5) ≤ (σ (19 + Int32.toNatClampNeg p4) 5)) → (((((p2 >>> (p4 &&& 31 : Int32) : Int32) &&& 1) = (0 : Int32)) → (((((p3 >>> (p4 &&& 31 : Int32) : Int32) &&& 1) = (0 : Int32)) → (am_Go l D DA b sz d M_Hold_isInWay (23, [some (.ref 2), some (.ref (19 + n1)), some (.int p2), some (.int p3), some (.int (p4 + 1)), none, none, none], [], (am_TT cu L, am_RR cu, σ)) r X')) ∧ (¬ (((p3 >>> (p4 &&& 31 : Int32) : Int32) &&& 1) = (0 : Int32)) → ((((σ (19 + n1) 10) < (σ (19 + Int32.toNatClampNeg p4) 13)) → (am_Go l D DA b sz d M_Hold_isInWay (23, [some (.ref 2), some (.ref (19 + n1)), some (.int p2), some (.int p3), some (.int (p4 + 1)), none, none, none], [], (am_TT cu L, am_RR cu, σ)) r X')) ∧ (¬ ((σ (19 + n1) 10) < (σ (19 + Int32.toNatClampNeg p4) 13)) → (r = some (.int 1) ∧ X' = (am_TT cu L, am_RR cu, σ))))))) ∧ (¬ (((p2 >>> (p4 &&& 31 : Int32) : Int32) &&& 1) = (0 : Int32)) → ((((σ (19 + n1) 8) < (σ (19 + Int32.toNatClampNeg p4) 11)) → (((((p3 >>> (p4 &&& 31 : Int32) : Int32) &&& 1) = (0 : Int32)) → (am_Go l D DA b sz d M_Hold_isInWay (23, [some (.ref 2), some (.ref (19 + n1)), some (.int p2), some (.int p3), some (.int (p4 + 1)), none, none, none], [], (am_TT cu L, am_RR cu, σ)) r X')) ∧ (¬ (((p3 >>> (p4 &&& 31 : Int32) : Int32) &&& 1) = (0 : Int32)) → ((((σ (19 + n1) 10) < (σ (19 + Int32.toNatClampNeg p4) 13)) → (am_Go l D DA b sz d M_Hold_isInWay (23, [some (.ref 2), some (.ref (19 + n1)), some (.int p2), some (.int p3), some (.int (p4 + 1)), none, none, none], [], (am_TT cu L, am_RR cu, σ)) r X')) ∧ (¬ ((σ (19 + n1) 10) < (σ (19 + Int32.toNatClampNeg p4) 13)) → (r = some (.int 1) ∧ X' = (am_TT cu L, am_RR cu, σ))))))) ∧ (¬ ((σ (19 + n1) 8) < (σ (19 + Int32.toNatClampNeg p4) 11)) → (r = some (.int 1) ∧ X' = (am_TT cu L, am_RR cu, σ))))))))))))))))) :
    am_Go l D DA b sz d M_Hold_isInWay (23, [some (.ref 2), some (.ref (19 + n1)), some (.int p2), some (.int p3), some (.int p4), none, none, none], [], (am_TT cu L, am_RR cu, σ)) r X' := by
  refine go_steps q_Hold_isInWay kc_Hold_isInWay 4 rfl ?_
  refine go_if (fun hb => ?_) (fun hb => ?_)
  · have hb : (σ 2 2) ≤ p4 := hb
    replace hv := hv.1 hb
    refine go_steps q_Hold_isInWay kc_Hold_isInWay 1 rfl ?_
    obtain ⟨rfl, rfl⟩ := hv
    exact go_retI q_Hold_isInWay kc_Hold_isInWay rfl rfl rfl
  · have hb : ¬ ((σ 2 2) ≤ p4) := hb
    replace hv := hv.2 hb
    refine go_steps q_Hold_isInWay kc_Hold_isInWay 3 rfl ?_
    obtain ⟨hc1, hv⟩ := hv
    refine go_aaload q_Hold_isInWay kc_Hold_isInWay rfl rfl hc1 (am_rr4 (am_inb hc1)) ?_
    refine go_steps q_Hold_isInWay kc_Hold_isInWay 9 rfl ?_
    refine go_if (fun hb => ?_) (fun hb => ?_)
    · have hb : (((p2 ||| p3) >>> (p4 &&& 31 : Int32) : Int32) &&& 1) = (0 : Int32) := hb
      replace hv := hv.1 hb
      refine go_steps q_Hold_isInWay kc_Hold_isInWay 2 rfl ?_
      refine go_le (L1 := [some (.ref 2), some (.ref (19 + n1)), some (.int p2), some (.int p3), some (.int (p4 + 1)), none, none, none]) (by repeat (first | exact trivial | refine ⟨rfl, ?_⟩)) ?_
      exact hv
    · have hb : ¬ ((((p2 ||| p3) >>> (p4 &&& 31 : Int32) : Int32) &&& 1) = (0 : Int32)) := hb
      replace hv := hv.2 hb
      refine go_steps q_Hold_isInWay kc_Hold_isInWay 1 rfl ?_
      refine go_getI q_Hold_isInWay kc_Hold_isInWay rfl (am_tt_box (am_inb hc1)) rfl ?_
      refine go_steps q_Hold_isInWay kc_Hold_isInWay 1 rfl ?_
      refine go_getI q_Hold_isInWay kc_Hold_isInWay rfl (am_tt_box hn_n1) rfl ?_
      refine go_steps q_Hold_isInWay kc_Hold_isInWay 1 rfl ?_
      refine go_if (fun hb => ?_) (fun hb => ?_)
      · have hb : (σ (19 + Int32.toNatClampNeg p4) 5) = (σ (19 + n1) 5) := hb
        replace hv := hv.1 hb
        refine go_steps q_Hold_isInWay kc_Hold_isInWay 3 rfl ?_
        refine go_le (L1 := [some (.ref 2), some (.ref (19 + n1)), some (.int p2), some (.int p3), some (.int (p4 + 1)), none, none, none]) (by repeat (first | exact trivial | refine ⟨rfl, ?_⟩)) ?_
        exact hv
      · have hb : ¬ ((σ (19 + Int32.toNatClampNeg p4) 5) = (σ (19 + n1) 5)) := hb
        replace hv := hv.2 hb
        refine go_steps q_Hold_isInWay kc_Hold_isInWay 1 rfl ?_
        refine go_getI q_Hold_isInWay kc_Hold_isInWay rfl (am_tt_box (am_inb hc1)) rfl ?_
        refine go_steps q_Hold_isInWay kc_Hold_isInWay 1 rfl ?_
        refine go_getI q_Hold_isInWay kc_Hold_isInWay rfl (am_tt_box hn_n1) rfl ?_
        refine go_steps q_Hold_isInWay kc_Hold_isInWay 1 rfl ?_
        refine go_if (fun hb => ?_) (fun hb => ?_)
        · have hb : (σ (19 + n1) 5) ≤ (σ (19 + Int32.toNatClampNeg p4) 5) := hb
          replace hv := hv.1 hb
          refine go_steps q_Hold_isInWay kc_Hold_isInWay 3 rfl ?_
          refine go_getI q_Hold_isInWay kc_Hold_isInWay rfl (am_tt_box (am_inb hc1)) rfl ?_
          refine go_steps q_Hold_isInWay kc_Hold_isInWay 1 rfl ?_
          refine go_getI q_Hold_isInWay kc_Hold_isInWay rfl (am_tt_box hn_n1) rfl ?_
          refine go_steps q_Hold_isInWay kc_Hold_isInWay 1 rfl ?_
          refine go_if (fun hb => ?_) (fun hb => ?_)
          · have hb : (σ (19 + n1) 5) ≤ (σ (19 + Int32.toNatClampNeg p4) 5) := hb
            replace hv := hv.1 hb
            refine go_steps q_Hold_isInWay kc_Hold_isInWay 8 rfl ?_
            refine go_if (fun hb => ?_) (fun hb => ?_)
            · have hb : ((p2 >>> (p4 &&& 31 : Int32) : Int32) &&& 1) = (0 : Int32) := hb
              replace hv := hv.1 hb
              refine go_steps q_Hold_isInWay kc_Hold_isInWay 6 rfl ?_
              refine go_if (fun hb => ?_) (fun hb => ?_)
              · have hb : ((p3 >>> (p4 &&& 31 : Int32) : Int32) &&& 1) = (0 : Int32) := hb
                replace hv := hv.1 hb
                refine go_steps q_Hold_isInWay kc_Hold_isInWay 2 rfl ?_
                refine go_le (L1 := [some (.ref 2), some (.ref (19 + n1)), some (.int p2), some (.int p3), some (.int (p4 + 1)), none, none, none]) (by repeat (first | exact trivial | refine ⟨rfl, ?_⟩)) ?_
                exact hv
              · have hb : ¬ (((p3 >>> (p4 &&& 31 : Int32) : Int32) &&& 1) = (0 : Int32)) := hb
                replace hv := hv.2 hb
                refine go_steps q_Hold_isInWay kc_Hold_isInWay 1 rfl ?_
                refine go_getI q_Hold_isInWay kc_Hold_isInWay rfl (am_tt_box (am_inb hc1)) rfl ?_
                refine go_steps q_Hold_isInWay kc_Hold_isInWay 1 rfl ?_
                refine go_getI q_Hold_isInWay kc_Hold_isInWay rfl (am_tt_box hn_n1) rfl ?_
                refine go_steps q_Hold_isInWay kc_Hold_isInWay 1 rfl ?_
                refine go_if (fun hb => ?_) (fun hb => ?_)
                · have hb : (σ (19 + Int32.toNatClampNeg p4) 10) < (σ (19 + n1) 13) := hb
                  replace hv := hv.1 hb
                  refine go_steps q_Hold_isInWay kc_Hold_isInWay 2 rfl ?_
                  refine go_le (L1 := [some (.ref 2), some (.ref (19 + n1)), some (.int p2), some (.int p3), some (.int (p4 + 1)), none, none, none]) (by repeat (first | exact trivial | refine ⟨rfl, ?_⟩)) ?_
                  exact hv
                · have hb : ¬ ((σ (19 + Int32.toNatClampNeg p4) 10) < (σ (19 + n1) 13)) := hb
                  replace hv := hv.2 hb
                  refine go_steps q_Hold_isInWay kc_Hold_isInWay 1 rfl ?_
                  obtain ⟨rfl, rfl⟩ := hv
                  exact go_retI q_Hold_isInWay kc_Hold_isInWay rfl rfl rfl
            · have hb : ¬ (((p2 >>> (p4 &&& 31 : Int32) : Int32) &&& 1) = (0 : Int32)) := hb
              replace hv := hv.2 hb
              refine go_steps q_Hold_isInWay kc_Hold_isInWay 1 rfl ?_
              refine go_getI q_Hold_isInWay kc_Hold_isInWay rfl (am_tt_box (am_inb hc1)) rfl ?_
              refine go_steps q_Hold_isInWay kc_Hold_isInWay 1 rfl ?_
              refine go_getI q_Hold_isInWay kc_Hold_isInWay rfl (am_tt_box hn_n1) rfl ?_
              refine go_steps q_Hold_isInWay kc_Hold_isInWay 1 rfl ?_
              refine go_if (fun hb => ?_) (fun hb => ?_)
              · have hb : (σ (19 + Int32.toNatClampNeg p4) 8) < (σ (19 + n1) 11) := hb
                replace hv := hv.1 hb
                refine go_steps q_Hold_isInWay kc_Hold_isInWay 6 rfl ?_
                refine go_if (fun hb => ?_) (fun hb => ?_)
                · have hb : ((p3 >>> (p4 &&& 31 : Int32) : Int32) &&& 1) = (0 : Int32) := hb
                  replace hv := hv.1 hb
                  refine go_steps q_Hold_isInWay kc_Hold_isInWay 2 rfl ?_
                  refine go_le (L1 := [some (.ref 2), some (.ref (19 + n1)), some (.int p2), some (.int p3), some (.int (p4 + 1)), none, none, none]) (by repeat (first | exact trivial | refine ⟨rfl, ?_⟩)) ?_
                  exact hv
                · have hb : ¬ (((p3 >>> (p4 &&& 31 : Int32) : Int32) &&& 1) = (0 : Int32)) := hb
                  replace hv := hv.2 hb
                  refine go_steps q_Hold_isInWay kc_Hold_isInWay 1 rfl ?_
                  refine go_getI q_Hold_isInWay kc_Hold_isInWay rfl (am_tt_box (am_inb hc1)) rfl ?_
                  refine go_steps q_Hold_isInWay kc_Hold_isInWay 1 rfl ?_
                  refine go_getI q_Hold_isInWay kc_Hold_isInWay rfl (am_tt_box hn_n1) rfl ?_
                  refine go_steps q_Hold_isInWay kc_Hold_isInWay 1 rfl ?_
                  refine go_if (fun hb => ?_) (fun hb => ?_)
                  · have hb : (σ (19 + Int32.toNatClampNeg p4) 10) < (σ (19 + n1) 13) := hb
                    replace hv := hv.1 hb
                    refine go_steps q_Hold_isInWay kc_Hold_isInWay 2 rfl ?_
                    refine go_le (L1 := [some (.ref 2), some (.ref (19 + n1)), some (.int p2), some (.int p3), some (.int (p4 + 1)), none, none, none]) (by repeat (first | exact trivial | refine ⟨rfl, ?_⟩)) ?_
                    exact hv
                  · have hb : ¬ ((σ (19 + Int32.toNatClampNeg p4) 10) < (σ (19 + n1) 13)) := hb
                    replace hv := hv.2 hb
                    refine go_steps q_Hold_isInWay kc_Hold_isInWay 1 rfl ?_
                    obtain ⟨rfl, rfl⟩ := hv
                    exact go_retI q_Hold_isInWay kc_Hold_isInWay rfl rfl rfl
              · have hb : ¬ ((σ (19 + Int32.toNatClampNeg p4) 8) < (σ (19 + n1) 11)) := hb
                replace hv := hv.2 hb
                refine go_steps q_Hold_isInWay kc_Hold_isInWay 1 rfl ?_
                obtain ⟨rfl, rfl⟩ := hv
                exact go_retI q_Hold_isInWay kc_Hold_isInWay rfl rfl rfl
          · have hb : ¬ ((σ (19 + n1) 5) ≤ (σ (19 + Int32.toNatClampNeg p4) 5)) := hb
            replace hv := hv.2 hb
            refine go_steps q_Hold_isInWay kc_Hold_isInWay 9 rfl ?_
            refine go_if (fun hb => ?_) (fun hb => ?_)
            · have hb : ((p2 >>> (p4 &&& 31 : Int32) : Int32) &&& 1) = (0 : Int32) := hb
              replace hv := hv.1 hb
              refine go_steps q_Hold_isInWay kc_Hold_isInWay 6 rfl ?_
              refine go_if (fun hb => ?_) (fun hb => ?_)
              · have hb : ((p3 >>> (p4 &&& 31 : Int32) : Int32) &&& 1) = (0 : Int32) := hb
                replace hv := hv.1 hb
                refine go_steps q_Hold_isInWay kc_Hold_isInWay 2 rfl ?_
                refine go_le (L1 := [some (.ref 2), some (.ref (19 + n1)), some (.int p2), some (.int p3), some (.int (p4 + 1)), none, none, none]) (by repeat (first | exact trivial | refine ⟨rfl, ?_⟩)) ?_
                exact hv
              · have hb : ¬ (((p3 >>> (p4 &&& 31 : Int32) : Int32) &&& 1) = (0 : Int32)) := hb
                replace hv := hv.2 hb
                refine go_steps q_Hold_isInWay kc_Hold_isInWay 1 rfl ?_
                refine go_getI q_Hold_isInWay kc_Hold_isInWay rfl (am_tt_box hn_n1) rfl ?_
                refine go_steps q_Hold_isInWay kc_Hold_isInWay 1 rfl ?_
                refine go_getI q_Hold_isInWay kc_Hold_isInWay rfl (am_tt_box hn_n1) rfl ?_
                refine go_steps q_Hold_isInWay kc_Hold_isInWay 1 rfl ?_
                refine go_if (fun hb => ?_) (fun hb => ?_)
                · have hb : (σ (19 + n1) 10) < (σ (19 + n1) 13) := hb
                  replace hv := hv.1 hb
                  refine go_steps q_Hold_isInWay kc_Hold_isInWay 2 rfl ?_
                  refine go_le (L1 := [some (.ref 2), some (.ref (19 + n1)), some (.int p2), some (.int p3), some (.int (p4 + 1)), none, none, none]) (by repeat (first | exact trivial | refine ⟨rfl, ?_⟩)) ?_
                  exact hv
                · have hb : ¬ ((σ (19 + n1) 10) < (σ (19 + n1) 13)) := hb
                  replace hv := hv.2 hb
                  refine go_steps q_Hold_isInWay kc_Hold_isInWay 1 rfl ?_
                  obtain ⟨rfl, rfl⟩ := hv
                  exact go_retI q_Hold_isInWay kc_Hold_isInWay rfl rfl rfl
            · have hb : ¬ (((p2 >>> (p4 &&& 31 : Int32) : Int32) &&& 1) = (0 : Int32)) := hb
              replace hv := hv.2 hb
              refine go_steps q_Hold_isInWay kc_Hold_isInWay 1 rfl ?_
              refine go_getI q_Hold_isInWay kc_Hold_isInWay rfl (am_tt_box hn_n1) rfl ?_
              refine go_steps q_Hold_isInWay kc_Hold_isInWay 1 rfl ?_
              refine go_getI q_Hold_isInWay kc_Hold_isInWay rfl (am_tt_box hn_n1) rfl ?_
              refine go_steps q_Hold_isInWay kc_Hold_isInWay 1 rfl ?_
              refine go_if (fun hb => ?_) (fun hb => ?_)
              · have hb : (σ (19 + n1) 8) < (σ (19 + n1) 11) := hb
                replace hv := hv.1 hb
                refine go_steps q_Hold_isInWay kc_Hold_isInWay 6 rfl ?_
                refine go_if (fun hb => ?_) (fun hb => ?_)
                · have hb : ((p3 >>> (p4 &&& 31 : Int32) : Int32) &&& 1) = (0 : Int32) := hb
                  replace hv := hv.1 hb
                  refine go_steps q_Hold_isInWay kc_Hold_isInWay 2 rfl ?_
                  refine go_le (L1 := [some (.ref 2), some (.ref (19 + n1)), some (.int p2), some (.int p3), some (.int (p4 + 1)), none, none, none]) (by repeat (first | exact trivial | refine ⟨rfl, ?_⟩)) ?_
                  exact hv
                · have hb : ¬ (((p3 >>> (p4 &&& 31 : Int32) : Int32) &&& 1) = (0 : Int32)) := hb
                  replace hv := hv.2 hb
                  refine go_steps q_Hold_isInWay kc_Hold_isInWay 1 rfl ?_
                  refine go_getI q_Hold_isInWay kc_Hold_isInWay rfl (am_tt_box hn_n1) rfl ?_
                  refine go_steps q_Hold_isInWay kc_Hold_isInWay 1 rfl ?_
                  refine go_getI q_Hold_isInWay kc_Hold_isInWay rfl (am_tt_box hn_n1) rfl ?_
                  refine go_steps q_Hold_isInWay kc_Hold_isInWay 1 rfl ?_
                  refine go_if (fun hb => ?_) (fun hb => ?_)
                  · have hb : (σ (19 + n1) 10) < (σ (19 + n1) 13) := hb
                    replace hv := hv.1 hb
                    refine go_steps q_Hold_isInWay kc_Hold_isInWay 2 rfl ?_
                    refine go_le (L1 := [some (.ref 2), some (.ref (19 + n1)), some (.int p2), some (.int p3), some (.int (p4 + 1)), none, none, none]) (by repeat (first | exact trivial | refine ⟨rfl, ?_⟩)) ?_
                    exact hv
                  · have hb : ¬ ((σ (19 + n1) 10) < (σ (19 + n1) 13)) := hb
                    replace hv := hv.2 hb
                    refine go_steps q_Hold_isInWay kc_Hold_isInWay 1 rfl ?_
                    obtain ⟨rfl, rfl⟩ := hv
                    exact go_retI q_Hold_isInWay kc_Hold_isInWay rfl rfl rfl
              · have hb : ¬ ((σ (19 + n1) 8) < (σ (19 + n1) 11)) := hb
                replace hv := hv.2 hb
                refine go_steps q_Hold_isInWay kc_Hold_isInWay 1 rfl ?_
                obtain ⟨rfl, rfl⟩ := hv
                exact go_retI q_Hold_isInWay kc_Hold_isInWay rfl rfl rfl
        · have hb : ¬ ((σ (19 + n1) 5) ≤ (σ (19 + Int32.toNatClampNeg p4) 5)) := hb
          replace hv := hv.2 hb
          refine go_steps q_Hold_isInWay kc_Hold_isInWay 4 rfl ?_
          refine go_getI q_Hold_isInWay kc_Hold_isInWay rfl (am_tt_box (am_inb hc1)) rfl ?_
          refine go_steps q_Hold_isInWay kc_Hold_isInWay 1 rfl ?_
          refine go_getI q_Hold_isInWay kc_Hold_isInWay rfl (am_tt_box hn_n1) rfl ?_
          refine go_steps q_Hold_isInWay kc_Hold_isInWay 1 rfl ?_
          refine go_if (fun hb => ?_) (fun hb => ?_)
          · have hb : (σ (19 + n1) 5) ≤ (σ (19 + Int32.toNatClampNeg p4) 5) := hb
            replace hv := hv.1 hb
            refine go_steps q_Hold_isInWay kc_Hold_isInWay 8 rfl ?_
            refine go_if (fun hb => ?_) (fun hb => ?_)
            · have hb : ((p2 >>> (p4 &&& 31 : Int32) : Int32) &&& 1) = (0 : Int32) := hb
              replace hv := hv.1 hb
              refine go_steps q_Hold_isInWay kc_Hold_isInWay 6 rfl ?_
              refine go_if (fun hb => ?_) (fun hb => ?_)
              · have hb : ((p3 >>> (p4 &&& 31 : Int32) : Int32) &&& 1) = (0 : Int32) := hb
                replace hv := hv.1 hb
                refine go_steps q_Hold_isInWay kc_Hold_isInWay 2 rfl ?_
                refine go_le (L1 := [some (.ref 2), some (.ref (19 + n1)), some (.int p2), some (.int p3), some (.int (p4 + 1)), none, none, none]) (by repeat (first | exact trivial | refine ⟨rfl, ?_⟩)) ?_
                exact hv
              · have hb : ¬ (((p3 >>> (p4 &&& 31 : Int32) : Int32) &&& 1) = (0 : Int32)) := hb
                replace hv := hv.2 hb
                refine go_steps q_Hold_isInWay kc_Hold_isInWay 1 rfl ?_
                refine go_getI q_Hold_isInWay kc_Hold_isInWay rfl (am_tt_box (am_inb hc1)) rfl ?_
                refine go_steps q_Hold_isInWay kc_Hold_isInWay 1 rfl ?_
                refine go_getI q_Hold_isInWay kc_Hold_isInWay rfl (am_tt_box (am_inb hc1)) rfl ?_
                refine go_steps q_Hold_isInWay kc_Hold_isInWay 1 rfl ?_
                refine go_if (fun hb => ?_) (fun hb => ?_)
                · have hb : (σ (19 + Int32.toNatClampNeg p4) 10) < (σ (19 + Int32.toNatClampNeg p4) 13) := hb
                  replace hv := hv.1 hb
                  refine go_steps q_Hold_isInWay kc_Hold_isInWay 2 rfl ?_
                  refine go_le (L1 := [some (.ref 2), some (.ref (19 + n1)), some (.int p2), some (.int p3), some (.int (p4 + 1)), none, none, none]) (by repeat (first | exact trivial | refine ⟨rfl, ?_⟩)) ?_
                  exact hv
                · have hb : ¬ ((σ (19 + Int32.toNatClampNeg p4) 10) < (σ (19 + Int32.toNatClampNeg p4) 13)) := hb
                  replace hv := hv.2 hb
                  refine go_steps q_Hold_isInWay kc_Hold_isInWay 1 rfl ?_
                  obtain ⟨rfl, rfl⟩ := hv
                  exact go_retI q_Hold_isInWay kc_Hold_isInWay rfl rfl rfl
            · have hb : ¬ (((p2 >>> (p4 &&& 31 : Int32) : Int32) &&& 1) = (0 : Int32)) := hb
              replace hv := hv.2 hb
              refine go_steps q_Hold_isInWay kc_Hold_isInWay 1 rfl ?_
              refine go_getI q_Hold_isInWay kc_Hold_isInWay rfl (am_tt_box (am_inb hc1)) rfl ?_
              refine go_steps q_Hold_isInWay kc_Hold_isInWay 1 rfl ?_
              refine go_getI q_Hold_isInWay kc_Hold_isInWay rfl (am_tt_box (am_inb hc1)) rfl ?_
              refine go_steps q_Hold_isInWay kc_Hold_isInWay 1 rfl ?_
              refine go_if (fun hb => ?_) (fun hb => ?_)
              · have hb : (σ (19 + Int32.toNatClampNeg p4) 8) < (σ (19 + Int32.toNatClampNeg p4) 11) := hb
                replace hv := hv.1 hb
                refine go_steps q_Hold_isInWay kc_Hold_isInWay 6 rfl ?_
                refine go_if (fun hb => ?_) (fun hb => ?_)
                · have hb : ((p3 >>> (p4 &&& 31 : Int32) : Int32) &&& 1) = (0 : Int32) := hb
                  replace hv := hv.1 hb
                  refine go_steps q_Hold_isInWay kc_Hold_isInWay 2 rfl ?_
                  refine go_le (L1 := [some (.ref 2), some (.ref (19 + n1)), some (.int p2), some (.int p3), some (.int (p4 + 1)), none, none, none]) (by repeat (first | exact trivial | refine ⟨rfl, ?_⟩)) ?_
                  exact hv
                · have hb : ¬ (((p3 >>> (p4 &&& 31 : Int32) : Int32) &&& 1) = (0 : Int32)) := hb
                  replace hv := hv.2 hb
                  refine go_steps q_Hold_isInWay kc_Hold_isInWay 1 rfl ?_
                  refine go_getI q_Hold_isInWay kc_Hold_isInWay rfl (am_tt_box (am_inb hc1)) rfl ?_
                  refine go_steps q_Hold_isInWay kc_Hold_isInWay 1 rfl ?_
                  refine go_getI q_Hold_isInWay kc_Hold_isInWay rfl (am_tt_box (am_inb hc1)) rfl ?_
                  refine go_steps q_Hold_isInWay kc_Hold_isInWay 1 rfl ?_
                  refine go_if (fun hb => ?_) (fun hb => ?_)
                  · have hb : (σ (19 + Int32.toNatClampNeg p4) 10) < (σ (19 + Int32.toNatClampNeg p4) 13) := hb
                    replace hv := hv.1 hb
                    refine go_steps q_Hold_isInWay kc_Hold_isInWay 2 rfl ?_
                    refine go_le (L1 := [some (.ref 2), some (.ref (19 + n1)), some (.int p2), some (.int p3), some (.int (p4 + 1)), none, none, none]) (by repeat (first | exact trivial | refine ⟨rfl, ?_⟩)) ?_
                    exact hv
                  · have hb : ¬ ((σ (19 + Int32.toNatClampNeg p4) 10) < (σ (19 + Int32.toNatClampNeg p4) 13)) := hb
                    replace hv := hv.2 hb
                    refine go_steps q_Hold_isInWay kc_Hold_isInWay 1 rfl ?_
                    obtain ⟨rfl, rfl⟩ := hv
                    exact go_retI q_Hold_isInWay kc_Hold_isInWay rfl rfl rfl
              · have hb : ¬ ((σ (19 + Int32.toNatClampNeg p4) 8) < (σ (19 + Int32.toNatClampNeg p4) 11)) := hb
                replace hv := hv.2 hb
                refine go_steps q_Hold_isInWay kc_Hold_isInWay 1 rfl ?_
                obtain ⟨rfl, rfl⟩ := hv
                exact go_retI q_Hold_isInWay kc_Hold_isInWay rfl rfl rfl
          · have hb : ¬ ((σ (19 + n1) 5) ≤ (σ (19 + Int32.toNatClampNeg p4) 5)) := hb
            replace hv := hv.2 hb
            refine go_steps q_Hold_isInWay kc_Hold_isInWay 9 rfl ?_
            refine go_if (fun hb => ?_) (fun hb => ?_)
            · have hb : ((p2 >>> (p4 &&& 31 : Int32) : Int32) &&& 1) = (0 : Int32) := hb
              replace hv := hv.1 hb
              refine go_steps q_Hold_isInWay kc_Hold_isInWay 6 rfl ?_
              refine go_if (fun hb => ?_) (fun hb => ?_)
              · have hb : ((p3 >>> (p4 &&& 31 : Int32) : Int32) &&& 1) = (0 : Int32) := hb
                replace hv := hv.1 hb
                refine go_steps q_Hold_isInWay kc_Hold_isInWay 2 rfl ?_
                refine go_le (L1 := [some (.ref 2), some (.ref (19 + n1)), some (.int p2), some (.int p3), some (.int (p4 + 1)), none, none, none]) (by repeat (first | exact trivial | refine ⟨rfl, ?_⟩)) ?_
                exact hv
              · have hb : ¬ (((p3 >>> (p4 &&& 31 : Int32) : Int32) &&& 1) = (0 : Int32)) := hb
                replace hv := hv.2 hb
                refine go_steps q_Hold_isInWay kc_Hold_isInWay 1 rfl ?_
                refine go_getI q_Hold_isInWay kc_Hold_isInWay rfl (am_tt_box hn_n1) rfl ?_
                refine go_steps q_Hold_isInWay kc_Hold_isInWay 1 rfl ?_
                refine go_getI q_Hold_isInWay kc_Hold_isInWay rfl (am_tt_box (am_inb hc1)) rfl ?_
                refine go_steps q_Hold_isInWay kc_Hold_isInWay 1 rfl ?_
                refine go_if (fun hb => ?_) (fun hb => ?_)
                · have hb : (σ (19 + n1) 10) < (σ (19 + Int32.toNatClampNeg p4) 13) := hb
                  replace hv := hv.1 hb
                  refine go_steps q_Hold_isInWay kc_Hold_isInWay 2 rfl ?_
                  refine go_le (L1 := [some (.ref 2), some (.ref (19 + n1)), some (.int p2), some (.int p3), some (.int (p4 + 1)), none, none, none]) (by repeat (first | exact trivial | refine ⟨rfl, ?_⟩)) ?_
                  exact hv
                · have hb : ¬ ((σ (19 + n1) 10) < (σ (19 + Int32.toNatClampNeg p4) 13)) := hb
                  replace hv := hv.2 hb
                  refine go_steps q_Hold_isInWay kc_Hold_isInWay 1 rfl ?_
                  obtain ⟨rfl, rfl⟩ := hv
                  exact go_retI q_Hold_isInWay kc_Hold_isInWay rfl rfl rfl
            · have hb : ¬ (((p2 >>> (p4 &&& 31 : Int32) : Int32) &&& 1) = (0 : Int32)) := hb
              replace hv := hv.2 hb
              refine go_steps q_Hold_isInWay kc_Hold_isInWay 1 rfl ?_
              refine go_getI q_Hold_isInWay kc_Hold_isInWay rfl (am_tt_box hn_n1) rfl ?_
              refine go_steps q_Hold_isInWay kc_Hold_isInWay 1 rfl ?_
              refine go_getI q_Hold_isInWay kc_Hold_isInWay rfl (am_tt_box (am_inb hc1)) rfl ?_
              refine go_steps q_Hold_isInWay kc_Hold_isInWay 1 rfl ?_
              refine go_if (fun hb => ?_) (fun hb => ?_)
              · have hb : (σ (19 + n1) 8) < (σ (19 + Int32.toNatClampNeg p4) 11) := hb
                replace hv := hv.1 hb
                refine go_steps q_Hold_isInWay kc_Hold_isInWay 6 rfl ?_
                refine go_if (fun hb => ?_) (fun hb => ?_)
                · have hb : ((p3 >>> (p4 &&& 31 : Int32) : Int32) &&& 1) = (0 : Int32) := hb
                  replace hv := hv.1 hb
                  refine go_steps q_Hold_isInWay kc_Hold_isInWay 2 rfl ?_
                  refine go_le (L1 := [some (.ref 2), some (.ref (19 + n1)), some (.int p2), some (.int p3), some (.int (p4 + 1)), none, none, none]) (by repeat (first | exact trivial | refine ⟨rfl, ?_⟩)) ?_
                  exact hv
                · have hb : ¬ (((p3 >>> (p4 &&& 31 : Int32) : Int32) &&& 1) = (0 : Int32)) := hb
                  replace hv := hv.2 hb
                  refine go_steps q_Hold_isInWay kc_Hold_isInWay 1 rfl ?_
                  refine go_getI q_Hold_isInWay kc_Hold_isInWay rfl (am_tt_box hn_n1) rfl ?_
                  refine go_steps q_Hold_isInWay kc_Hold_isInWay 1 rfl ?_
                  refine go_getI q_Hold_isInWay kc_Hold_isInWay rfl (am_tt_box (am_inb hc1)) rfl ?_
                  refine go_steps q_Hold_isInWay kc_Hold_isInWay 1 rfl ?_
                  refine go_if (fun hb => ?_) (fun hb => ?_)
                  · have hb : (σ (19 + n1) 10) < (σ (19 + Int32.toNatClampNeg p4) 13) := hb
                    replace hv := hv.1 hb
                    refine go_steps q_Hold_isInWay kc_Hold_isInWay 2 rfl ?_
                    refine go_le (L1 := [some (.ref 2), some (.ref (19 + n1)), some (.int p2), some (.int p3), some (.int (p4 + 1)), none, none, none]) (by repeat (first | exact trivial | refine ⟨rfl, ?_⟩)) ?_
                    exact hv
                  · have hb : ¬ ((σ (19 + n1) 10) < (σ (19 + Int32.toNatClampNeg p4) 13)) := hb
                    replace hv := hv.2 hb
                    refine go_steps q_Hold_isInWay kc_Hold_isInWay 1 rfl ?_
                    obtain ⟨rfl, rfl⟩ := hv
                    exact go_retI q_Hold_isInWay kc_Hold_isInWay rfl rfl rfl
              · have hb : ¬ ((σ (19 + n1) 8) < (σ (19 + Int32.toNatClampNeg p4) 11)) := hb
                replace hv := hv.2 hb
                refine go_steps q_Hold_isInWay kc_Hold_isInWay 1 rfl ?_
                obtain ⟨rfl, rfl⟩ := hv
                exact go_retI q_Hold_isInWay kc_Hold_isInWay rfl rfl rfl
set_option maxHeartbeats 4000000 in
set_option maxRecDepth 100000 in
theorem v_Hold_putIn_0 {l : Launch} {D : va_G} {DA : Nat → ClassId} {b sz d L : Nat} {cu : Bool} {σ : Nat → Nat → Int32} {r : Option Value} {X' : am_X} (p1 : Int32)
    (hv : r = none ∧ X' = (am_TT cu L, am_RR cu, am_us σ 2 3 ((σ 2 3) ||| (1 <<< (p1 &&& 31 : Int32) : Int32)))) :
    am_Go l D DA b sz d M_Hold_putIn (0, [some (.ref 2), some (.int p1)], [], (am_TT cu L, am_RR cu, σ)) r X' := by
  refine go_steps q_Hold_putIn kc_Hold_putIn 8 rfl ?_
  obtain ⟨rfl, rfl⟩ := hv
  exact go_retV q_Hold_putIn kc_Hold_putIn rfl rfl
set_option maxHeartbeats 4000000 in
set_option maxRecDepth 100000 in
theorem v_Hold_setAtCorner_0 {l : Launch} {D : va_G} {DA : Nat → ClassId} {b sz d L : Nat} {cu : Bool} {σ : Nat → Nat → Int32} {r : Option Value} {X' : am_X} (p1 : Int32)
    (hv : (¬ (p1 < 0 ∨ 20 ≤ Int32.toNatClampNeg p1)) ∧ (∃ (r1 : Int32) (σ1 : Nat → Nat → Int32), am_Go l D DA b sz d M_Hold_bearAll (0, [some (.ref 2), some (.int (σ 2 3)), none, none, none], [], (am_TT cu L, am_RR cu, σ)) (some (.int r1)) (am_TT cu L, am_RR cu, σ1) ∧ ((r1 = 0 ∨ r1 = 1) ∧ (∃ (σ2 : Nat → Nat → Int32), am_Go l D DA b sz d M_Hold_listCorners (0, [some (.ref 2), some (.ref (19 + Int32.toNatClampNeg p1)), none, none, none, none, none, none, none], [], (am_TT cu L, am_RR cu, am_us σ1 2 12 r1)) none (am_TT cu L, am_RR cu, σ2) ∧ (am_Go l D DA b sz (d + 1) M_Hold_setAtCorner (51, [some (.ref 2), some (.int p1), some (.ref (19 + Int32.toNatClampNeg p1)), some (.int (if (σ (19 + Int32.toNatClampNeg p1) 6) = 0 then 0 else (if (σ (19 + Int32.toNatClampNeg p1) 0) = (σ (19 + Int32.toNatClampNeg p1) 1) then 0 else 1 : Int32) : Int32)), some (.int 0), none, none, none], [], (am_TT cu L, am_RR cu, σ2)) r X'))))) :
    am_Go l D DA b sz (d + 1) M_Hold_setAtCorner (0, [some (.ref 2), some (.int p1), none, none, none, none, none, none], [], (am_TT cu L, am_RR cu, σ)) r X' := by
  refine go_steps q_Hold_setAtCorner kc_Hold_setAtCorner 3 rfl ?_
  obtain ⟨hc1, hv⟩ := hv
  refine go_aaload q_Hold_setAtCorner kc_Hold_setAtCorner rfl rfl hc1 (am_rr4 (am_inb hc1)) ?_
  refine go_steps q_Hold_setAtCorner kc_Hold_setAtCorner 2 rfl ?_
  refine go_getI q_Hold_setAtCorner kc_Hold_setAtCorner rfl (am_tt_box (am_inb hc1)) rfl ?_
  refine go_steps q_Hold_setAtCorner kc_Hold_setAtCorner 1 rfl ?_
  have key : am_Go l D DA b sz (d + 1) M_Hold_setAtCorner (30, [some (.ref 2), some (.int p1), some (.ref (19 + Int32.toNatClampNeg p1)), none, none, none, none, none], [.int (if (σ (19 + Int32.toNatClampNeg p1) 6) = 0 then 0 else (if (σ (19 + Int32.toNatClampNeg p1) 0) = (σ (19 + Int32.toNatClampNeg p1) 1) then 0 else 1 : Int32) : Int32)], (am_TT cu L, am_RR cu, σ)) r X' := by
    refine go_steps q_Hold_setAtCorner kc_Hold_setAtCorner 5 rfl ?_
    obtain ⟨r1, σ1, hg, hv⟩ := hv
    refine go_callV q_Hold_setAtCorner kc_Hold_setAtCorner rfl q_Hold_bearAll am_k28 ⟨rfl, rfl, by decide⟩ rfl rfl (Nat.le_of_ble_eq_true rfl) (Nat.le_of_ble_eq_true rfl) rfl rfl hg ?_
    obtain ⟨hc, hv⟩ := hv
    refine go_putZ q_Hold_setAtCorner kc_Hold_setAtCorner rfl rfl rfl hc ?_
    refine go_steps q_Hold_setAtCorner kc_Hold_setAtCorner 2 rfl ?_
    obtain ⟨σ2, hg, hv⟩ := hv
    refine go_callV q_Hold_setAtCorner kc_Hold_setAtCorner rfl q_Hold_listCorners am_k36 ⟨rfl, rfl, by decide⟩ rfl rfl (Nat.le_of_ble_eq_true rfl) (Nat.le_of_ble_eq_true rfl) rfl rfl hg ?_
    refine go_steps q_Hold_setAtCorner kc_Hold_setAtCorner 2 rfl ?_
    refine go_le (L1 := [some (.ref 2), some (.int p1), some (.ref (19 + Int32.toNatClampNeg p1)), some (.int (if (σ (19 + Int32.toNatClampNeg p1) 6) = 0 then 0 else (if (σ (19 + Int32.toNatClampNeg p1) 0) = (σ (19 + Int32.toNatClampNeg p1) 1) then 0 else 1 : Int32) : Int32)), some (.int 0), none, none, none]) (by repeat (first | exact trivial | refine ⟨rfl, ?_⟩)) ?_
    exact hv
  refine go_if (fun hb => ?_) (fun hb => ?_)
  · have hb : (σ (19 + Int32.toNatClampNeg p1) 6) = 0 := hb
    rw [show (if (σ (19 + Int32.toNatClampNeg p1) 6) = 0 then 0 else (if (σ (19 + Int32.toNatClampNeg p1) 0) = (σ (19 + Int32.toNatClampNeg p1) 1) then 0 else 1 : Int32) : Int32) = 0 from if_pos hb] at key
    refine go_steps q_Hold_setAtCorner kc_Hold_setAtCorner 1 rfl ?_
    exact key
  · have hb : ¬ ((σ (19 + Int32.toNatClampNeg p1) 6) = 0) := hb
    rw [show (if (σ (19 + Int32.toNatClampNeg p1) 6) = 0 then 0 else (if (σ (19 + Int32.toNatClampNeg p1) 0) = (σ (19 + Int32.toNatClampNeg p1) 1) then 0 else 1 : Int32) : Int32) = (if (σ (19 + Int32.toNatClampNeg p1) 0) = (σ (19 + Int32.toNatClampNeg p1) 1) then 0 else 1 : Int32) from if_neg hb] at key
    refine go_steps q_Hold_setAtCorner kc_Hold_setAtCorner 1 rfl ?_
    refine go_getI q_Hold_setAtCorner kc_Hold_setAtCorner rfl (am_tt_box (am_inb hc1)) rfl ?_
    refine go_steps q_Hold_setAtCorner kc_Hold_setAtCorner 1 rfl ?_
    refine go_getI q_Hold_setAtCorner kc_Hold_setAtCorner rfl (am_tt_box (am_inb hc1)) rfl ?_
    refine go_steps q_Hold_setAtCorner kc_Hold_setAtCorner 1 rfl ?_
    refine go_if (fun hb => ?_) (fun hb => ?_)
    · have hb : (σ (19 + Int32.toNatClampNeg p1) 0) = (σ (19 + Int32.toNatClampNeg p1) 1) := hb
      rw [show (if (σ (19 + Int32.toNatClampNeg p1) 0) = (σ (19 + Int32.toNatClampNeg p1) 1) then 0 else 1 : Int32) = 0 from if_pos hb] at key
      refine go_steps q_Hold_setAtCorner kc_Hold_setAtCorner 1 rfl ?_
      exact key
    · have hb : ¬ ((σ (19 + Int32.toNatClampNeg p1) 0) = (σ (19 + Int32.toNatClampNeg p1) 1)) := hb
      rw [show (if (σ (19 + Int32.toNatClampNeg p1) 0) = (σ (19 + Int32.toNatClampNeg p1) 1) then 0 else 1 : Int32) = 1 from if_neg hb] at key
      refine go_steps q_Hold_setAtCorner kc_Hold_setAtCorner 2 rfl ?_
      exact key
set_option maxHeartbeats 4000000 in
set_option maxRecDepth 100000 in
theorem v_Hold_setAtCorner_51 {l : Launch} {D : va_G} {DA : Nat → ClassId} {b sz d L : Nat} {cu : Bool} {σ : Nat → Nat → Int32} {r : Option Value} {X' : am_X} (p1 : Int32) (p3 : Int32) (p4 : Int32) (n2 : Nat) (hn_n2 : n2 < 20)
    (hv : (((σ 15 3) ≤ p4) → (r = some (.int 0) ∧ X' = (am_TT cu L, am_RR cu, σ))) ∧ (¬ ((σ 15 3) ≤ p4) → ((¬ (p4 < 0 ∨ 21 ≤ Int32.toNatClampNeg p4)) ∧ (((((σ 16 (Int32.toNatClampNeg p4)) + (σ (19 + n2) 2)) ≤ (σ 3 2)) → ((¬ (p4 < 0 ∨ 21 ≤ Int32.toNatClampNeg p4)) ∧ (am_Go l D DA b sz (d + 1) M_Hold_setAtCorner (111, [some (.ref 2), some (.int p1), some (.ref (19 + n2)), some (.int p3), some (.int p4), some (.int (σ 16 (Int32.toNatClampNeg p4))), some (.int 0), none], [], (am_TT cu L, am_RR cu, am_us σ 2 11 (σ 17 (Int32.toNatClampNeg p4)))) r X'))) ∧ (¬ (((σ 16 (Int32.toNatClampNeg p4)) + (σ (19 + n2) 2)) ≤ (σ 3 2)) → (r = some (.int 0) ∧ X' = (am_TT cu L, am_RR cu, σ))))))) :
    am_Go l D DA b sz (d + 1) M_Hold_setAtCorner (51, [some (.ref 2), some (.int p1), some (.ref (19 + n2)), some (.int p3), some (.int p4), none, none, none], [], (am_TT cu L, am_RR cu, σ)) r X' := by
  refine go_steps q_Hold_setAtCorner kc_Hold_setAtCorner 5 rfl ?_
  refine go_if (fun hb => ?_) (fun hb => ?_)
  · have hb : (σ 15 3) ≤ p4 := hb
    replace hv := hv.1 hb
    refine go_steps q_Hold_setAtCorner kc_Hold_setAtCorner 1 rfl ?_
    obtain ⟨rfl, rfl⟩ := hv
    exact go_retI q_Hold_setAtCorner kc_Hold_setAtCorner rfl rfl rfl
  · have hb : ¬ ((σ 15 3) ≤ p4) := hb
    replace hv := hv.2 hb
    refine go_steps q_Hold_setAtCorner kc_Hold_setAtCorner 4 rfl ?_
    obtain ⟨hc1, hv⟩ := hv
    refine go_iaload q_Hold_setAtCorner kc_Hold_setAtCorner rfl rfl hc1 ?_
    refine go_steps q_Hold_setAtCorner kc_Hold_setAtCorner 3 rfl ?_
    refine go_getI q_Hold_setAtCorner kc_Hold_setAtCorner rfl (am_tt_box hn_n2) rfl ?_
    refine go_steps q_Hold_setAtCorner kc_Hold_setAtCorner 5 rfl ?_
    refine go_if (fun hb => ?_) (fun hb => ?_)
    · have hb : ((σ 16 (Int32.toNatClampNeg p4)) + (σ (19 + n2) 2)) ≤ (σ 3 2) := hb
      replace hv := hv.1 hb
      refine go_steps q_Hold_setAtCorner kc_Hold_setAtCorner 5 rfl ?_
      obtain ⟨hc2, hv⟩ := hv
      refine go_iaload q_Hold_setAtCorner kc_Hold_setAtCorner rfl rfl hc2 ?_
      refine go_steps q_Hold_setAtCorner kc_Hold_setAtCorner 3 rfl ?_
      refine go_le (L1 := [some (.ref 2), some (.int p1), some (.ref (19 + n2)), some (.int p3), some (.int p4), some (.int (σ 16 (Int32.toNatClampNeg p4))), some (.int 0), none]) (by repeat (first | exact trivial | refine ⟨rfl, ?_⟩)) ?_
      exact hv
    · have hb : ¬ (((σ 16 (Int32.toNatClampNeg p4)) + (σ (19 + n2) 2)) ≤ (σ 3 2)) := hb
      replace hv := hv.2 hb
      refine go_steps q_Hold_setAtCorner kc_Hold_setAtCorner 1 rfl ?_
      obtain ⟨rfl, rfl⟩ := hv
      exact go_retI q_Hold_setAtCorner kc_Hold_setAtCorner rfl rfl rfl
set_option maxHeartbeats 4000000 in
set_option maxRecDepth 100000 in
theorem v_Hold_setAtCorner_111 {l : Launch} {D : va_G} {DA : Nat → ClassId} {b sz d L : Nat} {cu : Bool} {σ : Nat → Nat → Int32} {r : Option Value} {X' : am_X} (p1 : Int32) (p3 : Int32) (p4 : Int32) (p5 : Int32) (p6 : Int32) (n2 : Nat) (hn_n2 : n2 < 20)
    (hv : (((σ 7 3) ≤ p6) → (am_Go l D DA b sz (d + 1) M_Hold_setAtCorner (51, [some (.ref 2), some (.int p1), some (.ref (19 + n2)), some (.int p3), some (.int (p4 + 1)), none, none, none], [], (am_TT cu L, am_RR cu, σ)) r X')) ∧ (¬ ((σ 7 3) ≤ p6) → (am_Go l D DA b sz (d + 1) M_Hold_setAtCorner (126, [some (.ref 2), some (.int p1), some (.ref (19 + n2)), some (.int p3), some (.int p4), some (.int p5), some (.int p6), some (.int 0)], [], (am_TT cu L, am_RR cu, σ)) r X'))) :
    am_Go l D DA b sz (d + 1) M_Hold_setAtCorner (111, [some (.ref 2), some (.int p1), some (.ref (19 + n2)), some (.int p3), some (.int p4), some (.int p5), some (.int p6), none], [], (am_TT cu L, am_RR cu, σ)) r X' := by
  refine go_steps q_Hold_setAtCorner kc_Hold_setAtCorner 5 rfl ?_
  refine go_if (fun hb => ?_) (fun hb => ?_)
  · have hb : (σ 7 3) ≤ p6 := hb
    replace hv := hv.1 hb
    refine go_steps q_Hold_setAtCorner kc_Hold_setAtCorner 2 rfl ?_
    refine go_le (L1 := [some (.ref 2), some (.int p1), some (.ref (19 + n2)), some (.int p3), some (.int (p4 + 1)), none, none, none]) (by repeat (first | exact trivial | refine ⟨rfl, ?_⟩)) ?_
    exact hv
  · have hb : ¬ ((σ 7 3) ≤ p6) := hb
    replace hv := hv.2 hb
    refine go_steps q_Hold_setAtCorner kc_Hold_setAtCorner 2 rfl ?_
    refine go_le (L1 := [some (.ref 2), some (.int p1), some (.ref (19 + n2)), some (.int p3), some (.int p4), some (.int p5), some (.int p6), some (.int 0)]) (by repeat (first | exact trivial | refine ⟨rfl, ?_⟩)) ?_
    exact hv
set_option maxHeartbeats 4000000 in
set_option maxRecDepth 100000 in
theorem v_Hold_setAtCorner_126 {l : Launch} {D : va_G} {DA : Nat → ClassId} {b sz d L : Nat} {cu : Bool} {σ : Nat → Nat → Int32} {r : Option Value} {X' : am_X} (p1 : Int32) (p3 : Int32) (p4 : Int32) (p5 : Int32) (p6 : Int32) (p7 : Int32) (n2 : Nat) (hn_n2 : n2 < 20)
    (hv : (((σ 11 3) ≤ p7) → (am_Go l D DA b sz (d + 1) M_Hold_setAtCorner (111, [some (.ref 2), some (.int p1), some (.ref (19 + n2)), some (.int p3), some (.int p4), some (.int p5), some (.int (p6 + 1)), none], [], (am_TT cu L, am_RR cu, σ)) r X')) ∧ (¬ ((σ 11 3) ≤ p7) → (∃ (r1 : Int32) (σ1 : Nat → Nat → Int32), am_Go l D DA b sz d M_Hold_isFree (0, [some (.ref 2), some (.int p1), some (.int p6), some (.int p7), some (.int p5), some (.int 0), none], [], (am_TT cu L, am_RR cu, σ)) (some (.int r1)) (am_TT cu L, am_RR cu, σ1) ∧ (((r1 = 0) → (((p3 = 0) → (am_Go l D DA b sz (d + 1) M_Hold_setAtCorner (126, [some (.ref 2), some (.int p1), some (.ref (19 + n2)), some (.int p3), some (.int p4), some (.int p5), some (.int p6), some (.int (p7 + 1))], [], (am_TT cu L, am_RR cu, σ1)) r X')) ∧ (¬ (p3 = 0) → (∃ (r2 : Int32) (σ2 : Nat → Nat → Int32), am_Go l D DA b sz d M_Hold_isFree (0, [some (.ref 2), some (.int p1), some (.int p6), some (.int p7), some (.int p5), some (.int 1), none], [], (am_TT cu L, am_RR cu, σ1)) (some (.int r2)) (am_TT cu L, am_RR cu, σ2) ∧ (((r2 = 0) → (am_Go l D DA b sz (d + 1) M_Hold_setAtCorner (126, [some (.ref 2), some (.int p1), some (.ref (19 + n2)), some (.int p3), some (.int p4), some (.int p5), some (.int p6), some (.int (p7 + 1))], [], (am_TT cu L, am_RR cu, σ2)) r X')) ∧ (¬ (r2 = 0) → (∃ (σ3 : Nat → Nat → Int32), am_Go l D DA b sz d M_Hold_putIn (0, [some (.ref 2), some (.int p1)], [], (am_TT cu L, am_RR cu, σ2)) none (am_TT cu L, am_RR cu, σ3) ∧ (r = some (.int 1) ∧ X' = (am_TT cu L, am_RR cu, σ3))))))))) ∧ (¬ (r1 = 0) → (∃ (σ4 : Nat → Nat → Int32), am_Go l D DA b sz d M_Hold_putIn (0, [some (.ref 2), some (.int p1)], [], (am_TT cu L, am_RR cu, σ1)) none (am_TT cu L, am_RR cu, σ4) ∧ (r = some (.int 1) ∧ X' = (am_TT cu L, am_RR cu, σ4)))))))) :
    am_Go l D DA b sz (d + 1) M_Hold_setAtCorner (126, [some (.ref 2), some (.int p1), some (.ref (19 + n2)), some (.int p3), some (.int p4), some (.int p5), some (.int p6), some (.int p7)], [], (am_TT cu L, am_RR cu, σ)) r X' := by
  refine go_steps q_Hold_setAtCorner kc_Hold_setAtCorner 5 rfl ?_
  refine go_if (fun hb => ?_) (fun hb => ?_)
  · have hb : (σ 11 3) ≤ p7 := hb
    replace hv := hv.1 hb
    refine go_steps q_Hold_setAtCorner kc_Hold_setAtCorner 2 rfl ?_
    refine go_le (L1 := [some (.ref 2), some (.int p1), some (.ref (19 + n2)), some (.int p3), some (.int p4), some (.int p5), some (.int (p6 + 1)), none]) (by repeat (first | exact trivial | refine ⟨rfl, ?_⟩)) ?_
    exact hv
  · have hb : ¬ ((σ 11 3) ≤ p7) := hb
    replace hv := hv.2 hb
    refine go_steps q_Hold_setAtCorner kc_Hold_setAtCorner 6 rfl ?_
    obtain ⟨r1, σ1, hg, hv⟩ := hv
    refine go_callV q_Hold_setAtCorner kc_Hold_setAtCorner rfl q_Hold_isFree am_k40 ⟨rfl, rfl, by decide⟩ rfl rfl (Nat.le_of_ble_eq_true rfl) (Nat.le_of_ble_eq_true rfl) rfl rfl hg ?_
    refine go_steps q_Hold_setAtCorner kc_Hold_setAtCorner 1 rfl ?_
    refine go_if (fun hb => ?_) (fun hb => ?_)
    · have hb : r1 = 0 := hb
      replace hv := hv.1 hb
      refine go_steps q_Hold_setAtCorner kc_Hold_setAtCorner 2 rfl ?_
      refine go_if (fun hb => ?_) (fun hb => ?_)
      · have hb : p3 = 0 := hb
        replace hv := hv.1 hb
        refine go_steps q_Hold_setAtCorner kc_Hold_setAtCorner 2 rfl ?_
        refine go_le (L1 := [some (.ref 2), some (.int p1), some (.ref (19 + n2)), some (.int p3), some (.int p4), some (.int p5), some (.int p6), some (.int (p7 + 1))]) (by repeat (first | exact trivial | refine ⟨rfl, ?_⟩)) ?_
        exact hv
      · have hb : ¬ (p3 = 0) := hb
        replace hv := hv.2 hb
        refine go_steps q_Hold_setAtCorner kc_Hold_setAtCorner 6 rfl ?_
        obtain ⟨r2, σ2, hg, hv⟩ := hv
        refine go_callV q_Hold_setAtCorner kc_Hold_setAtCorner rfl q_Hold_isFree am_k40 ⟨rfl, rfl, by decide⟩ rfl rfl (Nat.le_of_ble_eq_true rfl) (Nat.le_of_ble_eq_true rfl) rfl rfl hg ?_
        refine go_steps q_Hold_setAtCorner kc_Hold_setAtCorner 1 rfl ?_
        refine go_if (fun hb => ?_) (fun hb => ?_)
        · have hb : r2 = 0 := hb
          replace hv := hv.1 hb
          refine go_steps q_Hold_setAtCorner kc_Hold_setAtCorner 2 rfl ?_
          refine go_le (L1 := [some (.ref 2), some (.int p1), some (.ref (19 + n2)), some (.int p3), some (.int p4), some (.int p5), some (.int p6), some (.int (p7 + 1))]) (by repeat (first | exact trivial | refine ⟨rfl, ?_⟩)) ?_
          exact hv
        · have hb : ¬ (r2 = 0) := hb
          replace hv := hv.2 hb
          refine go_steps q_Hold_setAtCorner kc_Hold_setAtCorner 2 rfl ?_
          obtain ⟨σ3, hg, hv⟩ := hv
          refine go_callV q_Hold_setAtCorner kc_Hold_setAtCorner rfl q_Hold_putIn am_k33 ⟨rfl, rfl, by decide⟩ rfl rfl (Nat.le_of_ble_eq_true rfl) (Nat.le_of_ble_eq_true rfl) rfl rfl hg ?_
          refine go_steps q_Hold_setAtCorner kc_Hold_setAtCorner 1 rfl ?_
          obtain ⟨rfl, rfl⟩ := hv
          exact go_retI q_Hold_setAtCorner kc_Hold_setAtCorner rfl rfl rfl
    · have hb : ¬ (r1 = 0) := hb
      replace hv := hv.2 hb
      refine go_steps q_Hold_setAtCorner kc_Hold_setAtCorner 2 rfl ?_
      obtain ⟨σ4, hg, hv⟩ := hv
      refine go_callV q_Hold_setAtCorner kc_Hold_setAtCorner rfl q_Hold_putIn am_k33 ⟨rfl, rfl, by decide⟩ rfl rfl (Nat.le_of_ble_eq_true rfl) (Nat.le_of_ble_eq_true rfl) rfl rfl hg ?_
      refine go_steps q_Hold_setAtCorner kc_Hold_setAtCorner 1 rfl ?_
      obtain ⟨rfl, rfl⟩ := hv
      exact go_retI q_Hold_setAtCorner kc_Hold_setAtCorner rfl rfl rfl
set_option maxHeartbeats 4000000 in
set_option maxRecDepth 100000 in
theorem v_Hold_listCorners_0 {l : Launch} {D : va_G} {DA : Nat → ClassId} {b sz d L : Nat} {cu : Bool} {σ : Nat → Nat → Int32} {r : Option Value} {X' : am_X} (n1 : Nat) (hn_n1 : n1 < 20)
    (hv : am_Go l D DA b sz (d + 1) M_Hold_listCorners (11, [some (.ref 2), some (.ref (19 + n1)), some (.long (Int64.ofNat 1)), none, some (.long (Int64.ofNat 1)), none, some (.long (Int64.ofNat 1)), none, some (.int 0)], [], (am_TT cu L, am_RR cu, σ)) r X') :
    am_Go l D DA b sz (d + 1) M_Hold_listCorners (0, [some (.ref 2), some (.ref (19 + n1)), none, none, none, none, none, none, none], [], (am_TT cu L, am_RR cu, σ)) r X' := by
  refine go_steps q_Hold_listCorners kc_Hold_listCorners 8 rfl ?_
  refine go_le (L1 := [some (.ref 2), some (.ref (19 + n1)), some (.long (Int64.ofNat 1)), none, some (.long (Int64.ofNat 1)), none, some (.long (Int64.ofNat 1)), none, some (.int 0)]) (by repeat (first | exact trivial | refine ⟨rfl, ?_⟩)) ?_
  exact hv
set_option maxHeartbeats 4000000 in
set_option maxRecDepth 100000 in
theorem v_Hold_listCorners_11 {l : Launch} {D : va_G} {DA : Nat → ClassId} {b sz d L : Nat} {cu : Bool} {σ : Nat → Nat → Int32} {r : Option Value} {X' : am_X} (p2 : Int64) (p4 : Int64) (p6 : Int64) (p8 : Int32) (n1 : Nat) (hn_n1 : n1 < 20)
    (hv : (((σ 2 2) ≤ p8) → (∃ (σ1 : Nat → Nat → Int32), am_Go l D DA b sz d M_Edges_list (0, [some (.ref 7), some (.long p2), none, none], [], (am_TT cu L, am_RR cu, σ)) none (am_TT cu L, am_RR cu, σ1) ∧ ((∃ (σ2 : Nat → Nat → Int32), am_Go l D DA b sz d M_Edges_list (0, [some (.ref 11), some (.long p4), none, none], [], (am_TT cu L, am_RR cu, σ1)) none (am_TT cu L, am_RR cu, σ2) ∧ ((∃ (σ3 : Nat → Nat → Int32), am_Go l D DA b sz d M_Edges_list (0, [some (.ref 15), some (.long p6), none, none], [], (am_TT cu L, am_RR cu, σ2)) none (am_TT cu L, am_RR cu, σ3) ∧ ((∃ (σ4 : Nat → Nat → Int32), am_Go l D DA b sz d M_Hold_listCommon (0, [some (.ref 2), some (.ref (19 + n1)), none, none], [], (am_TT cu L, am_RR cu, σ3)) none (am_TT cu L, am_RR cu, σ4) ∧ (r = none ∧ X' = (am_TT cu L, am_RR cu, σ4)))))))))) ∧ (¬ ((σ 2 2) ≤ p8) → (∃ (r5 : Int32) (σ5 : Nat → Nat → Int32), am_Go l D DA b sz d M_Hold_has (0, [some (.ref 2), some (.int p8)], [], (am_TT cu L, am_RR cu, σ)) (some (.int r5)) (am_TT cu L, am_RR cu, σ5) ∧ (((r5 = 0) → (am_Go l D DA b sz (d + 1) M_Hold_listCorners (11, [some (.ref 2), some (.ref (19 + n1)), some (.long p2), none, some (.long p4), none, some (.long p6), none, some (.int (p8 + 1))], [], (am_TT cu L, am_RR cu, σ5)) r X')) ∧ (¬ (r5 = 0) → ((¬ (p8 < 0 ∨ 20 ≤ Int32.toNatClampNeg p8)) ∧ ((¬ (p8 < 0 ∨ 20 ≤ Int32.toNatClampNeg p8)) ∧ ((¬ (p8 < 0 ∨ 20 ≤ Int32.toNatClampNeg p8)) ∧ (am_Go l D DA b sz (d + 1) M_Hold_listCorners (11, [some (.ref 2), some (.ref (19 + n1)), some (.long (p2 ||| ((Int64.ofNat 1) <<< (Int32.toInt64 (σ5 (19 + Int32.toNatClampNeg p8) 11) &&& 63)))), none, some (.long (p4 ||| ((Int64.ofNat 1) <<< (Int32.toInt64 (σ5 (19 + Int32.toNatClampNeg p8) 12) &&& 63)))), none, some (.long (p6 ||| ((Int64.ofNat 1) <<< (Int32.toInt64 (σ5 (19 + Int32.toNatClampNeg p8) 13) &&& 63)))), none, some (.int (p8 + 1))], [], (am_TT cu L, am_RR cu, σ5)) r X'))))))))) :
    am_Go l D DA b sz (d + 1) M_Hold_listCorners (11, [some (.ref 2), some (.ref (19 + n1)), some (.long p2), none, some (.long p4), none, some (.long p6), none, some (.int p8)], [], (am_TT cu L, am_RR cu, σ)) r X' := by
  refine go_steps q_Hold_listCorners kc_Hold_listCorners 4 rfl ?_
  refine go_if (fun hb => ?_) (fun hb => ?_)
  · have hb : (σ 2 2) ≤ p8 := hb
    replace hv := hv.1 hb
    refine go_steps q_Hold_listCorners kc_Hold_listCorners 3 rfl ?_
    obtain ⟨σ1, hg, hv⟩ := hv
    refine go_callV q_Hold_listCorners kc_Hold_listCorners rfl q_Edges_list am_k37 ⟨rfl, rfl, by decide⟩ rfl rfl (Nat.le_of_ble_eq_true rfl) (Nat.le_of_ble_eq_true rfl) rfl rfl hg ?_
    refine go_steps q_Hold_listCorners kc_Hold_listCorners 3 rfl ?_
    obtain ⟨σ2, hg, hv⟩ := hv
    refine go_callV q_Hold_listCorners kc_Hold_listCorners rfl q_Edges_list am_k37 ⟨rfl, rfl, by decide⟩ rfl rfl (Nat.le_of_ble_eq_true rfl) (Nat.le_of_ble_eq_true rfl) rfl rfl hg ?_
    refine go_steps q_Hold_listCorners kc_Hold_listCorners 3 rfl ?_
    obtain ⟨σ3, hg, hv⟩ := hv
    refine go_callV q_Hold_listCorners kc_Hold_listCorners rfl q_Edges_list am_k37 ⟨rfl, rfl, by decide⟩ rfl rfl (Nat.le_of_ble_eq_true rfl) (Nat.le_of_ble_eq_true rfl) rfl rfl hg ?_
    refine go_steps q_Hold_listCorners kc_Hold_listCorners 2 rfl ?_
    obtain ⟨σ4, hg, hv⟩ := hv
    refine go_callV q_Hold_listCorners kc_Hold_listCorners rfl q_Hold_listCommon am_k38 ⟨rfl, rfl, by decide⟩ rfl rfl (Nat.le_of_ble_eq_true rfl) (Nat.le_of_ble_eq_true rfl) rfl rfl hg ?_
    obtain ⟨rfl, rfl⟩ := hv
    exact go_retV q_Hold_listCorners kc_Hold_listCorners rfl rfl
  · have hb : ¬ ((σ 2 2) ≤ p8) := hb
    replace hv := hv.2 hb
    refine go_steps q_Hold_listCorners kc_Hold_listCorners 2 rfl ?_
    obtain ⟨r5, σ5, hg, hv⟩ := hv
    refine go_callV q_Hold_listCorners kc_Hold_listCorners rfl q_Hold_has am_k18 ⟨rfl, rfl, by decide⟩ rfl rfl (Nat.le_of_ble_eq_true rfl) (Nat.le_of_ble_eq_true rfl) rfl rfl hg ?_
    refine go_steps q_Hold_listCorners kc_Hold_listCorners 1 rfl ?_
    refine go_if (fun hb => ?_) (fun hb => ?_)
    · have hb : r5 = 0 := hb
      replace hv := hv.1 hb
      refine go_steps q_Hold_listCorners kc_Hold_listCorners 2 rfl ?_
      refine go_le (L1 := [some (.ref 2), some (.ref (19 + n1)), some (.long p2), none, some (.long p4), none, some (.long p6), none, some (.int (p8 + 1))]) (by repeat (first | exact trivial | refine ⟨rfl, ?_⟩)) ?_
      exact hv
    · have hb : ¬ (r5 = 0) := hb
      replace hv := hv.2 hb
      refine go_steps q_Hold_listCorners kc_Hold_listCorners 5 rfl ?_
      obtain ⟨hc1, hv⟩ := hv
      refine go_aaload q_Hold_listCorners kc_Hold_listCorners rfl rfl hc1 (am_rr4 (am_inb hc1)) ?_
      refine go_getI q_Hold_listCorners kc_Hold_listCorners rfl (am_tt_box (am_inb hc1)) rfl ?_
      refine go_steps q_Hold_listCorners kc_Hold_listCorners 8 rfl ?_
      obtain ⟨hc2, hv⟩ := hv
      refine go_aaload q_Hold_listCorners kc_Hold_listCorners rfl rfl hc2 (am_rr4 (am_inb hc2)) ?_
      refine go_getI q_Hold_listCorners kc_Hold_listCorners rfl (am_tt_box (am_inb hc2)) rfl ?_
      refine go_steps q_Hold_listCorners kc_Hold_listCorners 8 rfl ?_
      obtain ⟨hc3, hv⟩ := hv
      refine go_aaload q_Hold_listCorners kc_Hold_listCorners rfl rfl hc3 (am_rr4 (am_inb hc3)) ?_
      refine go_getI q_Hold_listCorners kc_Hold_listCorners rfl (am_tt_box (am_inb hc3)) rfl ?_
      refine go_steps q_Hold_listCorners kc_Hold_listCorners 5 rfl ?_
      refine go_le (L1 := [some (.ref 2), some (.ref (19 + n1)), some (.long (p2 ||| ((Int64.ofNat 1) <<< (Int32.toInt64 (σ5 (19 + Int32.toNatClampNeg p8) 11) &&& 63)))), none, some (.long (p4 ||| ((Int64.ofNat 1) <<< (Int32.toInt64 (σ5 (19 + Int32.toNatClampNeg p8) 12) &&& 63)))), none, some (.long (p6 ||| ((Int64.ofNat 1) <<< (Int32.toInt64 (σ5 (19 + Int32.toNatClampNeg p8) 13) &&& 63)))), none, some (.int (p8 + 1))]) (by repeat (first | exact trivial | refine ⟨rfl, ?_⟩)) ?_
      exact hv
set_option maxHeartbeats 4000000 in
set_option maxRecDepth 100000 in
theorem v_Hold_listCommon_0 {l : Launch} {D : va_G} {DA : Nat → ClassId} {b sz d L : Nat} {cu : Bool} {σ : Nat → Nat → Int32} {r : Option Value} {X' : am_X} (n1 : Nat) (hn_n1 : n1 < 20)
    (hv : am_Go l D DA b sz (d + 1) M_Hold_listCommon (2, [some (.ref 2), some (.ref (19 + n1)), some (.int 0), none], [], (am_TT cu L, am_RR cu, σ)) r X') :
    am_Go l D DA b sz (d + 1) M_Hold_listCommon (0, [some (.ref 2), some (.ref (19 + n1)), none, none], [], (am_TT cu L, am_RR cu, σ)) r X' := by
  refine go_steps q_Hold_listCommon kc_Hold_listCommon 2 rfl ?_
  refine go_le (L1 := [some (.ref 2), some (.ref (19 + n1)), some (.int 0), none]) (by repeat (first | exact trivial | refine ⟨rfl, ?_⟩)) ?_
  exact hv
set_option maxHeartbeats 4000000 in
set_option maxRecDepth 100000 in
theorem v_Hold_listCommon_2 {l : Launch} {D : va_G} {DA : Nat → ClassId} {b sz d L : Nat} {cu : Bool} {σ : Nat → Nat → Int32} {r : Option Value} {X' : am_X} (p2 : Int32) (n1 : Nat) (hn_n1 : n1 < 20)
    (hv : (((σ 7 3) ≤ p2) → (am_Go l D DA b sz (d + 1) M_Hold_listCommon (105, [some (.ref 2), some (.ref (19 + n1)), some (.int 0), none], [], (am_TT cu L, am_RR cu, σ)) r X')) ∧ (¬ ((σ 7 3) ≤ p2) → ((¬ (p2 < 0 ∨ 21 ≤ Int32.toNatClampNeg p2)) ∧ (∃ (r1 : Int32) (σ1 : Nat → Nat → Int32), am_Go l D DA b sz d M_Hold_commonInX (0, [some (.ref 2), some (.int (σ 8 (Int32.toNatClampNeg p2))), some (.int ((σ 8 (Int32.toNatClampNeg p2)) + (σ (19 + n1) 0))), none, none], [], (am_TT cu L, am_RR cu, σ)) (some (.int r1)) (am_TT cu L, am_RR cu, σ1) ∧ ((∃ (r2 : Int32) (σ2 : Nat → Nat → Int32), am_Go l D DA b sz d M_Hold_wall (0, [some (.int ((σ 8 (Int32.toNatClampNeg p2)) + (σ1 (19 + n1) 0))), some (.int (σ1 3 0))], [], (am_TT cu L, am_RR cu, σ1)) (some (.int r2)) (am_TT cu L, am_RR cu, σ2) ∧ ((¬ (p2 < 0 ∨ 21 ≤ Int32.toNatClampNeg p2)) ∧ (∃ (r3 : Int32) (σ3 : Nat → Nat → Int32), am_Go l D DA b sz d M_Hold_commonInX (0, [some (.ref 2), some (.int (σ 8 (Int32.toNatClampNeg p2))), some (.int ((σ 8 (Int32.toNatClampNeg p2)) + ((am_us σ2 9 (Int32.toNatClampNeg p2) (r1 ||| r2)) (19 + n1) 1))), none, none], [], (am_TT cu L, am_RR cu, am_us σ2 9 (Int32.toNatClampNeg p2) (r1 ||| r2))) (some (.int r3)) (am_TT cu L, am_RR cu, σ3) ∧ ((∃ (r4 : Int32) (σ4 : Nat → Nat → Int32), am_Go l D DA b sz d M_Hold_wall (0, [some (.int ((σ 8 (Int32.toNatClampNeg p2)) + (σ3 (19 + n1) 1))), some (.int (σ3 3 0))], [], (am_TT cu L, am_RR cu, σ3)) (some (.int r4)) (am_TT cu L, am_RR cu, σ4) ∧ ((¬ (p2 < 0 ∨ 21 ≤ Int32.toNatClampNeg p2)) ∧ (am_Go l D DA b sz (d + 1) M_Hold_listCommon (2, [some (.ref 2), some (.ref (19 + n1)), some (.int (p2 + 1)), none], [], (am_TT cu L, am_RR cu, am_us σ4 10 (Int32.toNatClampNeg p2) (r3 ||| r4))) r X')))))))))))) :
    am_Go l D DA b sz (d + 1) M_Hold_listCommon (2, [some (.ref 2), some (.ref (19 + n1)), some (.int p2), none], [], (am_TT cu L, am_RR cu, σ)) r X' := by
  refine go_steps q_Hold_listCommon kc_Hold_listCommon 5 rfl ?_
  refine go_if (fun hb => ?_) (fun hb => ?_)
  · have hb : (σ 7 3) ≤ p2 := hb
    replace hv := hv.1 hb
    refine go_steps q_Hold_listCommon kc_Hold_listCommon 2 rfl ?_
    refine go_le (L1 := [some (.ref 2), some (.ref (19 + n1)), some (.int 0), none]) (by repeat (first | exact trivial | refine ⟨rfl, ?_⟩)) ?_
    exact hv
  · have hb : ¬ ((σ 7 3) ≤ p2) := hb
    replace hv := hv.2 hb
    refine go_steps q_Hold_listCommon kc_Hold_listCommon 4 rfl ?_
    obtain ⟨hc1, hv⟩ := hv
    refine go_iaload q_Hold_listCommon kc_Hold_listCommon rfl rfl hc1 ?_
    refine go_steps q_Hold_listCommon kc_Hold_listCommon 9 rfl ?_
    refine go_getI q_Hold_listCommon kc_Hold_listCommon rfl (am_tt_box hn_n1) rfl ?_
    refine go_steps q_Hold_listCommon kc_Hold_listCommon 1 rfl ?_
    obtain ⟨r1, σ1, hg, hv⟩ := hv
    refine go_callV q_Hold_listCommon kc_Hold_listCommon rfl q_Hold_commonInX am_k21 ⟨rfl, rfl, by decide⟩ rfl rfl (Nat.le_of_ble_eq_true rfl) (Nat.le_of_ble_eq_true rfl) rfl rfl hg ?_
    refine go_steps q_Hold_listCommon kc_Hold_listCommon 2 rfl ?_
    refine go_getI q_Hold_listCommon kc_Hold_listCommon rfl (am_tt_box hn_n1) rfl ?_
    refine go_steps q_Hold_listCommon kc_Hold_listCommon 4 rfl ?_
    obtain ⟨r2, σ2, hg, hv⟩ := hv
    refine go_callS q_Hold_listCommon kc_Hold_listCommon rfl q_Hold_wall am_k39 rfl rfl rfl (Nat.le_of_ble_eq_true rfl) (Nat.le_of_ble_eq_true rfl) hg ?_
    refine go_steps q_Hold_listCommon kc_Hold_listCommon 1 rfl ?_
    obtain ⟨hc, hv⟩ := hv
    refine go_iastore q_Hold_listCommon kc_Hold_listCommon rfl rfl hc ?_
    refine go_steps q_Hold_listCommon kc_Hold_listCommon 8 rfl ?_
    refine go_getI q_Hold_listCommon kc_Hold_listCommon rfl (am_tt_box hn_n1) rfl ?_
    refine go_steps q_Hold_listCommon kc_Hold_listCommon 1 rfl ?_
    obtain ⟨r3, σ3, hg, hv⟩ := hv
    refine go_callV q_Hold_listCommon kc_Hold_listCommon rfl q_Hold_commonInX am_k21 ⟨rfl, rfl, by decide⟩ rfl rfl (Nat.le_of_ble_eq_true rfl) (Nat.le_of_ble_eq_true rfl) rfl rfl hg ?_
    refine go_steps q_Hold_listCommon kc_Hold_listCommon 2 rfl ?_
    refine go_getI q_Hold_listCommon kc_Hold_listCommon rfl (am_tt_box hn_n1) rfl ?_
    refine go_steps q_Hold_listCommon kc_Hold_listCommon 4 rfl ?_
    obtain ⟨r4, σ4, hg, hv⟩ := hv
    refine go_callS q_Hold_listCommon kc_Hold_listCommon rfl q_Hold_wall am_k39 rfl rfl rfl (Nat.le_of_ble_eq_true rfl) (Nat.le_of_ble_eq_true rfl) hg ?_
    refine go_steps q_Hold_listCommon kc_Hold_listCommon 1 rfl ?_
    obtain ⟨hc, hv⟩ := hv
    refine go_iastore q_Hold_listCommon kc_Hold_listCommon rfl rfl hc ?_
    refine go_steps q_Hold_listCommon kc_Hold_listCommon 2 rfl ?_
    refine go_le (L1 := [some (.ref 2), some (.ref (19 + n1)), some (.int (p2 + 1)), none]) (by repeat (first | exact trivial | refine ⟨rfl, ?_⟩)) ?_
    exact hv
set_option maxHeartbeats 4000000 in
set_option maxRecDepth 100000 in
theorem v_Hold_listCommon_105 {l : Launch} {D : va_G} {DA : Nat → ClassId} {b sz d L : Nat} {cu : Bool} {σ : Nat → Nat → Int32} {r : Option Value} {X' : am_X} (p2 : Int32) (n1 : Nat) (hn_n1 : n1 < 20)
    (hv : (((σ 11 3) ≤ p2) → (am_Go l D DA b sz (d + 1) M_Hold_listCommon (208, [some (.ref 2), some (.ref (19 + n1)), some (.int 0), none], [], (am_TT cu L, am_RR cu, σ)) r X')) ∧ (¬ ((σ 11 3) ≤ p2) → ((¬ (p2 < 0 ∨ 21 ≤ Int32.toNatClampNeg p2)) ∧ (∃ (r1 : Int32) (σ1 : Nat → Nat → Int32), am_Go l D DA b sz d M_Hold_commonInY (0, [some (.ref 2), some (.int (σ 12 (Int32.toNatClampNeg p2))), some (.int ((σ 12 (Int32.toNatClampNeg p2)) + (σ (19 + n1) 1))), none, none], [], (am_TT cu L, am_RR cu, σ)) (some (.int r1)) (am_TT cu L, am_RR cu, σ1) ∧ ((∃ (r2 : Int32) (σ2 : Nat → Nat → Int32), am_Go l D DA b sz d M_Hold_wall (0, [some (.int ((σ 12 (Int32.toNatClampNeg p2)) + (σ1 (19 + n1) 1))), some (.int (σ1 3 1))], [], (am_TT cu L, am_RR cu, σ1)) (some (.int r2)) (am_TT cu L, am_RR cu, σ2) ∧ ((¬ (p2 < 0 ∨ 21 ≤ Int32.toNatClampNeg p2)) ∧ (∃ (r3 : Int32) (σ3 : Nat → Nat → Int32), am_Go l D DA b sz d M_Hold_commonInY (0, [some (.ref 2), some (.int (σ 12 (Int32.toNatClampNeg p2))), some (.int ((σ 12 (Int32.toNatClampNeg p2)) + ((am_us σ2 13 (Int32.toNatClampNeg p2) (r1 ||| r2)) (19 + n1) 0))), none, none], [], (am_TT cu L, am_RR cu, am_us σ2 13 (Int32.toNatClampNeg p2) (r1 ||| r2))) (some (.int r3)) (am_TT cu L, am_RR cu, σ3) ∧ ((∃ (r4 : Int32) (σ4 : Nat → Nat → Int32), am_Go l D DA b sz d M_Hold_wall (0, [some (.int ((σ 12 (Int32.toNatClampNeg p2)) + (σ3 (19 + n1) 0))), some (.int (σ3 3 1))], [], (am_TT cu L, am_RR cu, σ3)) (some (.int r4)) (am_TT cu L, am_RR cu, σ4) ∧ ((¬ (p2 < 0 ∨ 21 ≤ Int32.toNatClampNeg p2)) ∧ (am_Go l D DA b sz (d + 1) M_Hold_listCommon (105, [some (.ref 2), some (.ref (19 + n1)), some (.int (p2 + 1)), none], [], (am_TT cu L, am_RR cu, am_us σ4 14 (Int32.toNatClampNeg p2) (r3 ||| r4))) r X')))))))))))) :
    am_Go l D DA b sz (d + 1) M_Hold_listCommon (105, [some (.ref 2), some (.ref (19 + n1)), some (.int p2), none], [], (am_TT cu L, am_RR cu, σ)) r X' := by
  refine go_steps q_Hold_listCommon kc_Hold_listCommon 5 rfl ?_
  refine go_if (fun hb => ?_) (fun hb => ?_)
  · have hb : (σ 11 3) ≤ p2 := hb
    replace hv := hv.1 hb
    refine go_steps q_Hold_listCommon kc_Hold_listCommon 2 rfl ?_
    refine go_le (L1 := [some (.ref 2), some (.ref (19 + n1)), some (.int 0), none]) (by repeat (first | exact trivial | refine ⟨rfl, ?_⟩)) ?_
    exact hv
  · have hb : ¬ ((σ 11 3) ≤ p2) := hb
    replace hv := hv.2 hb
    refine go_steps q_Hold_listCommon kc_Hold_listCommon 4 rfl ?_
    obtain ⟨hc1, hv⟩ := hv
    refine go_iaload q_Hold_listCommon kc_Hold_listCommon rfl rfl hc1 ?_
    refine go_steps q_Hold_listCommon kc_Hold_listCommon 9 rfl ?_
    refine go_getI q_Hold_listCommon kc_Hold_listCommon rfl (am_tt_box hn_n1) rfl ?_
    refine go_steps q_Hold_listCommon kc_Hold_listCommon 1 rfl ?_
    obtain ⟨r1, σ1, hg, hv⟩ := hv
    refine go_callV q_Hold_listCommon kc_Hold_listCommon rfl q_Hold_commonInY am_k22 ⟨rfl, rfl, by decide⟩ rfl rfl (Nat.le_of_ble_eq_true rfl) (Nat.le_of_ble_eq_true rfl) rfl rfl hg ?_
    refine go_steps q_Hold_listCommon kc_Hold_listCommon 2 rfl ?_
    refine go_getI q_Hold_listCommon kc_Hold_listCommon rfl (am_tt_box hn_n1) rfl ?_
    refine go_steps q_Hold_listCommon kc_Hold_listCommon 4 rfl ?_
    obtain ⟨r2, σ2, hg, hv⟩ := hv
    refine go_callS q_Hold_listCommon kc_Hold_listCommon rfl q_Hold_wall am_k39 rfl rfl rfl (Nat.le_of_ble_eq_true rfl) (Nat.le_of_ble_eq_true rfl) hg ?_
    refine go_steps q_Hold_listCommon kc_Hold_listCommon 1 rfl ?_
    obtain ⟨hc, hv⟩ := hv
    refine go_iastore q_Hold_listCommon kc_Hold_listCommon rfl rfl hc ?_
    refine go_steps q_Hold_listCommon kc_Hold_listCommon 8 rfl ?_
    refine go_getI q_Hold_listCommon kc_Hold_listCommon rfl (am_tt_box hn_n1) rfl ?_
    refine go_steps q_Hold_listCommon kc_Hold_listCommon 1 rfl ?_
    obtain ⟨r3, σ3, hg, hv⟩ := hv
    refine go_callV q_Hold_listCommon kc_Hold_listCommon rfl q_Hold_commonInY am_k22 ⟨rfl, rfl, by decide⟩ rfl rfl (Nat.le_of_ble_eq_true rfl) (Nat.le_of_ble_eq_true rfl) rfl rfl hg ?_
    refine go_steps q_Hold_listCommon kc_Hold_listCommon 2 rfl ?_
    refine go_getI q_Hold_listCommon kc_Hold_listCommon rfl (am_tt_box hn_n1) rfl ?_
    refine go_steps q_Hold_listCommon kc_Hold_listCommon 4 rfl ?_
    obtain ⟨r4, σ4, hg, hv⟩ := hv
    refine go_callS q_Hold_listCommon kc_Hold_listCommon rfl q_Hold_wall am_k39 rfl rfl rfl (Nat.le_of_ble_eq_true rfl) (Nat.le_of_ble_eq_true rfl) hg ?_
    refine go_steps q_Hold_listCommon kc_Hold_listCommon 1 rfl ?_
    obtain ⟨hc, hv⟩ := hv
    refine go_iastore q_Hold_listCommon kc_Hold_listCommon rfl rfl hc ?_
    refine go_steps q_Hold_listCommon kc_Hold_listCommon 2 rfl ?_
    refine go_le (L1 := [some (.ref 2), some (.ref (19 + n1)), some (.int (p2 + 1)), none]) (by repeat (first | exact trivial | refine ⟨rfl, ?_⟩)) ?_
    exact hv
set_option maxHeartbeats 4000000 in
set_option maxRecDepth 100000 in
theorem v_Hold_listCommon_208 {l : Launch} {D : va_G} {DA : Nat → ClassId} {b sz d L : Nat} {cu : Bool} {σ : Nat → Nat → Int32} {r : Option Value} {X' : am_X} (p2 : Int32) (n1 : Nat) (hn_n1 : n1 < 20)
    (hv : (((σ 15 3) ≤ p2) → (r = none ∧ X' = (am_TT cu L, am_RR cu, σ))) ∧ (¬ ((σ 15 3) ≤ p2) → ((¬ (p2 < 0 ∨ 21 ≤ Int32.toNatClampNeg p2)) ∧ (∃ (r1 : Int32) (σ1 : Nat → Nat → Int32), am_Go l D DA b sz d M_Hold_commonInZ (0, [some (.ref 2), some (.int (σ 16 (Int32.toNatClampNeg p2))), some (.int ((σ 16 (Int32.toNatClampNeg p2)) + (σ (19 + n1) 2))), none, none], [], (am_TT cu L, am_RR cu, σ)) (some (.int r1)) (am_TT cu L, am_RR cu, σ1) ∧ ((¬ (p2 < 0 ∨ 21 ≤ Int32.toNatClampNeg p2)) ∧ (am_Go l D DA b sz (d + 1) M_Hold_listCommon (208, [some (.ref 2), some (.ref (19 + n1)), some (.int (p2 + 1)), none], [], (am_TT cu L, am_RR cu, am_us σ1 17 (Int32.toNatClampNeg p2) r1)) r X')))))) :
    am_Go l D DA b sz (d + 1) M_Hold_listCommon (208, [some (.ref 2), some (.ref (19 + n1)), some (.int p2), none], [], (am_TT cu L, am_RR cu, σ)) r X' := by
  refine go_steps q_Hold_listCommon kc_Hold_listCommon 5 rfl ?_
  refine go_if (fun hb => ?_) (fun hb => ?_)
  · have hb : (σ 15 3) ≤ p2 := hb
    replace hv := hv.1 hb
    obtain ⟨rfl, rfl⟩ := hv
    exact go_retV q_Hold_listCommon kc_Hold_listCommon rfl rfl
  · have hb : ¬ ((σ 15 3) ≤ p2) := hb
    replace hv := hv.2 hb
    refine go_steps q_Hold_listCommon kc_Hold_listCommon 4 rfl ?_
    obtain ⟨hc1, hv⟩ := hv
    refine go_iaload q_Hold_listCommon kc_Hold_listCommon rfl rfl hc1 ?_
    refine go_steps q_Hold_listCommon kc_Hold_listCommon 9 rfl ?_
    refine go_getI q_Hold_listCommon kc_Hold_listCommon rfl (am_tt_box hn_n1) rfl ?_
    refine go_steps q_Hold_listCommon kc_Hold_listCommon 1 rfl ?_
    obtain ⟨r1, σ1, hg, hv⟩ := hv
    refine go_callV q_Hold_listCommon kc_Hold_listCommon rfl q_Hold_commonInZ am_k23 ⟨rfl, rfl, by decide⟩ rfl rfl (Nat.le_of_ble_eq_true rfl) (Nat.le_of_ble_eq_true rfl) rfl rfl hg ?_
    obtain ⟨hc, hv⟩ := hv
    refine go_iastore q_Hold_listCommon kc_Hold_listCommon rfl rfl hc ?_
    refine go_steps q_Hold_listCommon kc_Hold_listCommon 2 rfl ?_
    refine go_le (L1 := [some (.ref 2), some (.ref (19 + n1)), some (.int (p2 + 1)), none]) (by repeat (first | exact trivial | refine ⟨rfl, ?_⟩)) ?_
    exact hv
set_option maxHeartbeats 4000000 in
set_option maxRecDepth 100000 in
theorem v_Hold_wall_0 {l : Launch} {D : va_G} {DA : Nat → ClassId} {b sz d L : Nat} {cu : Bool} {σ : Nat → Nat → Int32} {r : Option Value} {X' : am_X} (p0 : Int32) (p1 : Int32)
    (hv : ((p0 ≤ p1) → (r = some (.int 0) ∧ X' = (am_TT cu L, am_RR cu, σ))) ∧ (¬ (p0 ≤ p1) → (r = some (.int 1073741824) ∧ X' = (am_TT cu L, am_RR cu, σ)))) :
    am_Go l D DA b sz d M_Hold_wall (0, [some (.int p0), some (.int p1)], [], (am_TT cu L, am_RR cu, σ)) r X' := by
  refine go_steps q_Hold_wall kc_Hold_wall 3 rfl ?_
  refine go_if (fun hb => ?_) (fun hb => ?_)
  · have hb : p0 ≤ p1 := hb
    replace hv := hv.1 hb
    refine go_steps q_Hold_wall kc_Hold_wall 1 rfl ?_
    obtain ⟨rfl, rfl⟩ := hv
    exact go_retI q_Hold_wall kc_Hold_wall rfl rfl rfl
  · have hb : ¬ (p0 ≤ p1) := hb
    replace hv := hv.2 hb
    refine go_steps q_Hold_wall kc_Hold_wall 2 rfl ?_
    obtain ⟨rfl, rfl⟩ := hv
    exact go_retI q_Hold_wall kc_Hold_wall rfl rfl rfl
set_option maxHeartbeats 4000000 in
set_option maxRecDepth 100000 in
theorem v_Hold_isFree_0 {l : Launch} {D : va_G} {DA : Nat → ClassId} {b sz d L : Nat} {cu : Bool} {σ : Nat → Nat → Int32} {r : Option Value} {X' : am_X} (p1 : Int32) (p2 : Int32) (p3 : Int32) (p4 : Int32) (p5 : Int32)
    (hv : ((p5 = 0) → ((¬ (p2 < 0 ∨ 21 ≤ Int32.toNatClampNeg p2)) ∧ (((p5 = 0) → ((¬ (p3 < 0 ∨ 21 ≤ Int32.toNatClampNeg p3)) ∧ ((((((σ 9 (Int32.toNatClampNeg p2)) ||| (σ 13 (Int32.toNatClampNeg p3))) &&& 1073741824) = 0) → ((((((σ 9 (Int32.toNatClampNeg p2)) &&& (σ 13 (Int32.toNatClampNeg p3))) &&& (σ 2 11)) = 0) → ((¬ (p1 < 0 ∨ 20 ≤ Int32.toNatClampNeg p1)) ∧ ((¬ (p2 < 0 ∨ 21 ≤ Int32.toNatClampNeg p2)) ∧ ((¬ (p3 < 0 ∨ 21 ≤ Int32.toNatClampNeg p3)) ∧ (∃ (σ1 : Nat → Nat → Int32), am_Go l D DA b sz d M_Box_moveTo (0, [some (.ref (19 + Int32.toNatClampNeg p1)), some (.int (σ 8 (Int32.toNatClampNeg p2))), some (.int (σ 12 (Int32.toNatClampNeg p3))), some (.int p4), some (.int p5)], [], (am_TT cu L, am_RR cu, am_us (am_us σ 2 9 (σ 9 (Int32.toNatClampNeg p2))) 2 10 (σ 13 (Int32.toNatClampNeg p3)))) none (am_TT cu L, am_RR cu, σ1) ∧ ((∃ (r2 : Int32) (σ2 : Nat → Nat → Int32), am_Go l D DA b sz d M_Hold_isHeld (0, [some (.ref 2), some (.ref (19 + Int32.toNatClampNeg p1)), none, none, none], [], (am_TT cu L, am_RR cu, σ1)) (some (.int r2)) (am_TT cu L, am_RR cu, σ2) ∧ (((r2 = 0) → (r = some (.int 0) ∧ X' = (am_TT cu L, am_RR cu, σ2))) ∧ (¬ (r2 = 0) → (∃ (r3 : Int32) (σ3 : Nat → Nat → Int32), am_Go l D DA b sz d M_Hold_isInWay (0, [some (.ref 2), some (.ref (19 + Int32.toNatClampNeg p1)), none, none, none, none, none, none], [], (am_TT cu L, am_RR cu, σ2)) (some (.int r3)) (am_TT cu L, am_RR cu, σ3) ∧ (((r3 = 0) → (∃ (r4 : Int32) (σ4 : Nat → Nat → Int32), am_Go l D DA b sz d M_Hold_touches (0, [some (.ref 2), some (.ref (19 + Int32.toNatClampNeg p1)), none, none], [], (am_TT cu L, am_RR cu, σ3)) (some (.int r4)) (am_TT cu L, am_RR cu, σ4) ∧ (((r4 = 0) → (((if (σ4 2 12) = 0 then 0 else 1 : Int32) = 0 ∨ (if (σ4 2 12) = 0 then 0 else 1 : Int32) = 1) ∧ (r = some (.int (if (σ4 2 12) = 0 then 0 else 1 : Int32)) ∧ X' = (am_TT cu L, am_RR cu, σ4)))) ∧ (¬ (r4 = 0) → (∃ (r5 : Int32) (σ5 : Nat → Nat → Int32), am_Go l D DA b sz d M_Hold_bearAll (0, [some (.ref 2), some (.int ((σ4 2 3) ||| (1 <<< (p1 &&& 31 : Int32) : Int32))), none, none, none], [], (am_TT cu L, am_RR cu, σ4)) (some (.int r5)) (am_TT cu L, am_RR cu, σ5) ∧ (((if r5 = 0 then 0 else 1 : Int32) = 0 ∨ (if r5 = 0 then 0 else 1 : Int32) = 1) ∧ (r = some (.int (if r5 = 0 then 0 else 1 : Int32)) ∧ X' = (am_TT cu L, am_RR cu, σ5)))))))) ∧ (¬ (r3 = 0) → (r = some (.int 0) ∧ X' = (am_TT cu L, am_RR cu, σ3)))))))))))))) ∧ (¬ ((((σ 9 (Int32.toNatClampNeg p2)) &&& (σ 13 (Int32.toNatClampNeg p3))) &&& (σ 2 11)) = 0) → (r = some (.int 0) ∧ X' = (am_TT cu L, am_RR cu, am_us (am_us σ 2 9 (σ 9 (Int32.toNatClampNeg p2))) 2 10 (σ 13 (Int32.toNatClampNeg p3))))))) ∧ (¬ ((((σ 9 (Int32.toNatClampNeg p2)) ||| (σ 13 (Int32.toNatClampNeg p3))) &&& 1073741824) = 0) → (r = some (.int 0) ∧ X' = (am_TT cu L, am_RR cu, am_us (am_us σ 2 9 (σ 9 (Int32.toNatClampNeg p2))) 2 10 (σ 13 (Int32.toNatClampNeg p3)))))))) ∧ (¬ (p5 = 0) → ((¬ (p3 < 0 ∨ 21 ≤ Int32.toNatClampNeg p3)) ∧ ((((((σ 9 (Int32.toNatClampNeg p2)) ||| (σ 14 (Int32.toNatClampNeg p3))) &&& 1073741824) = 0) → ((((((σ 9 (Int32.toNatClampNeg p2)) &&& (σ 14 (Int32.toNatClampNeg p3))) &&& (σ 2 11)) = 0) → ((¬ (p1 < 0 ∨ 20 ≤ Int32.toNatClampNeg p1)) ∧ ((¬ (p2 < 0 ∨ 21 ≤ Int32.toNatClampNeg p2)) ∧ ((¬ (p3 < 0 ∨ 21 ≤ Int32.toNatClampNeg p3)) ∧ (∃ (σ6 : Nat → Nat → Int32), am_Go l D DA b sz d M_Box_moveTo (0, [some (.ref (19 + Int32.toNatClampNeg p1)), some (.int (σ 8 (Int32.toNatClampNeg p2))), some (.int (σ 12 (Int32.toNatClampNeg p3))), some (.int p4), some (.int p5)], [], (am_TT cu L, am_RR cu, am_us (am_us σ 2 9 (σ 9 (Int32.toNatClampNeg p2))) 2 10 (σ 14 (Int32.toNatClampNeg p3)))) none (am_TT cu L, am_RR cu, σ6) ∧ ((∃ (r7 : Int32) (σ7 : Nat → Nat → Int32), am_Go l D DA b sz d M_Hold_isHeld (0, [some (.ref 2), some (.ref (19 + Int32.toNatClampNeg p1)), none, none, none], [], (am_TT cu L, am_RR cu, σ6)) (some (.int r7)) (am_TT cu L, am_RR cu, σ7) ∧ (((r7 = 0) → (r = some (.int 0) ∧ X' = (am_TT cu L, am_RR cu, σ7))) ∧ (¬ (r7 = 0) → (∃ (r8 : Int32) (σ8 : Nat → Nat → Int32), am_Go l D DA b sz d M_Hold_isInWay (0, [some (.ref 2), some (.ref (19 + Int32.toNatClampNeg p1)), none, none, none, none, none, none], [], (am_TT cu L, am_RR cu, σ7)) (some (.int r8)) (am_TT cu L, am_RR cu, σ8) ∧ (((r8 = 0) → (∃ (r9 : Int32) (σ9 : Nat → Nat → Int32), am_Go l D DA b sz d M_Hold_touches (0, [some (.ref 2), some (.ref (19 + Int32.toNatClampNeg p1)), none, none], [], (am_TT cu L, am_RR cu, σ8)) (some (.int r9)) (am_TT cu L, am_RR cu, σ9) ∧ (((r9 = 0) → (((if (σ9 2 12) = 0 then 0 else 1 : Int32) = 0 ∨ (if (σ9 2 12) = 0 then 0 else 1 : Int32) = 1) ∧ (r = some (.int (if (σ9 2 12) = 0 then 0 else 1 : Int32)) ∧ X' = (am_TT cu L, am_RR cu, σ9)))) ∧ (¬ (r9 = 0) → (∃ (r10 : Int32) (σ10 : Nat → Nat → Int32), am_Go l D DA b sz d M_Hold_bearAll (0, [some (.ref 2), some (.int ((σ9 2 3) ||| (1 <<< (p1 &&& 31 : Int32) : Int32))), none, none, none], [], (am_TT cu L, am_RR cu, σ9)) (some (.int r10)) (am_TT cu L, am_RR cu, σ10) ∧ (((if r10 = 0 then 0 else 1 : Int32) = 0 ∨ (if r10 = 0 then 0 else 1 : Int32) = 1) ∧ (r = some (.int (if r10 = 0 then 0 else 1 : Int32)) ∧ X' = (am_TT cu L, am_RR cu, σ10)))))))) ∧ (¬ (r8 = 0) → (r = some (.int 0) ∧ X' = (am_TT cu L, am_RR cu, σ8)))))))))))))) ∧ (¬ ((((σ 9 (Int32.toNatClampNeg p2)) &&& (σ 14 (Int32.toNatClampNeg p3))) &&& (σ 2 11)) = 0) → (r = some (.int 0) ∧ X' = (am_TT cu L, am_RR cu, am_us (am_us σ 2 9 (σ 9 (Int32.toNatClampNeg p2))) 2 10 (σ 14 (Int32.toNatClampNeg p3))))))) ∧ (¬ ((((σ 9 (Int32.toNatClampNeg p2)) ||| (σ 14 (Int32.toNatClampNeg p3))) &&& 1073741824) = 0) → (r = some (.int 0) ∧ X' = (am_TT cu L, am_RR cu, am_us (am_us σ 2 9 (σ 9 (Int32.toNatClampNeg p2))) 2 10 (σ 14 (Int32.toNatClampNeg p3))))))))))) ∧ (¬ (p5 = 0) → ((¬ (p2 < 0 ∨ 21 ≤ Int32.toNatClampNeg p2)) ∧ (((p5 = 0) → ((¬ (p3 < 0 ∨ 21 ≤ Int32.toNatClampNeg p3)) ∧ ((((((σ 10 (Int32.toNatClampNeg p2)) ||| (σ 13 (Int32.toNatClampNeg p3))) &&& 1073741824) = 0) → ((((((σ 10 (Int32.toNatClampNeg p2)) &&& (σ 13 (Int32.toNatClampNeg p3))) &&& (σ 2 11)) = 0) → ((¬ (p1 < 0 ∨ 20 ≤ Int32.toNatClampNeg p1)) ∧ ((¬ (p2 < 0 ∨ 21 ≤ Int32.toNatClampNeg p2)) ∧ ((¬ (p3 < 0 ∨ 21 ≤ Int32.toNatClampNeg p3)) ∧ (∃ (σ11 : Nat → Nat → Int32), am_Go l D DA b sz d M_Box_moveTo (0, [some (.ref (19 + Int32.toNatClampNeg p1)), some (.int (σ 8 (Int32.toNatClampNeg p2))), some (.int (σ 12 (Int32.toNatClampNeg p3))), some (.int p4), some (.int p5)], [], (am_TT cu L, am_RR cu, am_us (am_us σ 2 9 (σ 10 (Int32.toNatClampNeg p2))) 2 10 (σ 13 (Int32.toNatClampNeg p3)))) none (am_TT cu L, am_RR cu, σ11) ∧ ((∃ (r12 : Int32) (σ12 : Nat → Nat → Int32), am_Go l D DA b sz d M_Hold_isHeld (0, [some (.ref 2), some (.ref (19 + Int32.toNatClampNeg p1)), none, none, none], [], (am_TT cu L, am_RR cu, σ11)) (some (.int r12)) (am_TT cu L, am_RR cu, σ12) ∧ (((r12 = 0) → (r = some (.int 0) ∧ X' = (am_TT cu L, am_RR cu, σ12))) ∧ (¬ (r12 = 0) → (∃ (r13 : Int32) (σ13 : Nat → Nat → Int32), am_Go l D DA b sz d M_Hold_isInWay (0, [some (.ref 2), some (.ref (19 + Int32.toNatClampNeg p1)), none, none, none, none, none, none], [], (am_TT cu L, am_RR cu, σ12)) (some (.int r13)) (am_TT cu L, am_RR cu, σ13) ∧ (((r13 = 0) → (∃ (r14 : Int32) (σ14 : Nat → Nat → Int32), am_Go l D DA b sz d M_Hold_touches (0, [some (.ref 2), some (.ref (19 + Int32.toNatClampNeg p1)), none, none], [], (am_TT cu L, am_RR cu, σ13)) (some (.int r14)) (am_TT cu L, am_RR cu, σ14) ∧ (((r14 = 0) → (((if (σ14 2 12) = 0 then 0 else 1 : Int32) = 0 ∨ (if (σ14 2 12) = 0 then 0 else 1 : Int32) = 1) ∧ (r = some (.int (if (σ14 2 12) = 0 then 0 else 1 : Int32)) ∧ X' = (am_TT cu L, am_RR cu, σ14)))) ∧ (¬ (r14 = 0) → (∃ (r15 : Int32) (σ15 : Nat → Nat → Int32), am_Go l D DA b sz d M_Hold_bearAll (0, [some (.ref 2), some (.int ((σ14 2 3) ||| (1 <<< (p1 &&& 31 : Int32) : Int32))), none, none, none], [], (am_TT cu L, am_RR cu, σ14)) (some (.int r15)) (am_TT cu L, am_RR cu, σ15) ∧ (((if r15 = 0 then 0 else 1 : Int32) = 0 ∨ (if r15 = 0 then 0 else 1 : Int32) = 1) ∧ (r = some (.int (if r15 = 0 then 0 else 1 : Int32)) ∧ X' = (am_TT cu L, am_RR cu, σ15)))))))) ∧ (¬ (r13 = 0) → (r = some (.int 0) ∧ X' = (am_TT cu L, am_RR cu, σ13)))))))))))))) ∧ (¬ ((((σ 10 (Int32.toNatClampNeg p2)) &&& (σ 13 (Int32.toNatClampNeg p3))) &&& (σ 2 11)) = 0) → (r = some (.int 0) ∧ X' = (am_TT cu L, am_RR cu, am_us (am_us σ 2 9 (σ 10 (Int32.toNatClampNeg p2))) 2 10 (σ 13 (Int32.toNatClampNeg p3))))))) ∧ (¬ ((((σ 10 (Int32.toNatClampNeg p2)) ||| (σ 13 (Int32.toNatClampNeg p3))) &&& 1073741824) = 0) → (r = some (.int 0) ∧ X' = (am_TT cu L, am_RR cu, am_us (am_us σ 2 9 (σ 10 (Int32.toNatClampNeg p2))) 2 10 (σ 13 (Int32.toNatClampNeg p3)))))))) ∧ (¬ (p5 = 0) → ((¬ (p3 < 0 ∨ 21 ≤ Int32.toNatClampNeg p3)) ∧ ((((((σ 10 (Int32.toNatClampNeg p2)) ||| (σ 14 (Int32.toNatClampNeg p3))) &&& 1073741824) = 0) → ((((((σ 10 (Int32.toNatClampNeg p2)) &&& (σ 14 (Int32.toNatClampNeg p3))) &&& (σ 2 11)) = 0) → ((¬ (p1 < 0 ∨ 20 ≤ Int32.toNatClampNeg p1)) ∧ ((¬ (p2 < 0 ∨ 21 ≤ Int32.toNatClampNeg p2)) ∧ ((¬ (p3 < 0 ∨ 21 ≤ Int32.toNatClampNeg p3)) ∧ (∃ (σ16 : Nat → Nat → Int32), am_Go l D DA b sz d M_Box_moveTo (0, [some (.ref (19 + Int32.toNatClampNeg p1)), some (.int (σ 8 (Int32.toNatClampNeg p2))), some (.int (σ 12 (Int32.toNatClampNeg p3))), some (.int p4), some (.int p5)], [], (am_TT cu L, am_RR cu, am_us (am_us σ 2 9 (σ 10 (Int32.toNatClampNeg p2))) 2 10 (σ 14 (Int32.toNatClampNeg p3)))) none (am_TT cu L, am_RR cu, σ16) ∧ ((∃ (r17 : Int32) (σ17 : Nat → Nat → Int32), am_Go l D DA b sz d M_Hold_isHeld (0, [some (.ref 2), some (.ref (19 + Int32.toNatClampNeg p1)), none, none, none], [], (am_TT cu L, am_RR cu, σ16)) (some (.int r17)) (am_TT cu L, am_RR cu, σ17) ∧ (((r17 = 0) → (r = some (.int 0) ∧ X' = (am_TT cu L, am_RR cu, σ17))) ∧ (¬ (r17 = 0) → (∃ (r18 : Int32) (σ18 : Nat → Nat → Int32), am_Go l D DA b sz d M_Hold_isInWay (0, [some (.ref 2), some (.ref (19 + Int32.toNatClampNeg p1)), none, none, none, none, none, none], [], (am_TT cu L, am_RR cu, σ17)) (some (.int r18)) (am_TT cu L, am_RR cu, σ18) ∧ (((r18 = 0) → (∃ (r19 : Int32) (σ19 : Nat → Nat → Int32), am_Go l D DA b sz d M_Hold_touches (0, [some (.ref 2), some (.ref (19 + Int32.toNatClampNeg p1)), none, none], [], (am_TT cu L, am_RR cu, σ18)) (some (.int r19)) (am_TT cu L, am_RR cu, σ19) ∧ (((r19 = 0) → (((if (σ19 2 12) = 0 then 0 else 1 : Int32) = 0 ∨ (if (σ19 2 12) = 0 then 0 else 1 : Int32) = 1) ∧ (r = some (.int (if (σ19 2 12) = 0 then 0 else 1 : Int32)) ∧ X' = (am_TT cu L, am_RR cu, σ19)))) ∧ (¬ (r19 = 0) → (∃ (r20 : Int32) (σ20 : Nat → Nat → Int32), am_Go l D DA b sz d M_Hold_bearAll (0, [some (.ref 2), some (.int ((σ19 2 3) ||| (1 <<< (p1 &&& 31 : Int32) : Int32))), none, none, none], [], (am_TT cu L, am_RR cu, σ19)) (some (.int r20)) (am_TT cu L, am_RR cu, σ20) ∧ (((if r20 = 0 then 0 else 1 : Int32) = 0 ∨ (if r20 = 0 then 0 else 1 : Int32) = 1) ∧ (r = some (.int (if r20 = 0 then 0 else 1 : Int32)) ∧ X' = (am_TT cu L, am_RR cu, σ20)))))))) ∧ (¬ (r18 = 0) → (r = some (.int 0) ∧ X' = (am_TT cu L, am_RR cu, σ18)))))))))))))) ∧ (¬ ((((σ 10 (Int32.toNatClampNeg p2)) &&& (σ 14 (Int32.toNatClampNeg p3))) &&& (σ 2 11)) = 0) → (r = some (.int 0) ∧ X' = (am_TT cu L, am_RR cu, am_us (am_us σ 2 9 (σ 10 (Int32.toNatClampNeg p2))) 2 10 (σ 14 (Int32.toNatClampNeg p3))))))) ∧ (¬ ((((σ 10 (Int32.toNatClampNeg p2)) ||| (σ 14 (Int32.toNatClampNeg p3))) &&& 1073741824) = 0) → (r = some (.int 0) ∧ X' = (am_TT cu L, am_RR cu, am_us (am_us σ 2 9 (σ 10 (Int32.toNatClampNeg p2))) 2 10 (σ 14 (Int32.toNatClampNeg p3)))))))))))) :
    am_Go l D DA b sz (d + 1) M_Hold_isFree (0, [some (.ref 2), some (.int p1), some (.int p2), some (.int p3), some (.int p4), some (.int p5), none], [], (am_TT cu L, am_RR cu, σ)) r X' := by
  refine go_steps q_Hold_isFree kc_Hold_isFree 3 rfl ?_
  refine go_if (fun hb => ?_) (fun hb => ?_)
  · have hb : p5 = 0 := hb
    replace hv := hv.1 hb
    refine go_steps q_Hold_isFree kc_Hold_isFree 4 rfl ?_
    obtain ⟨hc1, hv⟩ := hv
    refine go_iaload q_Hold_isFree kc_Hold_isFree rfl rfl hc1 ?_
    refine go_steps q_Hold_isFree kc_Hold_isFree 4 rfl ?_
    refine go_if (fun hb => ?_) (fun hb => ?_)
    · have hb : p5 = 0 := hb
      replace hv := hv.1 hb
      refine go_steps q_Hold_isFree kc_Hold_isFree 4 rfl ?_
      obtain ⟨hc2, hv⟩ := hv
      refine go_iaload q_Hold_isFree kc_Hold_isFree rfl rfl hc2 ?_
      refine go_steps q_Hold_isFree kc_Hold_isFree 9 rfl ?_
      refine go_if (fun hb => ?_) (fun hb => ?_)
      · have hb : (((σ 9 (Int32.toNatClampNeg p2)) ||| (σ 13 (Int32.toNatClampNeg p3))) &&& 1073741824) = 0 := hb
        replace hv := hv.1 hb
        refine go_steps q_Hold_isFree kc_Hold_isFree 9 rfl ?_
        refine go_if (fun hb => ?_) (fun hb => ?_)
        · have hb : (((σ 9 (Int32.toNatClampNeg p2)) &&& (σ 13 (Int32.toNatClampNeg p3))) &&& (σ 2 11)) = 0 := hb
          replace hv := hv.1 hb
          refine go_steps q_Hold_isFree kc_Hold_isFree 3 rfl ?_
          obtain ⟨hc3, hv⟩ := hv
          refine go_aaload q_Hold_isFree kc_Hold_isFree rfl rfl hc3 (am_rr4 (am_inb hc3)) ?_
          refine go_steps q_Hold_isFree kc_Hold_isFree 6 rfl ?_
          obtain ⟨hc4, hv⟩ := hv
          refine go_iaload q_Hold_isFree kc_Hold_isFree rfl rfl hc4 ?_
          refine go_steps q_Hold_isFree kc_Hold_isFree 4 rfl ?_
          obtain ⟨hc5, hv⟩ := hv
          refine go_iaload q_Hold_isFree kc_Hold_isFree rfl rfl hc5 ?_
          refine go_steps q_Hold_isFree kc_Hold_isFree 2 rfl ?_
          obtain ⟨σ1, hg, hv⟩ := hv
          refine go_callV q_Hold_isFree kc_Hold_isFree rfl q_Box_moveTo am_k20 ⟨rfl, rfl, by decide⟩ rfl rfl (Nat.le_of_ble_eq_true rfl) (Nat.le_of_ble_eq_true rfl) rfl (am_tt_box (am_inb hc3)) hg ?_
          refine go_steps q_Hold_isFree kc_Hold_isFree 2 rfl ?_
          obtain ⟨r2, σ2, hg, hv⟩ := hv
          refine go_callV q_Hold_isFree kc_Hold_isFree rfl q_Hold_isHeld am_k26 ⟨rfl, rfl, by decide⟩ rfl rfl (Nat.le_of_ble_eq_true rfl) (Nat.le_of_ble_eq_true rfl) rfl rfl hg ?_
          refine go_steps q_Hold_isFree kc_Hold_isFree 1 rfl ?_
          refine go_if (fun hb => ?_) (fun hb => ?_)
          · have hb : r2 = 0 := hb
            replace hv := hv.1 hb
            refine go_steps q_Hold_isFree kc_Hold_isFree 1 rfl ?_
            obtain ⟨rfl, rfl⟩ := hv
            exact go_retI q_Hold_isFree kc_Hold_isFree rfl rfl rfl
          · have hb : ¬ (r2 = 0) := hb
            replace hv := hv.2 hb
            refine go_steps q_Hold_isFree kc_Hold_isFree 2 rfl ?_
            obtain ⟨r3, σ3, hg, hv⟩ := hv
            refine go_callV q_Hold_isFree kc_Hold_isFree rfl q_Hold_isInWay am_k31 ⟨rfl, rfl, by decide⟩ rfl rfl (Nat.le_of_ble_eq_true rfl) (Nat.le_of_ble_eq_true rfl) rfl rfl hg ?_
            refine go_steps q_Hold_isFree kc_Hold_isFree 1 rfl ?_
            refine go_if (fun hb => ?_) (fun hb => ?_)
            · have hb : r3 = 0 := hb
              replace hv := hv.1 hb
              refine go_steps q_Hold_isFree kc_Hold_isFree 2 rfl ?_
              obtain ⟨r4, σ4, hg, hv⟩ := hv
              refine go_callV q_Hold_isFree kc_Hold_isFree rfl q_Hold_touches am_k41 ⟨rfl, rfl, by decide⟩ rfl rfl (Nat.le_of_ble_eq_true rfl) (Nat.le_of_ble_eq_true rfl) rfl rfl hg ?_
              refine go_steps q_Hold_isFree kc_Hold_isFree 1 rfl ?_
              refine go_if (fun hb => ?_) (fun hb => ?_)
              · have hb : r4 = 0 := hb
                replace hv := hv.1 hb
                refine go_steps q_Hold_isFree kc_Hold_isFree 3 rfl ?_
                have key : am_Go l D DA b sz (d + 1) M_Hold_isFree (186, [some (.ref 2), some (.int p1), some (.int p2), some (.int p3), some (.int p4), some (.int p5), some (.ref (19 + Int32.toNatClampNeg p1))], [.int (if (σ4 2 12) = 0 then 0 else 1 : Int32)], (am_TT cu L, am_RR cu, σ4)) r X' := by
                  obtain ⟨hc, rfl, rfl⟩ := hv
                  exact go_retI q_Hold_isFree kc_Hold_isFree rfl rfl (am_nar hc)
                refine go_if (fun hb => ?_) (fun hb => ?_)
                · have hb : (σ4 2 12) = 0 := hb
                  rw [show (if (σ4 2 12) = 0 then 0 else 1 : Int32) = 0 from if_pos hb] at key
                  refine go_steps q_Hold_isFree kc_Hold_isFree 1 rfl ?_
                  exact key
                · have hb : ¬ ((σ4 2 12) = 0) := hb
                  rw [show (if (σ4 2 12) = 0 then 0 else 1 : Int32) = 1 from if_neg hb] at key
                  refine go_steps q_Hold_isFree kc_Hold_isFree 2 rfl ?_
                  exact key
              · have hb : ¬ (r4 = 0) := hb
                replace hv := hv.2 hb
                refine go_steps q_Hold_isFree kc_Hold_isFree 7 rfl ?_
                obtain ⟨r5, σ5, hg, hv⟩ := hv
                refine go_callV q_Hold_isFree kc_Hold_isFree rfl q_Hold_bearAll am_k28 ⟨rfl, rfl, by decide⟩ rfl rfl (Nat.le_of_ble_eq_true rfl) (Nat.le_of_ble_eq_true rfl) rfl rfl hg ?_
                refine go_steps q_Hold_isFree kc_Hold_isFree 1 rfl ?_
                have key : am_Go l D DA b sz (d + 1) M_Hold_isFree (186, [some (.ref 2), some (.int p1), some (.int p2), some (.int p3), some (.int p4), some (.int p5), some (.ref (19 + Int32.toNatClampNeg p1))], [.int (if r5 = 0 then 0 else 1 : Int32)], (am_TT cu L, am_RR cu, σ5)) r X' := by
                  obtain ⟨hc, rfl, rfl⟩ := hv
                  exact go_retI q_Hold_isFree kc_Hold_isFree rfl rfl (am_nar hc)
                refine go_if (fun hb => ?_) (fun hb => ?_)
                · have hb : r5 = 0 := hb
                  rw [show (if r5 = 0 then 0 else 1 : Int32) = 0 from if_pos hb] at key
                  refine go_steps q_Hold_isFree kc_Hold_isFree 1 rfl ?_
                  exact key
                · have hb : ¬ (r5 = 0) := hb
                  rw [show (if r5 = 0 then 0 else 1 : Int32) = 1 from if_neg hb] at key
                  refine go_steps q_Hold_isFree kc_Hold_isFree 3 rfl ?_
                  exact key
            · have hb : ¬ (r3 = 0) := hb
              replace hv := hv.2 hb
              refine go_steps q_Hold_isFree kc_Hold_isFree 1 rfl ?_
              obtain ⟨rfl, rfl⟩ := hv
              exact go_retI q_Hold_isFree kc_Hold_isFree rfl rfl rfl
        · have hb : ¬ ((((σ 9 (Int32.toNatClampNeg p2)) &&& (σ 13 (Int32.toNatClampNeg p3))) &&& (σ 2 11)) = 0) := hb
          replace hv := hv.2 hb
          refine go_steps q_Hold_isFree kc_Hold_isFree 1 rfl ?_
          obtain ⟨rfl, rfl⟩ := hv
          exact go_retI q_Hold_isFree kc_Hold_isFree rfl rfl rfl
      · have hb : ¬ ((((σ 9 (Int32.toNatClampNeg p2)) ||| (σ 13 (Int32.toNatClampNeg p3))) &&& 1073741824) = 0) := hb
        replace hv := hv.2 hb
        refine go_steps q_Hold_isFree kc_Hold_isFree 1 rfl ?_
        obtain ⟨rfl, rfl⟩ := hv
        exact go_retI q_Hold_isFree kc_Hold_isFree rfl rfl rfl
    · have hb : ¬ (p5 = 0) := hb
      replace hv := hv.2 hb
      refine go_steps q_Hold_isFree kc_Hold_isFree 4 rfl ?_
      obtain ⟨hc6, hv⟩ := hv
      refine go_iaload q_Hold_isFree kc_Hold_isFree rfl rfl hc6 ?_
      refine go_steps q_Hold_isFree kc_Hold_isFree 10 rfl ?_
      refine go_if (fun hb => ?_) (fun hb => ?_)
      · have hb : (((σ 9 (Int32.toNatClampNeg p2)) ||| (σ 14 (Int32.toNatClampNeg p3))) &&& 1073741824) = 0 := hb
        replace hv := hv.1 hb
        refine go_steps q_Hold_isFree kc_Hold_isFree 9 rfl ?_
        refine go_if (fun hb => ?_) (fun hb => ?_)
        · have hb : (((σ 9 (Int32.toNatClampNeg p2)) &&& (σ 14 (Int32.toNatClampNeg p3))) &&& (σ 2 11)) = 0 := hb
          replace hv := hv.1 hb
          refine go_steps q_Hold_isFree kc_Hold_isFree 3 rfl ?_
          obtain ⟨hc7, hv⟩ := hv
          refine go_aaload q_Hold_isFree kc_Hold_isFree rfl rfl hc7 (am_rr4 (am_inb hc7)) ?_
          refine go_steps q_Hold_isFree kc_Hold_isFree 6 rfl ?_
          obtain ⟨hc8, hv⟩ := hv
          refine go_iaload q_Hold_isFree kc_Hold_isFree rfl rfl hc8 ?_
          refine go_steps q_Hold_isFree kc_Hold_isFree 4 rfl ?_
          obtain ⟨hc9, hv⟩ := hv
          refine go_iaload q_Hold_isFree kc_Hold_isFree rfl rfl hc9 ?_
          refine go_steps q_Hold_isFree kc_Hold_isFree 2 rfl ?_
          obtain ⟨σ6, hg, hv⟩ := hv
          refine go_callV q_Hold_isFree kc_Hold_isFree rfl q_Box_moveTo am_k20 ⟨rfl, rfl, by decide⟩ rfl rfl (Nat.le_of_ble_eq_true rfl) (Nat.le_of_ble_eq_true rfl) rfl (am_tt_box (am_inb hc7)) hg ?_
          refine go_steps q_Hold_isFree kc_Hold_isFree 2 rfl ?_
          obtain ⟨r7, σ7, hg, hv⟩ := hv
          refine go_callV q_Hold_isFree kc_Hold_isFree rfl q_Hold_isHeld am_k26 ⟨rfl, rfl, by decide⟩ rfl rfl (Nat.le_of_ble_eq_true rfl) (Nat.le_of_ble_eq_true rfl) rfl rfl hg ?_
          refine go_steps q_Hold_isFree kc_Hold_isFree 1 rfl ?_
          refine go_if (fun hb => ?_) (fun hb => ?_)
          · have hb : r7 = 0 := hb
            replace hv := hv.1 hb
            refine go_steps q_Hold_isFree kc_Hold_isFree 1 rfl ?_
            obtain ⟨rfl, rfl⟩ := hv
            exact go_retI q_Hold_isFree kc_Hold_isFree rfl rfl rfl
          · have hb : ¬ (r7 = 0) := hb
            replace hv := hv.2 hb
            refine go_steps q_Hold_isFree kc_Hold_isFree 2 rfl ?_
            obtain ⟨r8, σ8, hg, hv⟩ := hv
            refine go_callV q_Hold_isFree kc_Hold_isFree rfl q_Hold_isInWay am_k31 ⟨rfl, rfl, by decide⟩ rfl rfl (Nat.le_of_ble_eq_true rfl) (Nat.le_of_ble_eq_true rfl) rfl rfl hg ?_
            refine go_steps q_Hold_isFree kc_Hold_isFree 1 rfl ?_
            refine go_if (fun hb => ?_) (fun hb => ?_)
            · have hb : r8 = 0 := hb
              replace hv := hv.1 hb
              refine go_steps q_Hold_isFree kc_Hold_isFree 2 rfl ?_
              obtain ⟨r9, σ9, hg, hv⟩ := hv
              refine go_callV q_Hold_isFree kc_Hold_isFree rfl q_Hold_touches am_k41 ⟨rfl, rfl, by decide⟩ rfl rfl (Nat.le_of_ble_eq_true rfl) (Nat.le_of_ble_eq_true rfl) rfl rfl hg ?_
              refine go_steps q_Hold_isFree kc_Hold_isFree 1 rfl ?_
              refine go_if (fun hb => ?_) (fun hb => ?_)
              · have hb : r9 = 0 := hb
                replace hv := hv.1 hb
                refine go_steps q_Hold_isFree kc_Hold_isFree 3 rfl ?_
                have key : am_Go l D DA b sz (d + 1) M_Hold_isFree (186, [some (.ref 2), some (.int p1), some (.int p2), some (.int p3), some (.int p4), some (.int p5), some (.ref (19 + Int32.toNatClampNeg p1))], [.int (if (σ9 2 12) = 0 then 0 else 1 : Int32)], (am_TT cu L, am_RR cu, σ9)) r X' := by
                  obtain ⟨hc, rfl, rfl⟩ := hv
                  exact go_retI q_Hold_isFree kc_Hold_isFree rfl rfl (am_nar hc)
                refine go_if (fun hb => ?_) (fun hb => ?_)
                · have hb : (σ9 2 12) = 0 := hb
                  rw [show (if (σ9 2 12) = 0 then 0 else 1 : Int32) = 0 from if_pos hb] at key
                  refine go_steps q_Hold_isFree kc_Hold_isFree 1 rfl ?_
                  exact key
                · have hb : ¬ ((σ9 2 12) = 0) := hb
                  rw [show (if (σ9 2 12) = 0 then 0 else 1 : Int32) = 1 from if_neg hb] at key
                  refine go_steps q_Hold_isFree kc_Hold_isFree 2 rfl ?_
                  exact key
              · have hb : ¬ (r9 = 0) := hb
                replace hv := hv.2 hb
                refine go_steps q_Hold_isFree kc_Hold_isFree 7 rfl ?_
                obtain ⟨r10, σ10, hg, hv⟩ := hv
                refine go_callV q_Hold_isFree kc_Hold_isFree rfl q_Hold_bearAll am_k28 ⟨rfl, rfl, by decide⟩ rfl rfl (Nat.le_of_ble_eq_true rfl) (Nat.le_of_ble_eq_true rfl) rfl rfl hg ?_
                refine go_steps q_Hold_isFree kc_Hold_isFree 1 rfl ?_
                have key : am_Go l D DA b sz (d + 1) M_Hold_isFree (186, [some (.ref 2), some (.int p1), some (.int p2), some (.int p3), some (.int p4), some (.int p5), some (.ref (19 + Int32.toNatClampNeg p1))], [.int (if r10 = 0 then 0 else 1 : Int32)], (am_TT cu L, am_RR cu, σ10)) r X' := by
                  obtain ⟨hc, rfl, rfl⟩ := hv
                  exact go_retI q_Hold_isFree kc_Hold_isFree rfl rfl (am_nar hc)
                refine go_if (fun hb => ?_) (fun hb => ?_)
                · have hb : r10 = 0 := hb
                  rw [show (if r10 = 0 then 0 else 1 : Int32) = 0 from if_pos hb] at key
                  refine go_steps q_Hold_isFree kc_Hold_isFree 1 rfl ?_
                  exact key
                · have hb : ¬ (r10 = 0) := hb
                  rw [show (if r10 = 0 then 0 else 1 : Int32) = 1 from if_neg hb] at key
                  refine go_steps q_Hold_isFree kc_Hold_isFree 3 rfl ?_
                  exact key
            · have hb : ¬ (r8 = 0) := hb
              replace hv := hv.2 hb
              refine go_steps q_Hold_isFree kc_Hold_isFree 1 rfl ?_
              obtain ⟨rfl, rfl⟩ := hv
              exact go_retI q_Hold_isFree kc_Hold_isFree rfl rfl rfl
        · have hb : ¬ ((((σ 9 (Int32.toNatClampNeg p2)) &&& (σ 14 (Int32.toNatClampNeg p3))) &&& (σ 2 11)) = 0) := hb
          replace hv := hv.2 hb
          refine go_steps q_Hold_isFree kc_Hold_isFree 1 rfl ?_
          obtain ⟨rfl, rfl⟩ := hv
          exact go_retI q_Hold_isFree kc_Hold_isFree rfl rfl rfl
      · have hb : ¬ ((((σ 9 (Int32.toNatClampNeg p2)) ||| (σ 14 (Int32.toNatClampNeg p3))) &&& 1073741824) = 0) := hb
        replace hv := hv.2 hb
        refine go_steps q_Hold_isFree kc_Hold_isFree 1 rfl ?_
        obtain ⟨rfl, rfl⟩ := hv
        exact go_retI q_Hold_isFree kc_Hold_isFree rfl rfl rfl
  · have hb : ¬ (p5 = 0) := hb
    replace hv := hv.2 hb
    refine go_steps q_Hold_isFree kc_Hold_isFree 4 rfl ?_
    obtain ⟨hc10, hv⟩ := hv
    refine go_iaload q_Hold_isFree kc_Hold_isFree rfl rfl hc10 ?_
    refine go_steps q_Hold_isFree kc_Hold_isFree 5 rfl ?_
    refine go_if (fun hb => ?_) (fun hb => ?_)
    · have hb : p5 = 0 := hb
      replace hv := hv.1 hb
      refine go_steps q_Hold_isFree kc_Hold_isFree 4 rfl ?_
      obtain ⟨hc11, hv⟩ := hv
      refine go_iaload q_Hold_isFree kc_Hold_isFree rfl rfl hc11 ?_
      refine go_steps q_Hold_isFree kc_Hold_isFree 9 rfl ?_
      refine go_if (fun hb => ?_) (fun hb => ?_)
      · have hb : (((σ 10 (Int32.toNatClampNeg p2)) ||| (σ 13 (Int32.toNatClampNeg p3))) &&& 1073741824) = 0 := hb
        replace hv := hv.1 hb
        refine go_steps q_Hold_isFree kc_Hold_isFree 9 rfl ?_
        refine go_if (fun hb => ?_) (fun hb => ?_)
        · have hb : (((σ 10 (Int32.toNatClampNeg p2)) &&& (σ 13 (Int32.toNatClampNeg p3))) &&& (σ 2 11)) = 0 := hb
          replace hv := hv.1 hb
          refine go_steps q_Hold_isFree kc_Hold_isFree 3 rfl ?_
          obtain ⟨hc12, hv⟩ := hv
          refine go_aaload q_Hold_isFree kc_Hold_isFree rfl rfl hc12 (am_rr4 (am_inb hc12)) ?_
          refine go_steps q_Hold_isFree kc_Hold_isFree 6 rfl ?_
          obtain ⟨hc13, hv⟩ := hv
          refine go_iaload q_Hold_isFree kc_Hold_isFree rfl rfl hc13 ?_
          refine go_steps q_Hold_isFree kc_Hold_isFree 4 rfl ?_
          obtain ⟨hc14, hv⟩ := hv
          refine go_iaload q_Hold_isFree kc_Hold_isFree rfl rfl hc14 ?_
          refine go_steps q_Hold_isFree kc_Hold_isFree 2 rfl ?_
          obtain ⟨σ11, hg, hv⟩ := hv
          refine go_callV q_Hold_isFree kc_Hold_isFree rfl q_Box_moveTo am_k20 ⟨rfl, rfl, by decide⟩ rfl rfl (Nat.le_of_ble_eq_true rfl) (Nat.le_of_ble_eq_true rfl) rfl (am_tt_box (am_inb hc12)) hg ?_
          refine go_steps q_Hold_isFree kc_Hold_isFree 2 rfl ?_
          obtain ⟨r12, σ12, hg, hv⟩ := hv
          refine go_callV q_Hold_isFree kc_Hold_isFree rfl q_Hold_isHeld am_k26 ⟨rfl, rfl, by decide⟩ rfl rfl (Nat.le_of_ble_eq_true rfl) (Nat.le_of_ble_eq_true rfl) rfl rfl hg ?_
          refine go_steps q_Hold_isFree kc_Hold_isFree 1 rfl ?_
          refine go_if (fun hb => ?_) (fun hb => ?_)
          · have hb : r12 = 0 := hb
            replace hv := hv.1 hb
            refine go_steps q_Hold_isFree kc_Hold_isFree 1 rfl ?_
            obtain ⟨rfl, rfl⟩ := hv
            exact go_retI q_Hold_isFree kc_Hold_isFree rfl rfl rfl
          · have hb : ¬ (r12 = 0) := hb
            replace hv := hv.2 hb
            refine go_steps q_Hold_isFree kc_Hold_isFree 2 rfl ?_
            obtain ⟨r13, σ13, hg, hv⟩ := hv
            refine go_callV q_Hold_isFree kc_Hold_isFree rfl q_Hold_isInWay am_k31 ⟨rfl, rfl, by decide⟩ rfl rfl (Nat.le_of_ble_eq_true rfl) (Nat.le_of_ble_eq_true rfl) rfl rfl hg ?_
            refine go_steps q_Hold_isFree kc_Hold_isFree 1 rfl ?_
            refine go_if (fun hb => ?_) (fun hb => ?_)
            · have hb : r13 = 0 := hb
              replace hv := hv.1 hb
              refine go_steps q_Hold_isFree kc_Hold_isFree 2 rfl ?_
              obtain ⟨r14, σ14, hg, hv⟩ := hv
              refine go_callV q_Hold_isFree kc_Hold_isFree rfl q_Hold_touches am_k41 ⟨rfl, rfl, by decide⟩ rfl rfl (Nat.le_of_ble_eq_true rfl) (Nat.le_of_ble_eq_true rfl) rfl rfl hg ?_
              refine go_steps q_Hold_isFree kc_Hold_isFree 1 rfl ?_
              refine go_if (fun hb => ?_) (fun hb => ?_)
              · have hb : r14 = 0 := hb
                replace hv := hv.1 hb
                refine go_steps q_Hold_isFree kc_Hold_isFree 3 rfl ?_
                have key : am_Go l D DA b sz (d + 1) M_Hold_isFree (186, [some (.ref 2), some (.int p1), some (.int p2), some (.int p3), some (.int p4), some (.int p5), some (.ref (19 + Int32.toNatClampNeg p1))], [.int (if (σ14 2 12) = 0 then 0 else 1 : Int32)], (am_TT cu L, am_RR cu, σ14)) r X' := by
                  obtain ⟨hc, rfl, rfl⟩ := hv
                  exact go_retI q_Hold_isFree kc_Hold_isFree rfl rfl (am_nar hc)
                refine go_if (fun hb => ?_) (fun hb => ?_)
                · have hb : (σ14 2 12) = 0 := hb
                  rw [show (if (σ14 2 12) = 0 then 0 else 1 : Int32) = 0 from if_pos hb] at key
                  refine go_steps q_Hold_isFree kc_Hold_isFree 1 rfl ?_
                  exact key
                · have hb : ¬ ((σ14 2 12) = 0) := hb
                  rw [show (if (σ14 2 12) = 0 then 0 else 1 : Int32) = 1 from if_neg hb] at key
                  refine go_steps q_Hold_isFree kc_Hold_isFree 2 rfl ?_
                  exact key
              · have hb : ¬ (r14 = 0) := hb
                replace hv := hv.2 hb
                refine go_steps q_Hold_isFree kc_Hold_isFree 7 rfl ?_
                obtain ⟨r15, σ15, hg, hv⟩ := hv
                refine go_callV q_Hold_isFree kc_Hold_isFree rfl q_Hold_bearAll am_k28 ⟨rfl, rfl, by decide⟩ rfl rfl (Nat.le_of_ble_eq_true rfl) (Nat.le_of_ble_eq_true rfl) rfl rfl hg ?_
                refine go_steps q_Hold_isFree kc_Hold_isFree 1 rfl ?_
                have key : am_Go l D DA b sz (d + 1) M_Hold_isFree (186, [some (.ref 2), some (.int p1), some (.int p2), some (.int p3), some (.int p4), some (.int p5), some (.ref (19 + Int32.toNatClampNeg p1))], [.int (if r15 = 0 then 0 else 1 : Int32)], (am_TT cu L, am_RR cu, σ15)) r X' := by
                  obtain ⟨hc, rfl, rfl⟩ := hv
                  exact go_retI q_Hold_isFree kc_Hold_isFree rfl rfl (am_nar hc)
                refine go_if (fun hb => ?_) (fun hb => ?_)
                · have hb : r15 = 0 := hb
                  rw [show (if r15 = 0 then 0 else 1 : Int32) = 0 from if_pos hb] at key
                  refine go_steps q_Hold_isFree kc_Hold_isFree 1 rfl ?_
                  exact key
                · have hb : ¬ (r15 = 0) := hb
                  rw [show (if r15 = 0 then 0 else 1 : Int32) = 1 from if_neg hb] at key
                  refine go_steps q_Hold_isFree kc_Hold_isFree 3 rfl ?_
                  exact key
            · have hb : ¬ (r13 = 0) := hb
              replace hv := hv.2 hb
              refine go_steps q_Hold_isFree kc_Hold_isFree 1 rfl ?_
              obtain ⟨rfl, rfl⟩ := hv
              exact go_retI q_Hold_isFree kc_Hold_isFree rfl rfl rfl
        · have hb : ¬ ((((σ 10 (Int32.toNatClampNeg p2)) &&& (σ 13 (Int32.toNatClampNeg p3))) &&& (σ 2 11)) = 0) := hb
          replace hv := hv.2 hb
          refine go_steps q_Hold_isFree kc_Hold_isFree 1 rfl ?_
          obtain ⟨rfl, rfl⟩ := hv
          exact go_retI q_Hold_isFree kc_Hold_isFree rfl rfl rfl
      · have hb : ¬ ((((σ 10 (Int32.toNatClampNeg p2)) ||| (σ 13 (Int32.toNatClampNeg p3))) &&& 1073741824) = 0) := hb
        replace hv := hv.2 hb
        refine go_steps q_Hold_isFree kc_Hold_isFree 1 rfl ?_
        obtain ⟨rfl, rfl⟩ := hv
        exact go_retI q_Hold_isFree kc_Hold_isFree rfl rfl rfl
    · have hb : ¬ (p5 = 0) := hb
      replace hv := hv.2 hb
      refine go_steps q_Hold_isFree kc_Hold_isFree 4 rfl ?_
      obtain ⟨hc15, hv⟩ := hv
      refine go_iaload q_Hold_isFree kc_Hold_isFree rfl rfl hc15 ?_
      refine go_steps q_Hold_isFree kc_Hold_isFree 10 rfl ?_
      refine go_if (fun hb => ?_) (fun hb => ?_)
      · have hb : (((σ 10 (Int32.toNatClampNeg p2)) ||| (σ 14 (Int32.toNatClampNeg p3))) &&& 1073741824) = 0 := hb
        replace hv := hv.1 hb
        refine go_steps q_Hold_isFree kc_Hold_isFree 9 rfl ?_
        refine go_if (fun hb => ?_) (fun hb => ?_)
        · have hb : (((σ 10 (Int32.toNatClampNeg p2)) &&& (σ 14 (Int32.toNatClampNeg p3))) &&& (σ 2 11)) = 0 := hb
          replace hv := hv.1 hb
          refine go_steps q_Hold_isFree kc_Hold_isFree 3 rfl ?_
          obtain ⟨hc16, hv⟩ := hv
          refine go_aaload q_Hold_isFree kc_Hold_isFree rfl rfl hc16 (am_rr4 (am_inb hc16)) ?_
          refine go_steps q_Hold_isFree kc_Hold_isFree 6 rfl ?_
          obtain ⟨hc17, hv⟩ := hv
          refine go_iaload q_Hold_isFree kc_Hold_isFree rfl rfl hc17 ?_
          refine go_steps q_Hold_isFree kc_Hold_isFree 4 rfl ?_
          obtain ⟨hc18, hv⟩ := hv
          refine go_iaload q_Hold_isFree kc_Hold_isFree rfl rfl hc18 ?_
          refine go_steps q_Hold_isFree kc_Hold_isFree 2 rfl ?_
          obtain ⟨σ16, hg, hv⟩ := hv
          refine go_callV q_Hold_isFree kc_Hold_isFree rfl q_Box_moveTo am_k20 ⟨rfl, rfl, by decide⟩ rfl rfl (Nat.le_of_ble_eq_true rfl) (Nat.le_of_ble_eq_true rfl) rfl (am_tt_box (am_inb hc16)) hg ?_
          refine go_steps q_Hold_isFree kc_Hold_isFree 2 rfl ?_
          obtain ⟨r17, σ17, hg, hv⟩ := hv
          refine go_callV q_Hold_isFree kc_Hold_isFree rfl q_Hold_isHeld am_k26 ⟨rfl, rfl, by decide⟩ rfl rfl (Nat.le_of_ble_eq_true rfl) (Nat.le_of_ble_eq_true rfl) rfl rfl hg ?_
          refine go_steps q_Hold_isFree kc_Hold_isFree 1 rfl ?_
          refine go_if (fun hb => ?_) (fun hb => ?_)
          · have hb : r17 = 0 := hb
            replace hv := hv.1 hb
            refine go_steps q_Hold_isFree kc_Hold_isFree 1 rfl ?_
            obtain ⟨rfl, rfl⟩ := hv
            exact go_retI q_Hold_isFree kc_Hold_isFree rfl rfl rfl
          · have hb : ¬ (r17 = 0) := hb
            replace hv := hv.2 hb
            refine go_steps q_Hold_isFree kc_Hold_isFree 2 rfl ?_
            obtain ⟨r18, σ18, hg, hv⟩ := hv
            refine go_callV q_Hold_isFree kc_Hold_isFree rfl q_Hold_isInWay am_k31 ⟨rfl, rfl, by decide⟩ rfl rfl (Nat.le_of_ble_eq_true rfl) (Nat.le_of_ble_eq_true rfl) rfl rfl hg ?_
            refine go_steps q_Hold_isFree kc_Hold_isFree 1 rfl ?_
            refine go_if (fun hb => ?_) (fun hb => ?_)
            · have hb : r18 = 0 := hb
              replace hv := hv.1 hb
              refine go_steps q_Hold_isFree kc_Hold_isFree 2 rfl ?_
              obtain ⟨r19, σ19, hg, hv⟩ := hv
              refine go_callV q_Hold_isFree kc_Hold_isFree rfl q_Hold_touches am_k41 ⟨rfl, rfl, by decide⟩ rfl rfl (Nat.le_of_ble_eq_true rfl) (Nat.le_of_ble_eq_true rfl) rfl rfl hg ?_
              refine go_steps q_Hold_isFree kc_Hold_isFree 1 rfl ?_
              refine go_if (fun hb => ?_) (fun hb => ?_)
              · have hb : r19 = 0 := hb
                replace hv := hv.1 hb
                refine go_steps q_Hold_isFree kc_Hold_isFree 3 rfl ?_
                have key : am_Go l D DA b sz (d + 1) M_Hold_isFree (186, [some (.ref 2), some (.int p1), some (.int p2), some (.int p3), some (.int p4), some (.int p5), some (.ref (19 + Int32.toNatClampNeg p1))], [.int (if (σ19 2 12) = 0 then 0 else 1 : Int32)], (am_TT cu L, am_RR cu, σ19)) r X' := by
                  obtain ⟨hc, rfl, rfl⟩ := hv
                  exact go_retI q_Hold_isFree kc_Hold_isFree rfl rfl (am_nar hc)
                refine go_if (fun hb => ?_) (fun hb => ?_)
                · have hb : (σ19 2 12) = 0 := hb
                  rw [show (if (σ19 2 12) = 0 then 0 else 1 : Int32) = 0 from if_pos hb] at key
                  refine go_steps q_Hold_isFree kc_Hold_isFree 1 rfl ?_
                  exact key
                · have hb : ¬ ((σ19 2 12) = 0) := hb
                  rw [show (if (σ19 2 12) = 0 then 0 else 1 : Int32) = 1 from if_neg hb] at key
                  refine go_steps q_Hold_isFree kc_Hold_isFree 2 rfl ?_
                  exact key
              · have hb : ¬ (r19 = 0) := hb
                replace hv := hv.2 hb
                refine go_steps q_Hold_isFree kc_Hold_isFree 7 rfl ?_
                obtain ⟨r20, σ20, hg, hv⟩ := hv
                refine go_callV q_Hold_isFree kc_Hold_isFree rfl q_Hold_bearAll am_k28 ⟨rfl, rfl, by decide⟩ rfl rfl (Nat.le_of_ble_eq_true rfl) (Nat.le_of_ble_eq_true rfl) rfl rfl hg ?_
                refine go_steps q_Hold_isFree kc_Hold_isFree 1 rfl ?_
                have key : am_Go l D DA b sz (d + 1) M_Hold_isFree (186, [some (.ref 2), some (.int p1), some (.int p2), some (.int p3), some (.int p4), some (.int p5), some (.ref (19 + Int32.toNatClampNeg p1))], [.int (if r20 = 0 then 0 else 1 : Int32)], (am_TT cu L, am_RR cu, σ20)) r X' := by
                  obtain ⟨hc, rfl, rfl⟩ := hv
                  exact go_retI q_Hold_isFree kc_Hold_isFree rfl rfl (am_nar hc)
                refine go_if (fun hb => ?_) (fun hb => ?_)
                · have hb : r20 = 0 := hb
                  rw [show (if r20 = 0 then 0 else 1 : Int32) = 0 from if_pos hb] at key
                  refine go_steps q_Hold_isFree kc_Hold_isFree 1 rfl ?_
                  exact key
                · have hb : ¬ (r20 = 0) := hb
                  rw [show (if r20 = 0 then 0 else 1 : Int32) = 1 from if_neg hb] at key
                  refine go_steps q_Hold_isFree kc_Hold_isFree 3 rfl ?_
                  exact key
            · have hb : ¬ (r18 = 0) := hb
              replace hv := hv.2 hb
              refine go_steps q_Hold_isFree kc_Hold_isFree 1 rfl ?_
              obtain ⟨rfl, rfl⟩ := hv
              exact go_retI q_Hold_isFree kc_Hold_isFree rfl rfl rfl
        · have hb : ¬ ((((σ 10 (Int32.toNatClampNeg p2)) &&& (σ 14 (Int32.toNatClampNeg p3))) &&& (σ 2 11)) = 0) := hb
          replace hv := hv.2 hb
          refine go_steps q_Hold_isFree kc_Hold_isFree 1 rfl ?_
          obtain ⟨rfl, rfl⟩ := hv
          exact go_retI q_Hold_isFree kc_Hold_isFree rfl rfl rfl
      · have hb : ¬ ((((σ 10 (Int32.toNatClampNeg p2)) ||| (σ 14 (Int32.toNatClampNeg p3))) &&& 1073741824) = 0) := hb
        replace hv := hv.2 hb
        refine go_steps q_Hold_isFree kc_Hold_isFree 1 rfl ?_
        obtain ⟨rfl, rfl⟩ := hv
        exact go_retI q_Hold_isFree kc_Hold_isFree rfl rfl rfl
set_option maxHeartbeats 4000000 in
set_option maxRecDepth 100000 in
theorem v_Hold_touches_0 {l : Launch} {D : va_G} {DA : Nat → ClassId} {b sz d L : Nat} {cu : Bool} {σ : Nat → Nat → Int32} {r : Option Value} {X' : am_X} (n1 : Nat) (hn_n1 : n1 < 20)
    (hv : am_Go l D DA b sz d M_Hold_touches (12, [some (.ref 2), some (.ref (19 + n1)), some (.int ((σ 2 9) &&& (σ 2 10))), some (.int 0)], [], (am_TT cu L, am_RR cu, σ)) r X') :
    am_Go l D DA b sz d M_Hold_touches (0, [some (.ref 2), some (.ref (19 + n1)), none, none], [], (am_TT cu L, am_RR cu, σ)) r X' := by
  refine go_steps q_Hold_touches kc_Hold_touches 8 rfl ?_
  refine go_le (L1 := [some (.ref 2), some (.ref (19 + n1)), some (.int ((σ 2 9) &&& (σ 2 10))), some (.int 0)]) (by repeat (first | exact trivial | refine ⟨rfl, ?_⟩)) ?_
  exact hv
set_option maxHeartbeats 4000000 in
set_option maxRecDepth 100000 in
theorem v_Hold_touches_12 {l : Launch} {D : va_G} {DA : Nat → ClassId} {b sz d L : Nat} {cu : Bool} {σ : Nat → Nat → Int32} {r : Option Value} {X' : am_X} (p2 : Int32) (p3 : Int32) (n1 : Nat) (hn_n1 : n1 < 20)
    (hv : (((σ 2 2) ≤ p3) → (r = some (.int 0) ∧ X' = (am_TT cu L, am_RR cu, σ))) ∧ (¬ ((σ 2 2) ≤ p3) → (((((p2 >>> (p3 &&& 31 : Int32) : Int32) &&& 1) = (0 : Int32)) → (am_Go l D DA b sz d M_Hold_touches (12, [some (.ref 2), some (.ref (19 + n1)), some (.int p2), some (.int (p3 + 1))], [], (am_TT cu L, am_RR cu, σ)) r X')) ∧ (¬ (((p2 >>> (p3 &&& 31 : Int32) : Int32) &&& 1) = (0 : Int32)) → ((¬ (p3 < 0 ∨ 20 ≤ Int32.toNatClampNeg p3)) ∧ ((((σ (19 + Int32.toNatClampNeg p3) 13) = (σ (19 + n1) 10)) → (r = some (.int 1) ∧ X' = (am_TT cu L, am_RR cu, σ))) ∧ (¬ ((σ (19 + Int32.toNatClampNeg p3) 13) = (σ (19 + n1) 10)) → ((¬ (p3 < 0 ∨ 20 ≤ Int32.toNatClampNeg p3)) ∧ ((((σ (19 + Int32.toNatClampNeg p3) 10) = (σ (19 + n1) 13)) → (r = some (.int 1) ∧ X' = (am_TT cu L, am_RR cu, σ))) ∧ (¬ ((σ (19 + Int32.toNatClampNeg p3) 10) = (σ (19 + n1) 13)) → (am_Go l D DA b sz d M_Hold_touches (12, [some (.ref 2), some (.ref (19 + n1)), some (.int p2), some (.int (p3 + 1))], [], (am_TT cu L, am_RR cu, σ)) r X'))))))))))) :
    am_Go l D DA b sz d M_Hold_touches (12, [some (.ref 2), some (.ref (19 + n1)), some (.int p2), some (.int p3)], [], (am_TT cu L, am_RR cu, σ)) r X' := by
  refine go_steps q_Hold_touches kc_Hold_touches 4 rfl ?_
  refine go_if (fun hb => ?_) (fun hb => ?_)
  · have hb : (σ 2 2) ≤ p3 := hb
    replace hv := hv.1 hb
    refine go_steps q_Hold_touches kc_Hold_touches 1 rfl ?_
    obtain ⟨rfl, rfl⟩ := hv
    exact go_retI q_Hold_touches kc_Hold_touches rfl rfl rfl
  · have hb : ¬ ((σ 2 2) ≤ p3) := hb
    replace hv := hv.2 hb
    refine go_steps q_Hold_touches kc_Hold_touches 6 rfl ?_
    refine go_if (fun hb => ?_) (fun hb => ?_)
    · have hb : ((p2 >>> (p3 &&& 31 : Int32) : Int32) &&& 1) = (0 : Int32) := hb
      replace hv := hv.1 hb
      refine go_steps q_Hold_touches kc_Hold_touches 2 rfl ?_
      refine go_le (L1 := [some (.ref 2), some (.ref (19 + n1)), some (.int p2), some (.int (p3 + 1))]) (by repeat (first | exact trivial | refine ⟨rfl, ?_⟩)) ?_
      exact hv
    · have hb : ¬ (((p2 >>> (p3 &&& 31 : Int32) : Int32) &&& 1) = (0 : Int32)) := hb
      replace hv := hv.2 hb
      refine go_steps q_Hold_touches kc_Hold_touches 3 rfl ?_
      obtain ⟨hc1, hv⟩ := hv
      refine go_aaload q_Hold_touches kc_Hold_touches rfl rfl hc1 (am_rr4 (am_inb hc1)) ?_
      refine go_getI q_Hold_touches kc_Hold_touches rfl (am_tt_box (am_inb hc1)) rfl ?_
      refine go_steps q_Hold_touches kc_Hold_touches 1 rfl ?_
      refine go_getI q_Hold_touches kc_Hold_touches rfl (am_tt_box hn_n1) rfl ?_
      refine go_steps q_Hold_touches kc_Hold_touches 1 rfl ?_
      refine go_if (fun hb => ?_) (fun hb => ?_)
      · have hb : (σ (19 + Int32.toNatClampNeg p3) 13) = (σ (19 + n1) 10) := hb
        replace hv := hv.1 hb
        refine go_steps q_Hold_touches kc_Hold_touches 1 rfl ?_
        obtain ⟨rfl, rfl⟩ := hv
        exact go_retI q_Hold_touches kc_Hold_touches rfl rfl rfl
      · have hb : ¬ ((σ (19 + Int32.toNatClampNeg p3) 13) = (σ (19 + n1) 10)) := hb
        replace hv := hv.2 hb
        refine go_steps q_Hold_touches kc_Hold_touches 3 rfl ?_
        obtain ⟨hc2, hv⟩ := hv
        refine go_aaload q_Hold_touches kc_Hold_touches rfl rfl hc2 (am_rr4 (am_inb hc2)) ?_
        refine go_getI q_Hold_touches kc_Hold_touches rfl (am_tt_box (am_inb hc2)) rfl ?_
        refine go_steps q_Hold_touches kc_Hold_touches 1 rfl ?_
        refine go_getI q_Hold_touches kc_Hold_touches rfl (am_tt_box hn_n1) rfl ?_
        refine go_steps q_Hold_touches kc_Hold_touches 1 rfl ?_
        refine go_if (fun hb => ?_) (fun hb => ?_)
        · have hb : (σ (19 + Int32.toNatClampNeg p3) 10) = (σ (19 + n1) 13) := hb
          replace hv := hv.1 hb
          refine go_steps q_Hold_touches kc_Hold_touches 1 rfl ?_
          obtain ⟨rfl, rfl⟩ := hv
          exact go_retI q_Hold_touches kc_Hold_touches rfl rfl rfl
        · have hb : ¬ ((σ (19 + Int32.toNatClampNeg p3) 10) = (σ (19 + n1) 13)) := hb
          replace hv := hv.2 hb
          refine go_steps q_Hold_touches kc_Hold_touches 2 rfl ?_
          refine go_le (L1 := [some (.ref 2), some (.ref (19 + n1)), some (.int p2), some (.int (p3 + 1))]) (by repeat (first | exact trivial | refine ⟨rfl, ?_⟩)) ?_
          exact hv
set_option maxHeartbeats 4000000 in
set_option maxRecDepth 100000 in
theorem v_Hold_carries_0 {l : Launch} {D : va_G} {DA : Nat → ClassId} {b sz d L : Nat} {cu : Bool} {σ : Nat → Nat → Int32} {r : Option Value} {X' : am_X} (p1 : Int32)
    (hv : am_Go l D DA b sz (d + 1) M_Hold_carries (2, [some (.ref 2), some (.int p1), some (.int 0)], [], (am_TT cu L, am_RR cu, σ)) r X') :
    am_Go l D DA b sz (d + 1) M_Hold_carries (0, [some (.ref 2), some (.int p1), none], [], (am_TT cu L, am_RR cu, σ)) r X' := by
  refine go_steps q_Hold_carries kc_Hold_carries 2 rfl ?_
  refine go_le (L1 := [some (.ref 2), some (.int p1), some (.int 0)]) (by repeat (first | exact trivial | refine ⟨rfl, ?_⟩)) ?_
  exact hv
set_option maxHeartbeats 4000000 in
set_option maxRecDepth 100000 in
theorem v_Hold_carries_2 {l : Launch} {D : va_G} {DA : Nat → ClassId} {b sz d L : Nat} {cu : Bool} {σ : Nat → Nat → Int32} {r : Option Value} {X' : am_X} (p1 : Int32) (p2 : Int32)
    (hv : (((σ 2 2) ≤ p2) → (r = some (.int 0) ∧ X' = (am_TT cu L, am_RR cu, σ))) ∧ (¬ ((σ 2 2) ≤ p2) → (∃ (r1 : Int32) (σ1 : Nat → Nat → Int32), am_Go l D DA b sz d M_Hold_has (0, [some (.ref 2), some (.int p2)], [], (am_TT cu L, am_RR cu, σ)) (some (.int r1)) (am_TT cu L, am_RR cu, σ1) ∧ (((r1 = 0) → (am_Go l D DA b sz (d + 1) M_Hold_carries (2, [some (.ref 2), some (.int p1), some (.int (p2 + 1))], [], (am_TT cu L, am_RR cu, σ1)) r X')) ∧ (¬ (r1 = 0) → ((¬ (p2 < 0 ∨ 20 ≤ Int32.toNatClampNeg p2)) ∧ ((¬ (p1 < 0 ∨ 20 ≤ Int32.toNatClampNeg p1)) ∧ (∃ (r2 : Int32) (σ2 : Nat → Nat → Int32), am_Go l D DA b sz d M_Box_areaOn (0, [some (.ref (19 + Int32.toNatClampNeg p2)), some (.ref (19 + Int32.toNatClampNeg p1)), none, none], [], (am_TT cu L, am_RR cu, σ1)) (some (.int r2)) (am_TT cu L, am_RR cu, σ2) ∧ (((r2 ≤ 0) → (am_Go l D DA b sz (d + 1) M_Hold_carries (2, [some (.ref 2), some (.int p1), some (.int (p2 + 1))], [], (am_TT cu L, am_RR cu, σ2)) r X')) ∧ (¬ (r2 ≤ 0) → (r = some (.int 1) ∧ X' = (am_TT cu L, am_RR cu, σ2)))))))))))) :
    am_Go l D DA b sz (d + 1) M_Hold_carries (2, [some (.ref 2), some (.int p1), some (.int p2)], [], (am_TT cu L, am_RR cu, σ)) r X' := by
  refine go_steps q_Hold_carries kc_Hold_carries 4 rfl ?_
  refine go_if (fun hb => ?_) (fun hb => ?_)
  · have hb : (σ 2 2) ≤ p2 := hb
    replace hv := hv.1 hb
    refine go_steps q_Hold_carries kc_Hold_carries 1 rfl ?_
    obtain ⟨rfl, rfl⟩ := hv
    exact go_retI q_Hold_carries kc_Hold_carries rfl rfl rfl
  · have hb : ¬ ((σ 2 2) ≤ p2) := hb
    replace hv := hv.2 hb
    refine go_steps q_Hold_carries kc_Hold_carries 2 rfl ?_
    obtain ⟨r1, σ1, hg, hv⟩ := hv
    refine go_callV q_Hold_carries kc_Hold_carries rfl q_Hold_has am_k18 ⟨rfl, rfl, by decide⟩ rfl rfl (Nat.le_of_ble_eq_true rfl) (Nat.le_of_ble_eq_true rfl) rfl rfl hg ?_
    refine go_steps q_Hold_carries kc_Hold_carries 1 rfl ?_
    refine go_if (fun hb => ?_) (fun hb => ?_)
    · have hb : r1 = 0 := hb
      replace hv := hv.1 hb
      refine go_steps q_Hold_carries kc_Hold_carries 2 rfl ?_
      refine go_le (L1 := [some (.ref 2), some (.int p1), some (.int (p2 + 1))]) (by repeat (first | exact trivial | refine ⟨rfl, ?_⟩)) ?_
      exact hv
    · have hb : ¬ (r1 = 0) := hb
      replace hv := hv.2 hb
      refine go_steps q_Hold_carries kc_Hold_carries 3 rfl ?_
      obtain ⟨hc1, hv⟩ := hv
      refine go_aaload q_Hold_carries kc_Hold_carries rfl rfl hc1 (am_rr4 (am_inb hc1)) ?_
      refine go_steps q_Hold_carries kc_Hold_carries 3 rfl ?_
      obtain ⟨hc2, hv⟩ := hv
      refine go_aaload q_Hold_carries kc_Hold_carries rfl rfl hc2 (am_rr4 (am_inb hc2)) ?_
      obtain ⟨r2, σ2, hg, hv⟩ := hv
      refine go_callV q_Hold_carries kc_Hold_carries rfl q_Box_areaOn am_k27 ⟨rfl, rfl, by decide⟩ rfl rfl (Nat.le_of_ble_eq_true rfl) (Nat.le_of_ble_eq_true rfl) rfl (am_tt_box (am_inb hc1)) hg ?_
      refine go_steps q_Hold_carries kc_Hold_carries 1 rfl ?_
      refine go_if (fun hb => ?_) (fun hb => ?_)
      · have hb : r2 ≤ 0 := hb
        replace hv := hv.1 hb
        refine go_steps q_Hold_carries kc_Hold_carries 2 rfl ?_
        refine go_le (L1 := [some (.ref 2), some (.int p1), some (.int (p2 + 1))]) (by repeat (first | exact trivial | refine ⟨rfl, ?_⟩)) ?_
        exact hv
      · have hb : ¬ (r2 ≤ 0) := hb
        replace hv := hv.2 hb
        refine go_steps q_Hold_carries kc_Hold_carries 1 rfl ?_
        obtain ⟨rfl, rfl⟩ := hv
        exact go_retI q_Hold_carries kc_Hold_carries rfl rfl rfl
set_option maxHeartbeats 4000000 in
set_option maxRecDepth 100000 in
theorem v_Hold_putOut_0 {l : Launch} {D : va_G} {DA : Nat → ClassId} {b sz d L : Nat} {cu : Bool} {σ : Nat → Nat → Int32} {r : Option Value} {X' : am_X} (p1 : Int32)
    (hv : r = none ∧ X' = (am_TT cu L, am_RR cu, am_us σ 2 3 ((σ 2 3) &&& ((1 <<< (p1 &&& 31 : Int32) : Int32) ^^^ (-1))))) :
    am_Go l D DA b sz d M_Hold_putOut (0, [some (.ref 2), some (.int p1)], [], (am_TT cu L, am_RR cu, σ)) r X' := by
  refine go_steps q_Hold_putOut kc_Hold_putOut 10 rfl ?_
  obtain ⟨rfl, rfl⟩ := hv
  exact go_retV q_Hold_putOut kc_Hold_putOut rfl rfl
set_option maxHeartbeats 4000000 in
set_option maxRecDepth 100000 in
theorem v_Orders_begin_0 {l : Launch} {D : va_G} {DA : Nat → ClassId} {b sz d L : Nat} {cu : Bool} {σ : Nat → Nat → Int32} {r : Option Value} {X' : am_X}
    (hv : r = none ∧ X' = (am_TT cu L, am_RR cu, am_us (am_us (am_us σ 39 2 0) 39 3 (-1)) 39 4 0)) :
    am_Go l D DA b sz d M_Orders_begin (0, [some (.ref 39)], [], (am_TT cu L, am_RR cu, σ)) r X' := by
  refine go_steps q_Orders_begin kc_Orders_begin 9 rfl ?_
  obtain ⟨rfl, rfl⟩ := hv
  exact go_retV q_Orders_begin kc_Orders_begin rfl rfl
set_option maxHeartbeats 4000000 in
set_option maxRecDepth 100000 in
theorem v_Hold_reach_0 {l : Launch} {D : va_G} {DA : Nat → ClassId} {b sz d L : Nat} {cu : Bool} {σ : Nat → Nat → Int32} {r : Option Value} {X' : am_X}
    (hv : am_Go l D DA b sz (d + 1) M_Hold_reach (4, [some (.ref 2), some (.int 0), some (.int 0)], [], (am_TT cu L, am_RR cu, σ)) r X') :
    am_Go l D DA b sz (d + 1) M_Hold_reach (0, [some (.ref 2), none, none], [], (am_TT cu L, am_RR cu, σ)) r X' := by
  refine go_steps q_Hold_reach kc_Hold_reach 4 rfl ?_
  refine go_le (L1 := [some (.ref 2), some (.int 0), some (.int 0)]) (by repeat (first | exact trivial | refine ⟨rfl, ?_⟩)) ?_
  exact hv
set_option maxHeartbeats 4000000 in
set_option maxRecDepth 100000 in
theorem v_Hold_reach_4 {l : Launch} {D : va_G} {DA : Nat → ClassId} {b sz d L : Nat} {cu : Bool} {σ : Nat → Nat → Int32} {r : Option Value} {X' : am_X} (p1 : Int32) (p2 : Int32)
    (hv : (((σ 2 2) ≤ p2) → (r = some (.int p1) ∧ X' = (am_TT cu L, am_RR cu, σ))) ∧ (¬ ((σ 2 2) ≤ p2) → (∃ (r1 : Int32) (σ1 : Nat → Nat → Int32), am_Go l D DA b sz d M_Hold_has (0, [some (.ref 2), some (.int p2)], [], (am_TT cu L, am_RR cu, σ)) (some (.int r1)) (am_TT cu L, am_RR cu, σ1) ∧ (((r1 = 0) → (am_Go l D DA b sz (d + 1) M_Hold_reach (4, [some (.ref 2), some (.int p1), some (.int (p2 + 1))], [], (am_TT cu L, am_RR cu, σ1)) r X')) ∧ (¬ (r1 = 0) → ((¬ (p2 < 0 ∨ 20 ≤ Int32.toNatClampNeg p2)) ∧ ((((σ1 (19 + Int32.toNatClampNeg p2) 11) ≤ p1) → (am_Go l D DA b sz (d + 1) M_Hold_reach (4, [some (.ref 2), some (.int p1), some (.int (p2 + 1))], [], (am_TT cu L, am_RR cu, σ1)) r X')) ∧ (¬ ((σ1 (19 + Int32.toNatClampNeg p2) 11) ≤ p1) → ((¬ (p2 < 0 ∨ 20 ≤ Int32.toNatClampNeg p2)) ∧ (am_Go l D DA b sz (d + 1) M_Hold_reach (4, [some (.ref 2), some (.int (σ1 (19 + Int32.toNatClampNeg p2) 11)), some (.int (p2 + 1))], [], (am_TT cu L, am_RR cu, σ1)) r X')))))))))) :
    am_Go l D DA b sz (d + 1) M_Hold_reach (4, [some (.ref 2), some (.int p1), some (.int p2)], [], (am_TT cu L, am_RR cu, σ)) r X' := by
  refine go_steps q_Hold_reach kc_Hold_reach 4 rfl ?_
  refine go_if (fun hb => ?_) (fun hb => ?_)
  · have hb : (σ 2 2) ≤ p2 := hb
    replace hv := hv.1 hb
    refine go_steps q_Hold_reach kc_Hold_reach 1 rfl ?_
    obtain ⟨rfl, rfl⟩ := hv
    exact go_retI q_Hold_reach kc_Hold_reach rfl rfl rfl
  · have hb : ¬ ((σ 2 2) ≤ p2) := hb
    replace hv := hv.2 hb
    refine go_steps q_Hold_reach kc_Hold_reach 2 rfl ?_
    obtain ⟨r1, σ1, hg, hv⟩ := hv
    refine go_callV q_Hold_reach kc_Hold_reach rfl q_Hold_has am_k18 ⟨rfl, rfl, by decide⟩ rfl rfl (Nat.le_of_ble_eq_true rfl) (Nat.le_of_ble_eq_true rfl) rfl rfl hg ?_
    refine go_steps q_Hold_reach kc_Hold_reach 1 rfl ?_
    refine go_if (fun hb => ?_) (fun hb => ?_)
    · have hb : r1 = 0 := hb
      replace hv := hv.1 hb
      refine go_steps q_Hold_reach kc_Hold_reach 2 rfl ?_
      refine go_le (L1 := [some (.ref 2), some (.int p1), some (.int (p2 + 1))]) (by repeat (first | exact trivial | refine ⟨rfl, ?_⟩)) ?_
      exact hv
    · have hb : ¬ (r1 = 0) := hb
      replace hv := hv.2 hb
      refine go_steps q_Hold_reach kc_Hold_reach 3 rfl ?_
      obtain ⟨hc1, hv⟩ := hv
      refine go_aaload q_Hold_reach kc_Hold_reach rfl rfl hc1 (am_rr4 (am_inb hc1)) ?_
      refine go_getI q_Hold_reach kc_Hold_reach rfl (am_tt_box (am_inb hc1)) rfl ?_
      refine go_steps q_Hold_reach kc_Hold_reach 2 rfl ?_
      refine go_if (fun hb => ?_) (fun hb => ?_)
      · have hb : (σ1 (19 + Int32.toNatClampNeg p2) 11) ≤ p1 := hb
        replace hv := hv.1 hb
        refine go_steps q_Hold_reach kc_Hold_reach 2 rfl ?_
        refine go_le (L1 := [some (.ref 2), some (.int p1), some (.int (p2 + 1))]) (by repeat (first | exact trivial | refine ⟨rfl, ?_⟩)) ?_
        exact hv
      · have hb : ¬ ((σ1 (19 + Int32.toNatClampNeg p2) 11) ≤ p1) := hb
        replace hv := hv.2 hb
        refine go_steps q_Hold_reach kc_Hold_reach 3 rfl ?_
        obtain ⟨hc2, hv⟩ := hv
        refine go_aaload q_Hold_reach kc_Hold_reach rfl rfl hc2 (am_rr4 (am_inb hc2)) ?_
        refine go_getI q_Hold_reach kc_Hold_reach rfl (am_tt_box (am_inb hc2)) rfl ?_
        refine go_steps q_Hold_reach kc_Hold_reach 3 rfl ?_
        refine go_le (L1 := [some (.ref 2), some (.int (σ1 (19 + Int32.toNatClampNeg p2) 11)), some (.int (p2 + 1))]) (by repeat (first | exact trivial | refine ⟨rfl, ?_⟩)) ?_
        exact hv
set_option maxHeartbeats 4000000 in
set_option maxRecDepth 100000 in
theorem v_Orders_cannotWin_0 {l : Launch} {D : va_G} {DA : Nat → ClassId} {b sz d L : Nat} {cu : Bool} {σ : Nat → Nat → Int32} {r : Option Value} {X' : am_X} (p1 : Int32) (p2 : Int32)
    (hv : ((if p1 < (σ 39 3) then 1 else (if p1 = (σ 39 3) then (if p2 < (σ 39 4) then 0 else 1 : Int32) else 0 : Int32) : Int32) = 0 ∨ (if p1 < (σ 39 3) then 1 else (if p1 = (σ 39 3) then (if p2 < (σ 39 4) then 0 else 1 : Int32) else 0 : Int32) : Int32) = 1) ∧ (r = some (.int (if p1 < (σ 39 3) then 1 else (if p1 = (σ 39 3) then (if p2 < (σ 39 4) then 0 else 1 : Int32) else 0 : Int32) : Int32)) ∧ X' = (am_TT cu L, am_RR cu, σ))) :
    am_Go l D DA b sz d M_Orders_cannotWin (0, [some (.ref 39), some (.int p1), some (.int p2)], [], (am_TT cu L, am_RR cu, σ)) r X' := by
  refine go_steps q_Orders_cannotWin kc_Orders_cannotWin 4 rfl ?_
  have key : am_Go l D DA b sz d M_Orders_cannotWin (29, [some (.ref 39), some (.int p1), some (.int p2)], [.int (if p1 < (σ 39 3) then 1 else (if p1 = (σ 39 3) then (if p2 < (σ 39 4) then 0 else 1 : Int32) else 0 : Int32) : Int32)], (am_TT cu L, am_RR cu, σ)) r X' := by
    obtain ⟨hc, rfl, rfl⟩ := hv
    exact go_retI q_Orders_cannotWin kc_Orders_cannotWin rfl rfl (am_nar hc)
  refine go_if (fun hb => ?_) (fun hb => ?_)
  · have hb : p1 < (σ 39 3) := hb
    rw [show (if p1 < (σ 39 3) then 1 else (if p1 = (σ 39 3) then (if p2 < (σ 39 4) then 0 else 1 : Int32) else 0 : Int32) : Int32) = 1 from if_pos hb] at key
    refine go_steps q_Orders_cannotWin kc_Orders_cannotWin 2 rfl ?_
    exact key
  · have hb : ¬ (p1 < (σ 39 3)) := hb
    rw [show (if p1 < (σ 39 3) then 1 else (if p1 = (σ 39 3) then (if p2 < (σ 39 4) then 0 else 1 : Int32) else 0 : Int32) : Int32) = (if p1 = (σ 39 3) then (if p2 < (σ 39 4) then 0 else 1 : Int32) else 0 : Int32) from if_neg hb] at key
    refine go_steps q_Orders_cannotWin kc_Orders_cannotWin 4 rfl ?_
    refine go_if (fun hb => ?_) (fun hb => ?_)
    · have hb : p1 = (σ 39 3) := hb
      rw [show (if p1 = (σ 39 3) then (if p2 < (σ 39 4) then 0 else 1 : Int32) else 0 : Int32) = (if p2 < (σ 39 4) then 0 else 1 : Int32) from if_pos hb] at key
      refine go_steps q_Orders_cannotWin kc_Orders_cannotWin 4 rfl ?_
      refine go_if (fun hb => ?_) (fun hb => ?_)
      · have hb : p2 < (σ 39 4) := hb
        rw [show (if p2 < (σ 39 4) then 0 else 1 : Int32) = 0 from if_pos hb] at key
        refine go_steps q_Orders_cannotWin kc_Orders_cannotWin 1 rfl ?_
        exact key
      · have hb : ¬ (p2 < (σ 39 4)) := hb
        rw [show (if p2 < (σ 39 4) then 0 else 1 : Int32) = 1 from if_neg hb] at key
        refine go_steps q_Orders_cannotWin kc_Orders_cannotWin 2 rfl ?_
        exact key
    · have hb : ¬ (p1 = (σ 39 3)) := hb
      rw [show (if p1 = (σ 39 3) then (if p2 < (σ 39 4) then 0 else 1 : Int32) else 0 : Int32) = 0 from if_neg hb] at key
      refine go_steps q_Orders_cannotWin kc_Orders_cannotWin 1 rfl ?_
      exact key
set_option maxHeartbeats 4000000 in
set_option maxRecDepth 100000 in
theorem v_Orders_keep_0 {l : Launch} {D : va_G} {DA : Nat → ClassId} {b sz d L : Nat} {cu : Bool} {σ : Nat → Nat → Int32} {r : Option Value} {X' : am_X} (p1 : Int32) (p2 : Int32) (p3 : Int32)
    (hv : am_Go l D DA b sz d M_Orders_keep (18, [some (.ref 39), some (.int p1), none, none, some (.int 0)], [], (am_TT cu L, am_RR cu, am_us (am_us (am_us σ 39 2 p1) 39 3 p2) 39 4 p3)) r X') :
    am_Go l D DA b sz d M_Orders_keep (0, [some (.ref 39), some (.int p1), some (.int p2), some (.int p3), none], [], (am_TT cu L, am_RR cu, σ)) r X' := by
  refine go_steps q_Orders_keep kc_Orders_keep 11 rfl ?_
  refine go_le (L1 := [some (.ref 39), some (.int p1), none, none, some (.int 0)]) (by repeat (first | exact trivial | refine ⟨rfl, ?_⟩)) ?_
  exact hv
set_option maxHeartbeats 4000000 in
set_option maxRecDepth 100000 in
theorem v_Orders_keep_18 {l : Launch} {D : va_G} {DA : Nat → ClassId} {b sz d L : Nat} {cu : Bool} {σ : Nat → Nat → Int32} {r : Option Value} {X' : am_X} (p1 : Int32) (p4 : Int32)
    (hv : ((p1 ≤ p4) → (r = none ∧ X' = (am_TT cu L, am_RR cu, σ))) ∧ (¬ (p1 ≤ p4) → ((¬ (p4 < 0 ∨ 5 ≤ Int32.toNatClampNeg p4)) ∧ ((¬ (p4 < 0 ∨ 5 ≤ Int32.toNatClampNeg p4)) ∧ (am_Go l D DA b sz d M_Orders_keep (18, [some (.ref 39), some (.int p1), none, none, some (.int (p4 + 1))], [], (am_TT cu L, am_RR cu, am_us σ 41 (Int32.toNatClampNeg p4) (σ 40 (Int32.toNatClampNeg p4)))) r X'))))) :
    am_Go l D DA b sz d M_Orders_keep (18, [some (.ref 39), some (.int p1), none, none, some (.int p4)], [], (am_TT cu L, am_RR cu, σ)) r X' := by
  refine go_steps q_Orders_keep kc_Orders_keep 3 rfl ?_
  refine go_if (fun hb => ?_) (fun hb => ?_)
  · have hb : p1 ≤ p4 := hb
    replace hv := hv.1 hb
    obtain ⟨rfl, rfl⟩ := hv
    exact go_retV q_Orders_keep kc_Orders_keep rfl rfl
  · have hb : ¬ (p1 ≤ p4) := hb
    replace hv := hv.2 hb
    refine go_steps q_Orders_keep kc_Orders_keep 6 rfl ?_
    obtain ⟨hc1, hv⟩ := hv
    refine go_iaload q_Orders_keep kc_Orders_keep rfl rfl hc1 ?_
    obtain ⟨hc, hv⟩ := hv
    refine go_iastore q_Orders_keep kc_Orders_keep rfl rfl hc ?_
    refine go_steps q_Orders_keep kc_Orders_keep 2 rfl ?_
    refine go_le (L1 := [some (.ref 39), some (.int p1), none, none, some (.int (p4 + 1))]) (by repeat (first | exact trivial | refine ⟨rfl, ?_⟩)) ?_
    exact hv
set_option maxHeartbeats 4000000 in
set_option maxRecDepth 100000 in
theorem v_Hold_loadOf_0 {l : Launch} {D : va_G} {DA : Nat → ClassId} {b sz d L : Nat} {cu : Bool} {σ : Nat → Nat → Int32} {r : Option Value} {X' : am_X} (p1 : Int32)
    (hv : (∃ (r1 : Int32) (σ1 : Nat → Nat → Int32), am_Go l D DA b sz d M_Hold_bearAll (0, [some (.ref 2), some (.int (σ 2 3)), none, none, none], [], (am_TT cu L, am_RR cu, σ)) (some (.int r1)) (am_TT cu L, am_RR cu, σ1) ∧ ((¬ (p1 < 0 ∨ 20 ≤ Int32.toNatClampNeg p1)) ∧ (r = some (.int (σ1 5 (Int32.toNatClampNeg p1))) ∧ X' = (am_TT cu L, am_RR cu, σ1))))) :
    am_Go l D DA b sz (d + 1) M_Hold_loadOf (0, [some (.ref 2), some (.int p1)], [], (am_TT cu L, am_RR cu, σ)) r X' := by
  refine go_steps q_Hold_loadOf kc_Hold_loadOf 3 rfl ?_
  obtain ⟨r1, σ1, hg, hv⟩ := hv
  refine go_callV q_Hold_loadOf kc_Hold_loadOf rfl q_Hold_bearAll am_k28 ⟨rfl, rfl, by decide⟩ rfl rfl (Nat.le_of_ble_eq_true rfl) (Nat.le_of_ble_eq_true rfl) rfl rfl hg ?_
  refine go_steps q_Hold_loadOf kc_Hold_loadOf 4 rfl ?_
  obtain ⟨hc1, hv⟩ := hv
  refine go_iaload q_Hold_loadOf kc_Hold_loadOf rfl rfl hc1 ?_
  obtain ⟨rfl, rfl⟩ := hv
  exact go_retI q_Hold_loadOf kc_Hold_loadOf rfl rfl rfl
set_option maxHeartbeats 4000000 in
set_option maxRecDepth 100000 in
theorem v_Hold_supportsOf_0 {l : Launch} {D : va_G} {DA : Nat → ClassId} {b sz d L : Nat} {cu : Bool} {σ : Nat → Nat → Int32} {r : Option Value} {X' : am_X} (p1 : Int32)
    (hv : am_Go l D DA b sz (d + 1) M_Hold_supportsOf (4, [some (.ref 2), some (.int p1), some (.int 0), some (.int 0)], [], (am_TT cu L, am_RR cu, σ)) r X') :
    am_Go l D DA b sz (d + 1) M_Hold_supportsOf (0, [some (.ref 2), some (.int p1), none, none], [], (am_TT cu L, am_RR cu, σ)) r X' := by
  refine go_steps q_Hold_supportsOf kc_Hold_supportsOf 4 rfl ?_
  refine go_le (L1 := [some (.ref 2), some (.int p1), some (.int 0), some (.int 0)]) (by repeat (first | exact trivial | refine ⟨rfl, ?_⟩)) ?_
  exact hv
set_option maxHeartbeats 4000000 in
set_option maxRecDepth 100000 in
theorem v_Hold_supportsOf_4 {l : Launch} {D : va_G} {DA : Nat → ClassId} {b sz d L : Nat} {cu : Bool} {σ : Nat → Nat → Int32} {r : Option Value} {X' : am_X} (p1 : Int32) (p2 : Int32) (p3 : Int32)
    (hv : (((σ 2 2) ≤ p3) → (r = some (.int p2) ∧ X' = (am_TT cu L, am_RR cu, σ))) ∧ (¬ ((σ 2 2) ≤ p3) → (∃ (r1 : Int32) (σ1 : Nat → Nat → Int32), am_Go l D DA b sz d M_Hold_has (0, [some (.ref 2), some (.int p3)], [], (am_TT cu L, am_RR cu, σ)) (some (.int r1)) (am_TT cu L, am_RR cu, σ1) ∧ (((r1 = 0) → (am_Go l D DA b sz (d + 1) M_Hold_supportsOf (4, [some (.ref 2), some (.int p1), some (.int p2), some (.int (p3 + 1))], [], (am_TT cu L, am_RR cu, σ1)) r X')) ∧ (¬ (r1 = 0) → ((¬ (p1 < 0 ∨ 20 ≤ Int32.toNatClampNeg p1)) ∧ ((¬ (p3 < 0 ∨ 20 ≤ Int32.toNatClampNeg p3)) ∧ (∃ (r2 : Int32) (σ2 : Nat → Nat → Int32), am_Go l D DA b sz d M_Box_areaOn (0, [some (.ref (19 + Int32.toNatClampNeg p1)), some (.ref (19 + Int32.toNatClampNeg p3)), none, none], [], (am_TT cu L, am_RR cu, σ1)) (some (.int r2)) (am_TT cu L, am_RR cu, σ2) ∧ (((r2 ≤ 0) → (am_Go l D DA b sz (d + 1) M_Hold_supportsOf (4, [some (.ref 2), some (.int p1), some (.int p2), some (.int (p3 + 1))], [], (am_TT cu L, am_RR cu, σ2)) r X')) ∧ (¬ (r2 ≤ 0) → (am_Go l D DA b sz (d + 1) M_Hold_supportsOf (4, [some (.ref 2), some (.int p1), some (.int (p2 + 1)), some (.int (p3 + 1))], [], (am_TT cu L, am_RR cu, σ2)) r X'))))))))))) :
    am_Go l D DA b sz (d + 1) M_Hold_supportsOf (4, [some (.ref 2), some (.int p1), some (.int p2), some (.int p3)], [], (am_TT cu L, am_RR cu, σ)) r X' := by
  refine go_steps q_Hold_supportsOf kc_Hold_supportsOf 4 rfl ?_
  refine go_if (fun hb => ?_) (fun hb => ?_)
  · have hb : (σ 2 2) ≤ p3 := hb
    replace hv := hv.1 hb
    refine go_steps q_Hold_supportsOf kc_Hold_supportsOf 1 rfl ?_
    obtain ⟨rfl, rfl⟩ := hv
    exact go_retI q_Hold_supportsOf kc_Hold_supportsOf rfl rfl rfl
  · have hb : ¬ ((σ 2 2) ≤ p3) := hb
    replace hv := hv.2 hb
    refine go_steps q_Hold_supportsOf kc_Hold_supportsOf 2 rfl ?_
    obtain ⟨r1, σ1, hg, hv⟩ := hv
    refine go_callV q_Hold_supportsOf kc_Hold_supportsOf rfl q_Hold_has am_k18 ⟨rfl, rfl, by decide⟩ rfl rfl (Nat.le_of_ble_eq_true rfl) (Nat.le_of_ble_eq_true rfl) rfl rfl hg ?_
    refine go_steps q_Hold_supportsOf kc_Hold_supportsOf 1 rfl ?_
    refine go_if (fun hb => ?_) (fun hb => ?_)
    · have hb : r1 = 0 := hb
      replace hv := hv.1 hb
      refine go_steps q_Hold_supportsOf kc_Hold_supportsOf 2 rfl ?_
      refine go_le (L1 := [some (.ref 2), some (.int p1), some (.int p2), some (.int (p3 + 1))]) (by repeat (first | exact trivial | refine ⟨rfl, ?_⟩)) ?_
      exact hv
    · have hb : ¬ (r1 = 0) := hb
      replace hv := hv.2 hb
      refine go_steps q_Hold_supportsOf kc_Hold_supportsOf 3 rfl ?_
      obtain ⟨hc1, hv⟩ := hv
      refine go_aaload q_Hold_supportsOf kc_Hold_supportsOf rfl rfl hc1 (am_rr4 (am_inb hc1)) ?_
      refine go_steps q_Hold_supportsOf kc_Hold_supportsOf 3 rfl ?_
      obtain ⟨hc2, hv⟩ := hv
      refine go_aaload q_Hold_supportsOf kc_Hold_supportsOf rfl rfl hc2 (am_rr4 (am_inb hc2)) ?_
      obtain ⟨r2, σ2, hg, hv⟩ := hv
      refine go_callV q_Hold_supportsOf kc_Hold_supportsOf rfl q_Box_areaOn am_k27 ⟨rfl, rfl, by decide⟩ rfl rfl (Nat.le_of_ble_eq_true rfl) (Nat.le_of_ble_eq_true rfl) rfl (am_tt_box (am_inb hc1)) hg ?_
      refine go_steps q_Hold_supportsOf kc_Hold_supportsOf 1 rfl ?_
      refine go_if (fun hb => ?_) (fun hb => ?_)
      · have hb : r2 ≤ 0 := hb
        replace hv := hv.1 hb
        refine go_steps q_Hold_supportsOf kc_Hold_supportsOf 2 rfl ?_
        refine go_le (L1 := [some (.ref 2), some (.int p1), some (.int p2), some (.int (p3 + 1))]) (by repeat (first | exact trivial | refine ⟨rfl, ?_⟩)) ?_
        exact hv
      · have hb : ¬ (r2 ≤ 0) := hb
        replace hv := hv.2 hb
        refine go_steps q_Hold_supportsOf kc_Hold_supportsOf 3 rfl ?_
        refine go_le (L1 := [some (.ref 2), some (.int p1), some (.int (p2 + 1)), some (.int (p3 + 1))]) (by repeat (first | exact trivial | refine ⟨rfl, ?_⟩)) ?_
        exact hv
set_option maxHeartbeats 4000000 in
set_option maxRecDepth 100000 in
theorem v_Box_fills_0 {l : Launch} {D : va_G} {DA : Nat → ClassId} {b sz d L : Nat} {cu : Bool} {σ : Nat → Nat → Int32} {r : Option Value} {X' : am_X} (p1 : Int32) (p2 : Int32) (p3 : Int32) (n0 : Nat) (hn_n0 : n0 < 20)
    (hv : ((if p1 < (σ (19 + n0) 8) then 0 else (if (σ (19 + n0) 11) ≤ p1 then 0 else (if p2 < (σ (19 + n0) 9) then 0 else (if (σ (19 + n0) 12) ≤ p2 then 0 else (if p3 < (σ (19 + n0) 10) then 0 else (if (σ (19 + n0) 13) ≤ p3 then 0 else 1 : Int32) : Int32) : Int32) : Int32) : Int32) : Int32) = 0 ∨ (if p1 < (σ (19 + n0) 8) then 0 else (if (σ (19 + n0) 11) ≤ p1 then 0 else (if p2 < (σ (19 + n0) 9) then 0 else (if (σ (19 + n0) 12) ≤ p2 then 0 else (if p3 < (σ (19 + n0) 10) then 0 else (if (σ (19 + n0) 13) ≤ p3 then 0 else 1 : Int32) : Int32) : Int32) : Int32) : Int32) : Int32) = 1) ∧ (r = some (.int (if p1 < (σ (19 + n0) 8) then 0 else (if (σ (19 + n0) 11) ≤ p1 then 0 else (if p2 < (σ (19 + n0) 9) then 0 else (if (σ (19 + n0) 12) ≤ p2 then 0 else (if p3 < (σ (19 + n0) 10) then 0 else (if (σ (19 + n0) 13) ≤ p3 then 0 else 1 : Int32) : Int32) : Int32) : Int32) : Int32) : Int32)) ∧ X' = (am_TT cu L, am_RR cu, σ))) :
    am_Go l D DA b sz d M_Box_fills (0, [some (.ref (19 + n0)), some (.int p1), some (.int p2), some (.int p3)], [], (am_TT cu L, am_RR cu, σ)) r X' := by
  refine go_steps q_Box_fills kc_Box_fills 2 rfl ?_
  refine go_getI q_Box_fills kc_Box_fills rfl (am_tt_box hn_n0) rfl ?_
  refine go_steps q_Box_fills kc_Box_fills 1 rfl ?_
  have key : am_Go l D DA b sz d M_Box_fills (53, [some (.ref (19 + n0)), some (.int p1), some (.int p2), some (.int p3)], [.int (if p1 < (σ (19 + n0) 8) then 0 else (if (σ (19 + n0) 11) ≤ p1 then 0 else (if p2 < (σ (19 + n0) 9) then 0 else (if (σ (19 + n0) 12) ≤ p2 then 0 else (if p3 < (σ (19 + n0) 10) then 0 else (if (σ (19 + n0) 13) ≤ p3 then 0 else 1 : Int32) : Int32) : Int32) : Int32) : Int32) : Int32)], (am_TT cu L, am_RR cu, σ)) r X' := by
    obtain ⟨hc, rfl, rfl⟩ := hv
    exact go_retI q_Box_fills kc_Box_fills rfl rfl (am_nar hc)
  refine go_if (fun hb => ?_) (fun hb => ?_)
  · have hb : p1 < (σ (19 + n0) 8) := hb
    rw [show (if p1 < (σ (19 + n0) 8) then 0 else (if (σ (19 + n0) 11) ≤ p1 then 0 else (if p2 < (σ (19 + n0) 9) then 0 else (if (σ (19 + n0) 12) ≤ p2 then 0 else (if p3 < (σ (19 + n0) 10) then 0 else (if (σ (19 + n0) 13) ≤ p3 then 0 else 1 : Int32) : Int32) : Int32) : Int32) : Int32) : Int32) = 0 from if_pos hb] at key
    refine go_steps q_Box_fills kc_Box_fills 1 rfl ?_
    exact key
  · have hb : ¬ (p1 < (σ (19 + n0) 8)) := hb
    rw [show (if p1 < (σ (19 + n0) 8) then 0 else (if (σ (19 + n0) 11) ≤ p1 then 0 else (if p2 < (σ (19 + n0) 9) then 0 else (if (σ (19 + n0) 12) ≤ p2 then 0 else (if p3 < (σ (19 + n0) 10) then 0 else (if (σ (19 + n0) 13) ≤ p3 then 0 else 1 : Int32) : Int32) : Int32) : Int32) : Int32) : Int32) = (if (σ (19 + n0) 11) ≤ p1 then 0 else (if p2 < (σ (19 + n0) 9) then 0 else (if (σ (19 + n0) 12) ≤ p2 then 0 else (if p3 < (σ (19 + n0) 10) then 0 else (if (σ (19 + n0) 13) ≤ p3 then 0 else 1 : Int32) : Int32) : Int32) : Int32) : Int32) from if_neg hb] at key
    refine go_steps q_Box_fills kc_Box_fills 2 rfl ?_
    refine go_getI q_Box_fills kc_Box_fills rfl (am_tt_box hn_n0) rfl ?_
    refine go_steps q_Box_fills kc_Box_fills 1 rfl ?_
    refine go_if (fun hb => ?_) (fun hb => ?_)
    · have hb : (σ (19 + n0) 11) ≤ p1 := hb
      rw [show (if (σ (19 + n0) 11) ≤ p1 then 0 else (if p2 < (σ (19 + n0) 9) then 0 else (if (σ (19 + n0) 12) ≤ p2 then 0 else (if p3 < (σ (19 + n0) 10) then 0 else (if (σ (19 + n0) 13) ≤ p3 then 0 else 1 : Int32) : Int32) : Int32) : Int32) : Int32) = 0 from if_pos hb] at key
      refine go_steps q_Box_fills kc_Box_fills 1 rfl ?_
      exact key
    · have hb : ¬ ((σ (19 + n0) 11) ≤ p1) := hb
      rw [show (if (σ (19 + n0) 11) ≤ p1 then 0 else (if p2 < (σ (19 + n0) 9) then 0 else (if (σ (19 + n0) 12) ≤ p2 then 0 else (if p3 < (σ (19 + n0) 10) then 0 else (if (σ (19 + n0) 13) ≤ p3 then 0 else 1 : Int32) : Int32) : Int32) : Int32) : Int32) = (if p2 < (σ (19 + n0) 9) then 0 else (if (σ (19 + n0) 12) ≤ p2 then 0 else (if p3 < (σ (19 + n0) 10) then 0 else (if (σ (19 + n0) 13) ≤ p3 then 0 else 1 : Int32) : Int32) : Int32) : Int32) from if_neg hb] at key
      refine go_steps q_Box_fills kc_Box_fills 2 rfl ?_
      refine go_getI q_Box_fills kc_Box_fills rfl (am_tt_box hn_n0) rfl ?_
      refine go_steps q_Box_fills kc_Box_fills 1 rfl ?_
      refine go_if (fun hb => ?_) (fun hb => ?_)
      · have hb : p2 < (σ (19 + n0) 9) := hb
        rw [show (if p2 < (σ (19 + n0) 9) then 0 else (if (σ (19 + n0) 12) ≤ p2 then 0 else (if p3 < (σ (19 + n0) 10) then 0 else (if (σ (19 + n0) 13) ≤ p3 then 0 else 1 : Int32) : Int32) : Int32) : Int32) = 0 from if_pos hb] at key
        refine go_steps q_Box_fills kc_Box_fills 1 rfl ?_
        exact key
      · have hb : ¬ (p2 < (σ (19 + n0) 9)) := hb
        rw [show (if p2 < (σ (19 + n0) 9) then 0 else (if (σ (19 + n0) 12) ≤ p2 then 0 else (if p3 < (σ (19 + n0) 10) then 0 else (if (σ (19 + n0) 13) ≤ p3 then 0 else 1 : Int32) : Int32) : Int32) : Int32) = (if (σ (19 + n0) 12) ≤ p2 then 0 else (if p3 < (σ (19 + n0) 10) then 0 else (if (σ (19 + n0) 13) ≤ p3 then 0 else 1 : Int32) : Int32) : Int32) from if_neg hb] at key
        refine go_steps q_Box_fills kc_Box_fills 2 rfl ?_
        refine go_getI q_Box_fills kc_Box_fills rfl (am_tt_box hn_n0) rfl ?_
        refine go_steps q_Box_fills kc_Box_fills 1 rfl ?_
        refine go_if (fun hb => ?_) (fun hb => ?_)
        · have hb : (σ (19 + n0) 12) ≤ p2 := hb
          rw [show (if (σ (19 + n0) 12) ≤ p2 then 0 else (if p3 < (σ (19 + n0) 10) then 0 else (if (σ (19 + n0) 13) ≤ p3 then 0 else 1 : Int32) : Int32) : Int32) = 0 from if_pos hb] at key
          refine go_steps q_Box_fills kc_Box_fills 1 rfl ?_
          exact key
        · have hb : ¬ ((σ (19 + n0) 12) ≤ p2) := hb
          rw [show (if (σ (19 + n0) 12) ≤ p2 then 0 else (if p3 < (σ (19 + n0) 10) then 0 else (if (σ (19 + n0) 13) ≤ p3 then 0 else 1 : Int32) : Int32) : Int32) = (if p3 < (σ (19 + n0) 10) then 0 else (if (σ (19 + n0) 13) ≤ p3 then 0 else 1 : Int32) : Int32) from if_neg hb] at key
          refine go_steps q_Box_fills kc_Box_fills 2 rfl ?_
          refine go_getI q_Box_fills kc_Box_fills rfl (am_tt_box hn_n0) rfl ?_
          refine go_steps q_Box_fills kc_Box_fills 1 rfl ?_
          refine go_if (fun hb => ?_) (fun hb => ?_)
          · have hb : p3 < (σ (19 + n0) 10) := hb
            rw [show (if p3 < (σ (19 + n0) 10) then 0 else (if (σ (19 + n0) 13) ≤ p3 then 0 else 1 : Int32) : Int32) = 0 from if_pos hb] at key
            refine go_steps q_Box_fills kc_Box_fills 1 rfl ?_
            exact key
          · have hb : ¬ (p3 < (σ (19 + n0) 10)) := hb
            rw [show (if p3 < (σ (19 + n0) 10) then 0 else (if (σ (19 + n0) 13) ≤ p3 then 0 else 1 : Int32) : Int32) = (if (σ (19 + n0) 13) ≤ p3 then 0 else 1 : Int32) from if_neg hb] at key
            refine go_steps q_Box_fills kc_Box_fills 2 rfl ?_
            refine go_getI q_Box_fills kc_Box_fills rfl (am_tt_box hn_n0) rfl ?_
            refine go_steps q_Box_fills kc_Box_fills 1 rfl ?_
            refine go_if (fun hb => ?_) (fun hb => ?_)
            · have hb : (σ (19 + n0) 13) ≤ p3 := hb
              rw [show (if (σ (19 + n0) 13) ≤ p3 then 0 else 1 : Int32) = 0 from if_pos hb] at key
              refine go_steps q_Box_fills kc_Box_fills 1 rfl ?_
              exact key
            · have hb : ¬ ((σ (19 + n0) 13) ≤ p3) := hb
              rw [show (if (σ (19 + n0) 13) ≤ p3 then 0 else 1 : Int32) = 1 from if_neg hb] at key
              refine go_steps q_Box_fills kc_Box_fills 2 rfl ?_
              exact key
set_option maxHeartbeats 4000000 in
set_option maxRecDepth 100000 in
theorem v_Hold_fitsEmpty_0 {l : Launch} {D : va_G} {DA : Nat → ClassId} {b sz d L : Nat} {cu : Bool} {σ : Nat → Nat → Int32} {r : Option Value} {X' : am_X} (p1 : Int32) (p2 : Int32)
    (hv : (¬ (p1 < 0 ∨ 20 ≤ Int32.toNatClampNeg p1)) ∧ ((((σ 3 2) < (σ (19 + Int32.toNatClampNeg p1) 2)) → (r = some (.int 0) ∧ X' = (am_TT cu L, am_RR cu, σ))) ∧ (¬ ((σ 3 2) < (σ (19 + Int32.toNatClampNeg p1) 2)) → (((p2 = 0) → (((if (σ 3 0) < (if p2 = 0 then σ (19 + Int32.toNatClampNeg p1) 0 else σ (19 + Int32.toNatClampNeg p1) 1 : Int32) then 0 else (if (σ 3 1) < (if p2 = 0 then σ (19 + Int32.toNatClampNeg p1) 1 else σ (19 + Int32.toNatClampNeg p1) 0 : Int32) then 0 else 1 : Int32) : Int32) = 0 ∨ (if (σ 3 0) < (if p2 = 0 then σ (19 + Int32.toNatClampNeg p1) 0 else σ (19 + Int32.toNatClampNeg p1) 1 : Int32) then 0 else (if (σ 3 1) < (if p2 = 0 then σ (19 + Int32.toNatClampNeg p1) 1 else σ (19 + Int32.toNatClampNeg p1) 0 : Int32) then 0 else 1 : Int32) : Int32) = 1) ∧ (r = some (.int (if (σ 3 0) < (if p2 = 0 then σ (19 + Int32.toNatClampNeg p1) 0 else σ (19 + Int32.toNatClampNeg p1) 1 : Int32) then 0 else (if (σ 3 1) < (if p2 = 0 then σ (19 + Int32.toNatClampNeg p1) 1 else σ (19 + Int32.toNatClampNeg p1) 0 : Int32) then 0 else 1 : Int32) : Int32)) ∧ X' = (am_TT cu L, am_RR cu, σ)))) ∧ (¬ (p2 = 0) → ((((σ (19 + Int32.toNatClampNeg p1) 6) = 0) → (r = some (.int 0) ∧ X' = (am_TT cu L, am_RR cu, σ))) ∧ (¬ ((σ (19 + Int32.toNatClampNeg p1) 6) = 0) → (((if (σ 3 0) < (if p2 = 0 then σ (19 + Int32.toNatClampNeg p1) 0 else σ (19 + Int32.toNatClampNeg p1) 1 : Int32) then 0 else (if (σ 3 1) < (if p2 = 0 then σ (19 + Int32.toNatClampNeg p1) 1 else σ (19 + Int32.toNatClampNeg p1) 0 : Int32) then 0 else 1 : Int32) : Int32) = 0 ∨ (if (σ 3 0) < (if p2 = 0 then σ (19 + Int32.toNatClampNeg p1) 0 else σ (19 + Int32.toNatClampNeg p1) 1 : Int32) then 0 else (if (σ 3 1) < (if p2 = 0 then σ (19 + Int32.toNatClampNeg p1) 1 else σ (19 + Int32.toNatClampNeg p1) 0 : Int32) then 0 else 1 : Int32) : Int32) = 1) ∧ (r = some (.int (if (σ 3 0) < (if p2 = 0 then σ (19 + Int32.toNatClampNeg p1) 0 else σ (19 + Int32.toNatClampNeg p1) 1 : Int32) then 0 else (if (σ 3 1) < (if p2 = 0 then σ (19 + Int32.toNatClampNeg p1) 1 else σ (19 + Int32.toNatClampNeg p1) 0 : Int32) then 0 else 1 : Int32) : Int32)) ∧ X' = (am_TT cu L, am_RR cu, σ)))))))))) :
    am_Go l D DA b sz d M_Hold_fitsEmpty (0, [some (.ref 2), some (.int p1), some (.int p2), none, none, none], [], (am_TT cu L, am_RR cu, σ)) r X' := by
  refine go_steps q_Hold_fitsEmpty kc_Hold_fitsEmpty 3 rfl ?_
  obtain ⟨hc1, hv⟩ := hv
  refine go_aaload q_Hold_fitsEmpty kc_Hold_fitsEmpty rfl rfl hc1 (am_rr4 (am_inb hc1)) ?_
  refine go_steps q_Hold_fitsEmpty kc_Hold_fitsEmpty 2 rfl ?_
  refine go_getI q_Hold_fitsEmpty kc_Hold_fitsEmpty rfl (am_tt_box (am_inb hc1)) rfl ?_
  refine go_steps q_Hold_fitsEmpty kc_Hold_fitsEmpty 4 rfl ?_
  refine go_if (fun hb => ?_) (fun hb => ?_)
  · have hb : (σ 3 2) < (σ (19 + Int32.toNatClampNeg p1) 2) := hb
    replace hv := hv.1 hb
    refine go_steps q_Hold_fitsEmpty kc_Hold_fitsEmpty 1 rfl ?_
    obtain ⟨rfl, rfl⟩ := hv
    exact go_retI q_Hold_fitsEmpty kc_Hold_fitsEmpty rfl rfl rfl
  · have hb : ¬ ((σ 3 2) < (σ (19 + Int32.toNatClampNeg p1) 2)) := hb
    replace hv := hv.2 hb
    refine go_steps q_Hold_fitsEmpty kc_Hold_fitsEmpty 2 rfl ?_
    refine go_if (fun hb => ?_) (fun hb => ?_)
    · have hb : p2 = 0 := hb
      replace hv := hv.1 hb
      refine go_steps q_Hold_fitsEmpty kc_Hold_fitsEmpty 2 rfl ?_
      have key : am_Go l D DA b sz d M_Hold_fitsEmpty (49, [some (.ref 2), some (.int p1), some (.int p2), some (.ref (19 + Int32.toNatClampNeg p1)), none, none], [.int (if p2 = 0 then σ (19 + Int32.toNatClampNeg p1) 0 else σ (19 + Int32.toNatClampNeg p1) 1 : Int32)], (am_TT cu L, am_RR cu, σ)) r X' := by
        refine go_steps q_Hold_fitsEmpty kc_Hold_fitsEmpty 3 rfl ?_
        have key : am_Go l D DA b sz d M_Hold_fitsEmpty (66, [some (.ref 2), some (.int p1), some (.int p2), some (.ref (19 + Int32.toNatClampNeg p1)), some (.int (if p2 = 0 then σ (19 + Int32.toNatClampNeg p1) 0 else σ (19 + Int32.toNatClampNeg p1) 1 : Int32)), none], [.int (if p2 = 0 then σ (19 + Int32.toNatClampNeg p1) 1 else σ (19 + Int32.toNatClampNeg p1) 0 : Int32)], (am_TT cu L, am_RR cu, σ)) r X' := by
          refine go_steps q_Hold_fitsEmpty kc_Hold_fitsEmpty 6 rfl ?_
          have key : am_Go l D DA b sz d M_Hold_fitsEmpty (97, [some (.ref 2), some (.int p1), some (.int p2), some (.ref (19 + Int32.toNatClampNeg p1)), some (.int (if p2 = 0 then σ (19 + Int32.toNatClampNeg p1) 0 else σ (19 + Int32.toNatClampNeg p1) 1 : Int32)), some (.int (if p2 = 0 then σ (19 + Int32.toNatClampNeg p1) 1 else σ (19 + Int32.toNatClampNeg p1) 0 : Int32))], [.int (if (σ 3 0) < (if p2 = 0 then σ (19 + Int32.toNatClampNeg p1) 0 else σ (19 + Int32.toNatClampNeg p1) 1 : Int32) then 0 else (if (σ 3 1) < (if p2 = 0 then σ (19 + Int32.toNatClampNeg p1) 1 else σ (19 + Int32.toNatClampNeg p1) 0 : Int32) then 0 else 1 : Int32) : Int32)], (am_TT cu L, am_RR cu, σ)) r X' := by
            obtain ⟨hc, rfl, rfl⟩ := hv
            exact go_retI q_Hold_fitsEmpty kc_Hold_fitsEmpty rfl rfl (am_nar hc)
          refine go_if (fun hb => ?_) (fun hb => ?_)
          · have hb : (σ 3 0) < (if p2 = 0 then σ (19 + Int32.toNatClampNeg p1) 0 else σ (19 + Int32.toNatClampNeg p1) 1 : Int32) := hb
            rw [show (if (σ 3 0) < (if p2 = 0 then σ (19 + Int32.toNatClampNeg p1) 0 else σ (19 + Int32.toNatClampNeg p1) 1 : Int32) then 0 else (if (σ 3 1) < (if p2 = 0 then σ (19 + Int32.toNatClampNeg p1) 1 else σ (19 + Int32.toNatClampNeg p1) 0 : Int32) then 0 else 1 : Int32) : Int32) = 0 from if_pos hb] at key
            refine go_steps q_Hold_fitsEmpty kc_Hold_fitsEmpty 1 rfl ?_
            exact key
          · have hb : ¬ ((σ 3 0) < (if p2 = 0 then σ (19 + Int32.toNatClampNeg p1) 0 else σ (19 + Int32.toNatClampNeg p1) 1 : Int32)) := hb
            rw [show (if (σ 3 0) < (if p2 = 0 then σ (19 + Int32.toNatClampNeg p1) 0 else σ (19 + Int32.toNatClampNeg p1) 1 : Int32) then 0 else (if (σ 3 1) < (if p2 = 0 then σ (19 + Int32.toNatClampNeg p1) 1 else σ (19 + Int32.toNatClampNeg p1) 0 : Int32) then 0 else 1 : Int32) : Int32) = (if (σ 3 1) < (if p2 = 0 then σ (19 + Int32.toNatClampNeg p1) 1 else σ (19 + Int32.toNatClampNeg p1) 0 : Int32) then 0 else 1 : Int32) from if_neg hb] at key
            refine go_steps q_Hold_fitsEmpty kc_Hold_fitsEmpty 5 rfl ?_
            refine go_if (fun hb => ?_) (fun hb => ?_)
            · have hb : (σ 3 1) < (if p2 = 0 then σ (19 + Int32.toNatClampNeg p1) 1 else σ (19 + Int32.toNatClampNeg p1) 0 : Int32) := hb
              rw [show (if (σ 3 1) < (if p2 = 0 then σ (19 + Int32.toNatClampNeg p1) 1 else σ (19 + Int32.toNatClampNeg p1) 0 : Int32) then 0 else 1 : Int32) = 0 from if_pos hb] at key
              refine go_steps q_Hold_fitsEmpty kc_Hold_fitsEmpty 1 rfl ?_
              exact key
            · have hb : ¬ ((σ 3 1) < (if p2 = 0 then σ (19 + Int32.toNatClampNeg p1) 1 else σ (19 + Int32.toNatClampNeg p1) 0 : Int32)) := hb
              rw [show (if (σ 3 1) < (if p2 = 0 then σ (19 + Int32.toNatClampNeg p1) 1 else σ (19 + Int32.toNatClampNeg p1) 0 : Int32) then 0 else 1 : Int32) = 1 from if_neg hb] at key
              refine go_steps q_Hold_fitsEmpty kc_Hold_fitsEmpty 2 rfl ?_
              exact key
        refine go_if (fun hb => ?_) (fun hb => ?_)
        · have hb : p2 = 0 := hb
          rw [show (if p2 = 0 then σ (19 + Int32.toNatClampNeg p1) 1 else σ (19 + Int32.toNatClampNeg p1) 0 : Int32) = (σ (19 + Int32.toNatClampNeg p1) 1) from if_pos hb] at key
          refine go_steps q_Hold_fitsEmpty kc_Hold_fitsEmpty 1 rfl ?_
          refine go_getI q_Hold_fitsEmpty kc_Hold_fitsEmpty rfl (am_tt_box (am_inb hc1)) rfl ?_
          exact key
        · have hb : ¬ (p2 = 0) := hb
          rw [show (if p2 = 0 then σ (19 + Int32.toNatClampNeg p1) 1 else σ (19 + Int32.toNatClampNeg p1) 0 : Int32) = (σ (19 + Int32.toNatClampNeg p1) 0) from if_neg hb] at key
          refine go_steps q_Hold_fitsEmpty kc_Hold_fitsEmpty 1 rfl ?_
          refine go_getI q_Hold_fitsEmpty kc_Hold_fitsEmpty rfl (am_tt_box (am_inb hc1)) rfl ?_
          refine go_steps q_Hold_fitsEmpty kc_Hold_fitsEmpty 1 rfl ?_
          exact key
      refine go_if (fun hb => ?_) (fun hb => ?_)
      · have hb : p2 = 0 := hb
        rw [show (if p2 = 0 then σ (19 + Int32.toNatClampNeg p1) 0 else σ (19 + Int32.toNatClampNeg p1) 1 : Int32) = (σ (19 + Int32.toNatClampNeg p1) 0) from if_pos hb] at key
        refine go_steps q_Hold_fitsEmpty kc_Hold_fitsEmpty 1 rfl ?_
        refine go_getI q_Hold_fitsEmpty kc_Hold_fitsEmpty rfl (am_tt_box (am_inb hc1)) rfl ?_
        exact key
      · have hb : ¬ (p2 = 0) := hb
        rw [show (if p2 = 0 then σ (19 + Int32.toNatClampNeg p1) 0 else σ (19 + Int32.toNatClampNeg p1) 1 : Int32) = (σ (19 + Int32.toNatClampNeg p1) 1) from if_neg hb] at key
        refine go_steps q_Hold_fitsEmpty kc_Hold_fitsEmpty 1 rfl ?_
        refine go_getI q_Hold_fitsEmpty kc_Hold_fitsEmpty rfl (am_tt_box (am_inb hc1)) rfl ?_
        refine go_steps q_Hold_fitsEmpty kc_Hold_fitsEmpty 1 rfl ?_
        exact key
    · have hb : ¬ (p2 = 0) := hb
      replace hv := hv.2 hb
      refine go_steps q_Hold_fitsEmpty kc_Hold_fitsEmpty 1 rfl ?_
      refine go_getI q_Hold_fitsEmpty kc_Hold_fitsEmpty rfl (am_tt_box (am_inb hc1)) rfl ?_
      refine go_steps q_Hold_fitsEmpty kc_Hold_fitsEmpty 1 rfl ?_
      refine go_if (fun hb => ?_) (fun hb => ?_)
      · have hb : (σ (19 + Int32.toNatClampNeg p1) 6) = 0 := hb
        replace hv := hv.1 hb
        refine go_steps q_Hold_fitsEmpty kc_Hold_fitsEmpty 1 rfl ?_
        obtain ⟨rfl, rfl⟩ := hv
        exact go_retI q_Hold_fitsEmpty kc_Hold_fitsEmpty rfl rfl rfl
      · have hb : ¬ ((σ (19 + Int32.toNatClampNeg p1) 6) = 0) := hb
        replace hv := hv.2 hb
        refine go_steps q_Hold_fitsEmpty kc_Hold_fitsEmpty 2 rfl ?_
        have key : am_Go l D DA b sz d M_Hold_fitsEmpty (49, [some (.ref 2), some (.int p1), some (.int p2), some (.ref (19 + Int32.toNatClampNeg p1)), none, none], [.int (if p2 = 0 then σ (19 + Int32.toNatClampNeg p1) 0 else σ (19 + Int32.toNatClampNeg p1) 1 : Int32)], (am_TT cu L, am_RR cu, σ)) r X' := by
          refine go_steps q_Hold_fitsEmpty kc_Hold_fitsEmpty 3 rfl ?_
          have key : am_Go l D DA b sz d M_Hold_fitsEmpty (66, [some (.ref 2), some (.int p1), some (.int p2), some (.ref (19 + Int32.toNatClampNeg p1)), some (.int (if p2 = 0 then σ (19 + Int32.toNatClampNeg p1) 0 else σ (19 + Int32.toNatClampNeg p1) 1 : Int32)), none], [.int (if p2 = 0 then σ (19 + Int32.toNatClampNeg p1) 1 else σ (19 + Int32.toNatClampNeg p1) 0 : Int32)], (am_TT cu L, am_RR cu, σ)) r X' := by
            refine go_steps q_Hold_fitsEmpty kc_Hold_fitsEmpty 6 rfl ?_
            have key : am_Go l D DA b sz d M_Hold_fitsEmpty (97, [some (.ref 2), some (.int p1), some (.int p2), some (.ref (19 + Int32.toNatClampNeg p1)), some (.int (if p2 = 0 then σ (19 + Int32.toNatClampNeg p1) 0 else σ (19 + Int32.toNatClampNeg p1) 1 : Int32)), some (.int (if p2 = 0 then σ (19 + Int32.toNatClampNeg p1) 1 else σ (19 + Int32.toNatClampNeg p1) 0 : Int32))], [.int (if (σ 3 0) < (if p2 = 0 then σ (19 + Int32.toNatClampNeg p1) 0 else σ (19 + Int32.toNatClampNeg p1) 1 : Int32) then 0 else (if (σ 3 1) < (if p2 = 0 then σ (19 + Int32.toNatClampNeg p1) 1 else σ (19 + Int32.toNatClampNeg p1) 0 : Int32) then 0 else 1 : Int32) : Int32)], (am_TT cu L, am_RR cu, σ)) r X' := by
              obtain ⟨hc, rfl, rfl⟩ := hv
              exact go_retI q_Hold_fitsEmpty kc_Hold_fitsEmpty rfl rfl (am_nar hc)
            refine go_if (fun hb => ?_) (fun hb => ?_)
            · have hb : (σ 3 0) < (if p2 = 0 then σ (19 + Int32.toNatClampNeg p1) 0 else σ (19 + Int32.toNatClampNeg p1) 1 : Int32) := hb
              rw [show (if (σ 3 0) < (if p2 = 0 then σ (19 + Int32.toNatClampNeg p1) 0 else σ (19 + Int32.toNatClampNeg p1) 1 : Int32) then 0 else (if (σ 3 1) < (if p2 = 0 then σ (19 + Int32.toNatClampNeg p1) 1 else σ (19 + Int32.toNatClampNeg p1) 0 : Int32) then 0 else 1 : Int32) : Int32) = 0 from if_pos hb] at key
              refine go_steps q_Hold_fitsEmpty kc_Hold_fitsEmpty 1 rfl ?_
              exact key
            · have hb : ¬ ((σ 3 0) < (if p2 = 0 then σ (19 + Int32.toNatClampNeg p1) 0 else σ (19 + Int32.toNatClampNeg p1) 1 : Int32)) := hb
              rw [show (if (σ 3 0) < (if p2 = 0 then σ (19 + Int32.toNatClampNeg p1) 0 else σ (19 + Int32.toNatClampNeg p1) 1 : Int32) then 0 else (if (σ 3 1) < (if p2 = 0 then σ (19 + Int32.toNatClampNeg p1) 1 else σ (19 + Int32.toNatClampNeg p1) 0 : Int32) then 0 else 1 : Int32) : Int32) = (if (σ 3 1) < (if p2 = 0 then σ (19 + Int32.toNatClampNeg p1) 1 else σ (19 + Int32.toNatClampNeg p1) 0 : Int32) then 0 else 1 : Int32) from if_neg hb] at key
              refine go_steps q_Hold_fitsEmpty kc_Hold_fitsEmpty 5 rfl ?_
              refine go_if (fun hb => ?_) (fun hb => ?_)
              · have hb : (σ 3 1) < (if p2 = 0 then σ (19 + Int32.toNatClampNeg p1) 1 else σ (19 + Int32.toNatClampNeg p1) 0 : Int32) := hb
                rw [show (if (σ 3 1) < (if p2 = 0 then σ (19 + Int32.toNatClampNeg p1) 1 else σ (19 + Int32.toNatClampNeg p1) 0 : Int32) then 0 else 1 : Int32) = 0 from if_pos hb] at key
                refine go_steps q_Hold_fitsEmpty kc_Hold_fitsEmpty 1 rfl ?_
                exact key
              · have hb : ¬ ((σ 3 1) < (if p2 = 0 then σ (19 + Int32.toNatClampNeg p1) 1 else σ (19 + Int32.toNatClampNeg p1) 0 : Int32)) := hb
                rw [show (if (σ 3 1) < (if p2 = 0 then σ (19 + Int32.toNatClampNeg p1) 1 else σ (19 + Int32.toNatClampNeg p1) 0 : Int32) then 0 else 1 : Int32) = 1 from if_neg hb] at key
                refine go_steps q_Hold_fitsEmpty kc_Hold_fitsEmpty 2 rfl ?_
                exact key
          refine go_if (fun hb => ?_) (fun hb => ?_)
          · have hb : p2 = 0 := hb
            rw [show (if p2 = 0 then σ (19 + Int32.toNatClampNeg p1) 1 else σ (19 + Int32.toNatClampNeg p1) 0 : Int32) = (σ (19 + Int32.toNatClampNeg p1) 1) from if_pos hb] at key
            refine go_steps q_Hold_fitsEmpty kc_Hold_fitsEmpty 1 rfl ?_
            refine go_getI q_Hold_fitsEmpty kc_Hold_fitsEmpty rfl (am_tt_box (am_inb hc1)) rfl ?_
            exact key
          · have hb : ¬ (p2 = 0) := hb
            rw [show (if p2 = 0 then σ (19 + Int32.toNatClampNeg p1) 1 else σ (19 + Int32.toNatClampNeg p1) 0 : Int32) = (σ (19 + Int32.toNatClampNeg p1) 0) from if_neg hb] at key
            refine go_steps q_Hold_fitsEmpty kc_Hold_fitsEmpty 1 rfl ?_
            refine go_getI q_Hold_fitsEmpty kc_Hold_fitsEmpty rfl (am_tt_box (am_inb hc1)) rfl ?_
            refine go_steps q_Hold_fitsEmpty kc_Hold_fitsEmpty 1 rfl ?_
            exact key
        refine go_if (fun hb => ?_) (fun hb => ?_)
        · have hb : p2 = 0 := hb
          rw [show (if p2 = 0 then σ (19 + Int32.toNatClampNeg p1) 0 else σ (19 + Int32.toNatClampNeg p1) 1 : Int32) = (σ (19 + Int32.toNatClampNeg p1) 0) from if_pos hb] at key
          refine go_steps q_Hold_fitsEmpty kc_Hold_fitsEmpty 1 rfl ?_
          refine go_getI q_Hold_fitsEmpty kc_Hold_fitsEmpty rfl (am_tt_box (am_inb hc1)) rfl ?_
          exact key
        · have hb : ¬ (p2 = 0) := hb
          rw [show (if p2 = 0 then σ (19 + Int32.toNatClampNeg p1) 0 else σ (19 + Int32.toNatClampNeg p1) 1 : Int32) = (σ (19 + Int32.toNatClampNeg p1) 1) from if_neg hb] at key
          refine go_steps q_Hold_fitsEmpty kc_Hold_fitsEmpty 1 rfl ?_
          refine go_getI q_Hold_fitsEmpty kc_Hold_fitsEmpty rfl (am_tt_box (am_inb hc1)) rfl ?_
          refine go_steps q_Hold_fitsEmpty kc_Hold_fitsEmpty 1 rfl ?_
          exact key
set_option maxHeartbeats 4000000 in
set_option maxRecDepth 100000 in
theorem v_Box_volume_0 {l : Launch} {D : va_G} {DA : Nat → ClassId} {b sz d L : Nat} {cu : Bool} {σ : Nat → Nat → Int32} {r : Option Value} {X' : am_X} (n0 : Nat) (hn_n0 : n0 < 20)
    (hv : r = some (.int (((σ (19 + n0) 0) * (σ (19 + n0) 1)) * (σ (19 + n0) 2))) ∧ X' = (am_TT cu L, am_RR cu, σ)) :
    am_Go l D DA b sz d M_Box_volume (0, [some (.ref (19 + n0))], [], (am_TT cu L, am_RR cu, σ)) r X' := by
  refine go_steps q_Box_volume kc_Box_volume 1 rfl ?_
  refine go_getI q_Box_volume kc_Box_volume rfl (am_tt_box hn_n0) rfl ?_
  refine go_steps q_Box_volume kc_Box_volume 1 rfl ?_
  refine go_getI q_Box_volume kc_Box_volume rfl (am_tt_box hn_n0) rfl ?_
  refine go_steps q_Box_volume kc_Box_volume 2 rfl ?_
  refine go_getI q_Box_volume kc_Box_volume rfl (am_tt_box hn_n0) rfl ?_
  refine go_steps q_Box_volume kc_Box_volume 1 rfl ?_
  obtain ⟨rfl, rfl⟩ := hv
  exact go_retI q_Box_volume kc_Box_volume rfl rfl rfl
set_option maxHeartbeats 4000000 in
set_option maxRecDepth 100000 in
theorem v_Hold_weightIn_0 {l : Launch} {D : va_G} {DA : Nat → ClassId} {b sz d L : Nat} {cu : Bool} {σ : Nat → Nat → Int32} {r : Option Value} {X' : am_X}
    (hv : am_Go l D DA b sz (d + 1) M_Hold_weightIn (4, [some (.ref 2), some (.int 0), some (.int 0)], [], (am_TT cu L, am_RR cu, σ)) r X') :
    am_Go l D DA b sz (d + 1) M_Hold_weightIn (0, [some (.ref 2), none, none], [], (am_TT cu L, am_RR cu, σ)) r X' := by
  refine go_steps q_Hold_weightIn kc_Hold_weightIn 4 rfl ?_
  refine go_le (L1 := [some (.ref 2), some (.int 0), some (.int 0)]) (by repeat (first | exact trivial | refine ⟨rfl, ?_⟩)) ?_
  exact hv
set_option maxHeartbeats 4000000 in
set_option maxRecDepth 100000 in
theorem v_Hold_weightIn_4 {l : Launch} {D : va_G} {DA : Nat → ClassId} {b sz d L : Nat} {cu : Bool} {σ : Nat → Nat → Int32} {r : Option Value} {X' : am_X} (p1 : Int32) (p2 : Int32)
    (hv : (((σ 2 2) ≤ p2) → (r = some (.int p1) ∧ X' = (am_TT cu L, am_RR cu, σ))) ∧ (¬ ((σ 2 2) ≤ p2) → (∃ (r1 : Int32) (σ1 : Nat → Nat → Int32), am_Go l D DA b sz d M_Hold_has (0, [some (.ref 2), some (.int p2)], [], (am_TT cu L, am_RR cu, σ)) (some (.int r1)) (am_TT cu L, am_RR cu, σ1) ∧ (((r1 = 0) → (am_Go l D DA b sz (d + 1) M_Hold_weightIn (4, [some (.ref 2), some (.int p1), some (.int (p2 + 1))], [], (am_TT cu L, am_RR cu, σ1)) r X')) ∧ (¬ (r1 = 0) → ((¬ (p2 < 0 ∨ 20 ≤ Int32.toNatClampNeg p2)) ∧ (am_Go l D DA b sz (d + 1) M_Hold_weightIn (4, [some (.ref 2), some (.int (p1 + (σ1 (19 + Int32.toNatClampNeg p2) 3))), some (.int (p2 + 1))], [], (am_TT cu L, am_RR cu, σ1)) r X'))))))) :
    am_Go l D DA b sz (d + 1) M_Hold_weightIn (4, [some (.ref 2), some (.int p1), some (.int p2)], [], (am_TT cu L, am_RR cu, σ)) r X' := by
  refine go_steps q_Hold_weightIn kc_Hold_weightIn 4 rfl ?_
  refine go_if (fun hb => ?_) (fun hb => ?_)
  · have hb : (σ 2 2) ≤ p2 := hb
    replace hv := hv.1 hb
    refine go_steps q_Hold_weightIn kc_Hold_weightIn 1 rfl ?_
    obtain ⟨rfl, rfl⟩ := hv
    exact go_retI q_Hold_weightIn kc_Hold_weightIn rfl rfl rfl
  · have hb : ¬ ((σ 2 2) ≤ p2) := hb
    replace hv := hv.2 hb
    refine go_steps q_Hold_weightIn kc_Hold_weightIn 2 rfl ?_
    obtain ⟨r1, σ1, hg, hv⟩ := hv
    refine go_callV q_Hold_weightIn kc_Hold_weightIn rfl q_Hold_has am_k18 ⟨rfl, rfl, by decide⟩ rfl rfl (Nat.le_of_ble_eq_true rfl) (Nat.le_of_ble_eq_true rfl) rfl rfl hg ?_
    refine go_steps q_Hold_weightIn kc_Hold_weightIn 1 rfl ?_
    refine go_if (fun hb => ?_) (fun hb => ?_)
    · have hb : r1 = 0 := hb
      replace hv := hv.1 hb
      refine go_steps q_Hold_weightIn kc_Hold_weightIn 2 rfl ?_
      refine go_le (L1 := [some (.ref 2), some (.int p1), some (.int (p2 + 1))]) (by repeat (first | exact trivial | refine ⟨rfl, ?_⟩)) ?_
      exact hv
    · have hb : ¬ (r1 = 0) := hb
      replace hv := hv.2 hb
      refine go_steps q_Hold_weightIn kc_Hold_weightIn 4 rfl ?_
      obtain ⟨hc1, hv⟩ := hv
      refine go_aaload q_Hold_weightIn kc_Hold_weightIn rfl rfl hc1 (am_rr4 (am_inb hc1)) ?_
      refine go_getI q_Hold_weightIn kc_Hold_weightIn rfl (am_tt_box (am_inb hc1)) rfl ?_
      refine go_steps q_Hold_weightIn kc_Hold_weightIn 4 rfl ?_
      refine go_le (L1 := [some (.ref 2), some (.int (p1 + (σ1 (19 + Int32.toNatClampNeg p2) 3))), some (.int (p2 + 1))]) (by repeat (first | exact trivial | refine ⟨rfl, ?_⟩)) ?_
      exact hv
set_option maxHeartbeats 4000000 in
set_option maxRecDepth 100000 in
theorem v_Hold_cellsFilled_0 {l : Launch} {D : va_G} {DA : Nat → ClassId} {b sz d L : Nat} {cu : Bool} {σ : Nat → Nat → Int32} {r : Option Value} {X' : am_X}
    (hv : am_Go l D DA b sz (d + 1) M_Hold_cellsFilled (4, [some (.ref 2), some (.int 0), some (.int 0)], [], (am_TT cu L, am_RR cu, σ)) r X') :
    am_Go l D DA b sz (d + 1) M_Hold_cellsFilled (0, [some (.ref 2), none, none], [], (am_TT cu L, am_RR cu, σ)) r X' := by
  refine go_steps q_Hold_cellsFilled kc_Hold_cellsFilled 4 rfl ?_
  refine go_le (L1 := [some (.ref 2), some (.int 0), some (.int 0)]) (by repeat (first | exact trivial | refine ⟨rfl, ?_⟩)) ?_
  exact hv
set_option maxHeartbeats 4000000 in
set_option maxRecDepth 100000 in
theorem v_Hold_cellsFilled_4 {l : Launch} {D : va_G} {DA : Nat → ClassId} {b sz d L : Nat} {cu : Bool} {σ : Nat → Nat → Int32} {r : Option Value} {X' : am_X} (p1 : Int32) (p2 : Int32)
    (hv : (((σ 2 2) ≤ p2) → (r = some (.int p1) ∧ X' = (am_TT cu L, am_RR cu, σ))) ∧ (¬ ((σ 2 2) ≤ p2) → (∃ (r1 : Int32) (σ1 : Nat → Nat → Int32), am_Go l D DA b sz d M_Hold_has (0, [some (.ref 2), some (.int p2)], [], (am_TT cu L, am_RR cu, σ)) (some (.int r1)) (am_TT cu L, am_RR cu, σ1) ∧ (((r1 = 0) → (am_Go l D DA b sz (d + 1) M_Hold_cellsFilled (4, [some (.ref 2), some (.int p1), some (.int (p2 + 1))], [], (am_TT cu L, am_RR cu, σ1)) r X')) ∧ (¬ (r1 = 0) → ((¬ (p2 < 0 ∨ 20 ≤ Int32.toNatClampNeg p2)) ∧ (∃ (r2 : Int32) (σ2 : Nat → Nat → Int32), am_Go l D DA b sz d M_Box_volume (0, [some (.ref (19 + Int32.toNatClampNeg p2))], [], (am_TT cu L, am_RR cu, σ1)) (some (.int r2)) (am_TT cu L, am_RR cu, σ2) ∧ (am_Go l D DA b sz (d + 1) M_Hold_cellsFilled (4, [some (.ref 2), some (.int (p1 + r2)), some (.int (p2 + 1))], [], (am_TT cu L, am_RR cu, σ2)) r X')))))))) :
    am_Go l D DA b sz (d + 1) M_Hold_cellsFilled (4, [some (.ref 2), some (.int p1), some (.int p2)], [], (am_TT cu L, am_RR cu, σ)) r X' := by
  refine go_steps q_Hold_cellsFilled kc_Hold_cellsFilled 4 rfl ?_
  refine go_if (fun hb => ?_) (fun hb => ?_)
  · have hb : (σ 2 2) ≤ p2 := hb
    replace hv := hv.1 hb
    refine go_steps q_Hold_cellsFilled kc_Hold_cellsFilled 1 rfl ?_
    obtain ⟨rfl, rfl⟩ := hv
    exact go_retI q_Hold_cellsFilled kc_Hold_cellsFilled rfl rfl rfl
  · have hb : ¬ ((σ 2 2) ≤ p2) := hb
    replace hv := hv.2 hb
    refine go_steps q_Hold_cellsFilled kc_Hold_cellsFilled 2 rfl ?_
    obtain ⟨r1, σ1, hg, hv⟩ := hv
    refine go_callV q_Hold_cellsFilled kc_Hold_cellsFilled rfl q_Hold_has am_k18 ⟨rfl, rfl, by decide⟩ rfl rfl (Nat.le_of_ble_eq_true rfl) (Nat.le_of_ble_eq_true rfl) rfl rfl hg ?_
    refine go_steps q_Hold_cellsFilled kc_Hold_cellsFilled 1 rfl ?_
    refine go_if (fun hb => ?_) (fun hb => ?_)
    · have hb : r1 = 0 := hb
      replace hv := hv.1 hb
      refine go_steps q_Hold_cellsFilled kc_Hold_cellsFilled 2 rfl ?_
      refine go_le (L1 := [some (.ref 2), some (.int p1), some (.int (p2 + 1))]) (by repeat (first | exact trivial | refine ⟨rfl, ?_⟩)) ?_
      exact hv
    · have hb : ¬ (r1 = 0) := hb
      replace hv := hv.2 hb
      refine go_steps q_Hold_cellsFilled kc_Hold_cellsFilled 4 rfl ?_
      obtain ⟨hc1, hv⟩ := hv
      refine go_aaload q_Hold_cellsFilled kc_Hold_cellsFilled rfl rfl hc1 (am_rr4 (am_inb hc1)) ?_
      obtain ⟨r2, σ2, hg, hv⟩ := hv
      refine go_callV q_Hold_cellsFilled kc_Hold_cellsFilled rfl q_Box_volume am_k88 ⟨rfl, rfl, by decide⟩ rfl rfl (Nat.le_of_ble_eq_true rfl) (Nat.le_of_ble_eq_true rfl) rfl (am_tt_box (am_inb hc1)) hg ?_
      refine go_steps q_Hold_cellsFilled kc_Hold_cellsFilled 4 rfl ?_
      refine go_le (L1 := [some (.ref 2), some (.int (p1 + r2)), some (.int (p2 + 1))]) (by repeat (first | exact trivial | refine ⟨rfl, ?_⟩)) ?_
      exact hv
