/-! what must hold at each cut point of a method, so that it comes to its return (written by tools/mkvc.py) -/
set_option maxHeartbeats 4000000 in
set_option maxRecDepth 100000 in
theorem v_B_within_0 {l : Launch} {D : va_G} {DA : Nat → ClassId} {b sz d L : Nat} {cu : Bool} {σ : Nat → Nat → Int32} {r : Option Value} {X' : am_X} (p0 : Int32) (p1 : Int32) (p2 : Int32)
    (hv : ((if p0 < p1 then 0 else (if p2 < p0 then 0 else 1 : Int32) : Int32) = 0 ∨ (if p0 < p1 then 0 else (if p2 < p0 then 0 else 1 : Int32) : Int32) = 1) ∧ (r = some (.int (if p0 < p1 then 0 else (if p2 < p0 then 0 else 1 : Int32) : Int32)) ∧ X' = (am_TT cu L, am_RR cu, σ))) :
    am_Go l D DA b sz d M_B_within (0, [some (.int p0), some (.int p1), some (.int p2)], [], (am_TT cu L, am_RR cu, σ)) r X' := by
  refine go_steps q_B_within kc_B_within 3 rfl ?_
  have key : am_Go l D DA b sz d M_B_within (15, [some (.int p0), some (.int p1), some (.int p2)], [.int (if p0 < p1 then 0 else (if p2 < p0 then 0 else 1 : Int32) : Int32)], (am_TT cu L, am_RR cu, σ)) r X' := by
    obtain ⟨hc, rfl, rfl⟩ := hv
    exact go_retI q_B_within kc_B_within rfl rfl (am_nar hc)
  refine go_if (fun hb => ?_) (fun hb => ?_)
  · have hb : p0 < p1 := hb
    rw [show (if p0 < p1 then 0 else (if p2 < p0 then 0 else 1 : Int32) : Int32) = 0 from if_pos hb] at key
    refine go_steps q_B_within kc_B_within 1 rfl ?_
    exact key
  · have hb : ¬ (p0 < p1) := hb
    rw [show (if p0 < p1 then 0 else (if p2 < p0 then 0 else 1 : Int32) : Int32) = (if p2 < p0 then 0 else 1 : Int32) from if_neg hb] at key
    refine go_steps q_B_within kc_B_within 3 rfl ?_
    refine go_if (fun hb => ?_) (fun hb => ?_)
    · have hb : p2 < p0 := hb
      rw [show (if p2 < p0 then 0 else 1 : Int32) = 0 from if_pos hb] at key
      refine go_steps q_B_within kc_B_within 1 rfl ?_
      exact key
    · have hb : ¬ (p2 < p0) := hb
      rw [show (if p2 < p0 then 0 else 1 : Int32) = 1 from if_neg hb] at key
      refine go_steps q_B_within kc_B_within 2 rfl ?_
      exact key
set_option maxHeartbeats 4000000 in
set_option maxRecDepth 100000 in
theorem v_B_truck_0 {l : Launch} {D : va_G} {DA : Nat → ClassId} {b sz d L : Nat} {cu : Bool} {σ : Nat → Nat → Int32} {r : Option Value} {X' : am_X} (p1 : Int32) (p2 : Int32) (p3 : Int32)
    (hv : (∃ (r1 : Int32) (σ1 : Nat → Nat → Int32), am_Go l D DA b sz d M_B_within (0, [some (.int p1), some (.int 1), some (.int 40)], [], (am_TT cu L, am_RR cu, σ)) (some (.int r1)) (am_TT cu L, am_RR cu, σ1) ∧ (((r1 = 0) → (r = some (.int (-2)) ∧ X' = (am_TT cu L, am_RR cu, σ1))) ∧ (¬ (r1 = 0) → (∃ (r2 : Int32) (σ2 : Nat → Nat → Int32), am_Go l D DA b sz d M_B_within (0, [some (.int p2), some (.int 1), some (.int 12)], [], (am_TT cu L, am_RR cu, σ1)) (some (.int r2)) (am_TT cu L, am_RR cu, σ2) ∧ (((r2 = 0) → (r = some (.int (-2)) ∧ X' = (am_TT cu L, am_RR cu, σ2))) ∧ (¬ (r2 = 0) → (∃ (r3 : Int32) (σ3 : Nat → Nat → Int32), am_Go l D DA b sz d M_B_within (0, [some (.int p3), some (.int 1), some (.int 12)], [], (am_TT cu L, am_RR cu, σ2)) (some (.int r3)) (am_TT cu L, am_RR cu, σ3) ∧ (((r3 = 0) → (r = some (.int (-2)) ∧ X' = (am_TT cu L, am_RR cu, σ3))) ∧ (¬ (r3 = 0) → ((((σ3 2 3) = 0) → (r = some (.int 1) ∧ X' = (am_TT cu L, am_RR cu, am_us (am_us (am_us σ3 3 0 p1) 3 1 p2) 3 2 p3))) ∧ (¬ ((σ3 2 3) = 0) → (r = some (.int (-4)) ∧ X' = (am_TT cu L, am_RR cu, σ3)))))))))))))) :
    am_Go l D DA b sz (d + 1) M_B_truck (0, [some (.ref 1), some (.int p1), some (.int p2), some (.int p3)], [], (am_TT cu L, am_RR cu, σ)) r X' := by
  refine go_steps q_B_truck kc_B_truck 3 rfl ?_
  obtain ⟨r1, σ1, hg, hv⟩ := hv
  refine go_callS q_B_truck kc_B_truck rfl q_B_within am_k9 rfl rfl rfl (Nat.le_of_ble_eq_true rfl) (Nat.le_of_ble_eq_true rfl) hg ?_
  refine go_steps q_B_truck kc_B_truck 1 rfl ?_
  refine go_if (fun hb => ?_) (fun hb => ?_)
  · have hb : r1 = 0 := hb
    replace hv := hv.1 hb
    refine go_steps q_B_truck kc_B_truck 1 rfl ?_
    obtain ⟨rfl, rfl⟩ := hv
    exact go_retI q_B_truck kc_B_truck rfl rfl rfl
  · have hb : ¬ (r1 = 0) := hb
    replace hv := hv.2 hb
    refine go_steps q_B_truck kc_B_truck 3 rfl ?_
    obtain ⟨r2, σ2, hg, hv⟩ := hv
    refine go_callS q_B_truck kc_B_truck rfl q_B_within am_k9 rfl rfl rfl (Nat.le_of_ble_eq_true rfl) (Nat.le_of_ble_eq_true rfl) hg ?_
    refine go_steps q_B_truck kc_B_truck 1 rfl ?_
    refine go_if (fun hb => ?_) (fun hb => ?_)
    · have hb : r2 = 0 := hb
      replace hv := hv.1 hb
      refine go_steps q_B_truck kc_B_truck 1 rfl ?_
      obtain ⟨rfl, rfl⟩ := hv
      exact go_retI q_B_truck kc_B_truck rfl rfl rfl
    · have hb : ¬ (r2 = 0) := hb
      replace hv := hv.2 hb
      refine go_steps q_B_truck kc_B_truck 3 rfl ?_
      obtain ⟨r3, σ3, hg, hv⟩ := hv
      refine go_callS q_B_truck kc_B_truck rfl q_B_within am_k9 rfl rfl rfl (Nat.le_of_ble_eq_true rfl) (Nat.le_of_ble_eq_true rfl) hg ?_
      refine go_steps q_B_truck kc_B_truck 1 rfl ?_
      refine go_if (fun hb => ?_) (fun hb => ?_)
      · have hb : r3 = 0 := hb
        replace hv := hv.1 hb
        refine go_steps q_B_truck kc_B_truck 1 rfl ?_
        obtain ⟨rfl, rfl⟩ := hv
        exact go_retI q_B_truck kc_B_truck rfl rfl rfl
      · have hb : ¬ (r3 = 0) := hb
        replace hv := hv.2 hb
        refine go_steps q_B_truck kc_B_truck 4 rfl ?_
        refine go_if (fun hb => ?_) (fun hb => ?_)
        · have hb : (σ3 2 3) = 0 := hb
          replace hv := hv.1 hb
          refine go_steps q_B_truck kc_B_truck 16 rfl ?_
          obtain ⟨rfl, rfl⟩ := hv
          exact go_retI q_B_truck kc_B_truck rfl rfl rfl
        · have hb : ¬ ((σ3 2 3) = 0) := hb
          replace hv := hv.2 hb
          refine go_steps q_B_truck kc_B_truck 1 rfl ?_
          obtain ⟨rfl, rfl⟩ := hv
          exact go_retI q_B_truck kc_B_truck rfl rfl rfl
set_option maxHeartbeats 4000000 in
set_option maxRecDepth 100000 in
theorem v_B_share_0 {l : Launch} {D : va_G} {DA : Nat → ClassId} {b sz d L : Nat} {cu : Bool} {σ : Nat → Nat → Int32} {r : Option Value} {X' : am_X} (p1 : Int32)
    (hv : (∃ (r1 : Int32) (σ1 : Nat → Nat → Int32), am_Go l D DA b sz d M_B_within (0, [some (.int p1), some (.int 0), some (.int 100)], [], (am_TT cu L, am_RR cu, σ)) (some (.int r1)) (am_TT cu L, am_RR cu, σ1) ∧ (((r1 = 0) → (r = some (.int (-2)) ∧ X' = (am_TT cu L, am_RR cu, σ1))) ∧ (¬ (r1 = 0) → ((((σ1 2 3) = 0) → (r = some (.int (σ1 3 3)) ∧ X' = (am_TT cu L, am_RR cu, am_us σ1 3 3 p1))) ∧ (¬ ((σ1 2 3) = 0) → (r = some (.int (-4)) ∧ X' = (am_TT cu L, am_RR cu, σ1)))))))) :
    am_Go l D DA b sz (d + 1) M_B_share (0, [some (.ref 1), some (.int p1), none], [], (am_TT cu L, am_RR cu, σ)) r X' := by
  refine go_steps q_B_share kc_B_share 3 rfl ?_
  obtain ⟨r1, σ1, hg, hv⟩ := hv
  refine go_callS q_B_share kc_B_share rfl q_B_within am_k9 rfl rfl rfl (Nat.le_of_ble_eq_true rfl) (Nat.le_of_ble_eq_true rfl) hg ?_
  refine go_steps q_B_share kc_B_share 1 rfl ?_
  refine go_if (fun hb => ?_) (fun hb => ?_)
  · have hb : r1 = 0 := hb
    replace hv := hv.1 hb
    refine go_steps q_B_share kc_B_share 1 rfl ?_
    obtain ⟨rfl, rfl⟩ := hv
    exact go_retI q_B_share kc_B_share rfl rfl rfl
  · have hb : ¬ (r1 = 0) := hb
    replace hv := hv.2 hb
    refine go_steps q_B_share kc_B_share 4 rfl ?_
    refine go_if (fun hb => ?_) (fun hb => ?_)
    · have hb : (σ1 2 3) = 0 := hb
      replace hv := hv.1 hb
      refine go_steps q_B_share kc_B_share 11 rfl ?_
      obtain ⟨rfl, rfl⟩ := hv
      exact go_retI q_B_share kc_B_share rfl rfl rfl
    · have hb : ¬ ((σ1 2 3) = 0) := hb
      replace hv := hv.2 hb
      refine go_steps q_B_share kc_B_share 1 rfl ?_
      obtain ⟨rfl, rfl⟩ := hv
      exact go_retI q_B_share kc_B_share rfl rfl rfl
set_option maxHeartbeats 4000000 in
set_option maxRecDepth 100000 in
theorem v_B_axles_0 {l : Launch} {D : va_G} {DA : Nat → ClassId} {b sz d L : Nat} {cu : Bool} {σ : Nat → Nat → Int32} {r : Option Value} {X' : am_X} (p1 : Int32) (p2 : Int32) (p3 : Int32) (p4 : Int32)
    (hv : (∃ (r1 : Int32) (σ1 : Nat → Nat → Int32), am_Go l D DA b sz d M_B_within (0, [some (.int p1), some (.int 0), some (.int 40)], [], (am_TT cu L, am_RR cu, σ)) (some (.int r1)) (am_TT cu L, am_RR cu, σ1) ∧ (((r1 = 0) → (r = some (.int (-2)) ∧ X' = (am_TT cu L, am_RR cu, σ1))) ∧ (¬ (r1 = 0) → (∃ (r2 : Int32) (σ2 : Nat → Nat → Int32), am_Go l D DA b sz d M_B_within (0, [some (.int p2), some (.int 0), some (.int 40)], [], (am_TT cu L, am_RR cu, σ1)) (some (.int r2)) (am_TT cu L, am_RR cu, σ2) ∧ (((r2 = 0) → (r = some (.int (-2)) ∧ X' = (am_TT cu L, am_RR cu, σ2))) ∧ (¬ (r2 = 0) → (((p2 ≤ p1) → (r = some (.int (-2)) ∧ X' = (am_TT cu L, am_RR cu, σ2))) ∧ (¬ (p2 ≤ p1) → (∃ (r3 : Int32) (σ3 : Nat → Nat → Int32), am_Go l D DA b sz d M_B_within (0, [some (.int p3), some (.int 0), some (.int 100000)], [], (am_TT cu L, am_RR cu, σ2)) (some (.int r3)) (am_TT cu L, am_RR cu, σ3) ∧ (((r3 = 0) → (r = some (.int (-2)) ∧ X' = (am_TT cu L, am_RR cu, σ3))) ∧ (¬ (r3 = 0) → (∃ (r4 : Int32) (σ4 : Nat → Nat → Int32), am_Go l D DA b sz d M_B_within (0, [some (.int p4), some (.int 0), some (.int 100000)], [], (am_TT cu L, am_RR cu, σ3)) (some (.int r4)) (am_TT cu L, am_RR cu, σ4) ∧ (((r4 = 0) → (r = some (.int (-2)) ∧ X' = (am_TT cu L, am_RR cu, σ4))) ∧ (¬ (r4 = 0) → (r = some (.int 1) ∧ X' = (am_TT cu L, am_RR cu, am_us (am_us (am_us (am_us σ4 3 4 p1) 3 5 p2) 3 6 p3) 3 7 p4))))))))))))))))) :
    am_Go l D DA b sz (d + 1) M_B_axles (0, [some (.ref 1), some (.int p1), some (.int p2), some (.int p3), some (.int p4)], [], (am_TT cu L, am_RR cu, σ)) r X' := by
  refine go_steps q_B_axles kc_B_axles 3 rfl ?_
  obtain ⟨r1, σ1, hg, hv⟩ := hv
  refine go_callS q_B_axles kc_B_axles rfl q_B_within am_k9 rfl rfl rfl (Nat.le_of_ble_eq_true rfl) (Nat.le_of_ble_eq_true rfl) hg ?_
  refine go_steps q_B_axles kc_B_axles 1 rfl ?_
  refine go_if (fun hb => ?_) (fun hb => ?_)
  · have hb : r1 = 0 := hb
    replace hv := hv.1 hb
    refine go_steps q_B_axles kc_B_axles 1 rfl ?_
    obtain ⟨rfl, rfl⟩ := hv
    exact go_retI q_B_axles kc_B_axles rfl rfl rfl
  · have hb : ¬ (r1 = 0) := hb
    replace hv := hv.2 hb
    refine go_steps q_B_axles kc_B_axles 3 rfl ?_
    obtain ⟨r2, σ2, hg, hv⟩ := hv
    refine go_callS q_B_axles kc_B_axles rfl q_B_within am_k9 rfl rfl rfl (Nat.le_of_ble_eq_true rfl) (Nat.le_of_ble_eq_true rfl) hg ?_
    refine go_steps q_B_axles kc_B_axles 1 rfl ?_
    refine go_if (fun hb => ?_) (fun hb => ?_)
    · have hb : r2 = 0 := hb
      replace hv := hv.1 hb
      refine go_steps q_B_axles kc_B_axles 1 rfl ?_
      obtain ⟨rfl, rfl⟩ := hv
      exact go_retI q_B_axles kc_B_axles rfl rfl rfl
    · have hb : ¬ (r2 = 0) := hb
      replace hv := hv.2 hb
      refine go_steps q_B_axles kc_B_axles 3 rfl ?_
      refine go_if (fun hb => ?_) (fun hb => ?_)
      · have hb : p2 ≤ p1 := hb
        replace hv := hv.1 hb
        refine go_steps q_B_axles kc_B_axles 1 rfl ?_
        obtain ⟨rfl, rfl⟩ := hv
        exact go_retI q_B_axles kc_B_axles rfl rfl rfl
      · have hb : ¬ (p2 ≤ p1) := hb
        replace hv := hv.2 hb
        refine go_steps q_B_axles kc_B_axles 3 rfl ?_
        obtain ⟨r3, σ3, hg, hv⟩ := hv
        refine go_callS q_B_axles kc_B_axles rfl q_B_within am_k9 rfl rfl rfl (Nat.le_of_ble_eq_true rfl) (Nat.le_of_ble_eq_true rfl) hg ?_
        refine go_steps q_B_axles kc_B_axles 1 rfl ?_
        refine go_if (fun hb => ?_) (fun hb => ?_)
        · have hb : r3 = 0 := hb
          replace hv := hv.1 hb
          refine go_steps q_B_axles kc_B_axles 1 rfl ?_
          obtain ⟨rfl, rfl⟩ := hv
          exact go_retI q_B_axles kc_B_axles rfl rfl rfl
        · have hb : ¬ (r3 = 0) := hb
          replace hv := hv.2 hb
          refine go_steps q_B_axles kc_B_axles 3 rfl ?_
          obtain ⟨r4, σ4, hg, hv⟩ := hv
          refine go_callS q_B_axles kc_B_axles rfl q_B_within am_k9 rfl rfl rfl (Nat.le_of_ble_eq_true rfl) (Nat.le_of_ble_eq_true rfl) hg ?_
          refine go_steps q_B_axles kc_B_axles 1 rfl ?_
          refine go_if (fun hb => ?_) (fun hb => ?_)
          · have hb : r4 = 0 := hb
            replace hv := hv.1 hb
            refine go_steps q_B_axles kc_B_axles 1 rfl ?_
            obtain ⟨rfl, rfl⟩ := hv
            exact go_retI q_B_axles kc_B_axles rfl rfl rfl
          · have hb : ¬ (r4 = 0) := hb
            replace hv := hv.2 hb
            refine go_steps q_B_axles kc_B_axles 21 rfl ?_
            obtain ⟨rfl, rfl⟩ := hv
            exact go_retI q_B_axles kc_B_axles rfl rfl rfl
set_option maxHeartbeats 4000000 in
set_option maxRecDepth 100000 in
theorem v_B_side_0 {l : Launch} {D : va_G} {DA : Nat → ClassId} {b sz d L : Nat} {cu : Bool} {σ : Nat → Nat → Int32} {r : Option Value} {X' : am_X} (p1 : Int32)
    (hv : (∃ (r1 : Int32) (σ1 : Nat → Nat → Int32), am_Go l D DA b sz d M_B_within (0, [some (.int p1), some (.int 0), some (.int 100)], [], (am_TT cu L, am_RR cu, σ)) (some (.int r1)) (am_TT cu L, am_RR cu, σ1) ∧ (((r1 = 0) → (r = some (.int (-2)) ∧ X' = (am_TT cu L, am_RR cu, σ1))) ∧ (¬ (r1 = 0) → (r = some (.int (σ1 3 8)) ∧ X' = (am_TT cu L, am_RR cu, am_us σ1 3 8 p1)))))) :
    am_Go l D DA b sz (d + 1) M_B_side (0, [some (.ref 1), some (.int p1), none], [], (am_TT cu L, am_RR cu, σ)) r X' := by
  refine go_steps q_B_side kc_B_side 3 rfl ?_
  obtain ⟨r1, σ1, hg, hv⟩ := hv
  refine go_callS q_B_side kc_B_side rfl q_B_within am_k9 rfl rfl rfl (Nat.le_of_ble_eq_true rfl) (Nat.le_of_ble_eq_true rfl) hg ?_
  refine go_steps q_B_side kc_B_side 1 rfl ?_
  refine go_if (fun hb => ?_) (fun hb => ?_)
  · have hb : r1 = 0 := hb
    replace hv := hv.1 hb
    refine go_steps q_B_side kc_B_side 1 rfl ?_
    obtain ⟨rfl, rfl⟩ := hv
    exact go_retI q_B_side kc_B_side rfl rfl rfl
  · have hb : ¬ (r1 = 0) := hb
    replace hv := hv.2 hb
    refine go_steps q_B_side kc_B_side 11 rfl ?_
    obtain ⟨rfl, rfl⟩ := hv
    exact go_retI q_B_side kc_B_side rfl rfl rfl
set_option maxHeartbeats 4000000 in
set_option maxRecDepth 100000 in
theorem v_B_wrong_0 {l : Launch} {D : va_G} {DA : Nat → ClassId} {b sz d L : Nat} {cu : Bool} {σ : Nat → Nat → Int32} {r : Option Value} {X' : am_X} (p1 : Int32) (p2 : Int32) (p3 : Int32) (p4 : Int32) (p5 : Int32)
    (hv : (∃ (r1 : Int32) (σ1 : Nat → Nat → Int32), am_Go l D DA b sz d M_B_refusal (0, [some (.ref 1), some (.int p1), some (.int p2), some (.int p3), some (.int p4), some (.int p5)], [], (am_TT cu L, am_RR cu, σ)) (some (.int r1)) (am_TT cu L, am_RR cu, σ1) ∧ (((r1 = 0) → (∃ (σ2 : Nat → Nat → Int32), am_Go l D DA b sz d M_Hold_stand (0, [some (.ref 2), some (.int p1), some (.int p2), some (.int p3), some (.int p4), some (.int p5), none], [], (am_TT cu L, am_RR cu, σ1)) none (am_TT cu L, am_RR cu, σ2) ∧ ((∃ (r3 : Int32) (σ3 : Nat → Nat → Int32), am_Go l D DA b sz d M_Hold_faults (0, [some (.ref 2), some (.int p1), none, none], [], (am_TT cu L, am_RR cu, σ2)) (some (.int r3)) (am_TT cu L, am_RR cu, σ3) ∧ (r = some (.int r3) ∧ X' = (am_TT cu L, am_RR cu, σ3)))))) ∧ (¬ (r1 = 0) → (r = some (.int r1) ∧ X' = (am_TT cu L, am_RR cu, σ1)))))) :
    am_Go l D DA b sz (d + 1) M_B_wrong (0, [some (.ref 1), some (.int p1), some (.int p2), some (.int p3), some (.int p4), some (.int p5), none], [], (am_TT cu L, am_RR cu, σ)) r X' := by
  refine go_steps q_B_wrong kc_B_wrong 6 rfl ?_
  obtain ⟨r1, σ1, hg, hv⟩ := hv
  refine go_callV q_B_wrong kc_B_wrong rfl q_B_refusal am_k16 ⟨rfl, rfl, by decide⟩ rfl rfl (Nat.le_of_ble_eq_true rfl) (Nat.le_of_ble_eq_true rfl) rfl rfl hg ?_
  refine go_steps q_B_wrong kc_B_wrong 3 rfl ?_
  refine go_if (fun hb => ?_) (fun hb => ?_)
  · have hb : r1 = 0 := hb
    replace hv := hv.1 hb
    refine go_steps q_B_wrong kc_B_wrong 7 rfl ?_
    obtain ⟨σ2, hg, hv⟩ := hv
    refine go_callV q_B_wrong kc_B_wrong rfl q_Hold_stand am_k19 ⟨rfl, rfl, by decide⟩ rfl rfl (Nat.le_of_ble_eq_true rfl) (Nat.le_of_ble_eq_true rfl) rfl rfl hg ?_
    refine go_steps q_B_wrong kc_B_wrong 3 rfl ?_
    obtain ⟨r3, σ3, hg, hv⟩ := hv
    refine go_callV q_B_wrong kc_B_wrong rfl q_Hold_faults am_k24 ⟨rfl, rfl, by decide⟩ rfl rfl (Nat.le_of_ble_eq_true rfl) (Nat.le_of_ble_eq_true rfl) rfl rfl hg ?_
    obtain ⟨rfl, rfl⟩ := hv
    exact go_retI q_B_wrong kc_B_wrong rfl rfl rfl
  · have hb : ¬ (r1 = 0) := hb
    replace hv := hv.2 hb
    refine go_steps q_B_wrong kc_B_wrong 1 rfl ?_
    obtain ⟨rfl, rfl⟩ := hv
    exact go_retI q_B_wrong kc_B_wrong rfl rfl rfl
set_option maxHeartbeats 4000000 in
set_option maxRecDepth 100000 in
theorem v_B_refusal_0 {l : Launch} {D : va_G} {DA : Nat → ClassId} {b sz d L : Nat} {cu : Bool} {σ : Nat → Nat → Int32} {r : Option Value} {X' : am_X} (p1 : Int32) (p2 : Int32) (p3 : Int32) (p4 : Int32) (p5 : Int32)
    (hv : (∃ (r1 : Int32) (σ1 : Nat → Nat → Int32), am_Go l D DA b sz d M_Hold_knows (0, [some (.ref 2), some (.int p1)], [], (am_TT cu L, am_RR cu, σ)) (some (.int r1)) (am_TT cu L, am_RR cu, σ1) ∧ (((r1 = 0) → (r = some (.int (-2)) ∧ X' = (am_TT cu L, am_RR cu, σ1))) ∧ (¬ (r1 = 0) → (∃ (r2 : Int32) (σ2 : Nat → Nat → Int32), am_Go l D DA b sz d M_B_within (0, [some (.int p2), some (.int 0), some (.int 40)], [], (am_TT cu L, am_RR cu, σ1)) (some (.int r2)) (am_TT cu L, am_RR cu, σ2) ∧ (((r2 = 0) → (r = some (.int (-2)) ∧ X' = (am_TT cu L, am_RR cu, σ2))) ∧ (¬ (r2 = 0) → (∃ (r3 : Int32) (σ3 : Nat → Nat → Int32), am_Go l D DA b sz d M_B_within (0, [some (.int p3), some (.int 0), some (.int 40)], [], (am_TT cu L, am_RR cu, σ2)) (some (.int r3)) (am_TT cu L, am_RR cu, σ3) ∧ (((r3 = 0) → (r = some (.int (-2)) ∧ X' = (am_TT cu L, am_RR cu, σ3))) ∧ (¬ (r3 = 0) → (∃ (r4 : Int32) (σ4 : Nat → Nat → Int32), am_Go l D DA b sz d M_B_within (0, [some (.int p4), some (.int 0), some (.int 40)], [], (am_TT cu L, am_RR cu, σ3)) (some (.int r4)) (am_TT cu L, am_RR cu, σ4) ∧ (((r4 = 0) → (r = some (.int (-2)) ∧ X' = (am_TT cu L, am_RR cu, σ4))) ∧ (¬ (r4 = 0) → (((p5 = 0) → (∃ (r5 : Int32) (σ5 : Nat → Nat → Int32), am_Go l D DA b sz d M_Hold_has (0, [some (.ref 2), some (.int p1)], [], (am_TT cu L, am_RR cu, σ4)) (some (.int r5)) (am_TT cu L, am_RR cu, σ5) ∧ (r = some (.int (if r5 = 0 then 0 else (-4) : Int32)) ∧ X' = (am_TT cu L, am_RR cu, σ5)))) ∧ (¬ (p5 = 0) → ((¬ (p1 < 0 ∨ 20 ≤ Int32.toNatClampNeg p1)) ∧ ((((σ4 (19 + Int32.toNatClampNeg p1) 6) = 0) → (r = some (.int (-2)) ∧ X' = (am_TT cu L, am_RR cu, σ4))) ∧ (¬ ((σ4 (19 + Int32.toNatClampNeg p1) 6) = 0) → (∃ (r6 : Int32) (σ6 : Nat → Nat → Int32), am_Go l D DA b sz d M_Hold_has (0, [some (.ref 2), some (.int p1)], [], (am_TT cu L, am_RR cu, σ4)) (some (.int r6)) (am_TT cu L, am_RR cu, σ6) ∧ (r = some (.int (if r6 = 0 then 0 else (-4) : Int32)) ∧ X' = (am_TT cu L, am_RR cu, σ6))))))))))))))))))))) :
    am_Go l D DA b sz (d + 1) M_B_refusal (0, [some (.ref 1), some (.int p1), some (.int p2), some (.int p3), some (.int p4), some (.int p5)], [], (am_TT cu L, am_RR cu, σ)) r X' := by
  refine go_steps q_B_refusal kc_B_refusal 3 rfl ?_
  obtain ⟨r1, σ1, hg, hv⟩ := hv
  refine go_callV q_B_refusal kc_B_refusal rfl q_Hold_knows am_k17 ⟨rfl, rfl, by decide⟩ rfl rfl (Nat.le_of_ble_eq_true rfl) (Nat.le_of_ble_eq_true rfl) rfl rfl hg ?_
  refine go_steps q_B_refusal kc_B_refusal 1 rfl ?_
  refine go_if (fun hb => ?_) (fun hb => ?_)
  · have hb : r1 = 0 := hb
    replace hv := hv.1 hb
    refine go_steps q_B_refusal kc_B_refusal 1 rfl ?_
    obtain ⟨rfl, rfl⟩ := hv
    exact go_retI q_B_refusal kc_B_refusal rfl rfl rfl
  · have hb : ¬ (r1 = 0) := hb
    replace hv := hv.2 hb
    refine go_steps q_B_refusal kc_B_refusal 3 rfl ?_
    obtain ⟨r2, σ2, hg, hv⟩ := hv
    refine go_callS q_B_refusal kc_B_refusal rfl q_B_within am_k9 rfl rfl rfl (Nat.le_of_ble_eq_true rfl) (Nat.le_of_ble_eq_true rfl) hg ?_
    refine go_steps q_B_refusal kc_B_refusal 1 rfl ?_
    refine go_if (fun hb => ?_) (fun hb => ?_)
    · have hb : r2 = 0 := hb
      replace hv := hv.1 hb
      refine go_steps q_B_refusal kc_B_refusal 1 rfl ?_
      obtain ⟨rfl, rfl⟩ := hv
      exact go_retI q_B_refusal kc_B_refusal rfl rfl rfl
    · have hb : ¬ (r2 = 0) := hb
      replace hv := hv.2 hb
      refine go_steps q_B_refusal kc_B_refusal 3 rfl ?_
      obtain ⟨r3, σ3, hg, hv⟩ := hv
      refine go_callS q_B_refusal kc_B_refusal rfl q_B_within am_k9 rfl rfl rfl (Nat.le_of_ble_eq_true rfl) (Nat.le_of_ble_eq_true rfl) hg ?_
      refine go_steps q_B_refusal kc_B_refusal 1 rfl ?_
      refine go_if (fun hb => ?_) (fun hb => ?_)
      · have hb : r3 = 0 := hb
        replace hv := hv.1 hb
        refine go_steps q_B_refusal kc_B_refusal 1 rfl ?_
        obtain ⟨rfl, rfl⟩ := hv
        exact go_retI q_B_refusal kc_B_refusal rfl rfl rfl
      · have hb : ¬ (r3 = 0) := hb
        replace hv := hv.2 hb
        refine go_steps q_B_refusal kc_B_refusal 3 rfl ?_
        obtain ⟨r4, σ4, hg, hv⟩ := hv
        refine go_callS q_B_refusal kc_B_refusal rfl q_B_within am_k9 rfl rfl rfl (Nat.le_of_ble_eq_true rfl) (Nat.le_of_ble_eq_true rfl) hg ?_
        refine go_steps q_B_refusal kc_B_refusal 1 rfl ?_
        refine go_if (fun hb => ?_) (fun hb => ?_)
        · have hb : r4 = 0 := hb
          replace hv := hv.1 hb
          refine go_steps q_B_refusal kc_B_refusal 1 rfl ?_
          obtain ⟨rfl, rfl⟩ := hv
          exact go_retI q_B_refusal kc_B_refusal rfl rfl rfl
        · have hb : ¬ (r4 = 0) := hb
          replace hv := hv.2 hb
          refine go_steps q_B_refusal kc_B_refusal 2 rfl ?_
          refine go_if (fun hb => ?_) (fun hb => ?_)
          · have hb : p5 = 0 := hb
            replace hv := hv.1 hb
            refine go_steps q_B_refusal kc_B_refusal 3 rfl ?_
            obtain ⟨r5, σ5, hg, hv⟩ := hv
            refine go_callV q_B_refusal kc_B_refusal rfl q_Hold_has am_k18 ⟨rfl, rfl, by decide⟩ rfl rfl (Nat.le_of_ble_eq_true rfl) (Nat.le_of_ble_eq_true rfl) rfl rfl hg ?_
            refine go_steps q_B_refusal kc_B_refusal 1 rfl ?_
            have key : am_Go l D DA b sz (d + 1) M_B_refusal (85, [some (.ref 1), some (.int p1), some (.int p2), some (.int p3), some (.int p4), some (.int p5)], [.int (if r5 = 0 then 0 else (-4) : Int32)], (am_TT cu L, am_RR cu, σ5)) r X' := by
              obtain ⟨rfl, rfl⟩ := hv
              exact go_retI q_B_refusal kc_B_refusal rfl rfl rfl
            refine go_if (fun hb => ?_) (fun hb => ?_)
            · have hb : r5 = 0 := hb
              rw [show (if r5 = 0 then 0 else (-4) : Int32) = 0 from if_pos hb] at key
              refine go_steps q_B_refusal kc_B_refusal 1 rfl ?_
              exact key
            · have hb : ¬ (r5 = 0) := hb
              rw [show (if r5 = 0 then 0 else (-4) : Int32) = (-4) from if_neg hb] at key
              refine go_steps q_B_refusal kc_B_refusal 2 rfl ?_
              exact key
          · have hb : ¬ (p5 = 0) := hb
            replace hv := hv.2 hb
            refine go_steps q_B_refusal kc_B_refusal 4 rfl ?_
            obtain ⟨hc1, hv⟩ := hv
            refine go_aaload q_B_refusal kc_B_refusal rfl rfl hc1 (am_rr4 (am_inb hc1)) ?_
            refine go_getI q_B_refusal kc_B_refusal rfl (am_tt_box (am_inb hc1)) rfl ?_
            refine go_steps q_B_refusal kc_B_refusal 1 rfl ?_
            refine go_if (fun hb => ?_) (fun hb => ?_)
            · have hb : (σ4 (19 + Int32.toNatClampNeg p1) 6) = 0 := hb
              replace hv := hv.1 hb
              refine go_steps q_B_refusal kc_B_refusal 1 rfl ?_
              obtain ⟨rfl, rfl⟩ := hv
              exact go_retI q_B_refusal kc_B_refusal rfl rfl rfl
            · have hb : ¬ ((σ4 (19 + Int32.toNatClampNeg p1) 6) = 0) := hb
              replace hv := hv.2 hb
              refine go_steps q_B_refusal kc_B_refusal 3 rfl ?_
              obtain ⟨r6, σ6, hg, hv⟩ := hv
              refine go_callV q_B_refusal kc_B_refusal rfl q_Hold_has am_k18 ⟨rfl, rfl, by decide⟩ rfl rfl (Nat.le_of_ble_eq_true rfl) (Nat.le_of_ble_eq_true rfl) rfl rfl hg ?_
              refine go_steps q_B_refusal kc_B_refusal 1 rfl ?_
              have key : am_Go l D DA b sz (d + 1) M_B_refusal (85, [some (.ref 1), some (.int p1), some (.int p2), some (.int p3), some (.int p4), some (.int p5)], [.int (if r6 = 0 then 0 else (-4) : Int32)], (am_TT cu L, am_RR cu, σ6)) r X' := by
                obtain ⟨rfl, rfl⟩ := hv
                exact go_retI q_B_refusal kc_B_refusal rfl rfl rfl
              refine go_if (fun hb => ?_) (fun hb => ?_)
              · have hb : r6 = 0 := hb
                rw [show (if r6 = 0 then 0 else (-4) : Int32) = 0 from if_pos hb] at key
                refine go_steps q_B_refusal kc_B_refusal 1 rfl ?_
                exact key
              · have hb : ¬ (r6 = 0) := hb
                rw [show (if r6 = 0 then 0 else (-4) : Int32) = (-4) from if_neg hb] at key
                refine go_steps q_B_refusal kc_B_refusal 2 rfl ?_
                exact key
set_option maxHeartbeats 4000000 in
set_option maxRecDepth 100000 in
theorem v_B_place_0 {l : Launch} {D : va_G} {DA : Nat → ClassId} {b sz d L : Nat} {cu : Bool} {σ : Nat → Nat → Int32} {r : Option Value} {X' : am_X} (p1 : Int32) (p2 : Int32) (p3 : Int32) (p4 : Int32) (p5 : Int32)
    (hv : (∃ (r1 : Int32) (σ1 : Nat → Nat → Int32), am_Go l D DA b sz d M_B_refusal (0, [some (.ref 1), some (.int p1), some (.int p2), some (.int p3), some (.int p4), some (.int p5)], [], (am_TT cu L, am_RR cu, σ)) (some (.int r1)) (am_TT cu L, am_RR cu, σ1) ∧ (((r1 = 0) → (∃ (σ2 : Nat → Nat → Int32), am_Go l D DA b sz d M_Hold_stand (0, [some (.ref 2), some (.int p1), some (.int p2), some (.int p3), some (.int p4), some (.int p5), none], [], (am_TT cu L, am_RR cu, σ1)) none (am_TT cu L, am_RR cu, σ2) ∧ ((∃ (r3 : Int32) (σ3 : Nat → Nat → Int32), am_Go l D DA b sz d M_Hold_faults (0, [some (.ref 2), some (.int p1), none, none], [], (am_TT cu L, am_RR cu, σ2)) (some (.int r3)) (am_TT cu L, am_RR cu, σ3) ∧ (((r3 = 0) → (∃ (σ4 : Nat → Nat → Int32), am_Go l D DA b sz d M_Hold_putIn (0, [some (.ref 2), some (.int p1)], [], (am_TT cu L, am_RR cu, σ3)) none (am_TT cu L, am_RR cu, σ4) ∧ (r = some (.int 1) ∧ X' = (am_TT cu L, am_RR cu, σ4)))) ∧ (¬ (r3 = 0) → (r = some (.int 0) ∧ X' = (am_TT cu L, am_RR cu, σ3)))))))) ∧ (¬ (r1 = 0) → (r = some (.int r1) ∧ X' = (am_TT cu L, am_RR cu, σ1)))))) :
    am_Go l D DA b sz (d + 1) M_B_place (0, [some (.ref 1), some (.int p1), some (.int p2), some (.int p3), some (.int p4), some (.int p5), none], [], (am_TT cu L, am_RR cu, σ)) r X' := by
  refine go_steps q_B_place kc_B_place 6 rfl ?_
  obtain ⟨r1, σ1, hg, hv⟩ := hv
  refine go_callV q_B_place kc_B_place rfl q_B_refusal am_k16 ⟨rfl, rfl, by decide⟩ rfl rfl (Nat.le_of_ble_eq_true rfl) (Nat.le_of_ble_eq_true rfl) rfl rfl hg ?_
  refine go_steps q_B_place kc_B_place 3 rfl ?_
  refine go_if (fun hb => ?_) (fun hb => ?_)
  · have hb : r1 = 0 := hb
    replace hv := hv.1 hb
    refine go_steps q_B_place kc_B_place 7 rfl ?_
    obtain ⟨σ2, hg, hv⟩ := hv
    refine go_callV q_B_place kc_B_place rfl q_Hold_stand am_k19 ⟨rfl, rfl, by decide⟩ rfl rfl (Nat.le_of_ble_eq_true rfl) (Nat.le_of_ble_eq_true rfl) rfl rfl hg ?_
    refine go_steps q_B_place kc_B_place 3 rfl ?_
    obtain ⟨r3, σ3, hg, hv⟩ := hv
    refine go_callV q_B_place kc_B_place rfl q_Hold_faults am_k24 ⟨rfl, rfl, by decide⟩ rfl rfl (Nat.le_of_ble_eq_true rfl) (Nat.le_of_ble_eq_true rfl) rfl rfl hg ?_
    refine go_steps q_B_place kc_B_place 1 rfl ?_
    refine go_if (fun hb => ?_) (fun hb => ?_)
    · have hb : r3 = 0 := hb
      replace hv := hv.1 hb
      refine go_steps q_B_place kc_B_place 3 rfl ?_
      obtain ⟨σ4, hg, hv⟩ := hv
      refine go_callV q_B_place kc_B_place rfl q_Hold_putIn am_k33 ⟨rfl, rfl, by decide⟩ rfl rfl (Nat.le_of_ble_eq_true rfl) (Nat.le_of_ble_eq_true rfl) rfl rfl hg ?_
      refine go_steps q_B_place kc_B_place 1 rfl ?_
      obtain ⟨rfl, rfl⟩ := hv
      exact go_retI q_B_place kc_B_place rfl rfl rfl
    · have hb : ¬ (r3 = 0) := hb
      replace hv := hv.2 hb
      refine go_steps q_B_place kc_B_place 1 rfl ?_
      obtain ⟨rfl, rfl⟩ := hv
      exact go_retI q_B_place kc_B_place rfl rfl rfl
  · have hb : ¬ (r1 = 0) := hb
    replace hv := hv.2 hb
    refine go_steps q_B_place kc_B_place 1 rfl ?_
    obtain ⟨rfl, rfl⟩ := hv
    exact go_retI q_B_place kc_B_place rfl rfl rfl
set_option maxHeartbeats 4000000 in
set_option maxRecDepth 100000 in
theorem v_B_set_0 {l : Launch} {D : va_G} {DA : Nat → ClassId} {b sz d L : Nat} {cu : Bool} {σ : Nat → Nat → Int32} {r : Option Value} {X' : am_X} (p1 : Int32)
    (hv : (∃ (r1 : Int32) (σ1 : Nat → Nat → Int32), am_Go l D DA b sz d M_Hold_knows (0, [some (.ref 2), some (.int p1)], [], (am_TT cu L, am_RR cu, σ)) (some (.int r1)) (am_TT cu L, am_RR cu, σ1) ∧ (((r1 = 0) → (r = some (.int (-2)) ∧ X' = (am_TT cu L, am_RR cu, σ1))) ∧ (¬ (r1 = 0) → (∃ (r2 : Int32) (σ2 : Nat → Nat → Int32), am_Go l D DA b sz d M_Hold_has (0, [some (.ref 2), some (.int p1)], [], (am_TT cu L, am_RR cu, σ1)) (some (.int r2)) (am_TT cu L, am_RR cu, σ2) ∧ (((r2 = 0) → (∃ (r3 : Int32) (σ3 : Nat → Nat → Int32), am_Go l D DA b sz d M_Hold_setAtCorner (0, [some (.ref 2), some (.int p1), none, none, none, none, none, none], [], (am_TT cu L, am_RR cu, σ2)) (some (.int r3)) (am_TT cu L, am_RR cu, σ3) ∧ (r = some (.int (if r3 = 0 then (-1) else 1 : Int32)) ∧ X' = (am_TT cu L, am_RR cu, σ3)))) ∧ (¬ (r2 = 0) → (r = some (.int (-4)) ∧ X' = (am_TT cu L, am_RR cu, σ2))))))))) :
    am_Go l D DA b sz (d + 1) M_B_set (0, [some (.ref 1), some (.int p1)], [], (am_TT cu L, am_RR cu, σ)) r X' := by
  refine go_steps q_B_set kc_B_set 3 rfl ?_
  obtain ⟨r1, σ1, hg, hv⟩ := hv
  refine go_callV q_B_set kc_B_set rfl q_Hold_knows am_k17 ⟨rfl, rfl, by decide⟩ rfl rfl (Nat.le_of_ble_eq_true rfl) (Nat.le_of_ble_eq_true rfl) rfl rfl hg ?_
  refine go_steps q_B_set kc_B_set 1 rfl ?_
  refine go_if (fun hb => ?_) (fun hb => ?_)
  · have hb : r1 = 0 := hb
    replace hv := hv.1 hb
    refine go_steps q_B_set kc_B_set 1 rfl ?_
    obtain ⟨rfl, rfl⟩ := hv
    exact go_retI q_B_set kc_B_set rfl rfl rfl
  · have hb : ¬ (r1 = 0) := hb
    replace hv := hv.2 hb
    refine go_steps q_B_set kc_B_set 3 rfl ?_
    obtain ⟨r2, σ2, hg, hv⟩ := hv
    refine go_callV q_B_set kc_B_set rfl q_Hold_has am_k18 ⟨rfl, rfl, by decide⟩ rfl rfl (Nat.le_of_ble_eq_true rfl) (Nat.le_of_ble_eq_true rfl) rfl rfl hg ?_
    refine go_steps q_B_set kc_B_set 1 rfl ?_
    refine go_if (fun hb => ?_) (fun hb => ?_)
    · have hb : r2 = 0 := hb
      replace hv := hv.1 hb
      refine go_steps q_B_set kc_B_set 3 rfl ?_
      obtain ⟨r3, σ3, hg, hv⟩ := hv
      refine go_callV q_B_set kc_B_set rfl q_Hold_setAtCorner am_k35 ⟨rfl, rfl, by decide⟩ rfl rfl (Nat.le_of_ble_eq_true rfl) (Nat.le_of_ble_eq_true rfl) rfl rfl hg ?_
      refine go_steps q_B_set kc_B_set 1 rfl ?_
      have key : am_Go l D DA b sz (d + 1) M_B_set (44, [some (.ref 1), some (.int p1)], [.int (if r3 = 0 then (-1) else 1 : Int32)], (am_TT cu L, am_RR cu, σ3)) r X' := by
        obtain ⟨rfl, rfl⟩ := hv
        exact go_retI q_B_set kc_B_set rfl rfl rfl
      refine go_if (fun hb => ?_) (fun hb => ?_)
      · have hb : r3 = 0 := hb
        rw [show (if r3 = 0 then (-1) else 1 : Int32) = (-1) from if_pos hb] at key
        refine go_steps q_B_set kc_B_set 1 rfl ?_
        exact key
      · have hb : ¬ (r3 = 0) := hb
        rw [show (if r3 = 0 then (-1) else 1 : Int32) = 1 from if_neg hb] at key
        refine go_steps q_B_set kc_B_set 2 rfl ?_
        exact key
    · have hb : ¬ (r2 = 0) := hb
      replace hv := hv.2 hb
      refine go_steps q_B_set kc_B_set 1 rfl ?_
      obtain ⟨rfl, rfl⟩ := hv
      exact go_retI q_B_set kc_B_set rfl rfl rfl
set_option maxHeartbeats 4000000 in
set_option maxRecDepth 100000 in
theorem v_B_take_0 {l : Launch} {D : va_G} {DA : Nat → ClassId} {b sz d L : Nat} {cu : Bool} {σ : Nat → Nat → Int32} {r : Option Value} {X' : am_X} (p1 : Int32)
    (hv : (∃ (r1 : Int32) (σ1 : Nat → Nat → Int32), am_Go l D DA b sz d M_Hold_knows (0, [some (.ref 2), some (.int p1)], [], (am_TT cu L, am_RR cu, σ)) (some (.int r1)) (am_TT cu L, am_RR cu, σ1) ∧ (((r1 = 0) → (r = some (.int (-2)) ∧ X' = (am_TT cu L, am_RR cu, σ1))) ∧ (¬ (r1 = 0) → (∃ (r2 : Int32) (σ2 : Nat → Nat → Int32), am_Go l D DA b sz d M_Hold_has (0, [some (.ref 2), some (.int p1)], [], (am_TT cu L, am_RR cu, σ1)) (some (.int r2)) (am_TT cu L, am_RR cu, σ2) ∧ (((r2 = 0) → (r = some (.int (-4)) ∧ X' = (am_TT cu L, am_RR cu, σ2))) ∧ (¬ (r2 = 0) → (∃ (r3 : Int32) (σ3 : Nat → Nat → Int32), am_Go l D DA b sz d M_Hold_carries (0, [some (.ref 2), some (.int p1), none], [], (am_TT cu L, am_RR cu, σ2)) (some (.int r3)) (am_TT cu L, am_RR cu, σ3) ∧ (((r3 = 0) → (∃ (σ4 : Nat → Nat → Int32), am_Go l D DA b sz d M_Hold_putOut (0, [some (.ref 2), some (.int p1)], [], (am_TT cu L, am_RR cu, σ3)) none (am_TT cu L, am_RR cu, σ4) ∧ (r = some (.int 1) ∧ X' = (am_TT cu L, am_RR cu, σ4)))) ∧ (¬ (r3 = 0) → (r = some (.int 0) ∧ X' = (am_TT cu L, am_RR cu, σ3)))))))))))) :
    am_Go l D DA b sz (d + 1) M_B_take (0, [some (.ref 1), some (.int p1)], [], (am_TT cu L, am_RR cu, σ)) r X' := by
  refine go_steps q_B_take kc_B_take 3 rfl ?_
  obtain ⟨r1, σ1, hg, hv⟩ := hv
  refine go_callV q_B_take kc_B_take rfl q_Hold_knows am_k17 ⟨rfl, rfl, by decide⟩ rfl rfl (Nat.le_of_ble_eq_true rfl) (Nat.le_of_ble_eq_true rfl) rfl rfl hg ?_
  refine go_steps q_B_take kc_B_take 1 rfl ?_
  refine go_if (fun hb => ?_) (fun hb => ?_)
  · have hb : r1 = 0 := hb
    replace hv := hv.1 hb
    refine go_steps q_B_take kc_B_take 1 rfl ?_
    obtain ⟨rfl, rfl⟩ := hv
    exact go_retI q_B_take kc_B_take rfl rfl rfl
  · have hb : ¬ (r1 = 0) := hb
    replace hv := hv.2 hb
    refine go_steps q_B_take kc_B_take 3 rfl ?_
    obtain ⟨r2, σ2, hg, hv⟩ := hv
    refine go_callV q_B_take kc_B_take rfl q_Hold_has am_k18 ⟨rfl, rfl, by decide⟩ rfl rfl (Nat.le_of_ble_eq_true rfl) (Nat.le_of_ble_eq_true rfl) rfl rfl hg ?_
    refine go_steps q_B_take kc_B_take 1 rfl ?_
    refine go_if (fun hb => ?_) (fun hb => ?_)
    · have hb : r2 = 0 := hb
      replace hv := hv.1 hb
      refine go_steps q_B_take kc_B_take 1 rfl ?_
      obtain ⟨rfl, rfl⟩ := hv
      exact go_retI q_B_take kc_B_take rfl rfl rfl
    · have hb : ¬ (r2 = 0) := hb
      replace hv := hv.2 hb
      refine go_steps q_B_take kc_B_take 3 rfl ?_
      obtain ⟨r3, σ3, hg, hv⟩ := hv
      refine go_callV q_B_take kc_B_take rfl q_Hold_carries am_k43 ⟨rfl, rfl, by decide⟩ rfl rfl (Nat.le_of_ble_eq_true rfl) (Nat.le_of_ble_eq_true rfl) rfl rfl hg ?_
      refine go_steps q_B_take kc_B_take 1 rfl ?_
      refine go_if (fun hb => ?_) (fun hb => ?_)
      · have hb : r3 = 0 := hb
        replace hv := hv.1 hb
        refine go_steps q_B_take kc_B_take 3 rfl ?_
        obtain ⟨σ4, hg, hv⟩ := hv
        refine go_callV q_B_take kc_B_take rfl q_Hold_putOut am_k44 ⟨rfl, rfl, by decide⟩ rfl rfl (Nat.le_of_ble_eq_true rfl) (Nat.le_of_ble_eq_true rfl) rfl rfl hg ?_
        refine go_steps q_B_take kc_B_take 1 rfl ?_
        obtain ⟨rfl, rfl⟩ := hv
        exact go_retI q_B_take kc_B_take rfl rfl rfl
      · have hb : ¬ (r3 = 0) := hb
        replace hv := hv.2 hb
        refine go_steps q_B_take kc_B_take 1 rfl ?_
        obtain ⟨rfl, rfl⟩ := hv
        exact go_retI q_B_take kc_B_take rfl rfl rfl
set_option maxHeartbeats 4000000 in
set_option maxRecDepth 100000 in
theorem v_B_clear_0 {l : Launch} {D : va_G} {DA : Nat → ClassId} {b sz d L : Nat} {cu : Bool} {σ : Nat → Nat → Int32} {r : Option Value} {X' : am_X}
    (hv : (∃ (r1 : Int32) (σ1 : Nat → Nat → Int32), am_Go l D DA b sz d M_Integer_bitCount (0, [some (.int (σ 2 3))], [], (am_TT cu L, am_RR cu, σ)) (some (.int r1)) (am_TT cu L, am_RR cu, σ1) ∧ (r = some (.int r1) ∧ X' = (am_TT cu L, am_RR cu, am_us σ1 2 3 0)))) :
    am_Go l D DA b sz (d + 1) M_B_clear (0, [some (.ref 1), none], [], (am_TT cu L, am_RR cu, σ)) r X' := by
  refine go_steps q_B_clear kc_B_clear 3 rfl ?_
  obtain ⟨r1, σ1, hg, hv⟩ := hv
  refine go_callS q_B_clear kc_B_clear rfl q_Integer_bitCount am_k46 rfl rfl rfl (Nat.le_of_ble_eq_true rfl) (Nat.le_of_ble_eq_true rfl) hg ?_
  refine go_steps q_B_clear kc_B_clear 6 rfl ?_
  obtain ⟨rfl, rfl⟩ := hv
  exact go_retI q_B_clear kc_B_clear rfl rfl rfl
set_option maxHeartbeats 4000000 in
set_option maxRecDepth 100000 in
theorem v_B_best_0 {l : Launch} {D : va_G} {DA : Nat → ClassId} {b sz d L : Nat} {cu : Bool} {σ : Nat → Nat → Int32} {r : Option Value} {X' : am_X} (p1 : Int32)
    (hv : (∃ (r1 : Int32) (σ1 : Nat → Nat → Int32), am_Go l D DA b sz d M_B_isSet (0, [some (.ref 1), some (.int p1)], [], (am_TT cu L, am_RR cu, σ)) (some (.int r1)) (am_TT cu L, am_RR cu, σ1) ∧ (((r1 = 0) → (r = some (.int (-2)) ∧ X' = (am_TT cu L, am_RR cu, σ1))) ∧ (¬ (r1 = 0) → ((((p1 &&& (σ1 2 3)) = 0) → (∃ (r2 : Int32) (σ2 : Nat → Nat → Int32), am_Go l D DA b sz d M_Integer_bitCount (0, [some (.int p1)], [], (am_TT cu L, am_RR cu, σ1)) (some (.int r2)) (am_TT cu L, am_RR cu, σ2) ∧ (((r2 ≤ 5) → (∃ (σ3 : Nat → Nat → Int32), am_Go l D DA b sz d M_Orders_begin (0, [some (.ref 39)], [], (am_TT cu L, am_RR cu, σ2)) none (am_TT cu L, am_RR cu, σ3) ∧ ((∃ (σ4 : Nat → Nat → Int32), am_Go l D DA b sz d M_B_tryOrders (0, [some (.ref 1), some (.int p1), some (.int 0), some (.int 0), some (.int 0), none, none, none], [], (am_TT cu L, am_RR cu, σ3)) none (am_TT cu L, am_RR cu, σ4) ∧ ((∃ (r5 : Int32) (σ5 : Nat → Nat → Int32), am_Go l D DA b sz d M_B_setBest (0, [some (.ref 1), none, none], [], (am_TT cu L, am_RR cu, σ4)) (some (.int r5)) (am_TT cu L, am_RR cu, σ5) ∧ (r = some (.int r5) ∧ X' = (am_TT cu L, am_RR cu, σ5)))))))) ∧ (¬ (r2 ≤ 5) → (r = some (.int (-3)) ∧ X' = (am_TT cu L, am_RR cu, σ2)))))) ∧ (¬ ((p1 &&& (σ1 2 3)) = 0) → (r = some (.int (-4)) ∧ X' = (am_TT cu L, am_RR cu, σ1)))))))) :
    am_Go l D DA b sz (d + 1) M_B_best (0, [some (.ref 1), some (.int p1)], [], (am_TT cu L, am_RR cu, σ)) r X' := by
  refine go_steps q_B_best kc_B_best 2 rfl ?_
  obtain ⟨r1, σ1, hg, hv⟩ := hv
  refine go_callV q_B_best kc_B_best rfl q_B_isSet am_k48 ⟨rfl, rfl, by decide⟩ rfl rfl (Nat.le_of_ble_eq_true rfl) (Nat.le_of_ble_eq_true rfl) rfl rfl hg ?_
  refine go_steps q_B_best kc_B_best 1 rfl ?_
  refine go_if (fun hb => ?_) (fun hb => ?_)
  · have hb : r1 = 0 := hb
    replace hv := hv.1 hb
    refine go_steps q_B_best kc_B_best 1 rfl ?_
    obtain ⟨rfl, rfl⟩ := hv
    exact go_retI q_B_best kc_B_best rfl rfl rfl
  · have hb : ¬ (r1 = 0) := hb
    replace hv := hv.2 hb
    refine go_steps q_B_best kc_B_best 6 rfl ?_
    refine go_if (fun hb => ?_) (fun hb => ?_)
    · have hb : (p1 &&& (σ1 2 3)) = 0 := hb
      replace hv := hv.1 hb
      refine go_steps q_B_best kc_B_best 1 rfl ?_
      obtain ⟨r2, σ2, hg, hv⟩ := hv
      refine go_callS q_B_best kc_B_best rfl q_Integer_bitCount am_k46 rfl rfl rfl (Nat.le_of_ble_eq_true rfl) (Nat.le_of_ble_eq_true rfl) hg ?_
      refine go_steps q_B_best kc_B_best 2 rfl ?_
      refine go_if (fun hb => ?_) (fun hb => ?_)
      · have hb : r2 ≤ 5 := hb
        replace hv := hv.1 hb
        refine go_steps q_B_best kc_B_best 2 rfl ?_
        obtain ⟨σ3, hg, hv⟩ := hv
        refine go_callV q_B_best kc_B_best rfl q_Orders_begin am_k49 ⟨rfl, rfl, by decide⟩ rfl rfl (Nat.le_of_ble_eq_true rfl) (Nat.le_of_ble_eq_true rfl) rfl rfl hg ?_
        refine go_steps q_B_best kc_B_best 5 rfl ?_
        obtain ⟨σ4, hg, hv⟩ := hv
        refine go_callV q_B_best kc_B_best rfl q_B_tryOrders am_k50 ⟨rfl, rfl, by decide⟩ rfl rfl (Nat.le_of_ble_eq_true rfl) (Nat.le_of_ble_eq_true rfl) rfl rfl hg ?_
        refine go_steps q_B_best kc_B_best 1 rfl ?_
        obtain ⟨r5, σ5, hg, hv⟩ := hv
        refine go_callV q_B_best kc_B_best rfl q_B_setBest am_k54 ⟨rfl, rfl, by decide⟩ rfl rfl (Nat.le_of_ble_eq_true rfl) (Nat.le_of_ble_eq_true rfl) rfl rfl hg ?_
        obtain ⟨rfl, rfl⟩ := hv
        exact go_retI q_B_best kc_B_best rfl rfl rfl
      · have hb : ¬ (r2 ≤ 5) := hb
        replace hv := hv.2 hb
        refine go_steps q_B_best kc_B_best 1 rfl ?_
        obtain ⟨rfl, rfl⟩ := hv
        exact go_retI q_B_best kc_B_best rfl rfl rfl
    · have hb : ¬ ((p1 &&& (σ1 2 3)) = 0) := hb
      replace hv := hv.2 hb
      refine go_steps q_B_best kc_B_best 1 rfl ?_
      obtain ⟨rfl, rfl⟩ := hv
      exact go_retI q_B_best kc_B_best rfl rfl rfl
set_option maxHeartbeats 4000000 in
set_option maxRecDepth 100000 in
theorem v_B_isSet_0 {l : Launch} {D : va_G} {DA : Nat → ClassId} {b sz d L : Nat} {cu : Bool} {σ : Nat → Nat → Int32} {r : Option Value} {X' : am_X} (p1 : Int32)
    (hv : ((p1 ≤ 0) → (r = some (.int 0) ∧ X' = (am_TT cu L, am_RR cu, σ))) ∧ (¬ (p1 ≤ 0) → (((if (p1 >>> ((σ 2 2) &&& 31 : Int32) : Int32) = (0 : Int32) then 1 else 0 : Int32) = 0 ∨ (if (p1 >>> ((σ 2 2) &&& 31 : Int32) : Int32) = (0 : Int32) then 1 else 0 : Int32) = 1) ∧ (r = some (.int (if (p1 >>> ((σ 2 2) &&& 31 : Int32) : Int32) = (0 : Int32) then 1 else 0 : Int32)) ∧ X' = (am_TT cu L, am_RR cu, σ))))) :
    am_Go l D DA b sz d M_B_isSet (0, [some (.ref 1), some (.int p1)], [], (am_TT cu L, am_RR cu, σ)) r X' := by
  refine go_steps q_B_isSet kc_B_isSet 2 rfl ?_
  refine go_if (fun hb => ?_) (fun hb => ?_)
  · have hb : p1 ≤ 0 := hb
    replace hv := hv.1 hb
    refine go_steps q_B_isSet kc_B_isSet 1 rfl ?_
    obtain ⟨rfl, rfl⟩ := hv
    exact go_retI q_B_isSet kc_B_isSet rfl rfl rfl
  · have hb : ¬ (p1 ≤ 0) := hb
    replace hv := hv.2 hb
    refine go_steps q_B_isSet kc_B_isSet 6 rfl ?_
    have key : am_Go l D DA b sz d M_B_isSet (21, [some (.ref 1), some (.int p1)], [.int (if (p1 >>> ((σ 2 2) &&& 31 : Int32) : Int32) = (0 : Int32) then 1 else 0 : Int32)], (am_TT cu L, am_RR cu, σ)) r X' := by
      obtain ⟨hc, rfl, rfl⟩ := hv
      exact go_retI q_B_isSet kc_B_isSet rfl rfl (am_nar hc)
    refine go_if (fun hb => ?_) (fun hb => ?_)
    · have hb : (p1 >>> ((σ 2 2) &&& 31 : Int32) : Int32) = (0 : Int32) := hb
      rw [show (if (p1 >>> ((σ 2 2) &&& 31 : Int32) : Int32) = (0 : Int32) then 1 else 0 : Int32) = 1 from if_pos hb] at key
      refine go_steps q_B_isSet kc_B_isSet 2 rfl ?_
      exact key
    · have hb : ¬ ((p1 >>> ((σ 2 2) &&& 31 : Int32) : Int32) = (0 : Int32)) := hb
      rw [show (if (p1 >>> ((σ 2 2) &&& 31 : Int32) : Int32) = (0 : Int32) then 1 else 0 : Int32) = 0 from if_neg hb] at key
      refine go_steps q_B_isSet kc_B_isSet 1 rfl ?_
      exact key
set_option maxHeartbeats 4000000 in
set_option maxRecDepth 100000 in
theorem v_B_tryOrders_0 {l : Launch} {D : va_G} {DA : Nat → ClassId} {b sz d L : Nat} {cu : Bool} {σ : Nat → Nat → Int32} {r : Option Value} {X' : am_X} (p1 : Int32) (p2 : Int32) (p3 : Int32) (p4 : Int32)
    (hv : (∃ (r1 : Int32) (σ1 : Nat → Nat → Int32), am_Go l D DA b sz d M_Hold_reach (0, [some (.ref 2), none, none], [], (am_TT cu L, am_RR cu, σ)) (some (.int r1)) (am_TT cu L, am_RR cu, σ1) ∧ ((∃ (r2 : Int32) (σ2 : Nat → Nat → Int32), am_Go l D DA b sz d M_Integer_bitCount (0, [some (.int p1)], [], (am_TT cu L, am_RR cu, σ1)) (some (.int r2)) (am_TT cu L, am_RR cu, σ2) ∧ ((∃ (r3 : Int32) (σ3 : Nat → Nat → Int32), am_Go l D DA b sz d M_Orders_cannotWin (0, [some (.ref 39), some (.int (p3 + r2)), some (.int r1)], [], (am_TT cu L, am_RR cu, σ2)) (some (.int r3)) (am_TT cu L, am_RR cu, σ3) ∧ (((r3 = 0) → (((p1 = 0) → (∃ (σ4 : Nat → Nat → Int32), am_Go l D DA b sz d M_Orders_keep (0, [some (.ref 39), some (.int p2), some (.int p3), some (.int r1), none], [], (am_TT cu L, am_RR cu, σ3)) none (am_TT cu L, am_RR cu, σ4) ∧ (r = none ∧ X' = (am_TT cu L, am_RR cu, σ4)))) ∧ (¬ (p1 = 0) → (((p2 < 5) → (am_Go l D DA b sz (d + 1) M_B_tryOrders (56, [some (.ref 1), some (.int p1), some (.int p2), some (.int p3), none, none, some (.int p4), some (.int 0)], [], (am_TT cu L, am_RR cu, σ3)) r X')) ∧ (¬ (p2 < 5) → (∃ (σ5 : Nat → Nat → Int32), am_Go l D DA b sz d M_Orders_keep (0, [some (.ref 39), some (.int p2), some (.int p3), some (.int r1), none], [], (am_TT cu L, am_RR cu, σ3)) none (am_TT cu L, am_RR cu, σ5) ∧ (r = none ∧ X' = (am_TT cu L, am_RR cu, σ5)))))))) ∧ (¬ (r3 = 0) → (r = none ∧ X' = (am_TT cu L, am_RR cu, σ3)))))))))) :
    am_Go l D DA b sz (d + 1) M_B_tryOrders (0, [some (.ref 1), some (.int p1), some (.int p2), some (.int p3), some (.int p4), none, none, none], [], (am_TT cu L, am_RR cu, σ)) r X' := by
  refine go_steps q_B_tryOrders kc_B_tryOrders 2 rfl ?_
  obtain ⟨r1, σ1, hg, hv⟩ := hv
  refine go_callV q_B_tryOrders kc_B_tryOrders rfl q_Hold_reach am_k51 ⟨rfl, rfl, by decide⟩ rfl rfl (Nat.le_of_ble_eq_true rfl) (Nat.le_of_ble_eq_true rfl) rfl rfl hg ?_
  refine go_steps q_B_tryOrders kc_B_tryOrders 5 rfl ?_
  obtain ⟨r2, σ2, hg, hv⟩ := hv
  refine go_callS q_B_tryOrders kc_B_tryOrders rfl q_Integer_bitCount am_k46 rfl rfl rfl (Nat.le_of_ble_eq_true rfl) (Nat.le_of_ble_eq_true rfl) hg ?_
  refine go_steps q_B_tryOrders kc_B_tryOrders 2 rfl ?_
  obtain ⟨r3, σ3, hg, hv⟩ := hv
  refine go_callV q_B_tryOrders kc_B_tryOrders rfl q_Orders_cannotWin am_k52 ⟨rfl, rfl, by decide⟩ rfl rfl (Nat.le_of_ble_eq_true rfl) (Nat.le_of_ble_eq_true rfl) rfl rfl hg ?_
  refine go_steps q_B_tryOrders kc_B_tryOrders 1 rfl ?_
  refine go_if (fun hb => ?_) (fun hb => ?_)
  · have hb : r3 = 0 := hb
    replace hv := hv.1 hb
    refine go_steps q_B_tryOrders kc_B_tryOrders 2 rfl ?_
    refine go_if (fun hb => ?_) (fun hb => ?_)
    · have hb : p1 = 0 := hb
      replace hv := hv.1 hb
      refine go_steps q_B_tryOrders kc_B_tryOrders 5 rfl ?_
      obtain ⟨σ4, hg, hv⟩ := hv
      refine go_callV q_B_tryOrders kc_B_tryOrders rfl q_Orders_keep am_k53 ⟨rfl, rfl, by decide⟩ rfl rfl (Nat.le_of_ble_eq_true rfl) (Nat.le_of_ble_eq_true rfl) rfl rfl hg ?_
      obtain ⟨rfl, rfl⟩ := hv
      exact go_retV q_B_tryOrders kc_B_tryOrders rfl rfl
    · have hb : ¬ (p1 = 0) := hb
      replace hv := hv.2 hb
      refine go_steps q_B_tryOrders kc_B_tryOrders 3 rfl ?_
      refine go_if (fun hb => ?_) (fun hb => ?_)
      · have hb : p2 < 5 := hb
        replace hv := hv.1 hb
        refine go_steps q_B_tryOrders kc_B_tryOrders 4 rfl ?_
        refine go_le (L1 := [some (.ref 1), some (.int p1), some (.int p2), some (.int p3), none, none, some (.int p4), some (.int 0)]) (by repeat (first | exact trivial | refine ⟨rfl, ?_⟩)) ?_
        exact hv
      · have hb : ¬ (p2 < 5) := hb
        replace hv := hv.2 hb
        refine go_steps q_B_tryOrders kc_B_tryOrders 5 rfl ?_
        obtain ⟨σ5, hg, hv⟩ := hv
        refine go_callV q_B_tryOrders kc_B_tryOrders rfl q_Orders_keep am_k53 ⟨rfl, rfl, by decide⟩ rfl rfl (Nat.le_of_ble_eq_true rfl) (Nat.le_of_ble_eq_true rfl) rfl rfl hg ?_
        obtain ⟨rfl, rfl⟩ := hv
        exact go_retV q_B_tryOrders kc_B_tryOrders rfl rfl
  · have hb : ¬ (r3 = 0) := hb
    replace hv := hv.2 hb
    obtain ⟨rfl, rfl⟩ := hv
    exact go_retV q_B_tryOrders kc_B_tryOrders rfl rfl
set_option maxHeartbeats 4000000 in
set_option maxRecDepth 100000 in
theorem v_B_tryOrders_56 {l : Launch} {D : va_G} {DA : Nat → ClassId} {b sz d L : Nat} {cu : Bool} {σ : Nat → Nat → Int32} {r : Option Value} {X' : am_X} (p1 : Int32) (p2 : Int32) (p3 : Int32) (p6 : Int32) (p7 : Int32)
    (hv : (((σ 2 2) ≤ p7) → (r = none ∧ X' = (am_TT cu L, am_RR cu, σ))) ∧ (¬ ((σ 2 2) ≤ p7) → (((((p1 >>> (p7 &&& 31 : Int32) : Int32) &&& 1) = (0 : Int32)) → (am_Go l D DA b sz (d + 1) M_B_tryOrders (56, [some (.ref 1), some (.int p1), some (.int p2), some (.int p3), none, none, some (.int p6), some (.int (p7 + 1))], [], (am_TT cu L, am_RR cu, σ)) r X')) ∧ (¬ (((p1 >>> (p7 &&& 31 : Int32) : Int32) &&& 1) = (0 : Int32)) → ((¬ (p2 < 0 ∨ 5 ≤ Int32.toNatClampNeg p2)) ∧ (((((p6 >>> (p7 &&& 31 : Int32) : Int32) &&& 1) = (0 : Int32)) → (∃ (r1 : Int32) (σ1 : Nat → Nat → Int32), am_Go l D DA b sz d M_Hold_setAtCorner (0, [some (.ref 2), some (.int p7), none, none, none, none, none, none], [], (am_TT cu L, am_RR cu, am_us σ 40 (Int32.toNatClampNeg p2) p7)) (some (.int r1)) (am_TT cu L, am_RR cu, σ1) ∧ (((r1 = 0) → (∃ (σ2 : Nat → Nat → Int32), am_Go l D DA b sz d M_B_tryOrders (0, [some (.ref 1), some (.int (p1 &&& ((1 <<< (p7 &&& 31 : Int32) : Int32) ^^^ (-1)))), some (.int (p2 + 1)), some (.int p3), some (.int (p6 ||| (1 <<< (p7 &&& 31 : Int32) : Int32))), none, none, none], [], (am_TT cu L, am_RR cu, σ1)) none (am_TT cu L, am_RR cu, σ2) ∧ (am_Go l D DA b sz (d + 1) M_B_tryOrders (56, [some (.ref 1), some (.int p1), some (.int p2), some (.int p3), none, none, some (.int (p6 ||| (1 <<< (p7 &&& 31 : Int32) : Int32))), some (.int (p7 + 1))], [], (am_TT cu L, am_RR cu, σ2)) r X'))) ∧ (¬ (r1 = 0) → (∃ (σ3 : Nat → Nat → Int32), am_Go l D DA b sz d M_B_tryOrders (0, [some (.ref 1), some (.int (p1 &&& ((1 <<< (p7 &&& 31 : Int32) : Int32) ^^^ (-1)))), some (.int (p2 + 1)), some (.int (p3 + 1)), some (.int 0), none, none, none], [], (am_TT cu L, am_RR cu, σ1)) none (am_TT cu L, am_RR cu, σ3) ∧ ((∃ (σ4 : Nat → Nat → Int32), am_Go l D DA b sz d M_Hold_putOut (0, [some (.ref 2), some (.int p7)], [], (am_TT cu L, am_RR cu, σ3)) none (am_TT cu L, am_RR cu, σ4) ∧ (am_Go l D DA b sz (d + 1) M_B_tryOrders (56, [some (.ref 1), some (.int p1), some (.int p2), some (.int p3), none, none, some (.int p6), some (.int (p7 + 1))], [], (am_TT cu L, am_RR cu, σ4)) r X')))))))) ∧ (¬ (((p6 >>> (p7 &&& 31 : Int32) : Int32) &&& 1) = (0 : Int32)) → (∃ (σ5 : Nat → Nat → Int32), am_Go l D DA b sz d M_B_tryOrders (0, [some (.ref 1), some (.int (p1 &&& ((1 <<< (p7 &&& 31 : Int32) : Int32) ^^^ (-1)))), some (.int (p2 + 1)), some (.int p3), some (.int (p6 ||| (1 <<< (p7 &&& 31 : Int32) : Int32))), none, none, none], [], (am_TT cu L, am_RR cu, am_us σ 40 (Int32.toNatClampNeg p2) p7)) none (am_TT cu L, am_RR cu, σ5) ∧ (am_Go l D DA b sz (d + 1) M_B_tryOrders (56, [some (.ref 1), some (.int p1), some (.int p2), some (.int p3), none, none, some (.int (p6 ||| (1 <<< (p7 &&& 31 : Int32) : Int32))), some (.int (p7 + 1))], [], (am_TT cu L, am_RR cu, σ5)) r X'))))))))) :
    am_Go l D DA b sz (d + 1) M_B_tryOrders (56, [some (.ref 1), some (.int p1), some (.int p2), some (.int p3), none, none, some (.int p6), some (.int p7)], [], (am_TT cu L, am_RR cu, σ)) r X' := by
  refine go_steps q_B_tryOrders kc_B_tryOrders 5 rfl ?_
  refine go_if (fun hb => ?_) (fun hb => ?_)
  · have hb : (σ 2 2) ≤ p7 := hb
    replace hv := hv.1 hb
    obtain ⟨rfl, rfl⟩ := hv
    exact go_retV q_B_tryOrders kc_B_tryOrders rfl rfl
  · have hb : ¬ ((σ 2 2) ≤ p7) := hb
    replace hv := hv.2 hb
    refine go_steps q_B_tryOrders kc_B_tryOrders 6 rfl ?_
    refine go_if (fun hb => ?_) (fun hb => ?_)
    · have hb : ((p1 >>> (p7 &&& 31 : Int32) : Int32) &&& 1) = (0 : Int32) := hb
      replace hv := hv.1 hb
      refine go_steps q_B_tryOrders kc_B_tryOrders 2 rfl ?_
      refine go_le (L1 := [some (.ref 1), some (.int p1), some (.int p2), some (.int p3), none, none, some (.int p6), some (.int (p7 + 1))]) (by repeat (first | exact trivial | refine ⟨rfl, ?_⟩)) ?_
      exact hv
    · have hb : ¬ (((p1 >>> (p7 &&& 31 : Int32) : Int32) &&& 1) = (0 : Int32)) := hb
      replace hv := hv.2 hb
      refine go_steps q_B_tryOrders kc_B_tryOrders 5 rfl ?_
      obtain ⟨hc, hv⟩ := hv
      refine go_iastore q_B_tryOrders kc_B_tryOrders rfl rfl hc ?_
      refine go_steps q_B_tryOrders kc_B_tryOrders 6 rfl ?_
      refine go_if (fun hb => ?_) (fun hb => ?_)
      · have hb : ((p6 >>> (p7 &&& 31 : Int32) : Int32) &&& 1) = (0 : Int32) := hb
        replace hv := hv.1 hb
        refine go_steps q_B_tryOrders kc_B_tryOrders 3 rfl ?_
        obtain ⟨r1, σ1, hg, hv⟩ := hv
        refine go_callV q_B_tryOrders kc_B_tryOrders rfl q_Hold_setAtCorner am_k35 ⟨rfl, rfl, by decide⟩ rfl rfl (Nat.le_of_ble_eq_true rfl) (Nat.le_of_ble_eq_true rfl) rfl rfl hg ?_
        refine go_steps q_B_tryOrders kc_B_tryOrders 1 rfl ?_
        refine go_if (fun hb => ?_) (fun hb => ?_)
        · have hb : r1 = 0 := hb
          replace hv := hv.1 hb
          refine go_steps q_B_tryOrders kc_B_tryOrders 19 rfl ?_
          obtain ⟨σ2, hg, hv⟩ := hv
          refine go_callV q_B_tryOrders kc_B_tryOrders rfl q_B_tryOrders am_k50 ⟨rfl, rfl, by decide⟩ rfl rfl (Nat.le_of_ble_eq_true rfl) (Nat.le_of_ble_eq_true rfl) rfl rfl hg ?_
          refine go_steps q_B_tryOrders kc_B_tryOrders 2 rfl ?_
          refine go_le (L1 := [some (.ref 1), some (.int p1), some (.int p2), some (.int p3), none, none, some (.int (p6 ||| (1 <<< (p7 &&& 31 : Int32) : Int32))), some (.int (p7 + 1))]) (by repeat (first | exact trivial | refine ⟨rfl, ?_⟩)) ?_
          exact hv
        · have hb : ¬ (r1 = 0) := hb
          replace hv := hv.2 hb
          refine go_steps q_B_tryOrders kc_B_tryOrders 15 rfl ?_
          obtain ⟨σ3, hg, hv⟩ := hv
          refine go_callV q_B_tryOrders kc_B_tryOrders rfl q_B_tryOrders am_k50 ⟨rfl, rfl, by decide⟩ rfl rfl (Nat.le_of_ble_eq_true rfl) (Nat.le_of_ble_eq_true rfl) rfl rfl hg ?_
          refine go_steps q_B_tryOrders kc_B_tryOrders 3 rfl ?_
          obtain ⟨σ4, hg, hv⟩ := hv
          refine go_callV q_B_tryOrders kc_B_tryOrders rfl q_Hold_putOut am_k44 ⟨rfl, rfl, by decide⟩ rfl rfl (Nat.le_of_ble_eq_true rfl) (Nat.le_of_ble_eq_true rfl) rfl rfl hg ?_
          refine go_steps q_B_tryOrders kc_B_tryOrders 3 rfl ?_
          refine go_le (L1 := [some (.ref 1), some (.int p1), some (.int p2), some (.int p3), none, none, some (.int p6), some (.int (p7 + 1))]) (by repeat (first | exact trivial | refine ⟨rfl, ?_⟩)) ?_
          exact hv
      · have hb : ¬ (((p6 >>> (p7 &&& 31 : Int32) : Int32) &&& 1) = (0 : Int32)) := hb
        replace hv := hv.2 hb
        refine go_steps q_B_tryOrders kc_B_tryOrders 19 rfl ?_
        obtain ⟨σ5, hg, hv⟩ := hv
        refine go_callV q_B_tryOrders kc_B_tryOrders rfl q_B_tryOrders am_k50 ⟨rfl, rfl, by decide⟩ rfl rfl (Nat.le_of_ble_eq_true rfl) (Nat.le_of_ble_eq_true rfl) rfl rfl hg ?_
        refine go_steps q_B_tryOrders kc_B_tryOrders 2 rfl ?_
        refine go_le (L1 := [some (.ref 1), some (.int p1), some (.int p2), some (.int p3), none, none, some (.int (p6 ||| (1 <<< (p7 &&& 31 : Int32) : Int32))), some (.int (p7 + 1))]) (by repeat (first | exact trivial | refine ⟨rfl, ?_⟩)) ?_
        exact hv
set_option maxHeartbeats 4000000 in
set_option maxRecDepth 100000 in
theorem v_B_setBest_0 {l : Launch} {D : va_G} {DA : Nat → ClassId} {b sz d L : Nat} {cu : Bool} {σ : Nat → Nat → Int32} {r : Option Value} {X' : am_X}
    (hv : am_Go l D DA b sz (d + 1) M_B_setBest (4, [some (.ref 1), some (.int 0), some (.int 0)], [], (am_TT cu L, am_RR cu, σ)) r X') :
    am_Go l D DA b sz (d + 1) M_B_setBest (0, [some (.ref 1), none, none], [], (am_TT cu L, am_RR cu, σ)) r X' := by
  refine go_steps q_B_setBest kc_B_setBest 4 rfl ?_
  refine go_le (L1 := [some (.ref 1), some (.int 0), some (.int 0)]) (by repeat (first | exact trivial | refine ⟨rfl, ?_⟩)) ?_
  exact hv
set_option maxHeartbeats 4000000 in
set_option maxRecDepth 100000 in
theorem v_B_setBest_4 {l : Launch} {D : va_G} {DA : Nat → ClassId} {b sz d L : Nat} {cu : Bool} {σ : Nat → Nat → Int32} {r : Option Value} {X' : am_X} (p1 : Int32) (p2 : Int32)
    (hv : (((σ 39 2) ≤ p2) → (r = some (.int p1) ∧ X' = (am_TT cu L, am_RR cu, σ))) ∧ (¬ ((σ 39 2) ≤ p2) → ((¬ (p2 < 0 ∨ 5 ≤ Int32.toNatClampNeg p2)) ∧ (∃ (r1 : Int32) (σ1 : Nat → Nat → Int32), am_Go l D DA b sz d M_Hold_setAtCorner (0, [some (.ref 2), some (.int (σ 41 (Int32.toNatClampNeg p2))), none, none, none, none, none, none], [], (am_TT cu L, am_RR cu, σ)) (some (.int r1)) (am_TT cu L, am_RR cu, σ1) ∧ (((r1 = 0) → (am_Go l D DA b sz (d + 1) M_B_setBest (4, [some (.ref 1), some (.int p1), some (.int (p2 + 1))], [], (am_TT cu L, am_RR cu, σ1)) r X')) ∧ (¬ (r1 = 0) → (am_Go l D DA b sz (d + 1) M_B_setBest (4, [some (.ref 1), some (.int (p1 + 1)), some (.int (p2 + 1))], [], (am_TT cu L, am_RR cu, σ1)) r X'))))))) :
    am_Go l D DA b sz (d + 1) M_B_setBest (4, [some (.ref 1), some (.int p1), some (.int p2)], [], (am_TT cu L, am_RR cu, σ)) r X' := by
  refine go_steps q_B_setBest kc_B_setBest 5 rfl ?_
  refine go_if (fun hb => ?_) (fun hb => ?_)
  · have hb : (σ 39 2) ≤ p2 := hb
    replace hv := hv.1 hb
    refine go_steps q_B_setBest kc_B_setBest 1 rfl ?_
    obtain ⟨rfl, rfl⟩ := hv
    exact go_retI q_B_setBest kc_B_setBest rfl rfl rfl
  · have hb : ¬ ((σ 39 2) ≤ p2) := hb
    replace hv := hv.2 hb
    refine go_steps q_B_setBest kc_B_setBest 6 rfl ?_
    obtain ⟨hc1, hv⟩ := hv
    refine go_iaload q_B_setBest kc_B_setBest rfl rfl hc1 ?_
    obtain ⟨r1, σ1, hg, hv⟩ := hv
    refine go_callV q_B_setBest kc_B_setBest rfl q_Hold_setAtCorner am_k35 ⟨rfl, rfl, by decide⟩ rfl rfl (Nat.le_of_ble_eq_true rfl) (Nat.le_of_ble_eq_true rfl) rfl rfl hg ?_
    refine go_steps q_B_setBest kc_B_setBest 1 rfl ?_
    refine go_if (fun hb => ?_) (fun hb => ?_)
    · have hb : r1 = 0 := hb
      replace hv := hv.1 hb
      refine go_steps q_B_setBest kc_B_setBest 2 rfl ?_
      refine go_le (L1 := [some (.ref 1), some (.int p1), some (.int (p2 + 1))]) (by repeat (first | exact trivial | refine ⟨rfl, ?_⟩)) ?_
      exact hv
    · have hb : ¬ (r1 = 0) := hb
      replace hv := hv.2 hb
      refine go_steps q_B_setBest kc_B_setBest 3 rfl ?_
      refine go_le (L1 := [some (.ref 1), some (.int (p1 + 1)), some (.int (p2 + 1))]) (by repeat (first | exact trivial | refine ⟨rfl, ?_⟩)) ?_
      exact hv
set_option maxHeartbeats 4000000 in
set_option maxRecDepth 100000 in
theorem v_B_about_0 {l : Launch} {D : va_G} {DA : Nat → ClassId} {b sz d L : Nat} {cu : Bool} {σ : Nat → Nat → Int32} {r : Option Value} {X' : am_X} (p1 : Int32) (p2 : Int32)
    (hv : (∃ (r1 : Int32) (σ1 : Nat → Nat → Int32), am_Go l D DA b sz d M_Hold_knows (0, [some (.ref 2), some (.int p1)], [], (am_TT cu L, am_RR cu, σ)) (some (.int r1)) (am_TT cu L, am_RR cu, σ1) ∧ (((r1 = 0) → (r = some (.int (-9)) ∧ X' = (am_TT cu L, am_RR cu, σ1))) ∧ (¬ (r1 = 0) → ((¬ (p1 < 0 ∨ 20 ≤ Int32.toNatClampNeg p1)) ∧ (∃ (r2 : Int32) (σ2 : Nat → Nat → Int32), am_Go l D DA b sz d M_Hold_has (0, [some (.ref 2), some (.int p1)], [], (am_TT cu L, am_RR cu, σ1)) (some (.int r2)) (am_TT cu L, am_RR cu, σ2) ∧ ((p2 = 0 → (r = some (.int (σ2 (19 + Int32.toNatClampNeg p1) 0)) ∧ X' = (am_TT cu L, am_RR cu, σ2))) ∧ (p2 = 1 → (r = some (.int (σ2 (19 + Int32.toNatClampNeg p1) 1)) ∧ X' = (am_TT cu L, am_RR cu, σ2))) ∧ (p2 = 2 → (r = some (.int (σ2 (19 + Int32.toNatClampNeg p1) 2)) ∧ X' = (am_TT cu L, am_RR cu, σ2))) ∧ (p2 = 3 → (r = some (.int (σ2 (19 + Int32.toNatClampNeg p1) 3)) ∧ X' = (am_TT cu L, am_RR cu, σ2))) ∧ (p2 = 4 → (r = some (.int (σ2 (19 + Int32.toNatClampNeg p1) 4)) ∧ X' = (am_TT cu L, am_RR cu, σ2))) ∧ (p2 = 5 → (r = some (.int (σ2 (19 + Int32.toNatClampNeg p1) 5)) ∧ X' = (am_TT cu L, am_RR cu, σ2))) ∧ (p2 = 6 → (r = some (.int (if (σ2 (19 + Int32.toNatClampNeg p1) 6) = 0 then 0 else 1 : Int32)) ∧ X' = (am_TT cu L, am_RR cu, σ2))) ∧ (p2 = 7 → (r = some (.int (σ2 (19 + Int32.toNatClampNeg p1) 7)) ∧ X' = (am_TT cu L, am_RR cu, σ2))) ∧ (p2 = 8 → (r = some (.int (if r2 = 0 then 0 else 1 : Int32)) ∧ X' = (am_TT cu L, am_RR cu, σ2))) ∧ (p2 = 9 → (r = some (.int (if r2 = 0 then (-1) else σ2 (19 + Int32.toNatClampNeg p1) 8 : Int32)) ∧ X' = (am_TT cu L, am_RR cu, σ2))) ∧ (p2 = 10 → (r = some (.int (if r2 = 0 then (-1) else σ2 (19 + Int32.toNatClampNeg p1) 9 : Int32)) ∧ X' = (am_TT cu L, am_RR cu, σ2))) ∧ (p2 = 11 → (r = some (.int (if r2 = 0 then (-1) else σ2 (19 + Int32.toNatClampNeg p1) 10 : Int32)) ∧ X' = (am_TT cu L, am_RR cu, σ2))) ∧ (p2 = 12 → (r = some (.int (if r2 = 0 then 0 else (if (σ2 (19 + Int32.toNatClampNeg p1) 14) = 0 then 0 else 1 : Int32) : Int32)) ∧ X' = (am_TT cu L, am_RR cu, σ2))) ∧ (p2 = 13 → (((r2 = 0) → (r = some (.int 0) ∧ X' = (am_TT cu L, am_RR cu, σ2))) ∧ (¬ (r2 = 0) → (∃ (r3 : Int32) (σ3 : Nat → Nat → Int32), am_Go l D DA b sz d M_Hold_loadOf (0, [some (.ref 2), some (.int p1)], [], (am_TT cu L, am_RR cu, σ2)) (some (.int r3)) (am_TT cu L, am_RR cu, σ3) ∧ (r = some (.int r3) ∧ X' = (am_TT cu L, am_RR cu, σ3)))))) ∧ (p2 = 14 → (((r2 = 0) → (r = some (.int 0) ∧ X' = (am_TT cu L, am_RR cu, σ2))) ∧ (¬ (r2 = 0) → (∃ (r4 : Int32) (σ4 : Nat → Nat → Int32), am_Go l D DA b sz d M_Hold_supportsOf (0, [some (.ref 2), some (.int p1), none, none], [], (am_TT cu L, am_RR cu, σ2)) (some (.int r4)) (am_TT cu L, am_RR cu, σ4) ∧ (r = some (.int r4) ∧ X' = (am_TT cu L, am_RR cu, σ4)))))) ∧ (¬ p2 = 0 → ¬ p2 = 1 → ¬ p2 = 2 → ¬ p2 = 3 → ¬ p2 = 4 → ¬ p2 = 5 → ¬ p2 = 6 → ¬ p2 = 7 → ¬ p2 = 8 → ¬ p2 = 9 → ¬ p2 = 10 → ¬ p2 = 11 → ¬ p2 = 12 → ¬ p2 = 13 → ¬ p2 = 14 → (r = some (.int (-9)) ∧ X' = (am_TT cu L, am_RR cu, σ2)))))))))) :
    am_Go l D DA b sz (d + 1) M_B_about (0, [some (.ref 1), some (.int p1), some (.int p2), none, none], [], (am_TT cu L, am_RR cu, σ)) r X' := by
  refine go_steps q_B_about kc_B_about 3 rfl ?_
  obtain ⟨r1, σ1, hg, hv⟩ := hv
  refine go_callV q_B_about kc_B_about rfl q_Hold_knows am_k17 ⟨rfl, rfl, by decide⟩ rfl rfl (Nat.le_of_ble_eq_true rfl) (Nat.le_of_ble_eq_true rfl) rfl rfl hg ?_
  refine go_steps q_B_about kc_B_about 1 rfl ?_
  refine go_if (fun hb => ?_) (fun hb => ?_)
  · have hb : r1 = 0 := hb
    replace hv := hv.1 hb
    refine go_steps q_B_about kc_B_about 1 rfl ?_
    obtain ⟨rfl, rfl⟩ := hv
    exact go_retI q_B_about kc_B_about rfl rfl rfl
  · have hb : ¬ (r1 = 0) := hb
    replace hv := hv.2 hb
    refine go_steps q_B_about kc_B_about 4 rfl ?_
    obtain ⟨hc1, hv⟩ := hv
    refine go_aaload q_B_about kc_B_about rfl rfl hc1 (am_rr4 (am_inb hc1)) ?_
    refine go_steps q_B_about kc_B_about 4 rfl ?_
    obtain ⟨r2, σ2, hg, hv⟩ := hv
    refine go_callV q_B_about kc_B_about rfl q_Hold_has am_k18 ⟨rfl, rfl, by decide⟩ rfl rfl (Nat.le_of_ble_eq_true rfl) (Nat.le_of_ble_eq_true rfl) rfl rfl hg ?_
    refine go_steps q_B_about kc_B_about 2 rfl ?_
    by_cases hs0 : p2 = 0
    · replace hv := hv.1 hs0
      refine go_sw q_B_about kc_B_about rfl (g := 108) (by rw [hs0]; rfl) ?_
      refine go_steps q_B_about kc_B_about 1 rfl ?_
      refine go_getI q_B_about kc_B_about rfl (am_tt_box (am_inb hc1)) rfl ?_
      obtain ⟨rfl, rfl⟩ := hv
      exact go_retI q_B_about kc_B_about rfl rfl rfl
    by_cases hs1 : p2 = 1
    · replace hv := hv.2.1 hs1
      refine go_sw q_B_about kc_B_about rfl (g := 113) (by rw [hs1]; rfl) ?_
      refine go_steps q_B_about kc_B_about 1 rfl ?_
      refine go_getI q_B_about kc_B_about rfl (am_tt_box (am_inb hc1)) rfl ?_
      obtain ⟨rfl, rfl⟩ := hv
      exact go_retI q_B_about kc_B_about rfl rfl rfl
    by_cases hs2 : p2 = 2
    · replace hv := hv.2.2.1 hs2
      refine go_sw q_B_about kc_B_about rfl (g := 118) (by rw [hs2]; rfl) ?_
      refine go_steps q_B_about kc_B_about 1 rfl ?_
      refine go_getI q_B_about kc_B_about rfl (am_tt_box (am_inb hc1)) rfl ?_
      obtain ⟨rfl, rfl⟩ := hv
      exact go_retI q_B_about kc_B_about rfl rfl rfl
    by_cases hs3 : p2 = 3
    · replace hv := hv.2.2.2.1 hs3
      refine go_sw q_B_about kc_B_about rfl (g := 123) (by rw [hs3]; rfl) ?_
      refine go_steps q_B_about kc_B_about 1 rfl ?_
      refine go_getI q_B_about kc_B_about rfl (am_tt_box (am_inb hc1)) rfl ?_
      obtain ⟨rfl, rfl⟩ := hv
      exact go_retI q_B_about kc_B_about rfl rfl rfl
    by_cases hs4 : p2 = 4
    · replace hv := hv.2.2.2.2.1 hs4
      refine go_sw q_B_about kc_B_about rfl (g := 128) (by rw [hs4]; rfl) ?_
      refine go_steps q_B_about kc_B_about 1 rfl ?_
      refine go_getI q_B_about kc_B_about rfl (am_tt_box (am_inb hc1)) rfl ?_
      obtain ⟨rfl, rfl⟩ := hv
      exact go_retI q_B_about kc_B_about rfl rfl rfl
    by_cases hs5 : p2 = 5
    · replace hv := hv.2.2.2.2.2.1 hs5
      refine go_sw q_B_about kc_B_about rfl (g := 133) (by rw [hs5]; rfl) ?_
      refine go_steps q_B_about kc_B_about 1 rfl ?_
      refine go_getI q_B_about kc_B_about rfl (am_tt_box (am_inb hc1)) rfl ?_
      obtain ⟨rfl, rfl⟩ := hv
      exact go_retI q_B_about kc_B_about rfl rfl rfl
    by_cases hs6 : p2 = 6
    · replace hv := hv.2.2.2.2.2.2.1 hs6
      refine go_sw q_B_about kc_B_about rfl (g := 138) (by rw [hs6]; rfl) ?_
      refine go_steps q_B_about kc_B_about 1 rfl ?_
      refine go_getI q_B_about kc_B_about rfl (am_tt_box (am_inb hc1)) rfl ?_
      refine go_steps q_B_about kc_B_about 1 rfl ?_
      have key : am_Go l D DA b sz (d + 1) M_B_about (150, [some (.ref 1), some (.int p1), some (.int p2), some (.ref (19 + Int32.toNatClampNeg p1)), some (.int r2)], [.int (if (σ2 (19 + Int32.toNatClampNeg p1) 6) = 0 then 0 else 1 : Int32)], (am_TT cu L, am_RR cu, σ2)) r X' := by
        obtain ⟨rfl, rfl⟩ := hv
        exact go_retI q_B_about kc_B_about rfl rfl rfl
      refine go_if (fun hb => ?_) (fun hb => ?_)
      · have hb : (σ2 (19 + Int32.toNatClampNeg p1) 6) = 0 := hb
        rw [show (if (σ2 (19 + Int32.toNatClampNeg p1) 6) = 0 then 0 else 1 : Int32) = 0 from if_pos hb] at key
        refine go_steps q_B_about kc_B_about 1 rfl ?_
        exact key
      · have hb : ¬ ((σ2 (19 + Int32.toNatClampNeg p1) 6) = 0) := hb
        rw [show (if (σ2 (19 + Int32.toNatClampNeg p1) 6) = 0 then 0 else 1 : Int32) = 1 from if_neg hb] at key
        refine go_steps q_B_about kc_B_about 2 rfl ?_
        exact key
    by_cases hs7 : p2 = 7
    · replace hv := hv.2.2.2.2.2.2.2.1 hs7
      refine go_sw q_B_about kc_B_about rfl (g := 151) (by rw [hs7]; rfl) ?_
      refine go_steps q_B_about kc_B_about 1 rfl ?_
      refine go_getI q_B_about kc_B_about rfl (am_tt_box (am_inb hc1)) rfl ?_
      obtain ⟨rfl, rfl⟩ := hv
      exact go_retI q_B_about kc_B_about rfl rfl rfl
    by_cases hs8 : p2 = 8
    · replace hv := hv.2.2.2.2.2.2.2.2.1 hs8
      refine go_sw q_B_about kc_B_about rfl (g := 156) (by rw [hs8]; rfl) ?_
      refine go_steps q_B_about kc_B_about 2 rfl ?_
      have key : am_Go l D DA b sz (d + 1) M_B_about (166, [some (.ref 1), some (.int p1), some (.int p2), some (.ref (19 + Int32.toNatClampNeg p1)), some (.int r2)], [.int (if r2 = 0 then 0 else 1 : Int32)], (am_TT cu L, am_RR cu, σ2)) r X' := by
        obtain ⟨rfl, rfl⟩ := hv
        exact go_retI q_B_about kc_B_about rfl rfl rfl
      refine go_if (fun hb => ?_) (fun hb => ?_)
      · have hb : r2 = 0 := hb
        rw [show (if r2 = 0 then 0 else 1 : Int32) = 0 from if_pos hb] at key
        refine go_steps q_B_about kc_B_about 1 rfl ?_
        exact key
      · have hb : ¬ (r2 = 0) := hb
        rw [show (if r2 = 0 then 0 else 1 : Int32) = 1 from if_neg hb] at key
        refine go_steps q_B_about kc_B_about 2 rfl ?_
        exact key
    by_cases hs9 : p2 = 9
    · replace hv := hv.2.2.2.2.2.2.2.2.2.1 hs9
      refine go_sw q_B_about kc_B_about rfl (g := 167) (by rw [hs9]; rfl) ?_
      refine go_steps q_B_about kc_B_about 2 rfl ?_
      have key : am_Go l D DA b sz (d + 1) M_B_about (180, [some (.ref 1), some (.int p1), some (.int p2), some (.ref (19 + Int32.toNatClampNeg p1)), some (.int r2)], [.int (if r2 = 0 then (-1) else σ2 (19 + Int32.toNatClampNeg p1) 8 : Int32)], (am_TT cu L, am_RR cu, σ2)) r X' := by
        obtain ⟨rfl, rfl⟩ := hv
        exact go_retI q_B_about kc_B_about rfl rfl rfl
      refine go_if (fun hb => ?_) (fun hb => ?_)
      · have hb : r2 = 0 := hb
        rw [show (if r2 = 0 then (-1) else σ2 (19 + Int32.toNatClampNeg p1) 8 : Int32) = (-1) from if_pos hb] at key
        refine go_steps q_B_about kc_B_about 1 rfl ?_
        exact key
      · have hb : ¬ (r2 = 0) := hb
        rw [show (if r2 = 0 then (-1) else σ2 (19 + Int32.toNatClampNeg p1) 8 : Int32) = (σ2 (19 + Int32.toNatClampNeg p1) 8) from if_neg hb] at key
        refine go_steps q_B_about kc_B_about 1 rfl ?_
        refine go_getI q_B_about kc_B_about rfl (am_tt_box (am_inb hc1)) rfl ?_
        refine go_steps q_B_about kc_B_about 1 rfl ?_
        exact key
    by_cases hs10 : p2 = 10
    · replace hv := hv.2.2.2.2.2.2.2.2.2.2.1 hs10
      refine go_sw q_B_about kc_B_about rfl (g := 181) (by rw [hs10]; rfl) ?_
      refine go_steps q_B_about kc_B_about 2 rfl ?_
      have key : am_Go l D DA b sz (d + 1) M_B_about (194, [some (.ref 1), some (.int p1), some (.int p2), some (.ref (19 + Int32.toNatClampNeg p1)), some (.int r2)], [.int (if r2 = 0 then (-1) else σ2 (19 + Int32.toNatClampNeg p1) 9 : Int32)], (am_TT cu L, am_RR cu, σ2)) r X' := by
        obtain ⟨rfl, rfl⟩ := hv
        exact go_retI q_B_about kc_B_about rfl rfl rfl
      refine go_if (fun hb => ?_) (fun hb => ?_)
      · have hb : r2 = 0 := hb
        rw [show (if r2 = 0 then (-1) else σ2 (19 + Int32.toNatClampNeg p1) 9 : Int32) = (-1) from if_pos hb] at key
        refine go_steps q_B_about kc_B_about 1 rfl ?_
        exact key
      · have hb : ¬ (r2 = 0) := hb
        rw [show (if r2 = 0 then (-1) else σ2 (19 + Int32.toNatClampNeg p1) 9 : Int32) = (σ2 (19 + Int32.toNatClampNeg p1) 9) from if_neg hb] at key
        refine go_steps q_B_about kc_B_about 1 rfl ?_
        refine go_getI q_B_about kc_B_about rfl (am_tt_box (am_inb hc1)) rfl ?_
        refine go_steps q_B_about kc_B_about 1 rfl ?_
        exact key
    by_cases hs11 : p2 = 11
    · replace hv := hv.2.2.2.2.2.2.2.2.2.2.2.1 hs11
      refine go_sw q_B_about kc_B_about rfl (g := 195) (by rw [hs11]; rfl) ?_
      refine go_steps q_B_about kc_B_about 2 rfl ?_
      have key : am_Go l D DA b sz (d + 1) M_B_about (208, [some (.ref 1), some (.int p1), some (.int p2), some (.ref (19 + Int32.toNatClampNeg p1)), some (.int r2)], [.int (if r2 = 0 then (-1) else σ2 (19 + Int32.toNatClampNeg p1) 10 : Int32)], (am_TT cu L, am_RR cu, σ2)) r X' := by
        obtain ⟨rfl, rfl⟩ := hv
        exact go_retI q_B_about kc_B_about rfl rfl rfl
      refine go_if (fun hb => ?_) (fun hb => ?_)
      · have hb : r2 = 0 := hb
        rw [show (if r2 = 0 then (-1) else σ2 (19 + Int32.toNatClampNeg p1) 10 : Int32) = (-1) from if_pos hb] at key
        refine go_steps q_B_about kc_B_about 1 rfl ?_
        exact key
      · have hb : ¬ (r2 = 0) := hb
        rw [show (if r2 = 0 then (-1) else σ2 (19 + Int32.toNatClampNeg p1) 10 : Int32) = (σ2 (19 + Int32.toNatClampNeg p1) 10) from if_neg hb] at key
        refine go_steps q_B_about kc_B_about 1 rfl ?_
        refine go_getI q_B_about kc_B_about rfl (am_tt_box (am_inb hc1)) rfl ?_
        refine go_steps q_B_about kc_B_about 1 rfl ?_
        exact key
    by_cases hs12 : p2 = 12
    · replace hv := hv.2.2.2.2.2.2.2.2.2.2.2.2.1 hs12
      refine go_sw q_B_about kc_B_about rfl (g := 209) (by rw [hs12]; rfl) ?_
      refine go_steps q_B_about kc_B_about 2 rfl ?_
      have key : am_Go l D DA b sz (d + 1) M_B_about (226, [some (.ref 1), some (.int p1), some (.int p2), some (.ref (19 + Int32.toNatClampNeg p1)), some (.int r2)], [.int (if r2 = 0 then 0 else (if (σ2 (19 + Int32.toNatClampNeg p1) 14) = 0 then 0 else 1 : Int32) : Int32)], (am_TT cu L, am_RR cu, σ2)) r X' := by
        obtain ⟨rfl, rfl⟩ := hv
        exact go_retI q_B_about kc_B_about rfl rfl rfl
      refine go_if (fun hb => ?_) (fun hb => ?_)
      · have hb : r2 = 0 := hb
        rw [show (if r2 = 0 then 0 else (if (σ2 (19 + Int32.toNatClampNeg p1) 14) = 0 then 0 else 1 : Int32) : Int32) = 0 from if_pos hb] at key
        refine go_steps q_B_about kc_B_about 1 rfl ?_
        exact key
      · have hb : ¬ (r2 = 0) := hb
        rw [show (if r2 = 0 then 0 else (if (σ2 (19 + Int32.toNatClampNeg p1) 14) = 0 then 0 else 1 : Int32) : Int32) = (if (σ2 (19 + Int32.toNatClampNeg p1) 14) = 0 then 0 else 1 : Int32) from if_neg hb] at key
        refine go_steps q_B_about kc_B_about 1 rfl ?_
        refine go_getI q_B_about kc_B_about rfl (am_tt_box (am_inb hc1)) rfl ?_
        refine go_steps q_B_about kc_B_about 1 rfl ?_
        refine go_if (fun hb => ?_) (fun hb => ?_)
        · have hb : (σ2 (19 + Int32.toNatClampNeg p1) 14) = 0 := hb
          rw [show (if (σ2 (19 + Int32.toNatClampNeg p1) 14) = 0 then 0 else 1 : Int32) = 0 from if_pos hb] at key
          refine go_steps q_B_about kc_B_about 1 rfl ?_
          exact key
        · have hb : ¬ ((σ2 (19 + Int32.toNatClampNeg p1) 14) = 0) := hb
          rw [show (if (σ2 (19 + Int32.toNatClampNeg p1) 14) = 0 then 0 else 1 : Int32) = 1 from if_neg hb] at key
          refine go_steps q_B_about kc_B_about 2 rfl ?_
          exact key
    by_cases hs13 : p2 = 13
    · replace hv := hv.2.2.2.2.2.2.2.2.2.2.2.2.2.1 hs13
      refine go_sw q_B_about kc_B_about rfl (g := 227) (by rw [hs13]; rfl) ?_
      refine go_steps q_B_about kc_B_about 2 rfl ?_
      refine go_if (fun hb => ?_) (fun hb => ?_)
      · have hb : r2 = 0 := hb
        replace hv := hv.1 hb
        refine go_steps q_B_about kc_B_about 1 rfl ?_
        obtain ⟨rfl, rfl⟩ := hv
        exact go_retI q_B_about kc_B_about rfl rfl rfl
      · have hb : ¬ (r2 = 0) := hb
        replace hv := hv.2 hb
        refine go_steps q_B_about kc_B_about 3 rfl ?_
        obtain ⟨r3, σ3, hg, hv⟩ := hv
        refine go_callV q_B_about kc_B_about rfl q_Hold_loadOf am_k56 ⟨rfl, rfl, by decide⟩ rfl rfl (Nat.le_of_ble_eq_true rfl) (Nat.le_of_ble_eq_true rfl) rfl rfl hg ?_
        refine go_steps q_B_about kc_B_about 1 rfl ?_
        obtain ⟨rfl, rfl⟩ := hv
        exact go_retI q_B_about kc_B_about rfl rfl rfl
    by_cases hs14 : p2 = 14
    · replace hv := hv.2.2.2.2.2.2.2.2.2.2.2.2.2.2.1 hs14
      refine go_sw q_B_about kc_B_about rfl (g := 245) (by rw [hs14]; rfl) ?_
      refine go_steps q_B_about kc_B_about 2 rfl ?_
      refine go_if (fun hb => ?_) (fun hb => ?_)
      · have hb : r2 = 0 := hb
        replace hv := hv.1 hb
        refine go_steps q_B_about kc_B_about 1 rfl ?_
        obtain ⟨rfl, rfl⟩ := hv
        exact go_retI q_B_about kc_B_about rfl rfl rfl
      · have hb : ¬ (r2 = 0) := hb
        replace hv := hv.2 hb
        refine go_steps q_B_about kc_B_about 3 rfl ?_
        obtain ⟨r4, σ4, hg, hv⟩ := hv
        refine go_callV q_B_about kc_B_about rfl q_Hold_supportsOf am_k57 ⟨rfl, rfl, by decide⟩ rfl rfl (Nat.le_of_ble_eq_true rfl) (Nat.le_of_ble_eq_true rfl) rfl rfl hg ?_
        refine go_steps q_B_about kc_B_about 1 rfl ?_
        obtain ⟨rfl, rfl⟩ := hv
        exact go_retI q_B_about kc_B_about rfl rfl rfl
    replace hv := hv.2.2.2.2.2.2.2.2.2.2.2.2.2.2.2 hs0 hs1 hs2 hs3 hs4 hs5 hs6 hs7 hs8 hs9 hs10 hs11 hs12 hs13 hs14
    refine go_sw q_B_about kc_B_about rfl (g := 263) (if_pos (am_sw_out (m := 14) (by decide) (fun j hj => match j, hj with | 0, _ => hs0 | 1, _ => hs1 | 2, _ => hs2 | 3, _ => hs3 | 4, _ => hs4 | 5, _ => hs5 | 6, _ => hs6 | 7, _ => hs7 | 8, _ => hs8 | 9, _ => hs9 | 10, _ => hs10 | 11, _ => hs11 | 12, _ => hs12 | 13, _ => hs13 | 14, _ => hs14 | n + 15, h => absurd h (by omega)))) ?_
    refine go_steps q_B_about kc_B_about 1 rfl ?_
    obtain ⟨rfl, rfl⟩ := hv
    exact go_retI q_B_about kc_B_about rfl rfl rfl
set_option maxHeartbeats 4000000 in
set_option maxRecDepth 100000 in
theorem v_B_at_0 {l : Launch} {D : va_G} {DA : Nat → ClassId} {b sz d L : Nat} {cu : Bool} {σ : Nat → Nat → Int32} {r : Option Value} {X' : am_X} (p1 : Int32) (p2 : Int32) (p3 : Int32)
    (hv : am_Go l D DA b sz (d + 1) M_B_at (3, [some (.ref 1), some (.int p1), some (.int p2), some (.int p3), some (.int 0)], [], (am_TT cu L, am_RR cu, σ)) r X') :
    am_Go l D DA b sz (d + 1) M_B_at (0, [some (.ref 1), some (.int p1), some (.int p2), some (.int p3), none], [], (am_TT cu L, am_RR cu, σ)) r X' := by
  refine go_steps q_B_at kc_B_at 2 rfl ?_
  refine go_le (L1 := [some (.ref 1), some (.int p1), some (.int p2), some (.int p3), some (.int 0)]) (by repeat (first | exact trivial | refine ⟨rfl, ?_⟩)) ?_
  exact hv
set_option maxHeartbeats 4000000 in
set_option maxRecDepth 100000 in
theorem v_B_at_3 {l : Launch} {D : va_G} {DA : Nat → ClassId} {b sz d L : Nat} {cu : Bool} {σ : Nat → Nat → Int32} {r : Option Value} {X' : am_X} (p1 : Int32) (p2 : Int32) (p3 : Int32) (p4 : Int32)
    (hv : (((σ 2 2) ≤ p4) → (r = some (.int (-1)) ∧ X' = (am_TT cu L, am_RR cu, σ))) ∧ (¬ ((σ 2 2) ≤ p4) → (∃ (r1 : Int32) (σ1 : Nat → Nat → Int32), am_Go l D DA b sz d M_Hold_has (0, [some (.ref 2), some (.int p4)], [], (am_TT cu L, am_RR cu, σ)) (some (.int r1)) (am_TT cu L, am_RR cu, σ1) ∧ (((r1 = 0) → (am_Go l D DA b sz (d + 1) M_B_at (3, [some (.ref 1), some (.int p1), some (.int p2), some (.int p3), some (.int (p4 + 1))], [], (am_TT cu L, am_RR cu, σ1)) r X')) ∧ (¬ (r1 = 0) → ((¬ (p4 < 0 ∨ 20 ≤ Int32.toNatClampNeg p4)) ∧ (∃ (r2 : Int32) (σ2 : Nat → Nat → Int32), am_Go l D DA b sz d M_Box_fills (0, [some (.ref (19 + Int32.toNatClampNeg p4)), some (.int p1), some (.int p2), some (.int p3)], [], (am_TT cu L, am_RR cu, σ1)) (some (.int r2)) (am_TT cu L, am_RR cu, σ2) ∧ (((r2 = 0) → (am_Go l D DA b sz (d + 1) M_B_at (3, [some (.ref 1), some (.int p1), some (.int p2), some (.int p3), some (.int (p4 + 1))], [], (am_TT cu L, am_RR cu, σ2)) r X')) ∧ (¬ (r2 = 0) → (r = some (.int p4) ∧ X' = (am_TT cu L, am_RR cu, σ2))))))))))) :
    am_Go l D DA b sz (d + 1) M_B_at (3, [some (.ref 1), some (.int p1), some (.int p2), some (.int p3), some (.int p4)], [], (am_TT cu L, am_RR cu, σ)) r X' := by
  refine go_steps q_B_at kc_B_at 5 rfl ?_
  refine go_if (fun hb => ?_) (fun hb => ?_)
  · have hb : (σ 2 2) ≤ p4 := hb
    replace hv := hv.1 hb
    refine go_steps q_B_at kc_B_at 1 rfl ?_
    obtain ⟨rfl, rfl⟩ := hv
    exact go_retI q_B_at kc_B_at rfl rfl rfl
  · have hb : ¬ ((σ 2 2) ≤ p4) := hb
    replace hv := hv.2 hb
    refine go_steps q_B_at kc_B_at 3 rfl ?_
    obtain ⟨r1, σ1, hg, hv⟩ := hv
    refine go_callV q_B_at kc_B_at rfl q_Hold_has am_k18 ⟨rfl, rfl, by decide⟩ rfl rfl (Nat.le_of_ble_eq_true rfl) (Nat.le_of_ble_eq_true rfl) rfl rfl hg ?_
    refine go_steps q_B_at kc_B_at 1 rfl ?_
    refine go_if (fun hb => ?_) (fun hb => ?_)
    · have hb : r1 = 0 := hb
      replace hv := hv.1 hb
      refine go_steps q_B_at kc_B_at 2 rfl ?_
      refine go_le (L1 := [some (.ref 1), some (.int p1), some (.int p2), some (.int p3), some (.int (p4 + 1))]) (by repeat (first | exact trivial | refine ⟨rfl, ?_⟩)) ?_
      exact hv
    · have hb : ¬ (r1 = 0) := hb
      replace hv := hv.2 hb
      refine go_steps q_B_at kc_B_at 4 rfl ?_
      obtain ⟨hc1, hv⟩ := hv
      refine go_aaload q_B_at kc_B_at rfl rfl hc1 (am_rr4 (am_inb hc1)) ?_
      refine go_steps q_B_at kc_B_at 3 rfl ?_
      obtain ⟨r2, σ2, hg, hv⟩ := hv
      refine go_callV q_B_at kc_B_at rfl q_Box_fills am_k59 ⟨rfl, rfl, by decide⟩ rfl rfl (Nat.le_of_ble_eq_true rfl) (Nat.le_of_ble_eq_true rfl) rfl (am_tt_box (am_inb hc1)) hg ?_
      refine go_steps q_B_at kc_B_at 1 rfl ?_
      refine go_if (fun hb => ?_) (fun hb => ?_)
      · have hb : r2 = 0 := hb
        replace hv := hv.1 hb
        refine go_steps q_B_at kc_B_at 2 rfl ?_
        refine go_le (L1 := [some (.ref 1), some (.int p1), some (.int p2), some (.int p3), some (.int (p4 + 1))]) (by repeat (first | exact trivial | refine ⟨rfl, ?_⟩)) ?_
        exact hv
      · have hb : ¬ (r2 = 0) := hb
        replace hv := hv.2 hb
        refine go_steps q_B_at kc_B_at 1 rfl ?_
        obtain ⟨rfl, rfl⟩ := hv
        exact go_retI q_B_at kc_B_at rfl rfl rfl
set_option maxHeartbeats 4000000 in
set_option maxRecDepth 100000 in
theorem v_B_axle_0 {l : Launch} {D : va_G} {DA : Nat → ClassId} {b sz d L : Nat} {cu : Bool} {σ : Nat → Nat → Int32} {r : Option Value} {X' : am_X} (p1 : Int32) (p2 : Int32) (p3 : Int32)
    (hv : (∃ (r1 : Int32) (σ1 : Nat → Nat → Int32), am_Go l D DA b sz d M_B_within (0, [some (.int p1), some (.int 0), some (.int 1)], [], (am_TT cu L, am_RR cu, σ)) (some (.int r1)) (am_TT cu L, am_RR cu, σ1) ∧ (((r1 = 0) → (r = some (.int (-2000000000)) ∧ X' = (am_TT cu L, am_RR cu, σ1))) ∧ (¬ (r1 = 0) → (∃ (r2 : Int32) (σ2 : Nat → Nat → Int32), am_Go l D DA b sz d M_B_within (0, [some (.int p2), some (.int 0), some (.int 6)], [], (am_TT cu L, am_RR cu, σ1)) (some (.int r2)) (am_TT cu L, am_RR cu, σ2) ∧ (((r2 = 0) → (r = some (.int (-2000000000)) ∧ X' = (am_TT cu L, am_RR cu, σ2))) ∧ (¬ (r2 = 0) → (∃ (r3 : Int32) (σ3 : Nat → Nat → Int32), am_Go l D DA b sz d M_B_within (0, [some (.int p3), some (.int 0), some (.int 1)], [], (am_TT cu L, am_RR cu, σ2)) (some (.int r3)) (am_TT cu L, am_RR cu, σ3) ∧ (((r3 = 0) → (r = some (.int (-2000000000)) ∧ X' = (am_TT cu L, am_RR cu, σ3))) ∧ (¬ (r3 = 0) → (∃ (σ4 : Nat → Nat → Int32), am_Go l D DA b sz d M_Balance_sum (0, [some (.ref 42), some (.ref 2), some (.int p2), none, none, none], [], (am_TT cu L, am_RR cu, σ3)) none (am_TT cu L, am_RR cu, σ4) ∧ (((p1 = 0) → (∃ (r5 : Int32) (σ5 : Nat → Nat → Int32), am_Go l D DA b sz d M_Balance_front (0, [some (.ref 42)], [], (am_TT cu L, am_RR cu, σ4)) (some (.int r5)) (am_TT cu L, am_RR cu, σ5) ∧ ((∃ (r6 : Int32) (σ6 : Nat → Nat → Int32), am_Go l D DA b sz d M_B_commonDivisor (0, [some (.int (if 0 ≤ r5 then r5 else 0 - r5 : Int32)), some (.int (σ5 42 3)), none, none, none, none], [], (am_TT cu L, am_RR cu, σ5)) (some (.int r6)) (am_TT cu L, am_RR cu, σ6) ∧ (((1 ≤ r6) → (((p3 = 0) → ((¬ r6 = 0) ∧ (r = some (.int (r5 / r6)) ∧ X' = (am_TT cu L, am_RR cu, σ6)))) ∧ (¬ (p3 = 0) → ((¬ r6 = 0) ∧ (r = some (.int ((σ6 42 3) / r6)) ∧ X' = (am_TT cu L, am_RR cu, σ6)))))) ∧ (¬ (1 ≤ r6) → (r = some (.int (-2000000000)) ∧ X' = (am_TT cu L, am_RR cu, σ6)))))))) ∧ (¬ (p1 = 0) → (∃ (r7 : Int32) (σ7 : Nat → Nat → Int32), am_Go l D DA b sz d M_Balance_rear (0, [some (.ref 42)], [], (am_TT cu L, am_RR cu, σ4)) (some (.int r7)) (am_TT cu L, am_RR cu, σ7) ∧ ((∃ (r8 : Int32) (σ8 : Nat → Nat → Int32), am_Go l D DA b sz d M_B_commonDivisor (0, [some (.int (if 0 ≤ r7 then r7 else 0 - r7 : Int32)), some (.int (σ7 42 3)), none, none, none, none], [], (am_TT cu L, am_RR cu, σ7)) (some (.int r8)) (am_TT cu L, am_RR cu, σ8) ∧ (((1 ≤ r8) → (((p3 = 0) → ((¬ r8 = 0) ∧ (r = some (.int (r7 / r8)) ∧ X' = (am_TT cu L, am_RR cu, σ8)))) ∧ (¬ (p3 = 0) → ((¬ r8 = 0) ∧ (r = some (.int ((σ8 42 3) / r8)) ∧ X' = (am_TT cu L, am_RR cu, σ8)))))) ∧ (¬ (1 ≤ r8) → (r = some (.int (-2000000000)) ∧ X' = (am_TT cu L, am_RR cu, σ8)))))))))))))))))))) :
    am_Go l D DA b sz (d + 1) M_B_axle (0, [some (.ref 1), some (.int p1), some (.int p2), some (.int p3), none, none], [], (am_TT cu L, am_RR cu, σ)) r X' := by
  refine go_steps q_B_axle kc_B_axle 3 rfl ?_
  obtain ⟨r1, σ1, hg, hv⟩ := hv
  refine go_callS q_B_axle kc_B_axle rfl q_B_within am_k9 rfl rfl rfl (Nat.le_of_ble_eq_true rfl) (Nat.le_of_ble_eq_true rfl) hg ?_
  refine go_steps q_B_axle kc_B_axle 1 rfl ?_
  refine go_if (fun hb => ?_) (fun hb => ?_)
  · have hb : r1 = 0 := hb
    replace hv := hv.1 hb
    refine go_steps q_B_axle kc_B_axle 1 rfl ?_
    obtain ⟨rfl, rfl⟩ := hv
    exact go_retI q_B_axle kc_B_axle rfl rfl rfl
  · have hb : ¬ (r1 = 0) := hb
    replace hv := hv.2 hb
    refine go_steps q_B_axle kc_B_axle 3 rfl ?_
    obtain ⟨r2, σ2, hg, hv⟩ := hv
    refine go_callS q_B_axle kc_B_axle rfl q_B_within am_k9 rfl rfl rfl (Nat.le_of_ble_eq_true rfl) (Nat.le_of_ble_eq_true rfl) hg ?_
    refine go_steps q_B_axle kc_B_axle 1 rfl ?_
    refine go_if (fun hb => ?_) (fun hb => ?_)
    · have hb : r2 = 0 := hb
      replace hv := hv.1 hb
      refine go_steps q_B_axle kc_B_axle 1 rfl ?_
      obtain ⟨rfl, rfl⟩ := hv
      exact go_retI q_B_axle kc_B_axle rfl rfl rfl
    · have hb : ¬ (r2 = 0) := hb
      replace hv := hv.2 hb
      refine go_steps q_B_axle kc_B_axle 3 rfl ?_
      obtain ⟨r3, σ3, hg, hv⟩ := hv
      refine go_callS q_B_axle kc_B_axle rfl q_B_within am_k9 rfl rfl rfl (Nat.le_of_ble_eq_true rfl) (Nat.le_of_ble_eq_true rfl) hg ?_
      refine go_steps q_B_axle kc_B_axle 1 rfl ?_
      refine go_if (fun hb => ?_) (fun hb => ?_)
      · have hb : r3 = 0 := hb
        replace hv := hv.1 hb
        refine go_steps q_B_axle kc_B_axle 1 rfl ?_
        obtain ⟨rfl, rfl⟩ := hv
        exact go_retI q_B_axle kc_B_axle rfl rfl rfl
      · have hb : ¬ (r3 = 0) := hb
        replace hv := hv.2 hb
        refine go_steps q_B_axle kc_B_axle 5 rfl ?_
        obtain ⟨σ4, hg, hv⟩ := hv
        refine go_callV q_B_axle kc_B_axle rfl q_Balance_sum am_k61 ⟨rfl, rfl, by decide⟩ rfl rfl (Nat.le_of_ble_eq_true rfl) (Nat.le_of_ble_eq_true rfl) rfl rfl hg ?_
        refine go_steps q_B_axle kc_B_axle 2 rfl ?_
        refine go_if (fun hb => ?_) (fun hb => ?_)
        · have hb : p1 = 0 := hb
          replace hv := hv.1 hb
          refine go_steps q_B_axle kc_B_axle 2 rfl ?_
          obtain ⟨r5, σ5, hg, hv⟩ := hv
          refine go_callV q_B_axle kc_B_axle rfl q_Balance_front am_k62 ⟨rfl, rfl, by decide⟩ rfl rfl (Nat.le_of_ble_eq_true rfl) (Nat.le_of_ble_eq_true rfl) rfl rfl hg ?_
          refine go_steps q_B_axle kc_B_axle 7 rfl ?_
          obtain ⟨r6, σ6, hg, hv⟩ := hv
          refine go_callS q_B_axle kc_B_axle rfl q_B_commonDivisor am_k65 rfl rfl rfl (Nat.le_of_ble_eq_true rfl) (Nat.le_of_ble_eq_true rfl) hg ?_
          refine go_steps q_B_axle kc_B_axle 4 rfl ?_
          refine go_if (fun hb => ?_) (fun hb => ?_)
          · have hb : 1 ≤ r6 := hb
            replace hv := hv.1 hb
            refine go_steps q_B_axle kc_B_axle 2 rfl ?_
            refine go_if (fun hb => ?_) (fun hb => ?_)
            · have hb : p3 = 0 := hb
              replace hv := hv.1 hb
              refine go_steps q_B_axle kc_B_axle 2 rfl ?_
              obtain ⟨hc, hv⟩ := hv
              refine go_idiv q_B_axle kc_B_axle rfl hc ?_
              refine go_steps q_B_axle kc_B_axle 1 rfl ?_
              obtain ⟨rfl, rfl⟩ := hv
              exact go_retI q_B_axle kc_B_axle rfl rfl rfl
            · have hb : ¬ (p3 = 0) := hb
              replace hv := hv.2 hb
              refine go_steps q_B_axle kc_B_axle 4 rfl ?_
              obtain ⟨hc, hv⟩ := hv
              refine go_idiv q_B_axle kc_B_axle rfl hc ?_
              obtain ⟨rfl, rfl⟩ := hv
              exact go_retI q_B_axle kc_B_axle rfl rfl rfl
          · have hb : ¬ (1 ≤ r6) := hb
            replace hv := hv.2 hb
            refine go_steps q_B_axle kc_B_axle 1 rfl ?_
            obtain ⟨rfl, rfl⟩ := hv
            exact go_retI q_B_axle kc_B_axle rfl rfl rfl
        · have hb : ¬ (p1 = 0) := hb
          replace hv := hv.2 hb
          refine go_steps q_B_axle kc_B_axle 2 rfl ?_
          obtain ⟨r7, σ7, hg, hv⟩ := hv
          refine go_callV q_B_axle kc_B_axle rfl q_Balance_rear am_k63 ⟨rfl, rfl, by decide⟩ rfl rfl (Nat.le_of_ble_eq_true rfl) (Nat.le_of_ble_eq_true rfl) rfl rfl hg ?_
          refine go_steps q_B_axle kc_B_axle 6 rfl ?_
          obtain ⟨r8, σ8, hg, hv⟩ := hv
          refine go_callS q_B_axle kc_B_axle rfl q_B_commonDivisor am_k65 rfl rfl rfl (Nat.le_of_ble_eq_true rfl) (Nat.le_of_ble_eq_true rfl) hg ?_
          refine go_steps q_B_axle kc_B_axle 4 rfl ?_
          refine go_if (fun hb => ?_) (fun hb => ?_)
          · have hb : 1 ≤ r8 := hb
            replace hv := hv.1 hb
            refine go_steps q_B_axle kc_B_axle 2 rfl ?_
            refine go_if (fun hb => ?_) (fun hb => ?_)
            · have hb : p3 = 0 := hb
              replace hv := hv.1 hb
              refine go_steps q_B_axle kc_B_axle 2 rfl ?_
              obtain ⟨hc, hv⟩ := hv
              refine go_idiv q_B_axle kc_B_axle rfl hc ?_
              refine go_steps q_B_axle kc_B_axle 1 rfl ?_
              obtain ⟨rfl, rfl⟩ := hv
              exact go_retI q_B_axle kc_B_axle rfl rfl rfl
            · have hb : ¬ (p3 = 0) := hb
              replace hv := hv.2 hb
              refine go_steps q_B_axle kc_B_axle 4 rfl ?_
              obtain ⟨hc, hv⟩ := hv
              refine go_idiv q_B_axle kc_B_axle rfl hc ?_
              obtain ⟨rfl, rfl⟩ := hv
              exact go_retI q_B_axle kc_B_axle rfl rfl rfl
          · have hb : ¬ (1 ≤ r8) := hb
            replace hv := hv.2 hb
            refine go_steps q_B_axle kc_B_axle 1 rfl ?_
            obtain ⟨rfl, rfl⟩ := hv
            exact go_retI q_B_axle kc_B_axle rfl rfl rfl
set_option maxHeartbeats 4000000 in
set_option maxRecDepth 100000 in
theorem v_B_commonDivisor_0 {l : Launch} {D : va_G} {DA : Nat → ClassId} {b sz d L : Nat} {cu : Bool} {σ : Nat → Nat → Int32} {r : Option Value} {X' : am_X} (p0 : Int32) (p1 : Int32)
    (hv : am_Go l D DA b sz d M_B_commonDivisor (7, [none, none, some (.int p0), some (.int p1), some (.int 0), none], [], (am_TT cu L, am_RR cu, σ)) r X') :
    am_Go l D DA b sz d M_B_commonDivisor (0, [some (.int p0), some (.int p1), none, none, none, none], [], (am_TT cu L, am_RR cu, σ)) r X' := by
  refine go_steps q_B_commonDivisor kc_B_commonDivisor 6 rfl ?_
  refine go_le (L1 := [none, none, some (.int p0), some (.int p1), some (.int 0), none]) (by repeat (first | exact trivial | refine ⟨rfl, ?_⟩)) ?_
  exact hv
set_option maxHeartbeats 4000000 in
set_option maxRecDepth 100000 in
theorem v_B_commonDivisor_7 {l : Launch} {D : va_G} {DA : Nat → ClassId} {b sz d L : Nat} {cu : Bool} {σ : Nat → Nat → Int32} {r : Option Value} {X' : am_X} (p2 : Int32) (p3 : Int32) (p4 : Int32)
    (hv : ((64 ≤ p4) → (r = some (.int p2) ∧ X' = (am_TT cu L, am_RR cu, σ))) ∧ (¬ (64 ≤ p4) → (((p3 ≤ 0) → (r = some (.int p2) ∧ X' = (am_TT cu L, am_RR cu, σ))) ∧ (¬ (p3 ≤ 0) → ((¬ p3 = 0) ∧ (am_Go l D DA b sz d M_B_commonDivisor (7, [none, none, some (.int p3), some (.int (p2 - p2 / p3 * p3)), some (.int (p4 + 1)), none], [], (am_TT cu L, am_RR cu, σ)) r X')))))) :
    am_Go l D DA b sz d M_B_commonDivisor (7, [none, none, some (.int p2), some (.int p3), some (.int p4), none], [], (am_TT cu L, am_RR cu, σ)) r X' := by
  refine go_steps q_B_commonDivisor kc_B_commonDivisor 3 rfl ?_
  refine go_if (fun hb => ?_) (fun hb => ?_)
  · have hb : 64 ≤ p4 := hb
    replace hv := hv.1 hb
    refine go_steps q_B_commonDivisor kc_B_commonDivisor 1 rfl ?_
    obtain ⟨rfl, rfl⟩ := hv
    exact go_retI q_B_commonDivisor kc_B_commonDivisor rfl rfl rfl
  · have hb : ¬ (64 ≤ p4) := hb
    replace hv := hv.2 hb
    refine go_steps q_B_commonDivisor kc_B_commonDivisor 2 rfl ?_
    refine go_if (fun hb => ?_) (fun hb => ?_)
    · have hb : p3 ≤ 0 := hb
      replace hv := hv.1 hb
      refine go_steps q_B_commonDivisor kc_B_commonDivisor 1 rfl ?_
      obtain ⟨rfl, rfl⟩ := hv
      exact go_retI q_B_commonDivisor kc_B_commonDivisor rfl rfl rfl
    · have hb : ¬ (p3 ≤ 0) := hb
      replace hv := hv.2 hb
      refine go_steps q_B_commonDivisor kc_B_commonDivisor 2 rfl ?_
      obtain ⟨hc, hv⟩ := hv
      refine go_irem q_B_commonDivisor kc_B_commonDivisor rfl hc ?_
      refine go_steps q_B_commonDivisor kc_B_commonDivisor 7 rfl ?_
      refine go_le (L1 := [none, none, some (.int p3), some (.int (p2 - p2 / p3 * p3)), some (.int (p4 + 1)), none]) (by repeat (first | exact trivial | refine ⟨rfl, ?_⟩)) ?_
      exact hv
set_option maxHeartbeats 4000000 in
set_option maxRecDepth 100000 in
theorem v_B_over_0 {l : Launch} {D : va_G} {DA : Nat → ClassId} {b sz d L : Nat} {cu : Bool} {σ : Nat → Nat → Int32} {r : Option Value} {X' : am_X} (p1 : Int32)
    (hv : (∃ (r1 : Int32) (σ1 : Nat → Nat → Int32), am_Go l D DA b sz d M_B_within (0, [some (.int p1), some (.int 0), some (.int 6)], [], (am_TT cu L, am_RR cu, σ)) (some (.int r1)) (am_TT cu L, am_RR cu, σ1) ∧ (((r1 = 0) → (r = some (.int (-2)) ∧ X' = (am_TT cu L, am_RR cu, σ1))) ∧ (¬ (r1 = 0) → (∃ (r2 : Int32) (σ2 : Nat → Nat → Int32), am_Go l D DA b sz d M_B_overAt (0, [some (.ref 1), some (.int p1)], [], (am_TT cu L, am_RR cu, σ1)) (some (.int r2)) (am_TT cu L, am_RR cu, σ2) ∧ (r = some (.int r2) ∧ X' = (am_TT cu L, am_RR cu, σ2))))))) :
    am_Go l D DA b sz (d + 1) M_B_over (0, [some (.ref 1), some (.int p1)], [], (am_TT cu L, am_RR cu, σ)) r X' := by
  refine go_steps q_B_over kc_B_over 3 rfl ?_
  obtain ⟨r1, σ1, hg, hv⟩ := hv
  refine go_callS q_B_over kc_B_over rfl q_B_within am_k9 rfl rfl rfl (Nat.le_of_ble_eq_true rfl) (Nat.le_of_ble_eq_true rfl) hg ?_
  refine go_steps q_B_over kc_B_over 1 rfl ?_
  refine go_if (fun hb => ?_) (fun hb => ?_)
  · have hb : r1 = 0 := hb
    replace hv := hv.1 hb
    refine go_steps q_B_over kc_B_over 1 rfl ?_
    obtain ⟨rfl, rfl⟩ := hv
    exact go_retI q_B_over kc_B_over rfl rfl rfl
  · have hb : ¬ (r1 = 0) := hb
    replace hv := hv.2 hb
    refine go_steps q_B_over kc_B_over 2 rfl ?_
    obtain ⟨r2, σ2, hg, hv⟩ := hv
    refine go_callV q_B_over kc_B_over rfl q_B_overAt am_k67 ⟨rfl, rfl, by decide⟩ rfl rfl (Nat.le_of_ble_eq_true rfl) (Nat.le_of_ble_eq_true rfl) rfl rfl hg ?_
    obtain ⟨rfl, rfl⟩ := hv
    exact go_retI q_B_over kc_B_over rfl rfl rfl
set_option maxHeartbeats 4000000 in
set_option maxRecDepth 100000 in
theorem v_B_overAt_0 {l : Launch} {D : va_G} {DA : Nat → ClassId} {b sz d L : Nat} {cu : Bool} {σ : Nat → Nat → Int32} {r : Option Value} {X' : am_X} (p1 : Int32)
    (hv : (∃ (σ1 : Nat → Nat → Int32), am_Go l D DA b sz d M_Balance_sum (0, [some (.ref 42), some (.ref 2), some (.int p1), none, none, none], [], (am_TT cu L, am_RR cu, σ)) none (am_TT cu L, am_RR cu, σ1) ∧ ((∃ (r2 : Int32) (σ2 : Nat → Nat → Int32), am_Go l D DA b sz d M_Balance_overBits (0, [some (.ref 42), some (.ref 3), none, none], [], (am_TT cu L, am_RR cu, σ1)) (some (.int r2)) (am_TT cu L, am_RR cu, σ2) ∧ (r = some (.int r2) ∧ X' = (am_TT cu L, am_RR cu, σ2)))))) :
    am_Go l D DA b sz (d + 1) M_B_overAt (0, [some (.ref 1), some (.int p1)], [], (am_TT cu L, am_RR cu, σ)) r X' := by
  refine go_steps q_B_overAt kc_B_overAt 5 rfl ?_
  obtain ⟨σ1, hg, hv⟩ := hv
  refine go_callV q_B_overAt kc_B_overAt rfl q_Balance_sum am_k61 ⟨rfl, rfl, by decide⟩ rfl rfl (Nat.le_of_ble_eq_true rfl) (Nat.le_of_ble_eq_true rfl) rfl rfl hg ?_
  refine go_steps q_B_overAt kc_B_overAt 5 rfl ?_
  obtain ⟨r2, σ2, hg, hv⟩ := hv
  refine go_callV q_B_overAt kc_B_overAt rfl q_Balance_overBits am_k68 ⟨rfl, rfl, by decide⟩ rfl rfl (Nat.le_of_ble_eq_true rfl) (Nat.le_of_ble_eq_true rfl) rfl rfl hg ?_
  obtain ⟨rfl, rfl⟩ := hv
  exact go_retI q_B_overAt kc_B_overAt rfl rfl rfl
set_option maxHeartbeats 4000000 in
set_option maxRecDepth 100000 in
theorem v_B_fit_0 {l : Launch} {D : va_G} {DA : Nat → ClassId} {b sz d L : Nat} {cu : Bool} {σ : Nat → Nat → Int32} {r : Option Value} {X' : am_X}
    (hv : am_Go l D DA b sz (d + 1) M_B_fit (2, [some (.ref 1), some (.int 0)], [], (am_TT cu L, am_RR cu, σ)) r X') :
    am_Go l D DA b sz (d + 1) M_B_fit (0, [some (.ref 1), none], [], (am_TT cu L, am_RR cu, σ)) r X' := by
  refine go_steps q_B_fit kc_B_fit 2 rfl ?_
  refine go_le (L1 := [some (.ref 1), some (.int 0)]) (by repeat (first | exact trivial | refine ⟨rfl, ?_⟩)) ?_
  exact hv
set_option maxHeartbeats 4000000 in
set_option maxRecDepth 100000 in
theorem v_B_fit_2 {l : Launch} {D : va_G} {DA : Nat → ClassId} {b sz d L : Nat} {cu : Bool} {σ : Nat → Nat → Int32} {r : Option Value} {X' : am_X} (p1 : Int32)
    (hv : ((6 < p1) → (r = some (.int (-1)) ∧ X' = (am_TT cu L, am_RR cu, σ))) ∧ (¬ (6 < p1) → (∃ (r1 : Int32) (σ1 : Nat → Nat → Int32), am_Go l D DA b sz d M_B_overAt (0, [some (.ref 1), some (.int p1)], [], (am_TT cu L, am_RR cu, σ)) (some (.int r1)) (am_TT cu L, am_RR cu, σ1) ∧ (((r1 = 0) → (am_Go l D DA b sz (d + 1) M_B_fit (2, [some (.ref 1), some (.int (p1 + 1))], [], (am_TT cu L, am_RR cu, σ1)) r X')) ∧ (¬ (r1 = 0) → (r = some (.int p1) ∧ X' = (am_TT cu L, am_RR cu, σ1))))))) :
    am_Go l D DA b sz (d + 1) M_B_fit (2, [some (.ref 1), some (.int p1)], [], (am_TT cu L, am_RR cu, σ)) r X' := by
  refine go_steps q_B_fit kc_B_fit 3 rfl ?_
  refine go_if (fun hb => ?_) (fun hb => ?_)
  · have hb : 6 < p1 := hb
    replace hv := hv.1 hb
    refine go_steps q_B_fit kc_B_fit 1 rfl ?_
    obtain ⟨rfl, rfl⟩ := hv
    exact go_retI q_B_fit kc_B_fit rfl rfl rfl
  · have hb : ¬ (6 < p1) := hb
    replace hv := hv.2 hb
    refine go_steps q_B_fit kc_B_fit 2 rfl ?_
    obtain ⟨r1, σ1, hg, hv⟩ := hv
    refine go_callV q_B_fit kc_B_fit rfl q_B_overAt am_k67 ⟨rfl, rfl, by decide⟩ rfl rfl (Nat.le_of_ble_eq_true rfl) (Nat.le_of_ble_eq_true rfl) rfl rfl hg ?_
    refine go_steps q_B_fit kc_B_fit 1 rfl ?_
    refine go_if (fun hb => ?_) (fun hb => ?_)
    · have hb : r1 = 0 := hb
      replace hv := hv.1 hb
      refine go_steps q_B_fit kc_B_fit 2 rfl ?_
      refine go_le (L1 := [some (.ref 1), some (.int (p1 + 1))]) (by repeat (first | exact trivial | refine ⟨rfl, ?_⟩)) ?_
      exact hv
    · have hb : ¬ (r1 = 0) := hb
      replace hv := hv.2 hb
      refine go_steps q_B_fit kc_B_fit 1 rfl ?_
      obtain ⟨rfl, rfl⟩ := hv
      exact go_retI q_B_fit kc_B_fit rfl rfl rfl
set_option maxHeartbeats 4000000 in
set_option maxRecDepth 100000 in
theorem v_B_trucks_0 {l : Launch} {D : va_G} {DA : Nat → ClassId} {b sz d L : Nat} {cu : Bool} {σ : Nat → Nat → Int32} {r : Option Value} {X' : am_X} (p1 : Int32)
    (hv : (∃ (r1 : Int32) (σ1 : Nat → Nat → Int32), am_Go l D DA b sz d M_B_isSet (0, [some (.ref 1), some (.int p1)], [], (am_TT cu L, am_RR cu, σ)) (some (.int r1)) (am_TT cu L, am_RR cu, σ1) ∧ (((r1 = 0) → (r = some (.int (-2)) ∧ X' = (am_TT cu L, am_RR cu, σ1))) ∧ (¬ (r1 = 0) → (am_Go l D DA b sz (d + 1) M_B_trucks (13, [some (.ref 1), some (.int p1), some (.int 0)], [], (am_TT cu L, am_RR cu, σ1)) r X'))))) :
    am_Go l D DA b sz (d + 1) M_B_trucks (0, [some (.ref 1), some (.int p1), none], [], (am_TT cu L, am_RR cu, σ)) r X' := by
  refine go_steps q_B_trucks kc_B_trucks 2 rfl ?_
  obtain ⟨r1, σ1, hg, hv⟩ := hv
  refine go_callV q_B_trucks kc_B_trucks rfl q_B_isSet am_k48 ⟨rfl, rfl, by decide⟩ rfl rfl (Nat.le_of_ble_eq_true rfl) (Nat.le_of_ble_eq_true rfl) rfl rfl hg ?_
  refine go_steps q_B_trucks kc_B_trucks 1 rfl ?_
  refine go_if (fun hb => ?_) (fun hb => ?_)
  · have hb : r1 = 0 := hb
    replace hv := hv.1 hb
    refine go_steps q_B_trucks kc_B_trucks 1 rfl ?_
    obtain ⟨rfl, rfl⟩ := hv
    exact go_retI q_B_trucks kc_B_trucks rfl rfl rfl
  · have hb : ¬ (r1 = 0) := hb
    replace hv := hv.2 hb
    refine go_steps q_B_trucks kc_B_trucks 2 rfl ?_
    refine go_le (L1 := [some (.ref 1), some (.int p1), some (.int 0)]) (by repeat (first | exact trivial | refine ⟨rfl, ?_⟩)) ?_
    exact hv
set_option maxHeartbeats 4000000 in
set_option maxRecDepth 100000 in
theorem v_B_trucks_13 {l : Launch} {D : va_G} {DA : Nat → ClassId} {b sz d L : Nat} {cu : Bool} {σ : Nat → Nat → Int32} {r : Option Value} {X' : am_X} (p1 : Int32) (p2 : Int32)
    (hv : (((σ 2 2) ≤ p2) → (∃ (σ1 : Nat → Nat → Int32), am_Go l D DA b sz d M_Bounds_judge (0, [some (.ref 43), some (.ref 2), some (.int p1), none, none, none], [], (am_TT cu L, am_RR cu, σ)) none (am_TT cu L, am_RR cu, σ1) ∧ (r = some (.int (if (σ1 43 1) < (σ1 43 2) then (σ1 43 2) else (σ1 43 1) : Int32)) ∧ X' = (am_TT cu L, am_RR cu, σ1)))) ∧ (¬ ((σ 2 2) ≤ p2) → (((((p1 >>> (p2 &&& 31 : Int32) : Int32) &&& 1) = (0 : Int32)) → (am_Go l D DA b sz (d + 1) M_B_trucks (13, [some (.ref 1), some (.int p1), some (.int (p2 + 1))], [], (am_TT cu L, am_RR cu, σ)) r X')) ∧ (¬ (((p1 >>> (p2 &&& 31 : Int32) : Int32) &&& 1) = (0 : Int32)) → (∃ (r2 : Int32) (σ2 : Nat → Nat → Int32), am_Go l D DA b sz d M_Hold_fitsEmpty (0, [some (.ref 2), some (.int p2), some (.int 0), none, none, none], [], (am_TT cu L, am_RR cu, σ)) (some (.int r2)) (am_TT cu L, am_RR cu, σ2) ∧ (((r2 = 0) → (∃ (r3 : Int32) (σ3 : Nat → Nat → Int32), am_Go l D DA b sz d M_Hold_fitsEmpty (0, [some (.ref 2), some (.int p2), some (.int 1), none, none, none], [], (am_TT cu L, am_RR cu, σ2)) (some (.int r3)) (am_TT cu L, am_RR cu, σ3) ∧ (((r3 = 0) → (r = some (.int (-4)) ∧ X' = (am_TT cu L, am_RR cu, σ3))) ∧ (¬ (r3 = 0) → (am_Go l D DA b sz (d + 1) M_B_trucks (13, [some (.ref 1), some (.int p1), some (.int (p2 + 1))], [], (am_TT cu L, am_RR cu, σ3)) r X'))))) ∧ (¬ (r2 = 0) → (am_Go l D DA b sz (d + 1) M_B_trucks (13, [some (.ref 1), some (.int p1), some (.int (p2 + 1))], [], (am_TT cu L, am_RR cu, σ2)) r X')))))))) :
    am_Go l D DA b sz (d + 1) M_B_trucks (13, [some (.ref 1), some (.int p1), some (.int p2)], [], (am_TT cu L, am_RR cu, σ)) r X' := by
  refine go_steps q_B_trucks kc_B_trucks 5 rfl ?_
  refine go_if (fun hb => ?_) (fun hb => ?_)
  · have hb : (σ 2 2) ≤ p2 := hb
    replace hv := hv.1 hb
    refine go_steps q_B_trucks kc_B_trucks 5 rfl ?_
    obtain ⟨σ1, hg, hv⟩ := hv
    refine go_callV q_B_trucks kc_B_trucks rfl q_Bounds_judge am_k87 ⟨rfl, rfl, by decide⟩ rfl rfl (Nat.le_of_ble_eq_true rfl) (Nat.le_of_ble_eq_true rfl) rfl rfl hg ?_
    refine go_steps q_B_trucks kc_B_trucks 7 rfl ?_
    obtain ⟨rfl, rfl⟩ := hv
    exact go_retI q_B_trucks kc_B_trucks rfl rfl rfl
  · have hb : ¬ ((σ 2 2) ≤ p2) := hb
    replace hv := hv.2 hb
    refine go_steps q_B_trucks kc_B_trucks 6 rfl ?_
    refine go_if (fun hb => ?_) (fun hb => ?_)
    · have hb : ((p1 >>> (p2 &&& 31 : Int32) : Int32) &&& 1) = (0 : Int32) := hb
      replace hv := hv.1 hb
      refine go_steps q_B_trucks kc_B_trucks 2 rfl ?_
      refine go_le (L1 := [some (.ref 1), some (.int p1), some (.int (p2 + 1))]) (by repeat (first | exact trivial | refine ⟨rfl, ?_⟩)) ?_
      exact hv
    · have hb : ¬ (((p1 >>> (p2 &&& 31 : Int32) : Int32) &&& 1) = (0 : Int32)) := hb
      replace hv := hv.2 hb
      refine go_steps q_B_trucks kc_B_trucks 4 rfl ?_
      obtain ⟨r2, σ2, hg, hv⟩ := hv
      refine go_callV q_B_trucks kc_B_trucks rfl q_Hold_fitsEmpty am_k86 ⟨rfl, rfl, by decide⟩ rfl rfl (Nat.le_of_ble_eq_true rfl) (Nat.le_of_ble_eq_true rfl) rfl rfl hg ?_
      refine go_steps q_B_trucks kc_B_trucks 1 rfl ?_
      refine go_if (fun hb => ?_) (fun hb => ?_)
      · have hb : r2 = 0 := hb
        replace hv := hv.1 hb
        refine go_steps q_B_trucks kc_B_trucks 4 rfl ?_
        obtain ⟨r3, σ3, hg, hv⟩ := hv
        refine go_callV q_B_trucks kc_B_trucks rfl q_Hold_fitsEmpty am_k86 ⟨rfl, rfl, by decide⟩ rfl rfl (Nat.le_of_ble_eq_true rfl) (Nat.le_of_ble_eq_true rfl) rfl rfl hg ?_
        refine go_steps q_B_trucks kc_B_trucks 1 rfl ?_
        refine go_if (fun hb => ?_) (fun hb => ?_)
        · have hb : r3 = 0 := hb
          replace hv := hv.1 hb
          refine go_steps q_B_trucks kc_B_trucks 1 rfl ?_
          obtain ⟨rfl, rfl⟩ := hv
          exact go_retI q_B_trucks kc_B_trucks rfl rfl rfl
        · have hb : ¬ (r3 = 0) := hb
          replace hv := hv.2 hb
          refine go_steps q_B_trucks kc_B_trucks 2 rfl ?_
          refine go_le (L1 := [some (.ref 1), some (.int p1), some (.int (p2 + 1))]) (by repeat (first | exact trivial | refine ⟨rfl, ?_⟩)) ?_
          exact hv
      · have hb : ¬ (r2 = 0) := hb
        replace hv := hv.2 hb
        refine go_steps q_B_trucks kc_B_trucks 2 rfl ?_
        refine go_le (L1 := [some (.ref 1), some (.int p1), some (.int (p2 + 1))]) (by repeat (first | exact trivial | refine ⟨rfl, ?_⟩)) ?_
        exact hv
set_option maxHeartbeats 4000000 in
set_option maxRecDepth 100000 in
theorem v_B_shown_0 {l : Launch} {D : va_G} {DA : Nat → ClassId} {b sz d L : Nat} {cu : Bool} {σ : Nat → Nat → Int32} {r : Option Value} {X' : am_X} (p1 : Int32)
    (hv : (((σ 43 0) = 0) → (r = some (.int (-1)) ∧ X' = (am_TT cu L, am_RR cu, σ))) ∧ (¬ ((σ 43 0) = 0) → ((p1 = 0 → (r = some (.int (σ 43 1)) ∧ X' = (am_TT cu L, am_RR cu, σ))) ∧ (p1 = 1 → (r = some (.int (σ 43 2)) ∧ X' = (am_TT cu L, am_RR cu, σ))) ∧ (p1 = 2 → (r = some (.int (σ 43 3)) ∧ X' = (am_TT cu L, am_RR cu, σ))) ∧ (¬ p1 = 0 → ¬ p1 = 1 → ¬ p1 = 2 → (r = some (.int (-1)) ∧ X' = (am_TT cu L, am_RR cu, σ)))))) :
    am_Go l D DA b sz d M_B_shown (0, [some (.ref 1), some (.int p1)], [], (am_TT cu L, am_RR cu, σ)) r X' := by
  refine go_steps q_B_shown kc_B_shown 4 rfl ?_
  refine go_if (fun hb => ?_) (fun hb => ?_)
  · have hb : (σ 43 0) = 0 := hb
    replace hv := hv.1 hb
    refine go_steps q_B_shown kc_B_shown 1 rfl ?_
    obtain ⟨rfl, rfl⟩ := hv
    exact go_retI q_B_shown kc_B_shown rfl rfl rfl
  · have hb : ¬ ((σ 43 0) = 0) := hb
    replace hv := hv.2 hb
    refine go_steps q_B_shown kc_B_shown 1 rfl ?_
    by_cases hs0 : p1 = 0
    · replace hv := hv.1 hs0
      refine go_sw q_B_shown kc_B_shown rfl (g := 40) (by rw [hs0]; rfl) ?_
      refine go_steps q_B_shown kc_B_shown 3 rfl ?_
      obtain ⟨rfl, rfl⟩ := hv
      exact go_retI q_B_shown kc_B_shown rfl rfl rfl
    by_cases hs1 : p1 = 1
    · replace hv := hv.2.1 hs1
      refine go_sw q_B_shown kc_B_shown rfl (g := 48) (by rw [hs1]; rfl) ?_
      refine go_steps q_B_shown kc_B_shown 3 rfl ?_
      obtain ⟨rfl, rfl⟩ := hv
      exact go_retI q_B_shown kc_B_shown rfl rfl rfl
    by_cases hs2 : p1 = 2
    · replace hv := hv.2.2.1 hs2
      refine go_sw q_B_shown kc_B_shown rfl (g := 56) (by rw [hs2]; rfl) ?_
      refine go_steps q_B_shown kc_B_shown 3 rfl ?_
      obtain ⟨rfl, rfl⟩ := hv
      exact go_retI q_B_shown kc_B_shown rfl rfl rfl
    replace hv := hv.2.2.2 hs0 hs1 hs2
    refine go_sw q_B_shown kc_B_shown rfl (g := 64) (if_pos (am_sw_out (m := 2) (by decide) (fun j hj => match j, hj with | 0, _ => hs0 | 1, _ => hs1 | 2, _ => hs2 | n + 3, h => absurd h (by omega)))) ?_
    refine go_steps q_B_shown kc_B_shown 1 rfl ?_
    obtain ⟨rfl, rfl⟩ := hv
    exact go_retI q_B_shown kc_B_shown rfl rfl rfl
set_option maxHeartbeats 4000000 in
set_option maxRecDepth 100000 in
theorem v_B_count_0 {l : Launch} {D : va_G} {DA : Nat → ClassId} {b sz d L : Nat} {cu : Bool} {σ : Nat → Nat → Int32} {r : Option Value} {X' : am_X} (p1 : Int32)
    (hv : (p1 = 0 → (r = some (.int (σ 2 2)) ∧ X' = (am_TT cu L, am_RR cu, σ))) ∧ (p1 = 1 → ((∃ (r1 : Int32) (σ1 : Nat → Nat → Int32), am_Go l D DA b sz d M_Integer_bitCount (0, [some (.int (σ 2 3))], [], (am_TT cu L, am_RR cu, σ)) (some (.int r1)) (am_TT cu L, am_RR cu, σ1) ∧ (r = some (.int r1) ∧ X' = (am_TT cu L, am_RR cu, σ1))))) ∧ (p1 = 2 → ((∃ (r2 : Int32) (σ2 : Nat → Nat → Int32), am_Go l D DA b sz d M_Hold_weightIn (0, [some (.ref 2), none, none], [], (am_TT cu L, am_RR cu, σ)) (some (.int r2)) (am_TT cu L, am_RR cu, σ2) ∧ (r = some (.int r2) ∧ X' = (am_TT cu L, am_RR cu, σ2))))) ∧ (p1 = 3 → ((∃ (r3 : Int32) (σ3 : Nat → Nat → Int32), am_Go l D DA b sz d M_Hold_reach (0, [some (.ref 2), none, none], [], (am_TT cu L, am_RR cu, σ)) (some (.int r3)) (am_TT cu L, am_RR cu, σ3) ∧ (r = some (.int r3) ∧ X' = (am_TT cu L, am_RR cu, σ3))))) ∧ (p1 = 4 → ((∃ (r4 : Int32) (σ4 : Nat → Nat → Int32), am_Go l D DA b sz d M_Hold_cellsFilled (0, [some (.ref 2), none, none], [], (am_TT cu L, am_RR cu, σ)) (some (.int r4)) (am_TT cu L, am_RR cu, σ4) ∧ (r = some (.int r4) ∧ X' = (am_TT cu L, am_RR cu, σ4))))) ∧ (p1 = 5 → (r = some (.int (σ 3 0)) ∧ X' = (am_TT cu L, am_RR cu, σ))) ∧ (p1 = 6 → (r = some (.int (σ 3 1)) ∧ X' = (am_TT cu L, am_RR cu, σ))) ∧ (p1 = 7 → (r = some (.int (σ 3 2)) ∧ X' = (am_TT cu L, am_RR cu, σ))) ∧ (p1 = 8 → (r = some (.int (σ 3 3)) ∧ X' = (am_TT cu L, am_RR cu, σ))) ∧ (p1 = 9 → (r = some (.int (σ 3 4)) ∧ X' = (am_TT cu L, am_RR cu, σ))) ∧ (p1 = 10 → (r = some (.int (σ 3 5)) ∧ X' = (am_TT cu L, am_RR cu, σ))) ∧ (p1 = 11 → (r = some (.int (σ 3 6)) ∧ X' = (am_TT cu L, am_RR cu, σ))) ∧ (p1 = 12 → (r = some (.int (σ 3 7)) ∧ X' = (am_TT cu L, am_RR cu, σ))) ∧ (p1 = 13 → (r = some (.int (σ 3 8)) ∧ X' = (am_TT cu L, am_RR cu, σ))) ∧ (¬ p1 = 0 → ¬ p1 = 1 → ¬ p1 = 2 → ¬ p1 = 3 → ¬ p1 = 4 → ¬ p1 = 5 → ¬ p1 = 6 → ¬ p1 = 7 → ¬ p1 = 8 → ¬ p1 = 9 → ¬ p1 = 10 → ¬ p1 = 11 → ¬ p1 = 12 → ¬ p1 = 13 → (r = some (.int (-1)) ∧ X' = (am_TT cu L, am_RR cu, σ)))) :
    am_Go l D DA b sz (d + 1) M_B_count (0, [some (.ref 1), some (.int p1), none], [], (am_TT cu L, am_RR cu, σ)) r X' := by
  refine go_steps q_B_count kc_B_count 5 rfl ?_
  by_cases hs0 : p1 = 0
  · replace hv := hv.1 hs0
    refine go_sw q_B_count kc_B_count rfl (g := 80) (by rw [hs0]; rfl) ?_
    refine go_steps q_B_count kc_B_count 3 rfl ?_
    obtain ⟨rfl, rfl⟩ := hv
    exact go_retI q_B_count kc_B_count rfl rfl rfl
  by_cases hs1 : p1 = 1
  · replace hv := hv.2.1 hs1
    refine go_sw q_B_count kc_B_count rfl (g := 88) (by rw [hs1]; rfl) ?_
    refine go_steps q_B_count kc_B_count 3 rfl ?_
    obtain ⟨r1, σ1, hg, hv⟩ := hv
    refine go_callS q_B_count kc_B_count rfl q_Integer_bitCount am_k46 rfl rfl rfl (Nat.le_of_ble_eq_true rfl) (Nat.le_of_ble_eq_true rfl) hg ?_
    obtain ⟨rfl, rfl⟩ := hv
    exact go_retI q_B_count kc_B_count rfl rfl rfl
  by_cases hs2 : p1 = 2
  · replace hv := hv.2.2.1 hs2
    refine go_sw q_B_count kc_B_count rfl (g := 99) (by rw [hs2]; rfl) ?_
    refine go_steps q_B_count kc_B_count 2 rfl ?_
    obtain ⟨r2, σ2, hg, hv⟩ := hv
    refine go_callV q_B_count kc_B_count rfl q_Hold_weightIn am_k96 ⟨rfl, rfl, by decide⟩ rfl rfl (Nat.le_of_ble_eq_true rfl) (Nat.le_of_ble_eq_true rfl) rfl rfl hg ?_
    obtain ⟨rfl, rfl⟩ := hv
    exact go_retI q_B_count kc_B_count rfl rfl rfl
  by_cases hs3 : p1 = 3
  · replace hv := hv.2.2.2.1 hs3
    refine go_sw q_B_count kc_B_count rfl (g := 107) (by rw [hs3]; rfl) ?_
    refine go_steps q_B_count kc_B_count 2 rfl ?_
    obtain ⟨r3, σ3, hg, hv⟩ := hv
    refine go_callV q_B_count kc_B_count rfl q_Hold_reach am_k51 ⟨rfl, rfl, by decide⟩ rfl rfl (Nat.le_of_ble_eq_true rfl) (Nat.le_of_ble_eq_true rfl) rfl rfl hg ?_
    obtain ⟨rfl, rfl⟩ := hv
    exact go_retI q_B_count kc_B_count rfl rfl rfl
  by_cases hs4 : p1 = 4
  · replace hv := hv.2.2.2.2.1 hs4
    refine go_sw q_B_count kc_B_count rfl (g := 115) (by rw [hs4]; rfl) ?_
    refine go_steps q_B_count kc_B_count 2 rfl ?_
    obtain ⟨r4, σ4, hg, hv⟩ := hv
    refine go_callV q_B_count kc_B_count rfl q_Hold_cellsFilled am_k97 ⟨rfl, rfl, by decide⟩ rfl rfl (Nat.le_of_ble_eq_true rfl) (Nat.le_of_ble_eq_true rfl) rfl rfl hg ?_
    obtain ⟨rfl, rfl⟩ := hv
    exact go_retI q_B_count kc_B_count rfl rfl rfl
  by_cases hs5 : p1 = 5
  · replace hv := hv.2.2.2.2.2.1 hs5
    refine go_sw q_B_count kc_B_count rfl (g := 123) (by rw [hs5]; rfl) ?_
    refine go_steps q_B_count kc_B_count 2 rfl ?_
    obtain ⟨rfl, rfl⟩ := hv
    exact go_retI q_B_count kc_B_count rfl rfl rfl
  by_cases hs6 : p1 = 6
  · replace hv := hv.2.2.2.2.2.2.1 hs6
    refine go_sw q_B_count kc_B_count rfl (g := 128) (by rw [hs6]; rfl) ?_
    refine go_steps q_B_count kc_B_count 2 rfl ?_
    obtain ⟨rfl, rfl⟩ := hv
    exact go_retI q_B_count kc_B_count rfl rfl rfl
  by_cases hs7 : p1 = 7
  · replace hv := hv.2.2.2.2.2.2.2.1 hs7
    refine go_sw q_B_count kc_B_count rfl (g := 133) (by rw [hs7]; rfl) ?_
    refine go_steps q_B_count kc_B_count 2 rfl ?_
    obtain ⟨rfl, rfl⟩ := hv
    exact go_retI q_B_count kc_B_count rfl rfl rfl
  by_cases hs8 : p1 = 8
  · replace hv := hv.2.2.2.2.2.2.2.2.1 hs8
    refine go_sw q_B_count kc_B_count rfl (g := 138) (by rw [hs8]; rfl) ?_
    refine go_steps q_B_count kc_B_count 2 rfl ?_
    obtain ⟨rfl, rfl⟩ := hv
    exact go_retI q_B_count kc_B_count rfl rfl rfl
  by_cases hs9 : p1 = 9
  · replace hv := hv.2.2.2.2.2.2.2.2.2.1 hs9
    refine go_sw q_B_count kc_B_count rfl (g := 143) (by rw [hs9]; rfl) ?_
    refine go_steps q_B_count kc_B_count 2 rfl ?_
    obtain ⟨rfl, rfl⟩ := hv
    exact go_retI q_B_count kc_B_count rfl rfl rfl
  by_cases hs10 : p1 = 10
  · replace hv := hv.2.2.2.2.2.2.2.2.2.2.1 hs10
    refine go_sw q_B_count kc_B_count rfl (g := 148) (by rw [hs10]; rfl) ?_
    refine go_steps q_B_count kc_B_count 2 rfl ?_
    obtain ⟨rfl, rfl⟩ := hv
    exact go_retI q_B_count kc_B_count rfl rfl rfl
  by_cases hs11 : p1 = 11
  · replace hv := hv.2.2.2.2.2.2.2.2.2.2.2.1 hs11
    refine go_sw q_B_count kc_B_count rfl (g := 153) (by rw [hs11]; rfl) ?_
    refine go_steps q_B_count kc_B_count 2 rfl ?_
    obtain ⟨rfl, rfl⟩ := hv
    exact go_retI q_B_count kc_B_count rfl rfl rfl
  by_cases hs12 : p1 = 12
  · replace hv := hv.2.2.2.2.2.2.2.2.2.2.2.2.1 hs12
    refine go_sw q_B_count kc_B_count rfl (g := 158) (by rw [hs12]; rfl) ?_
    refine go_steps q_B_count kc_B_count 2 rfl ?_
    obtain ⟨rfl, rfl⟩ := hv
    exact go_retI q_B_count kc_B_count rfl rfl rfl
  by_cases hs13 : p1 = 13
  · replace hv := hv.2.2.2.2.2.2.2.2.2.2.2.2.2.1 hs13
    refine go_sw q_B_count kc_B_count rfl (g := 163) (by rw [hs13]; rfl) ?_
    refine go_steps q_B_count kc_B_count 2 rfl ?_
    obtain ⟨rfl, rfl⟩ := hv
    exact go_retI q_B_count kc_B_count rfl rfl rfl
  replace hv := hv.2.2.2.2.2.2.2.2.2.2.2.2.2.2 hs0 hs1 hs2 hs3 hs4 hs5 hs6 hs7 hs8 hs9 hs10 hs11 hs12 hs13
  refine go_sw q_B_count kc_B_count rfl (g := 168) (if_pos (am_sw_out (m := 13) (by decide) (fun j hj => match j, hj with | 0, _ => hs0 | 1, _ => hs1 | 2, _ => hs2 | 3, _ => hs3 | 4, _ => hs4 | 5, _ => hs5 | 6, _ => hs6 | 7, _ => hs7 | 8, _ => hs8 | 9, _ => hs9 | 10, _ => hs10 | 11, _ => hs11 | 12, _ => hs12 | 13, _ => hs13 | n + 14, h => absurd h (by omega)))) ?_
  refine go_steps q_B_count kc_B_count 1 rfl ?_
  obtain ⟨rfl, rfl⟩ := hv
  exact go_retI q_B_count kc_B_count rfl rfl rfl
set_option maxHeartbeats 4000000 in
set_option maxRecDepth 100000 in
theorem v_Integer_bitCount_0 {l : Launch} {D : va_G} {DA : Nat → ClassId} {b sz d L : Nat} {cu : Bool} {σ : Nat → Nat → Int32} {r : Option Value} {X' : am_X} (p0 : Int32)
    (hv : r = some (.int ((((((((p0 - (((Int32.toUInt32 p0 >>> (Int32.toUInt32 1 &&& Int32.toUInt32 31)).toInt32) &&& 1431655765)) &&& 858993459) + (((Int32.toUInt32 (p0 - (((Int32.toUInt32 p0 >>> (Int32.toUInt32 1 &&& Int32.toUInt32 31)).toInt32) &&& 1431655765)) >>> (Int32.toUInt32 2 &&& Int32.toUInt32 31)).toInt32) &&& 858993459)) + ((Int32.toUInt32 (((p0 - (((Int32.toUInt32 p0 >>> (Int32.toUInt32 1 &&& Int32.toUInt32 31)).toInt32) &&& 1431655765)) &&& 858993459) + (((Int32.toUInt32 (p0 - (((Int32.toUInt32 p0 >>> (Int32.toUInt32 1 &&& Int32.toUInt32 31)).toInt32) &&& 1431655765)) >>> (Int32.toUInt32 2 &&& Int32.toUInt32 31)).toInt32) &&& 858993459)) >>> (Int32.toUInt32 4 &&& Int32.toUInt32 31)).toInt32)) &&& 252645135) + ((Int32.toUInt32 (((((p0 - (((Int32.toUInt32 p0 >>> (Int32.toUInt32 1 &&& Int32.toUInt32 31)).toInt32) &&& 1431655765)) &&& 858993459) + (((Int32.toUInt32 (p0 - (((Int32.toUInt32 p0 >>> (Int32.toUInt32 1 &&& Int32.toUInt32 31)).toInt32) &&& 1431655765)) >>> (Int32.toUInt32 2 &&& Int32.toUInt32 31)).toInt32) &&& 858993459)) + ((Int32.toUInt32 (((p0 - (((Int32.toUInt32 p0 >>> (Int32.toUInt32 1 &&& Int32.toUInt32 31)).toInt32) &&& 1431655765)) &&& 858993459) + (((Int32.toUInt32 (p0 - (((Int32.toUInt32 p0 >>> (Int32.toUInt32 1 &&& Int32.toUInt32 31)).toInt32) &&& 1431655765)) >>> (Int32.toUInt32 2 &&& Int32.toUInt32 31)).toInt32) &&& 858993459)) >>> (Int32.toUInt32 4 &&& Int32.toUInt32 31)).toInt32)) &&& 252645135) >>> (Int32.toUInt32 8 &&& Int32.toUInt32 31)).toInt32)) + ((Int32.toUInt32 ((((((p0 - (((Int32.toUInt32 p0 >>> (Int32.toUInt32 1 &&& Int32.toUInt32 31)).toInt32) &&& 1431655765)) &&& 858993459) + (((Int32.toUInt32 (p0 - (((Int32.toUInt32 p0 >>> (Int32.toUInt32 1 &&& Int32.toUInt32 31)).toInt32) &&& 1431655765)) >>> (Int32.toUInt32 2 &&& Int32.toUInt32 31)).toInt32) &&& 858993459)) + ((Int32.toUInt32 (((p0 - (((Int32.toUInt32 p0 >>> (Int32.toUInt32 1 &&& Int32.toUInt32 31)).toInt32) &&& 1431655765)) &&& 858993459) + (((Int32.toUInt32 (p0 - (((Int32.toUInt32 p0 >>> (Int32.toUInt32 1 &&& Int32.toUInt32 31)).toInt32) &&& 1431655765)) >>> (Int32.toUInt32 2 &&& Int32.toUInt32 31)).toInt32) &&& 858993459)) >>> (Int32.toUInt32 4 &&& Int32.toUInt32 31)).toInt32)) &&& 252645135) + ((Int32.toUInt32 (((((p0 - (((Int32.toUInt32 p0 >>> (Int32.toUInt32 1 &&& Int32.toUInt32 31)).toInt32) &&& 1431655765)) &&& 858993459) + (((Int32.toUInt32 (p0 - (((Int32.toUInt32 p0 >>> (Int32.toUInt32 1 &&& Int32.toUInt32 31)).toInt32) &&& 1431655765)) >>> (Int32.toUInt32 2 &&& Int32.toUInt32 31)).toInt32) &&& 858993459)) + ((Int32.toUInt32 (((p0 - (((Int32.toUInt32 p0 >>> (Int32.toUInt32 1 &&& Int32.toUInt32 31)).toInt32) &&& 1431655765)) &&& 858993459) + (((Int32.toUInt32 (p0 - (((Int32.toUInt32 p0 >>> (Int32.toUInt32 1 &&& Int32.toUInt32 31)).toInt32) &&& 1431655765)) >>> (Int32.toUInt32 2 &&& Int32.toUInt32 31)).toInt32) &&& 858993459)) >>> (Int32.toUInt32 4 &&& Int32.toUInt32 31)).toInt32)) &&& 252645135) >>> (Int32.toUInt32 8 &&& Int32.toUInt32 31)).toInt32)) >>> (Int32.toUInt32 16 &&& Int32.toUInt32 31)).toInt32)) &&& 63)) ∧ X' = (am_TT cu L, am_RR cu, σ)) :
    am_Go l D DA b sz d M_Integer_bitCount (0, [some (.int p0)], [], (am_TT cu L, am_RR cu, σ)) r X' := by
  refine go_steps q_Integer_bitCount kc_Integer_bitCount 41 rfl ?_
  obtain ⟨rfl, rfl⟩ := hv
  exact go_retI q_Integer_bitCount kc_Integer_bitCount rfl rfl rfl
