/-! what must hold at each cut point of a method, so that it comes to its return (written by tools/mkvc.py) -/
set_option maxHeartbeats 4000000 in
set_option maxRecDepth 100000 in
theorem v_R_box_0 {l : Launch} {D : va_G} {DA : Nat → ClassId} {b sz d L : Nat} {cu : Bool} {σ : Nat → Nat → Int32} {r : Option Value} {X' : am_X} (p1 : Int32) (p2 : Int32) (p3 : Int32) (p4 : Int32) (p5 : Int32) (p6 : Int32) (p7 : Int32) (p8 : Int32)
    (hv : (∃ (r1 : Int32) (σ1 : Nat → Nat → Int32), am_Go l D DA b sz d M_R_in (0, [some (.int p1), some (.int 1), some (.int 12)], [], (am_TT cu L, am_RR cu, σ)) (some (.int r1)) (am_TT cu L, am_RR cu, σ1) ∧ (((r1 = 0) → (r = some (.int (-2)) ∧ X' = (am_TT cu L, am_RR cu, σ1))) ∧ (¬ (r1 = 0) → (∃ (r2 : Int32) (σ2 : Nat → Nat → Int32), am_Go l D DA b sz d M_R_in (0, [some (.int p2), some (.int 1), some (.int 12)], [], (am_TT cu L, am_RR cu, σ1)) (some (.int r2)) (am_TT cu L, am_RR cu, σ2) ∧ (((r2 = 0) → (r = some (.int (-2)) ∧ X' = (am_TT cu L, am_RR cu, σ2))) ∧ (¬ (r2 = 0) → (∃ (r3 : Int32) (σ3 : Nat → Nat → Int32), am_Go l D DA b sz d M_R_in (0, [some (.int p3), some (.int 1), some (.int 12)], [], (am_TT cu L, am_RR cu, σ2)) (some (.int r3)) (am_TT cu L, am_RR cu, σ3) ∧ (((r3 = 0) → (r = some (.int (-2)) ∧ X' = (am_TT cu L, am_RR cu, σ3))) ∧ (¬ (r3 = 0) → (∃ (r4 : Int32) (σ4 : Nat → Nat → Int32), am_Go l D DA b sz d M_R_in (0, [some (.int p4), some (.int 1), some (.int 1000)], [], (am_TT cu L, am_RR cu, σ3)) (some (.int r4)) (am_TT cu L, am_RR cu, σ4) ∧ (((r4 = 0) → (r = some (.int (-2)) ∧ X' = (am_TT cu L, am_RR cu, σ4))) ∧ (¬ (r4 = 0) → (∃ (r5 : Int32) (σ5 : Nat → Nat → Int32), am_Go l D DA b sz d M_R_in (0, [some (.int p5), some (.int 0), some (.int 20000)], [], (am_TT cu L, am_RR cu, σ4)) (some (.int r5)) (am_TT cu L, am_RR cu, σ5) ∧ (((r5 = 0) → (r = some (.int (-2)) ∧ X' = (am_TT cu L, am_RR cu, σ5))) ∧ (¬ (r5 = 0) → (∃ (r6 : Int32) (σ6 : Nat → Nat → Int32), am_Go l D DA b sz d M_R_in (0, [some (.int p6), some (.int 0), some (.int 5)], [], (am_TT cu L, am_RR cu, σ5)) (some (.int r6)) (am_TT cu L, am_RR cu, σ6) ∧ (((r6 = 0) → (r = some (.int (-2)) ∧ X' = (am_TT cu L, am_RR cu, σ6))) ∧ (¬ (r6 = 0) → (∃ (r7 : Int32) (σ7 : Nat → Nat → Int32), am_Go l D DA b sz d M_R_in (0, [some (.int p8), some (.int 0), some (.int 1000)], [], (am_TT cu L, am_RR cu, σ6)) (some (.int r7)) (am_TT cu L, am_RR cu, σ7) ∧ (((r7 = 0) → (r = some (.int (-2)) ∧ X' = (am_TT cu L, am_RR cu, σ7))) ∧ (¬ (r7 = 0) → ((((σ7 47 0) = 20) → (r = some (.int (-3)) ∧ X' = (am_TT cu L, am_RR cu, σ7))) ∧ (¬ ((σ7 47 0) = 20) → ((¬ ((σ7 47 0) < 0 ∨ 20 ≤ Int32.toNatClampNeg (σ7 47 0))) ∧ ((¬ ((σ7 47 0) < 0 ∨ 20 ≤ Int32.toNatClampNeg (σ7 47 0))) ∧ ((¬ ((σ7 47 0) < 0 ∨ 20 ≤ Int32.toNatClampNeg (σ7 47 0))) ∧ ((¬ ((σ7 47 0) < 0 ∨ 20 ≤ Int32.toNatClampNeg (σ7 47 0))) ∧ ((¬ ((σ7 47 0) < 0 ∨ 20 ≤ Int32.toNatClampNeg (σ7 47 0))) ∧ ((¬ ((σ7 47 0) < 0 ∨ 20 ≤ Int32.toNatClampNeg (σ7 47 0))) ∧ ((¬ ((σ7 47 0) < 0 ∨ 20 ≤ Int32.toNatClampNeg (σ7 47 0))) ∧ ((p7 = 0 ∨ p7 = 1) ∧ ((¬ ((σ7 47 0) < 0 ∨ 20 ≤ Int32.toNatClampNeg (σ7 47 0))) ∧ (r = some (.int (((σ7 47 0) + 1) - 1)) ∧ X' = (am_TT cu L, am_RR cu, am_us (am_us (am_us (am_us (am_us (am_us (am_us (am_us (am_us (am_us σ7 48 (Int32.toNatClampNeg (σ7 47 0)) p1) 49 (Int32.toNatClampNeg (σ7 47 0)) p2) 50 (Int32.toNatClampNeg (σ7 47 0)) p3) 51 (Int32.toNatClampNeg (σ7 47 0)) p4) 52 (Int32.toNatClampNeg (σ7 47 0)) p5) 53 (Int32.toNatClampNeg (σ7 47 0)) p6) 54 (Int32.toNatClampNeg (σ7 47 0)) p7) 55 (Int32.toNatClampNeg (σ7 47 0)) p8) 47 0 ((σ7 47 0) + 1)) 47 28 (-1)))))))))))))))))))))))))))))))))))) :
    am_Go l D DA b sz (d + 1) M_R_box (0, [some (.ref 47), some (.int p1), some (.int p2), some (.int p3), some (.int p4), some (.int p5), some (.int p6), some (.int p7), some (.int p8)], [], (am_TT cu L, am_RR cu, σ)) r X' := by
  refine go_steps q_R_box kc_R_box 3 rfl ?_
  obtain ⟨r1, σ1, hg, hv⟩ := hv
  refine go_callS q_R_box kc_R_box rfl q_R_in am_k100 rfl rfl rfl (Nat.le_of_ble_eq_true rfl) (Nat.le_of_ble_eq_true rfl) hg ?_
  refine go_steps q_R_box kc_R_box 1 rfl ?_
  refine go_if (fun hb => ?_) (fun hb => ?_)
  · have hb : r1 = 0 := hb
    replace hv := hv.1 hb
    refine go_steps q_R_box kc_R_box 1 rfl ?_
    obtain ⟨rfl, rfl⟩ := hv
    exact go_retI q_R_box kc_R_box rfl rfl rfl
  · have hb : ¬ (r1 = 0) := hb
    replace hv := hv.2 hb
    refine go_steps q_R_box kc_R_box 3 rfl ?_
    obtain ⟨r2, σ2, hg, hv⟩ := hv
    refine go_callS q_R_box kc_R_box rfl q_R_in am_k100 rfl rfl rfl (Nat.le_of_ble_eq_true rfl) (Nat.le_of_ble_eq_true rfl) hg ?_
    refine go_steps q_R_box kc_R_box 1 rfl ?_
    refine go_if (fun hb => ?_) (fun hb => ?_)
    · have hb : r2 = 0 := hb
      replace hv := hv.1 hb
      refine go_steps q_R_box kc_R_box 1 rfl ?_
      obtain ⟨rfl, rfl⟩ := hv
      exact go_retI q_R_box kc_R_box rfl rfl rfl
    · have hb : ¬ (r2 = 0) := hb
      replace hv := hv.2 hb
      refine go_steps q_R_box kc_R_box 3 rfl ?_
      obtain ⟨r3, σ3, hg, hv⟩ := hv
      refine go_callS q_R_box kc_R_box rfl q_R_in am_k100 rfl rfl rfl (Nat.le_of_ble_eq_true rfl) (Nat.le_of_ble_eq_true rfl) hg ?_
      refine go_steps q_R_box kc_R_box 1 rfl ?_
      refine go_if (fun hb => ?_) (fun hb => ?_)
      · have hb : r3 = 0 := hb
        replace hv := hv.1 hb
        refine go_steps q_R_box kc_R_box 1 rfl ?_
        obtain ⟨rfl, rfl⟩ := hv
        exact go_retI q_R_box kc_R_box rfl rfl rfl
      · have hb : ¬ (r3 = 0) := hb
        replace hv := hv.2 hb
        refine go_steps q_R_box kc_R_box 3 rfl ?_
        obtain ⟨r4, σ4, hg, hv⟩ := hv
        refine go_callS q_R_box kc_R_box rfl q_R_in am_k100 rfl rfl rfl (Nat.le_of_ble_eq_true rfl) (Nat.le_of_ble_eq_true rfl) hg ?_
        refine go_steps q_R_box kc_R_box 1 rfl ?_
        refine go_if (fun hb => ?_) (fun hb => ?_)
        · have hb : r4 = 0 := hb
          replace hv := hv.1 hb
          refine go_steps q_R_box kc_R_box 1 rfl ?_
          obtain ⟨rfl, rfl⟩ := hv
          exact go_retI q_R_box kc_R_box rfl rfl rfl
        · have hb : ¬ (r4 = 0) := hb
          replace hv := hv.2 hb
          refine go_steps q_R_box kc_R_box 3 rfl ?_
          obtain ⟨r5, σ5, hg, hv⟩ := hv
          refine go_callS q_R_box kc_R_box rfl q_R_in am_k100 rfl rfl rfl (Nat.le_of_ble_eq_true rfl) (Nat.le_of_ble_eq_true rfl) hg ?_
          refine go_steps q_R_box kc_R_box 1 rfl ?_
          refine go_if (fun hb => ?_) (fun hb => ?_)
          · have hb : r5 = 0 := hb
            replace hv := hv.1 hb
            refine go_steps q_R_box kc_R_box 1 rfl ?_
            obtain ⟨rfl, rfl⟩ := hv
            exact go_retI q_R_box kc_R_box rfl rfl rfl
          · have hb : ¬ (r5 = 0) := hb
            replace hv := hv.2 hb
            refine go_steps q_R_box kc_R_box 3 rfl ?_
            obtain ⟨r6, σ6, hg, hv⟩ := hv
            refine go_callS q_R_box kc_R_box rfl q_R_in am_k100 rfl rfl rfl (Nat.le_of_ble_eq_true rfl) (Nat.le_of_ble_eq_true rfl) hg ?_
            refine go_steps q_R_box kc_R_box 1 rfl ?_
            refine go_if (fun hb => ?_) (fun hb => ?_)
            · have hb : r6 = 0 := hb
              replace hv := hv.1 hb
              refine go_steps q_R_box kc_R_box 1 rfl ?_
              obtain ⟨rfl, rfl⟩ := hv
              exact go_retI q_R_box kc_R_box rfl rfl rfl
            · have hb : ¬ (r6 = 0) := hb
              replace hv := hv.2 hb
              refine go_steps q_R_box kc_R_box 3 rfl ?_
              obtain ⟨r7, σ7, hg, hv⟩ := hv
              refine go_callS q_R_box kc_R_box rfl q_R_in am_k100 rfl rfl rfl (Nat.le_of_ble_eq_true rfl) (Nat.le_of_ble_eq_true rfl) hg ?_
              refine go_steps q_R_box kc_R_box 1 rfl ?_
              refine go_if (fun hb => ?_) (fun hb => ?_)
              · have hb : r7 = 0 := hb
                replace hv := hv.1 hb
                refine go_steps q_R_box kc_R_box 1 rfl ?_
                obtain ⟨rfl, rfl⟩ := hv
                exact go_retI q_R_box kc_R_box rfl rfl rfl
              · have hb : ¬ (r7 = 0) := hb
                replace hv := hv.2 hb
                refine go_steps q_R_box kc_R_box 4 rfl ?_
                refine go_if (fun hb => ?_) (fun hb => ?_)
                · have hb : (σ7 47 0) = 20 := hb
                  replace hv := hv.1 hb
                  refine go_steps q_R_box kc_R_box 1 rfl ?_
                  obtain ⟨rfl, rfl⟩ := hv
                  exact go_retI q_R_box kc_R_box rfl rfl rfl
                · have hb : ¬ ((σ7 47 0) = 20) := hb
                  replace hv := hv.2 hb
                  refine go_steps q_R_box kc_R_box 5 rfl ?_
                  obtain ⟨hc, hv⟩ := hv
                  refine go_iastore q_R_box kc_R_box rfl rfl hc ?_
                  refine go_steps q_R_box kc_R_box 5 rfl ?_
                  obtain ⟨hc, hv⟩ := hv
                  refine go_iastore q_R_box kc_R_box rfl rfl hc ?_
                  refine go_steps q_R_box kc_R_box 5 rfl ?_
                  obtain ⟨hc, hv⟩ := hv
                  refine go_iastore q_R_box kc_R_box rfl rfl hc ?_
                  refine go_steps q_R_box kc_R_box 5 rfl ?_
                  obtain ⟨hc, hv⟩ := hv
                  refine go_iastore q_R_box kc_R_box rfl rfl hc ?_
                  refine go_steps q_R_box kc_R_box 5 rfl ?_
                  obtain ⟨hc, hv⟩ := hv
                  refine go_iastore q_R_box kc_R_box rfl rfl hc ?_
                  refine go_steps q_R_box kc_R_box 5 rfl ?_
                  obtain ⟨hc, hv⟩ := hv
                  refine go_iastore q_R_box kc_R_box rfl rfl hc ?_
                  refine go_steps q_R_box kc_R_box 5 rfl ?_
                  obtain ⟨hc, hv⟩ := hv
                  obtain ⟨hd, hv⟩ := hv
                  refine go_bastore q_R_box kc_R_box rfl rfl hc hd ?_
                  refine go_steps q_R_box kc_R_box 5 rfl ?_
                  obtain ⟨hc, hv⟩ := hv
                  refine go_iastore q_R_box kc_R_box rfl rfl hc ?_
                  refine go_steps q_R_box kc_R_box 13 rfl ?_
                  obtain ⟨rfl, rfl⟩ := hv
                  exact go_retI q_R_box kc_R_box rfl rfl rfl
set_option maxHeartbeats 4000000 in
set_option maxRecDepth 100000 in
theorem v_R_in_0 {l : Launch} {D : va_G} {DA : Nat → ClassId} {b sz d L : Nat} {cu : Bool} {σ : Nat → Nat → Int32} {r : Option Value} {X' : am_X} (p0 : Int32) (p1 : Int32) (p2 : Int32)
    (hv : ((if p0 < p1 then 0 else (if p2 < p0 then 0 else 1 : Int32) : Int32) = 0 ∨ (if p0 < p1 then 0 else (if p2 < p0 then 0 else 1 : Int32) : Int32) = 1) ∧ (r = some (.int (if p0 < p1 then 0 else (if p2 < p0 then 0 else 1 : Int32) : Int32)) ∧ X' = (am_TT cu L, am_RR cu, σ))) :
    am_Go l D DA b sz d M_R_in (0, [some (.int p0), some (.int p1), some (.int p2)], [], (am_TT cu L, am_RR cu, σ)) r X' := by
  refine go_steps q_R_in kc_R_in 3 rfl ?_
  have key : am_Go l D DA b sz d M_R_in (15, [some (.int p0), some (.int p1), some (.int p2)], [.int (if p0 < p1 then 0 else (if p2 < p0 then 0 else 1 : Int32) : Int32)], (am_TT cu L, am_RR cu, σ)) r X' := by
    obtain ⟨hc, rfl, rfl⟩ := hv
    exact go_retI q_R_in kc_R_in rfl rfl (am_nar hc)
  refine go_if (fun hb => ?_) (fun hb => ?_)
  · have hb : p0 < p1 := hb
    rw [show (if p0 < p1 then 0 else (if p2 < p0 then 0 else 1 : Int32) : Int32) = 0 from if_pos hb] at key
    refine go_steps q_R_in kc_R_in 1 rfl ?_
    exact key
  · have hb : ¬ (p0 < p1) := hb
    rw [show (if p0 < p1 then 0 else (if p2 < p0 then 0 else 1 : Int32) : Int32) = (if p2 < p0 then 0 else 1 : Int32) from if_neg hb] at key
    refine go_steps q_R_in kc_R_in 3 rfl ?_
    refine go_if (fun hb => ?_) (fun hb => ?_)
    · have hb : p2 < p0 := hb
      rw [show (if p2 < p0 then 0 else 1 : Int32) = 0 from if_pos hb] at key
      refine go_steps q_R_in kc_R_in 1 rfl ?_
      exact key
    · have hb : ¬ (p2 < p0) := hb
      rw [show (if p2 < p0 then 0 else 1 : Int32) = 1 from if_neg hb] at key
      refine go_steps q_R_in kc_R_in 2 rfl ?_
      exact key
set_option maxHeartbeats 4000000 in
set_option maxRecDepth 100000 in
theorem v_R_truck_0 {l : Launch} {D : va_G} {DA : Nat → ClassId} {b sz d L : Nat} {cu : Bool} {σ : Nat → Nat → Int32} {r : Option Value} {X' : am_X} (p1 : Int32) (p2 : Int32) (p3 : Int32)
    (hv : (∃ (r1 : Int32) (σ1 : Nat → Nat → Int32), am_Go l D DA b sz d M_R_in (0, [some (.int p1), some (.int 1), some (.int 40)], [], (am_TT cu L, am_RR cu, σ)) (some (.int r1)) (am_TT cu L, am_RR cu, σ1) ∧ (((r1 = 0) → (r = some (.int (-2)) ∧ X' = (am_TT cu L, am_RR cu, σ1))) ∧ (¬ (r1 = 0) → (∃ (r2 : Int32) (σ2 : Nat → Nat → Int32), am_Go l D DA b sz d M_R_in (0, [some (.int p2), some (.int 1), some (.int 12)], [], (am_TT cu L, am_RR cu, σ1)) (some (.int r2)) (am_TT cu L, am_RR cu, σ2) ∧ (((r2 = 0) → (r = some (.int (-2)) ∧ X' = (am_TT cu L, am_RR cu, σ2))) ∧ (¬ (r2 = 0) → (∃ (r3 : Int32) (σ3 : Nat → Nat → Int32), am_Go l D DA b sz d M_R_in (0, [some (.int p3), some (.int 1), some (.int 12)], [], (am_TT cu L, am_RR cu, σ2)) (some (.int r3)) (am_TT cu L, am_RR cu, σ3) ∧ (((r3 = 0) → (r = some (.int (-2)) ∧ X' = (am_TT cu L, am_RR cu, σ3))) ∧ (¬ (r3 = 0) → (∃ (r4 : Int32) (σ4 : Nat → Nat → Int32), am_Go l D DA b sz d M_R_placed (0, [some (.ref 47), none, none], [], (am_TT cu L, am_RR cu, σ3)) (some (.int r4)) (am_TT cu L, am_RR cu, σ4) ∧ (((r4 ≤ 0) → (r = some (.int 1) ∧ X' = (am_TT cu L, am_RR cu, am_us (am_us (am_us σ4 47 14 p1) 47 15 p2) 47 16 p3))) ∧ (¬ (r4 ≤ 0) → (r = some (.int (-4)) ∧ X' = (am_TT cu L, am_RR cu, σ4))))))))))))))) :
    am_Go l D DA b sz (d + 1) M_R_truck (0, [some (.ref 47), some (.int p1), some (.int p2), some (.int p3)], [], (am_TT cu L, am_RR cu, σ)) r X' := by
  refine go_steps q_R_truck kc_R_truck 3 rfl ?_
  obtain ⟨r1, σ1, hg, hv⟩ := hv
  refine go_callS q_R_truck kc_R_truck rfl q_R_in am_k100 rfl rfl rfl (Nat.le_of_ble_eq_true rfl) (Nat.le_of_ble_eq_true rfl) hg ?_
  refine go_steps q_R_truck kc_R_truck 1 rfl ?_
  refine go_if (fun hb => ?_) (fun hb => ?_)
  · have hb : r1 = 0 := hb
    replace hv := hv.1 hb
    refine go_steps q_R_truck kc_R_truck 1 rfl ?_
    obtain ⟨rfl, rfl⟩ := hv
    exact go_retI q_R_truck kc_R_truck rfl rfl rfl
  · have hb : ¬ (r1 = 0) := hb
    replace hv := hv.2 hb
    refine go_steps q_R_truck kc_R_truck 3 rfl ?_
    obtain ⟨r2, σ2, hg, hv⟩ := hv
    refine go_callS q_R_truck kc_R_truck rfl q_R_in am_k100 rfl rfl rfl (Nat.le_of_ble_eq_true rfl) (Nat.le_of_ble_eq_true rfl) hg ?_
    refine go_steps q_R_truck kc_R_truck 1 rfl ?_
    refine go_if (fun hb => ?_) (fun hb => ?_)
    · have hb : r2 = 0 := hb
      replace hv := hv.1 hb
      refine go_steps q_R_truck kc_R_truck 1 rfl ?_
      obtain ⟨rfl, rfl⟩ := hv
      exact go_retI q_R_truck kc_R_truck rfl rfl rfl
    · have hb : ¬ (r2 = 0) := hb
      replace hv := hv.2 hb
      refine go_steps q_R_truck kc_R_truck 3 rfl ?_
      obtain ⟨r3, σ3, hg, hv⟩ := hv
      refine go_callS q_R_truck kc_R_truck rfl q_R_in am_k100 rfl rfl rfl (Nat.le_of_ble_eq_true rfl) (Nat.le_of_ble_eq_true rfl) hg ?_
      refine go_steps q_R_truck kc_R_truck 1 rfl ?_
      refine go_if (fun hb => ?_) (fun hb => ?_)
      · have hb : r3 = 0 := hb
        replace hv := hv.1 hb
        refine go_steps q_R_truck kc_R_truck 1 rfl ?_
        obtain ⟨rfl, rfl⟩ := hv
        exact go_retI q_R_truck kc_R_truck rfl rfl rfl
      · have hb : ¬ (r3 = 0) := hb
        replace hv := hv.2 hb
        refine go_steps q_R_truck kc_R_truck 1 rfl ?_
        obtain ⟨r4, σ4, hg, hv⟩ := hv
        refine go_callV q_R_truck kc_R_truck rfl q_R_placed am_k102 ⟨rfl, rfl, by decide⟩ rfl rfl (Nat.le_of_ble_eq_true rfl) (Nat.le_of_ble_eq_true rfl) rfl rfl hg ?_
        refine go_steps q_R_truck kc_R_truck 1 rfl ?_
        refine go_if (fun hb => ?_) (fun hb => ?_)
        · have hb : r4 ≤ 0 := hb
          replace hv := hv.1 hb
          refine go_steps q_R_truck kc_R_truck 10 rfl ?_
          obtain ⟨rfl, rfl⟩ := hv
          exact go_retI q_R_truck kc_R_truck rfl rfl rfl
        · have hb : ¬ (r4 ≤ 0) := hb
          replace hv := hv.2 hb
          refine go_steps q_R_truck kc_R_truck 1 rfl ?_
          obtain ⟨rfl, rfl⟩ := hv
          exact go_retI q_R_truck kc_R_truck rfl rfl rfl
set_option maxHeartbeats 4000000 in
set_option maxRecDepth 100000 in
theorem v_R_placed_0 {l : Launch} {D : va_G} {DA : Nat → ClassId} {b sz d L : Nat} {cu : Bool} {σ : Nat → Nat → Int32} {r : Option Value} {X' : am_X}
    (hv : am_Go l D DA b sz d M_R_placed (4, [some (.ref 47), some (.int 0), some (.int 0)], [], (am_TT cu L, am_RR cu, σ)) r X') :
    am_Go l D DA b sz d M_R_placed (0, [some (.ref 47), none, none], [], (am_TT cu L, am_RR cu, σ)) r X' := by
  refine go_steps q_R_placed kc_R_placed 4 rfl ?_
  refine go_le (L1 := [some (.ref 47), some (.int 0), some (.int 0)]) (by repeat (first | exact trivial | refine ⟨rfl, ?_⟩)) ?_
  exact hv
set_option maxHeartbeats 4000000 in
set_option maxRecDepth 100000 in
theorem v_R_placed_4 {l : Launch} {D : va_G} {DA : Nat → ClassId} {b sz d L : Nat} {cu : Bool} {σ : Nat → Nat → Int32} {r : Option Value} {X' : am_X} (p1 : Int32) (p2 : Int32)
    (hv : (((σ 47 0) ≤ p2) → (r = some (.int p1) ∧ X' = (am_TT cu L, am_RR cu, σ))) ∧ (¬ ((σ 47 0) ≤ p2) → ((¬ (p2 < 0 ∨ 20 ≤ Int32.toNatClampNeg p2)) ∧ (am_Go l D DA b sz d M_R_placed (4, [some (.ref 47), some (.int (p1 + (if (σ 56 (Int32.toNatClampNeg p2)) = 0 then 0 else 1 : Int32))), some (.int (p2 + 1))], [], (am_TT cu L, am_RR cu, σ)) r X')))) :
    am_Go l D DA b sz d M_R_placed (4, [some (.ref 47), some (.int p1), some (.int p2)], [], (am_TT cu L, am_RR cu, σ)) r X' := by
  refine go_steps q_R_placed kc_R_placed 4 rfl ?_
  refine go_if (fun hb => ?_) (fun hb => ?_)
  · have hb : (σ 47 0) ≤ p2 := hb
    replace hv := hv.1 hb
    refine go_steps q_R_placed kc_R_placed 1 rfl ?_
    obtain ⟨rfl, rfl⟩ := hv
    exact go_retI q_R_placed kc_R_placed rfl rfl rfl
  · have hb : ¬ ((σ 47 0) ≤ p2) := hb
    replace hv := hv.2 hb
    refine go_steps q_R_placed kc_R_placed 4 rfl ?_
    obtain ⟨hc1, hv⟩ := hv
    refine go_baload q_R_placed kc_R_placed rfl rfl hc1 ?_
    refine go_steps q_R_placed kc_R_placed 1 rfl ?_
    have key : am_Go l D DA b sz d M_R_placed (27, [some (.ref 47), some (.int p1), some (.int p2)], [.int (if (σ 56 (Int32.toNatClampNeg p2)) = 0 then 0 else 1 : Int32), .int p1], (am_TT cu L, am_RR cu, σ)) r X' := by
      refine go_steps q_R_placed kc_R_placed 4 rfl ?_
      refine go_le (L1 := [some (.ref 47), some (.int (p1 + (if (σ 56 (Int32.toNatClampNeg p2)) = 0 then 0 else 1 : Int32))), some (.int (p2 + 1))]) (by repeat (first | exact trivial | refine ⟨rfl, ?_⟩)) ?_
      exact hv
    refine go_if (fun hb => ?_) (fun hb => ?_)
    · have hb : (σ 56 (Int32.toNatClampNeg p2)) = 0 := hb
      rw [show (if (σ 56 (Int32.toNatClampNeg p2)) = 0 then 0 else 1 : Int32) = 0 from if_pos hb] at key
      refine go_steps q_R_placed kc_R_placed 1 rfl ?_
      exact key
    · have hb : ¬ ((σ 56 (Int32.toNatClampNeg p2)) = 0) := hb
      rw [show (if (σ 56 (Int32.toNatClampNeg p2)) = 0 then 0 else 1 : Int32) = 1 from if_neg hb] at key
      refine go_steps q_R_placed kc_R_placed 2 rfl ?_
      exact key
set_option maxHeartbeats 4000000 in
set_option maxRecDepth 100000 in
theorem v_R_share_0 {l : Launch} {D : va_G} {DA : Nat → ClassId} {b sz d L : Nat} {cu : Bool} {σ : Nat → Nat → Int32} {r : Option Value} {X' : am_X} (p1 : Int32)
    (hv : (∃ (r1 : Int32) (σ1 : Nat → Nat → Int32), am_Go l D DA b sz d M_R_in (0, [some (.int p1), some (.int 0), some (.int 100)], [], (am_TT cu L, am_RR cu, σ)) (some (.int r1)) (am_TT cu L, am_RR cu, σ1) ∧ (((r1 = 0) → (r = some (.int (-2)) ∧ X' = (am_TT cu L, am_RR cu, σ1))) ∧ (¬ (r1 = 0) → (∃ (r2 : Int32) (σ2 : Nat → Nat → Int32), am_Go l D DA b sz d M_R_placed (0, [some (.ref 47), none, none], [], (am_TT cu L, am_RR cu, σ1)) (some (.int r2)) (am_TT cu L, am_RR cu, σ2) ∧ (((r2 ≤ 0) → (r = some (.int (σ2 47 17)) ∧ X' = (am_TT cu L, am_RR cu, am_us σ2 47 17 p1))) ∧ (¬ (r2 ≤ 0) → (r = some (.int (-4)) ∧ X' = (am_TT cu L, am_RR cu, σ2))))))))) :
    am_Go l D DA b sz (d + 1) M_R_share (0, [some (.ref 47), some (.int p1), none], [], (am_TT cu L, am_RR cu, σ)) r X' := by
  refine go_steps q_R_share kc_R_share 3 rfl ?_
  obtain ⟨r1, σ1, hg, hv⟩ := hv
  refine go_callS q_R_share kc_R_share rfl q_R_in am_k100 rfl rfl rfl (Nat.le_of_ble_eq_true rfl) (Nat.le_of_ble_eq_true rfl) hg ?_
  refine go_steps q_R_share kc_R_share 1 rfl ?_
  refine go_if (fun hb => ?_) (fun hb => ?_)
  · have hb : r1 = 0 := hb
    replace hv := hv.1 hb
    refine go_steps q_R_share kc_R_share 1 rfl ?_
    obtain ⟨rfl, rfl⟩ := hv
    exact go_retI q_R_share kc_R_share rfl rfl rfl
  · have hb : ¬ (r1 = 0) := hb
    replace hv := hv.2 hb
    refine go_steps q_R_share kc_R_share 1 rfl ?_
    obtain ⟨r2, σ2, hg, hv⟩ := hv
    refine go_callV q_R_share kc_R_share rfl q_R_placed am_k102 ⟨rfl, rfl, by decide⟩ rfl rfl (Nat.le_of_ble_eq_true rfl) (Nat.le_of_ble_eq_true rfl) rfl rfl hg ?_
    refine go_steps q_R_share kc_R_share 1 rfl ?_
    refine go_if (fun hb => ?_) (fun hb => ?_)
    · have hb : r2 ≤ 0 := hb
      replace hv := hv.1 hb
      refine go_steps q_R_share kc_R_share 7 rfl ?_
      obtain ⟨rfl, rfl⟩ := hv
      exact go_retI q_R_share kc_R_share rfl rfl rfl
    · have hb : ¬ (r2 ≤ 0) := hb
      replace hv := hv.2 hb
      refine go_steps q_R_share kc_R_share 1 rfl ?_
      obtain ⟨rfl, rfl⟩ := hv
      exact go_retI q_R_share kc_R_share rfl rfl rfl
set_option maxHeartbeats 4000000 in
set_option maxRecDepth 100000 in
theorem v_R_axles_0 {l : Launch} {D : va_G} {DA : Nat → ClassId} {b sz d L : Nat} {cu : Bool} {σ : Nat → Nat → Int32} {r : Option Value} {X' : am_X} (p1 : Int32) (p2 : Int32) (p3 : Int32) (p4 : Int32)
    (hv : (∃ (r1 : Int32) (σ1 : Nat → Nat → Int32), am_Go l D DA b sz d M_R_in (0, [some (.int p1), some (.int 0), some (.int 40)], [], (am_TT cu L, am_RR cu, σ)) (some (.int r1)) (am_TT cu L, am_RR cu, σ1) ∧ (((r1 = 0) → (r = some (.int (-2)) ∧ X' = (am_TT cu L, am_RR cu, σ1))) ∧ (¬ (r1 = 0) → (∃ (r2 : Int32) (σ2 : Nat → Nat → Int32), am_Go l D DA b sz d M_R_in (0, [some (.int p2), some (.int (p1 + 1)), some (.int 40)], [], (am_TT cu L, am_RR cu, σ1)) (some (.int r2)) (am_TT cu L, am_RR cu, σ2) ∧ (((r2 = 0) → (r = some (.int (-2)) ∧ X' = (am_TT cu L, am_RR cu, σ2))) ∧ (¬ (r2 = 0) → (∃ (r3 : Int32) (σ3 : Nat → Nat → Int32), am_Go l D DA b sz d M_R_in (0, [some (.int p3), some (.int 0), some (.int 100000)], [], (am_TT cu L, am_RR cu, σ2)) (some (.int r3)) (am_TT cu L, am_RR cu, σ3) ∧ (((r3 = 0) → (r = some (.int (-2)) ∧ X' = (am_TT cu L, am_RR cu, σ3))) ∧ (¬ (r3 = 0) → (∃ (r4 : Int32) (σ4 : Nat → Nat → Int32), am_Go l D DA b sz d M_R_in (0, [some (.int p4), some (.int 0), some (.int 100000)], [], (am_TT cu L, am_RR cu, σ3)) (some (.int r4)) (am_TT cu L, am_RR cu, σ4) ∧ (((r4 = 0) → (r = some (.int (-2)) ∧ X' = (am_TT cu L, am_RR cu, σ4))) ∧ (¬ (r4 = 0) → (r = some (.int 1) ∧ X' = (am_TT cu L, am_RR cu, am_us (am_us (am_us (am_us σ4 47 18 p1) 47 19 p2) 47 20 p3) 47 21 p4))))))))))))))) :
    am_Go l D DA b sz (d + 1) M_R_axles (0, [some (.ref 47), some (.int p1), some (.int p2), some (.int p3), some (.int p4)], [], (am_TT cu L, am_RR cu, σ)) r X' := by
  refine go_steps q_R_axles kc_R_axles 3 rfl ?_
  obtain ⟨r1, σ1, hg, hv⟩ := hv
  refine go_callS q_R_axles kc_R_axles rfl q_R_in am_k100 rfl rfl rfl (Nat.le_of_ble_eq_true rfl) (Nat.le_of_ble_eq_true rfl) hg ?_
  refine go_steps q_R_axles kc_R_axles 1 rfl ?_
  refine go_if (fun hb => ?_) (fun hb => ?_)
  · have hb : r1 = 0 := hb
    replace hv := hv.1 hb
    refine go_steps q_R_axles kc_R_axles 1 rfl ?_
    obtain ⟨rfl, rfl⟩ := hv
    exact go_retI q_R_axles kc_R_axles rfl rfl rfl
  · have hb : ¬ (r1 = 0) := hb
    replace hv := hv.2 hb
    refine go_steps q_R_axles kc_R_axles 5 rfl ?_
    obtain ⟨r2, σ2, hg, hv⟩ := hv
    refine go_callS q_R_axles kc_R_axles rfl q_R_in am_k100 rfl rfl rfl (Nat.le_of_ble_eq_true rfl) (Nat.le_of_ble_eq_true rfl) hg ?_
    refine go_steps q_R_axles kc_R_axles 1 rfl ?_
    refine go_if (fun hb => ?_) (fun hb => ?_)
    · have hb : r2 = 0 := hb
      replace hv := hv.1 hb
      refine go_steps q_R_axles kc_R_axles 1 rfl ?_
      obtain ⟨rfl, rfl⟩ := hv
      exact go_retI q_R_axles kc_R_axles rfl rfl rfl
    · have hb : ¬ (r2 = 0) := hb
      replace hv := hv.2 hb
      refine go_steps q_R_axles kc_R_axles 3 rfl ?_
      obtain ⟨r3, σ3, hg, hv⟩ := hv
      refine go_callS q_R_axles kc_R_axles rfl q_R_in am_k100 rfl rfl rfl (Nat.le_of_ble_eq_true rfl) (Nat.le_of_ble_eq_true rfl) hg ?_
      refine go_steps q_R_axles kc_R_axles 1 rfl ?_
      refine go_if (fun hb => ?_) (fun hb => ?_)
      · have hb : r3 = 0 := hb
        replace hv := hv.1 hb
        refine go_steps q_R_axles kc_R_axles 1 rfl ?_
        obtain ⟨rfl, rfl⟩ := hv
        exact go_retI q_R_axles kc_R_axles rfl rfl rfl
      · have hb : ¬ (r3 = 0) := hb
        replace hv := hv.2 hb
        refine go_steps q_R_axles kc_R_axles 3 rfl ?_
        obtain ⟨r4, σ4, hg, hv⟩ := hv
        refine go_callS q_R_axles kc_R_axles rfl q_R_in am_k100 rfl rfl rfl (Nat.le_of_ble_eq_true rfl) (Nat.le_of_ble_eq_true rfl) hg ?_
        refine go_steps q_R_axles kc_R_axles 1 rfl ?_
        refine go_if (fun hb => ?_) (fun hb => ?_)
        · have hb : r4 = 0 := hb
          replace hv := hv.1 hb
          refine go_steps q_R_axles kc_R_axles 1 rfl ?_
          obtain ⟨rfl, rfl⟩ := hv
          exact go_retI q_R_axles kc_R_axles rfl rfl rfl
        · have hb : ¬ (r4 = 0) := hb
          replace hv := hv.2 hb
          refine go_steps q_R_axles kc_R_axles 13 rfl ?_
          obtain ⟨rfl, rfl⟩ := hv
          exact go_retI q_R_axles kc_R_axles rfl rfl rfl
set_option maxHeartbeats 4000000 in
set_option maxRecDepth 100000 in
theorem v_R_side_0 {l : Launch} {D : va_G} {DA : Nat → ClassId} {b sz d L : Nat} {cu : Bool} {σ : Nat → Nat → Int32} {r : Option Value} {X' : am_X} (p1 : Int32)
    (hv : (∃ (r1 : Int32) (σ1 : Nat → Nat → Int32), am_Go l D DA b sz d M_R_in (0, [some (.int p1), some (.int 0), some (.int 100)], [], (am_TT cu L, am_RR cu, σ)) (some (.int r1)) (am_TT cu L, am_RR cu, σ1) ∧ (((r1 = 0) → (r = some (.int (-2)) ∧ X' = (am_TT cu L, am_RR cu, σ1))) ∧ (¬ (r1 = 0) → (r = some (.int (σ1 47 22)) ∧ X' = (am_TT cu L, am_RR cu, am_us σ1 47 22 p1)))))) :
    am_Go l D DA b sz (d + 1) M_R_side (0, [some (.ref 47), some (.int p1), none], [], (am_TT cu L, am_RR cu, σ)) r X' := by
  refine go_steps q_R_side kc_R_side 3 rfl ?_
  obtain ⟨r1, σ1, hg, hv⟩ := hv
  refine go_callS q_R_side kc_R_side rfl q_R_in am_k100 rfl rfl rfl (Nat.le_of_ble_eq_true rfl) (Nat.le_of_ble_eq_true rfl) hg ?_
  refine go_steps q_R_side kc_R_side 1 rfl ?_
  refine go_if (fun hb => ?_) (fun hb => ?_)
  · have hb : r1 = 0 := hb
    replace hv := hv.1 hb
    refine go_steps q_R_side kc_R_side 1 rfl ?_
    obtain ⟨rfl, rfl⟩ := hv
    exact go_retI q_R_side kc_R_side rfl rfl rfl
  · have hb : ¬ (r1 = 0) := hb
    replace hv := hv.2 hb
    refine go_steps q_R_side kc_R_side 7 rfl ?_
    obtain ⟨rfl, rfl⟩ := hv
    exact go_retI q_R_side kc_R_side rfl rfl rfl
set_option maxHeartbeats 4000000 in
set_option maxRecDepth 100000 in
theorem v_R_wrong_0 {l : Launch} {D : va_G} {DA : Nat → ClassId} {b sz d L : Nat} {cu : Bool} {σ : Nat → Nat → Int32} {r : Option Value} {X' : am_X} (p1 : Int32) (p2 : Int32) (p3 : Int32) (p4 : Int32) (p5 : Int32)
    (hv : (∃ (r1 : Int32) (σ1 : Nat → Nat → Int32), am_Go l D DA b sz d M_R_asked (0, [some (.ref 47), some (.int p1), some (.int p2), some (.int p3), some (.int p4), some (.int p5)], [], (am_TT cu L, am_RR cu, σ)) (some (.int r1)) (am_TT cu L, am_RR cu, σ1) ∧ (((r1 = 0) → (∃ (r2 : Int32) (σ2 : Nat → Nat → Int32), am_Go l D DA b sz d M_R_wrongAt (0, [some (.ref 47), some (.int p1), some (.int p2), some (.int p3), some (.int p4), some (.int p5), none, none, none, none], [], (am_TT cu L, am_RR cu, σ1)) (some (.int r2)) (am_TT cu L, am_RR cu, σ2) ∧ (r = some (.int r2) ∧ X' = (am_TT cu L, am_RR cu, σ2)))) ∧ (¬ (r1 = 0) → (r = some (.int r1) ∧ X' = (am_TT cu L, am_RR cu, σ1)))))) :
    am_Go l D DA b sz (d + 1) M_R_wrong (0, [some (.ref 47), some (.int p1), some (.int p2), some (.int p3), some (.int p4), some (.int p5), none], [], (am_TT cu L, am_RR cu, σ)) r X' := by
  refine go_steps q_R_wrong kc_R_wrong 6 rfl ?_
  obtain ⟨r1, σ1, hg, hv⟩ := hv
  refine go_callV q_R_wrong kc_R_wrong rfl q_R_asked am_k107 ⟨rfl, rfl, by decide⟩ rfl rfl (Nat.le_of_ble_eq_true rfl) (Nat.le_of_ble_eq_true rfl) rfl rfl hg ?_
  refine go_steps q_R_wrong kc_R_wrong 3 rfl ?_
  refine go_if (fun hb => ?_) (fun hb => ?_)
  · have hb : r1 = 0 := hb
    replace hv := hv.1 hb
    refine go_steps q_R_wrong kc_R_wrong 6 rfl ?_
    obtain ⟨r2, σ2, hg, hv⟩ := hv
    refine go_callV q_R_wrong kc_R_wrong rfl q_R_wrongAt am_k109 ⟨rfl, rfl, by decide⟩ rfl rfl (Nat.le_of_ble_eq_true rfl) (Nat.le_of_ble_eq_true rfl) rfl rfl hg ?_
    obtain ⟨rfl, rfl⟩ := hv
    exact go_retI q_R_wrong kc_R_wrong rfl rfl rfl
  · have hb : ¬ (r1 = 0) := hb
    replace hv := hv.2 hb
    refine go_steps q_R_wrong kc_R_wrong 2 rfl ?_
    obtain ⟨rfl, rfl⟩ := hv
    exact go_retI q_R_wrong kc_R_wrong rfl rfl rfl
set_option maxHeartbeats 4000000 in
set_option maxRecDepth 100000 in
theorem v_R_asked_0 {l : Launch} {D : va_G} {DA : Nat → ClassId} {b sz d L : Nat} {cu : Bool} {σ : Nat → Nat → Int32} {r : Option Value} {X' : am_X} (p1 : Int32) (p2 : Int32) (p3 : Int32) (p4 : Int32) (p5 : Int32)
    (hv : (∃ (r1 : Int32) (σ1 : Nat → Nat → Int32), am_Go l D DA b sz d M_R_isBox (0, [some (.ref 47), some (.int p1)], [], (am_TT cu L, am_RR cu, σ)) (some (.int r1)) (am_TT cu L, am_RR cu, σ1) ∧ (((r1 = 0) → (r = some (.int (-2)) ∧ X' = (am_TT cu L, am_RR cu, σ1))) ∧ (¬ (r1 = 0) → (∃ (r2 : Int32) (σ2 : Nat → Nat → Int32), am_Go l D DA b sz d M_R_in (0, [some (.int p2), some (.int 0), some (.int 40)], [], (am_TT cu L, am_RR cu, σ1)) (some (.int r2)) (am_TT cu L, am_RR cu, σ2) ∧ (((r2 = 0) → (r = some (.int (-2)) ∧ X' = (am_TT cu L, am_RR cu, σ2))) ∧ (¬ (r2 = 0) → (∃ (r3 : Int32) (σ3 : Nat → Nat → Int32), am_Go l D DA b sz d M_R_in (0, [some (.int p3), some (.int 0), some (.int 40)], [], (am_TT cu L, am_RR cu, σ2)) (some (.int r3)) (am_TT cu L, am_RR cu, σ3) ∧ (((r3 = 0) → (r = some (.int (-2)) ∧ X' = (am_TT cu L, am_RR cu, σ3))) ∧ (¬ (r3 = 0) → (∃ (r4 : Int32) (σ4 : Nat → Nat → Int32), am_Go l D DA b sz d M_R_in (0, [some (.int p4), some (.int 0), some (.int 40)], [], (am_TT cu L, am_RR cu, σ3)) (some (.int r4)) (am_TT cu L, am_RR cu, σ4) ∧ (((r4 = 0) → (r = some (.int (-2)) ∧ X' = (am_TT cu L, am_RR cu, σ4))) ∧ (¬ (r4 = 0) → (((p5 = 0) → ((¬ (p1 < 0 ∨ 20 ≤ Int32.toNatClampNeg p1)) ∧ (r = some (.int (if (σ4 56 (Int32.toNatClampNeg p1)) = 0 then 0 else (-4) : Int32)) ∧ X' = (am_TT cu L, am_RR cu, σ4)))) ∧ (¬ (p5 = 0) → ((¬ (p1 < 0 ∨ 20 ≤ Int32.toNatClampNeg p1)) ∧ ((((σ4 54 (Int32.toNatClampNeg p1)) = 0) → (r = some (.int (-2)) ∧ X' = (am_TT cu L, am_RR cu, σ4))) ∧ (¬ ((σ4 54 (Int32.toNatClampNeg p1)) = 0) → ((¬ (p1 < 0 ∨ 20 ≤ Int32.toNatClampNeg p1)) ∧ (r = some (.int (if (σ4 56 (Int32.toNatClampNeg p1)) = 0 then 0 else (-4) : Int32)) ∧ X' = (am_TT cu L, am_RR cu, σ4))))))))))))))))))))) :
    am_Go l D DA b sz (d + 1) M_R_asked (0, [some (.ref 47), some (.int p1), some (.int p2), some (.int p3), some (.int p4), some (.int p5)], [], (am_TT cu L, am_RR cu, σ)) r X' := by
  refine go_steps q_R_asked kc_R_asked 2 rfl ?_
  obtain ⟨r1, σ1, hg, hv⟩ := hv
  refine go_callV q_R_asked kc_R_asked rfl q_R_isBox am_k108 ⟨rfl, rfl, by decide⟩ rfl rfl (Nat.le_of_ble_eq_true rfl) (Nat.le_of_ble_eq_true rfl) rfl rfl hg ?_
  refine go_steps q_R_asked kc_R_asked 1 rfl ?_
  refine go_if (fun hb => ?_) (fun hb => ?_)
  · have hb : r1 = 0 := hb
    replace hv := hv.1 hb
    refine go_steps q_R_asked kc_R_asked 1 rfl ?_
    obtain ⟨rfl, rfl⟩ := hv
    exact go_retI q_R_asked kc_R_asked rfl rfl rfl
  · have hb : ¬ (r1 = 0) := hb
    replace hv := hv.2 hb
    refine go_steps q_R_asked kc_R_asked 3 rfl ?_
    obtain ⟨r2, σ2, hg, hv⟩ := hv
    refine go_callS q_R_asked kc_R_asked rfl q_R_in am_k100 rfl rfl rfl (Nat.le_of_ble_eq_true rfl) (Nat.le_of_ble_eq_true rfl) hg ?_
    refine go_steps q_R_asked kc_R_asked 1 rfl ?_
    refine go_if (fun hb => ?_) (fun hb => ?_)
    · have hb : r2 = 0 := hb
      replace hv := hv.1 hb
      refine go_steps q_R_asked kc_R_asked 1 rfl ?_
      obtain ⟨rfl, rfl⟩ := hv
      exact go_retI q_R_asked kc_R_asked rfl rfl rfl
    · have hb : ¬ (r2 = 0) := hb
      replace hv := hv.2 hb
      refine go_steps q_R_asked kc_R_asked 3 rfl ?_
      obtain ⟨r3, σ3, hg, hv⟩ := hv
      refine go_callS q_R_asked kc_R_asked rfl q_R_in am_k100 rfl rfl rfl (Nat.le_of_ble_eq_true rfl) (Nat.le_of_ble_eq_true rfl) hg ?_
      refine go_steps q_R_asked kc_R_asked 1 rfl ?_
      refine go_if (fun hb => ?_) (fun hb => ?_)
      · have hb : r3 = 0 := hb
        replace hv := hv.1 hb
        refine go_steps q_R_asked kc_R_asked 1 rfl ?_
        obtain ⟨rfl, rfl⟩ := hv
        exact go_retI q_R_asked kc_R_asked rfl rfl rfl
      · have hb : ¬ (r3 = 0) := hb
        replace hv := hv.2 hb
        refine go_steps q_R_asked kc_R_asked 3 rfl ?_
        obtain ⟨r4, σ4, hg, hv⟩ := hv
        refine go_callS q_R_asked kc_R_asked rfl q_R_in am_k100 rfl rfl rfl (Nat.le_of_ble_eq_true rfl) (Nat.le_of_ble_eq_true rfl) hg ?_
        refine go_steps q_R_asked kc_R_asked 1 rfl ?_
        refine go_if (fun hb => ?_) (fun hb => ?_)
        · have hb : r4 = 0 := hb
          replace hv := hv.1 hb
          refine go_steps q_R_asked kc_R_asked 1 rfl ?_
          obtain ⟨rfl, rfl⟩ := hv
          exact go_retI q_R_asked kc_R_asked rfl rfl rfl
        · have hb : ¬ (r4 = 0) := hb
          replace hv := hv.2 hb
          refine go_steps q_R_asked kc_R_asked 2 rfl ?_
          refine go_if (fun hb => ?_) (fun hb => ?_)
          · have hb : p5 = 0 := hb
            replace hv := hv.1 hb
            refine go_steps q_R_asked kc_R_asked 3 rfl ?_
            obtain ⟨hc1, hv⟩ := hv
            refine go_baload q_R_asked kc_R_asked rfl rfl hc1 ?_
            refine go_steps q_R_asked kc_R_asked 1 rfl ?_
            have key : am_Go l D DA b sz (d + 1) M_R_asked (71, [some (.ref 47), some (.int p1), some (.int p2), some (.int p3), some (.int p4), some (.int p5)], [.int (if (σ4 56 (Int32.toNatClampNeg p1)) = 0 then 0 else (-4) : Int32)], (am_TT cu L, am_RR cu, σ4)) r X' := by
              obtain ⟨rfl, rfl⟩ := hv
              exact go_retI q_R_asked kc_R_asked rfl rfl rfl
            refine go_if (fun hb => ?_) (fun hb => ?_)
            · have hb : (σ4 56 (Int32.toNatClampNeg p1)) = 0 := hb
              rw [show (if (σ4 56 (Int32.toNatClampNeg p1)) = 0 then 0 else (-4) : Int32) = 0 from if_pos hb] at key
              refine go_steps q_R_asked kc_R_asked 1 rfl ?_
              exact key
            · have hb : ¬ ((σ4 56 (Int32.toNatClampNeg p1)) = 0) := hb
              rw [show (if (σ4 56 (Int32.toNatClampNeg p1)) = 0 then 0 else (-4) : Int32) = (-4) from if_neg hb] at key
              refine go_steps q_R_asked kc_R_asked 2 rfl ?_
              exact key
          · have hb : ¬ (p5 = 0) := hb
            replace hv := hv.2 hb
            refine go_steps q_R_asked kc_R_asked 3 rfl ?_
            obtain ⟨hc2, hv⟩ := hv
            refine go_baload q_R_asked kc_R_asked rfl rfl hc2 ?_
            refine go_steps q_R_asked kc_R_asked 1 rfl ?_
            refine go_if (fun hb => ?_) (fun hb => ?_)
            · have hb : (σ4 54 (Int32.toNatClampNeg p1)) = 0 := hb
              replace hv := hv.1 hb
              refine go_steps q_R_asked kc_R_asked 1 rfl ?_
              obtain ⟨rfl, rfl⟩ := hv
              exact go_retI q_R_asked kc_R_asked rfl rfl rfl
            · have hb : ¬ ((σ4 54 (Int32.toNatClampNeg p1)) = 0) := hb
              replace hv := hv.2 hb
              refine go_steps q_R_asked kc_R_asked 3 rfl ?_
              obtain ⟨hc3, hv⟩ := hv
              refine go_baload q_R_asked kc_R_asked rfl rfl hc3 ?_
              refine go_steps q_R_asked kc_R_asked 1 rfl ?_
              have key : am_Go l D DA b sz (d + 1) M_R_asked (71, [some (.ref 47), some (.int p1), some (.int p2), some (.int p3), some (.int p4), some (.int p5)], [.int (if (σ4 56 (Int32.toNatClampNeg p1)) = 0 then 0 else (-4) : Int32)], (am_TT cu L, am_RR cu, σ4)) r X' := by
                obtain ⟨rfl, rfl⟩ := hv
                exact go_retI q_R_asked kc_R_asked rfl rfl rfl
              refine go_if (fun hb => ?_) (fun hb => ?_)
              · have hb : (σ4 56 (Int32.toNatClampNeg p1)) = 0 := hb
                rw [show (if (σ4 56 (Int32.toNatClampNeg p1)) = 0 then 0 else (-4) : Int32) = 0 from if_pos hb] at key
                refine go_steps q_R_asked kc_R_asked 1 rfl ?_
                exact key
              · have hb : ¬ ((σ4 56 (Int32.toNatClampNeg p1)) = 0) := hb
                rw [show (if (σ4 56 (Int32.toNatClampNeg p1)) = 0 then 0 else (-4) : Int32) = (-4) from if_neg hb] at key
                refine go_steps q_R_asked kc_R_asked 2 rfl ?_
                exact key
set_option maxHeartbeats 4000000 in
set_option maxRecDepth 100000 in
theorem v_R_isBox_0 {l : Launch} {D : va_G} {DA : Nat → ClassId} {b sz d L : Nat} {cu : Bool} {σ : Nat → Nat → Int32} {r : Option Value} {X' : am_X} (p1 : Int32)
    (hv : (∃ (r1 : Int32) (σ1 : Nat → Nat → Int32), am_Go l D DA b sz d M_R_in (0, [some (.int p1), some (.int 0), some (.int ((σ 47 0) - 1))], [], (am_TT cu L, am_RR cu, σ)) (some (.int r1)) (am_TT cu L, am_RR cu, σ1) ∧ ((r1 = 0 ∨ r1 = 1) ∧ (r = some (.int r1) ∧ X' = (am_TT cu L, am_RR cu, σ1))))) :
    am_Go l D DA b sz (d + 1) M_R_isBox (0, [some (.ref 47), some (.int p1)], [], (am_TT cu L, am_RR cu, σ)) r X' := by
  refine go_steps q_R_isBox kc_R_isBox 6 rfl ?_
  obtain ⟨r1, σ1, hg, hv⟩ := hv
  refine go_callS q_R_isBox kc_R_isBox rfl q_R_in am_k100 rfl rfl rfl (Nat.le_of_ble_eq_true rfl) (Nat.le_of_ble_eq_true rfl) hg ?_
  obtain ⟨hc, rfl, rfl⟩ := hv
  exact go_retI q_R_isBox kc_R_isBox rfl rfl (am_nar hc)
set_option maxHeartbeats 4000000 in
set_option maxRecDepth 100000 in
theorem v_R_wrongAt_0 {l : Launch} {D : va_G} {DA : Nat → ClassId} {b sz d L : Nat} {cu : Bool} {σ : Nat → Nat → Int32} {r : Option Value} {X' : am_X} (p1 : Int32) (p2 : Int32) (p3 : Int32) (p4 : Int32) (p5 : Int32)
    (hv : (¬ (p1 < 0 ∨ 20 ≤ Int32.toNatClampNeg p1)) ∧ ((¬ (p1 < 0 ∨ 20 ≤ Int32.toNatClampNeg p1)) ∧ ((¬ (p1 < 0 ∨ 20 ≤ Int32.toNatClampNeg p1)) ∧ ((¬ (p1 < 0 ∨ 20 ≤ Int32.toNatClampNeg p1)) ∧ ((p5 = 0 ∨ p5 = 1) ∧ (∃ (r1 : Int32) (σ1 : Nat → Nat → Int32), am_Go l D DA b sz d M_R_longOf (0, [some (.ref 47), some (.int p1)], [], (am_TT cu L, am_RR cu, am_us (am_us (am_us (am_us σ 57 (Int32.toNatClampNeg p1) p2) 58 (Int32.toNatClampNeg p1) p3) 59 (Int32.toNatClampNeg p1) p4) 60 (Int32.toNatClampNeg p1) p5)) (some (.int r1)) (am_TT cu L, am_RR cu, σ1) ∧ ((((σ1 47 14) < (p2 + r1)) → (am_Go l D DA b sz (d + 1) M_R_wrongAt (84, [some (.ref 47), some (.int p1), none, none, some (.int p4), none, some (.int 1), some (.int 0), none, none], [], (am_TT cu L, am_RR cu, σ1)) r X')) ∧ (¬ ((σ1 47 14) < (p2 + r1)) → (∃ (r2 : Int32) (σ2 : Nat → Nat → Int32), am_Go l D DA b sz d M_R_wideOf (0, [some (.ref 47), some (.int p1)], [], (am_TT cu L, am_RR cu, σ1)) (some (.int r2)) (am_TT cu L, am_RR cu, σ2) ∧ ((((σ2 47 15) < (p3 + r2)) → (am_Go l D DA b sz (d + 1) M_R_wrongAt (84, [some (.ref 47), some (.int p1), none, none, some (.int p4), none, some (.int 1), some (.int 0), none, none], [], (am_TT cu L, am_RR cu, σ2)) r X')) ∧ (¬ ((σ2 47 15) < (p3 + r2)) → ((¬ (p1 < 0 ∨ 20 ≤ Int32.toNatClampNeg p1)) ∧ (am_Go l D DA b sz (d + 1) M_R_wrongAt (84, [some (.ref 47), some (.int p1), none, none, some (.int p4), none, some (.int (if (p4 + (σ2 50 (Int32.toNatClampNeg p1))) ≤ (σ2 47 16) then 0 else 1 : Int32)), some (.int 0), none, none], [], (am_TT cu L, am_RR cu, σ2)) r X'))))))))))))) :
    am_Go l D DA b sz (d + 1) M_R_wrongAt (0, [some (.ref 47), some (.int p1), some (.int p2), some (.int p3), some (.int p4), some (.int p5), none, none, none, none], [], (am_TT cu L, am_RR cu, σ)) r X' := by
  refine go_steps q_R_wrongAt kc_R_wrongAt 4 rfl ?_
  obtain ⟨hc, hv⟩ := hv
  refine go_iastore q_R_wrongAt kc_R_wrongAt rfl rfl hc ?_
  refine go_steps q_R_wrongAt kc_R_wrongAt 4 rfl ?_
  obtain ⟨hc, hv⟩ := hv
  refine go_iastore q_R_wrongAt kc_R_wrongAt rfl rfl hc ?_
  refine go_steps q_R_wrongAt kc_R_wrongAt 4 rfl ?_
  obtain ⟨hc, hv⟩ := hv
  refine go_iastore q_R_wrongAt kc_R_wrongAt rfl rfl hc ?_
  refine go_steps q_R_wrongAt kc_R_wrongAt 4 rfl ?_
  obtain ⟨hc, hv⟩ := hv
  obtain ⟨hd, hv⟩ := hv
  refine go_bastore q_R_wrongAt kc_R_wrongAt rfl rfl hc hd ?_
  refine go_steps q_R_wrongAt kc_R_wrongAt 3 rfl ?_
  obtain ⟨r1, σ1, hg, hv⟩ := hv
  refine go_callV q_R_wrongAt kc_R_wrongAt rfl q_R_longOf am_k110 ⟨rfl, rfl, by decide⟩ rfl rfl (Nat.le_of_ble_eq_true rfl) (Nat.le_of_ble_eq_true rfl) rfl rfl hg ?_
  refine go_steps q_R_wrongAt kc_R_wrongAt 4 rfl ?_
  refine go_if (fun hb => ?_) (fun hb => ?_)
  · have hb : (σ1 47 14) < (p2 + r1) := hb
    replace hv := hv.1 hb
    refine go_steps q_R_wrongAt kc_R_wrongAt 5 rfl ?_
    refine go_le (L1 := [some (.ref 47), some (.int p1), none, none, some (.int p4), none, some (.int 1), some (.int 0), none, none]) (by repeat (first | exact trivial | refine ⟨rfl, ?_⟩)) ?_
    exact hv
  · have hb : ¬ ((σ1 47 14) < (p2 + r1)) := hb
    replace hv := hv.2 hb
    refine go_steps q_R_wrongAt kc_R_wrongAt 3 rfl ?_
    obtain ⟨r2, σ2, hg, hv⟩ := hv
    refine go_callV q_R_wrongAt kc_R_wrongAt rfl q_R_wideOf am_k111 ⟨rfl, rfl, by decide⟩ rfl rfl (Nat.le_of_ble_eq_true rfl) (Nat.le_of_ble_eq_true rfl) rfl rfl hg ?_
    refine go_steps q_R_wrongAt kc_R_wrongAt 4 rfl ?_
    refine go_if (fun hb => ?_) (fun hb => ?_)
    · have hb : (σ2 47 15) < (p3 + r2) := hb
      replace hv := hv.1 hb
      refine go_steps q_R_wrongAt kc_R_wrongAt 5 rfl ?_
      refine go_le (L1 := [some (.ref 47), some (.int p1), none, none, some (.int p4), none, some (.int 1), some (.int 0), none, none]) (by repeat (first | exact trivial | refine ⟨rfl, ?_⟩)) ?_
      exact hv
    · have hb : ¬ ((σ2 47 15) < (p3 + r2)) := hb
      replace hv := hv.2 hb
      refine go_steps q_R_wrongAt kc_R_wrongAt 4 rfl ?_
      obtain ⟨hc1, hv⟩ := hv
      refine go_iaload q_R_wrongAt kc_R_wrongAt rfl rfl hc1 ?_
      refine go_steps q_R_wrongAt kc_R_wrongAt 4 rfl ?_
      have key : am_Go l D DA b sz (d + 1) M_R_wrongAt (79, [some (.ref 47), some (.int p1), some (.int p2), some (.int p3), some (.int p4), some (.int p5), none, none, none, none], [.int (if (p4 + (σ2 50 (Int32.toNatClampNeg p1))) ≤ (σ2 47 16) then 0 else 1 : Int32)], (am_TT cu L, am_RR cu, σ2)) r X' := by
        refine go_steps q_R_wrongAt kc_R_wrongAt 3 rfl ?_
        refine go_le (L1 := [some (.ref 47), some (.int p1), none, none, some (.int p4), none, some (.int (if (p4 + (σ2 50 (Int32.toNatClampNeg p1))) ≤ (σ2 47 16) then 0 else 1 : Int32)), some (.int 0), none, none]) (by repeat (first | exact trivial | refine ⟨rfl, ?_⟩)) ?_
        exact hv
      refine go_if (fun hb => ?_) (fun hb => ?_)
      · have hb : (p4 + (σ2 50 (Int32.toNatClampNeg p1))) ≤ (σ2 47 16) := hb
        rw [show (if (p4 + (σ2 50 (Int32.toNatClampNeg p1))) ≤ (σ2 47 16) then 0 else 1 : Int32) = 0 from if_pos hb] at key
        refine go_steps q_R_wrongAt kc_R_wrongAt 1 rfl ?_
        exact key
      · have hb : ¬ ((p4 + (σ2 50 (Int32.toNatClampNeg p1))) ≤ (σ2 47 16)) := hb
        rw [show (if (p4 + (σ2 50 (Int32.toNatClampNeg p1))) ≤ (σ2 47 16) then 0 else 1 : Int32) = 1 from if_neg hb] at key
        refine go_steps q_R_wrongAt kc_R_wrongAt 2 rfl ?_
        exact key
set_option maxHeartbeats 4000000 in
set_option maxRecDepth 100000 in
theorem v_R_wrongAt_84 {l : Launch} {D : va_G} {DA : Nat → ClassId} {b sz d L : Nat} {cu : Bool} {σ : Nat → Nat → Int32} {r : Option Value} {X' : am_X} (p1 : Int32) (p4 : Int32) (p6 : Int32) (p7 : Int32)
    (hv : (((σ 47 0) ≤ p7) → (((p6 = 0) → (am_Go l D DA b sz (d + 1) M_R_wrongAt (167, [some (.ref 47), some (.int p1), none, none, some (.int p4), none, some (.int p6), some (.int 0), some (.int 0), none], [], (am_TT cu L, am_RR cu, σ)) r X')) ∧ (¬ (p6 = 0) → (r = some (.int p6) ∧ X' = (am_TT cu L, am_RR cu, σ))))) ∧ (¬ ((σ 47 0) ≤ p7) → ((¬ (p7 < 0 ∨ 20 ≤ Int32.toNatClampNeg p7)) ∧ ((((σ 56 (Int32.toNatClampNeg p7)) = 0) → (am_Go l D DA b sz (d + 1) M_R_wrongAt (84, [some (.ref 47), some (.int p1), none, none, some (.int p4), none, some (.int p6), some (.int (p7 + 1)), none, none], [], (am_TT cu L, am_RR cu, σ)) r X')) ∧ (¬ ((σ 56 (Int32.toNatClampNeg p7)) = 0) → (∃ (r1 : Int32) (σ1 : Nat → Nat → Int32), am_Go l D DA b sz d M_R_area (0, [some (.ref 47), some (.int p1), some (.int p7)], [], (am_TT cu L, am_RR cu, σ)) (some (.int r1)) (am_TT cu L, am_RR cu, σ1) ∧ (((r1 ≤ 0) → (am_Go l D DA b sz (d + 1) M_R_wrongAt (84, [some (.ref 47), some (.int p1), none, none, some (.int p4), none, some (.int p6), some (.int (p7 + 1)), none, none], [], (am_TT cu L, am_RR cu, σ1)) r X')) ∧ (¬ (r1 ≤ 0) → ((¬ (p1 < 0 ∨ 20 ≤ Int32.toNatClampNeg p1)) ∧ ((¬ (p7 < 0 ∨ 20 ≤ Int32.toNatClampNeg p7)) ∧ ((¬ (p7 < 0 ∨ 20 ≤ Int32.toNatClampNeg p7)) ∧ (∃ (r2 : Int32) (σ2 : Nat → Nat → Int32), am_Go l D DA b sz d M_R_common (0, [some (.int p4), some (.int (σ1 50 (Int32.toNatClampNeg p1))), some (.int (σ1 59 (Int32.toNatClampNeg p7))), some (.int (σ1 50 (Int32.toNatClampNeg p7))), none, none], [], (am_TT cu L, am_RR cu, σ1)) (some (.int r2)) (am_TT cu L, am_RR cu, σ2) ∧ (((r2 ≤ 0) → (am_Go l D DA b sz (d + 1) M_R_wrongAt (84, [some (.ref 47), some (.int p1), none, none, some (.int p4), none, some (.int p6), some (.int (p7 + 1)), none, none], [], (am_TT cu L, am_RR cu, σ2)) r X')) ∧ (¬ (r2 ≤ 0) → (am_Go l D DA b sz (d + 1) M_R_wrongAt (84, [some (.ref 47), some (.int p1), none, none, some (.int p4), none, some (.int (p6 ||| 2)), some (.int (p7 + 1)), none, none], [], (am_TT cu L, am_RR cu, σ2)) r X'))))))))))))))) :
    am_Go l D DA b sz (d + 1) M_R_wrongAt (84, [some (.ref 47), some (.int p1), none, none, some (.int p4), none, some (.int p6), some (.int p7), none, none], [], (am_TT cu L, am_RR cu, σ)) r X' := by
  refine go_steps q_R_wrongAt kc_R_wrongAt 4 rfl ?_
  refine go_if (fun hb => ?_) (fun hb => ?_)
  · have hb : (σ 47 0) ≤ p7 := hb
    replace hv := hv.1 hb
    refine go_steps q_R_wrongAt kc_R_wrongAt 2 rfl ?_
    refine go_if (fun hb => ?_) (fun hb => ?_)
    · have hb : p6 = 0 := hb
      replace hv := hv.1 hb
      refine go_steps q_R_wrongAt kc_R_wrongAt 4 rfl ?_
      refine go_le (L1 := [some (.ref 47), some (.int p1), none, none, some (.int p4), none, some (.int p6), some (.int 0), some (.int 0), none]) (by repeat (first | exact trivial | refine ⟨rfl, ?_⟩)) ?_
      exact hv
    · have hb : ¬ (p6 = 0) := hb
      replace hv := hv.2 hb
      refine go_steps q_R_wrongAt kc_R_wrongAt 1 rfl ?_
      obtain ⟨rfl, rfl⟩ := hv
      exact go_retI q_R_wrongAt kc_R_wrongAt rfl rfl rfl
  · have hb : ¬ ((σ 47 0) ≤ p7) := hb
    replace hv := hv.2 hb
    refine go_steps q_R_wrongAt kc_R_wrongAt 3 rfl ?_
    obtain ⟨hc1, hv⟩ := hv
    refine go_baload q_R_wrongAt kc_R_wrongAt rfl rfl hc1 ?_
    refine go_steps q_R_wrongAt kc_R_wrongAt 1 rfl ?_
    refine go_if (fun hb => ?_) (fun hb => ?_)
    · have hb : (σ 56 (Int32.toNatClampNeg p7)) = 0 := hb
      replace hv := hv.1 hb
      refine go_steps q_R_wrongAt kc_R_wrongAt 2 rfl ?_
      refine go_le (L1 := [some (.ref 47), some (.int p1), none, none, some (.int p4), none, some (.int p6), some (.int (p7 + 1)), none, none]) (by repeat (first | exact trivial | refine ⟨rfl, ?_⟩)) ?_
      exact hv
    · have hb : ¬ ((σ 56 (Int32.toNatClampNeg p7)) = 0) := hb
      replace hv := hv.2 hb
      refine go_steps q_R_wrongAt kc_R_wrongAt 3 rfl ?_
      obtain ⟨r1, σ1, hg, hv⟩ := hv
      refine go_callV q_R_wrongAt kc_R_wrongAt rfl q_R_area am_k112 ⟨rfl, rfl, by decide⟩ rfl rfl (Nat.le_of_ble_eq_true rfl) (Nat.le_of_ble_eq_true rfl) rfl rfl hg ?_
      refine go_steps q_R_wrongAt kc_R_wrongAt 1 rfl ?_
      refine go_if (fun hb => ?_) (fun hb => ?_)
      · have hb : r1 ≤ 0 := hb
        replace hv := hv.1 hb
        refine go_steps q_R_wrongAt kc_R_wrongAt 2 rfl ?_
        refine go_le (L1 := [some (.ref 47), some (.int p1), none, none, some (.int p4), none, some (.int p6), some (.int (p7 + 1)), none, none]) (by repeat (first | exact trivial | refine ⟨rfl, ?_⟩)) ?_
        exact hv
      · have hb : ¬ (r1 ≤ 0) := hb
        replace hv := hv.2 hb
        refine go_steps q_R_wrongAt kc_R_wrongAt 4 rfl ?_
        obtain ⟨hc2, hv⟩ := hv
        refine go_iaload q_R_wrongAt kc_R_wrongAt rfl rfl hc2 ?_
        refine go_steps q_R_wrongAt kc_R_wrongAt 3 rfl ?_
        obtain ⟨hc3, hv⟩ := hv
        refine go_iaload q_R_wrongAt kc_R_wrongAt rfl rfl hc3 ?_
        refine go_steps q_R_wrongAt kc_R_wrongAt 3 rfl ?_
        obtain ⟨hc4, hv⟩ := hv
        refine go_iaload q_R_wrongAt kc_R_wrongAt rfl rfl hc4 ?_
        obtain ⟨r2, σ2, hg, hv⟩ := hv
        refine go_callS q_R_wrongAt kc_R_wrongAt rfl q_R_common am_k113 rfl rfl rfl (Nat.le_of_ble_eq_true rfl) (Nat.le_of_ble_eq_true rfl) hg ?_
        refine go_steps q_R_wrongAt kc_R_wrongAt 1 rfl ?_
        refine go_if (fun hb => ?_) (fun hb => ?_)
        · have hb : r2 ≤ 0 := hb
          replace hv := hv.1 hb
          refine go_steps q_R_wrongAt kc_R_wrongAt 2 rfl ?_
          refine go_le (L1 := [some (.ref 47), some (.int p1), none, none, some (.int p4), none, some (.int p6), some (.int (p7 + 1)), none, none]) (by repeat (first | exact trivial | refine ⟨rfl, ?_⟩)) ?_
          exact hv
        · have hb : ¬ (r2 ≤ 0) := hb
          replace hv := hv.2 hb
          refine go_steps q_R_wrongAt kc_R_wrongAt 6 rfl ?_
          refine go_le (L1 := [some (.ref 47), some (.int p1), none, none, some (.int p4), none, some (.int (p6 ||| 2)), some (.int (p7 + 1)), none, none]) (by repeat (first | exact trivial | refine ⟨rfl, ?_⟩)) ?_
          exact hv
set_option maxHeartbeats 4000000 in
set_option maxRecDepth 100000 in
theorem v_R_wrongAt_167 {l : Launch} {D : va_G} {DA : Nat → ClassId} {b sz d L : Nat} {cu : Bool} {σ : Nat → Nat → Int32} {r : Option Value} {X' : am_X} (p1 : Int32) (p4 : Int32) (p6 : Int32) (p7 : Int32) (p8 : Int32)
    (hv : (((σ 47 0) ≤ p8) → (((p4 ≤ 0) → (am_Go l D DA b sz (d + 1) M_R_wrongAt (232, [some (.ref 47), some (.int p1), none, none, none, none, some (.int p6), none, some (.int 0), none], [], (am_TT cu L, am_RR cu, σ)) r X')) ∧ (¬ (p4 ≤ 0) → (∃ (r1 : Int32) (σ1 : Nat → Nat → Int32), am_Go l D DA b sz d M_R_longOf (0, [some (.ref 47), some (.int p1)], [], (am_TT cu L, am_RR cu, σ)) (some (.int r1)) (am_TT cu L, am_RR cu, σ1) ∧ ((∃ (r2 : Int32) (σ2 : Nat → Nat → Int32), am_Go l D DA b sz d M_R_wideOf (0, [some (.ref 47), some (.int p1)], [], (am_TT cu L, am_RR cu, σ1)) (some (.int r2)) (am_TT cu L, am_RR cu, σ2) ∧ ((((((σ 47 17) * r1) * r2) ≤ (100 * p7)) → (am_Go l D DA b sz (d + 1) M_R_wrongAt (232, [some (.ref 47), some (.int p1), none, none, none, none, some (.int p6), none, some (.int 0), none], [], (am_TT cu L, am_RR cu, σ2)) r X')) ∧ (¬ ((((σ 47 17) * r1) * r2) ≤ (100 * p7)) → (am_Go l D DA b sz (d + 1) M_R_wrongAt (232, [some (.ref 47), some (.int p1), none, none, none, none, some (.int (p6 ||| 4)), none, some (.int 0), none], [], (am_TT cu L, am_RR cu, σ2)) r X'))))))))) ∧ (¬ ((σ 47 0) ≤ p8) → (∃ (r3 : Int32) (σ3 : Nat → Nat → Int32), am_Go l D DA b sz d M_R_stands (0, [some (.ref 47), some (.int p1), some (.int p8)], [], (am_TT cu L, am_RR cu, σ)) (some (.int r3)) (am_TT cu L, am_RR cu, σ3) ∧ (am_Go l D DA b sz (d + 1) M_R_wrongAt (167, [some (.ref 47), some (.int p1), none, none, some (.int p4), none, some (.int p6), some (.int (p7 + r3)), some (.int (p8 + 1)), none], [], (am_TT cu L, am_RR cu, σ3)) r X')))) :
    am_Go l D DA b sz (d + 1) M_R_wrongAt (167, [some (.ref 47), some (.int p1), none, none, some (.int p4), none, some (.int p6), some (.int p7), some (.int p8), none], [], (am_TT cu L, am_RR cu, σ)) r X' := by
  refine go_steps q_R_wrongAt kc_R_wrongAt 4 rfl ?_
  refine go_if (fun hb => ?_) (fun hb => ?_)
  · have hb : (σ 47 0) ≤ p8 := hb
    replace hv := hv.1 hb
    refine go_steps q_R_wrongAt kc_R_wrongAt 2 rfl ?_
    refine go_if (fun hb => ?_) (fun hb => ?_)
    · have hb : p4 ≤ 0 := hb
      replace hv := hv.1 hb
      refine go_steps q_R_wrongAt kc_R_wrongAt 2 rfl ?_
      refine go_le (L1 := [some (.ref 47), some (.int p1), none, none, none, none, some (.int p6), none, some (.int 0), none]) (by repeat (first | exact trivial | refine ⟨rfl, ?_⟩)) ?_
      exact hv
    · have hb : ¬ (p4 ≤ 0) := hb
      replace hv := hv.2 hb
      refine go_steps q_R_wrongAt kc_R_wrongAt 7 rfl ?_
      obtain ⟨r1, σ1, hg, hv⟩ := hv
      refine go_callV q_R_wrongAt kc_R_wrongAt rfl q_R_longOf am_k110 ⟨rfl, rfl, by decide⟩ rfl rfl (Nat.le_of_ble_eq_true rfl) (Nat.le_of_ble_eq_true rfl) rfl rfl hg ?_
      refine go_steps q_R_wrongAt kc_R_wrongAt 3 rfl ?_
      obtain ⟨r2, σ2, hg, hv⟩ := hv
      refine go_callV q_R_wrongAt kc_R_wrongAt rfl q_R_wideOf am_k111 ⟨rfl, rfl, by decide⟩ rfl rfl (Nat.le_of_ble_eq_true rfl) (Nat.le_of_ble_eq_true rfl) rfl rfl hg ?_
      refine go_steps q_R_wrongAt kc_R_wrongAt 2 rfl ?_
      refine go_if (fun hb => ?_) (fun hb => ?_)
      · have hb : (((σ 47 17) * r1) * r2) ≤ (100 * p7) := hb
        replace hv := hv.1 hb
        refine go_steps q_R_wrongAt kc_R_wrongAt 2 rfl ?_
        refine go_le (L1 := [some (.ref 47), some (.int p1), none, none, none, none, some (.int p6), none, some (.int 0), none]) (by repeat (first | exact trivial | refine ⟨rfl, ?_⟩)) ?_
        exact hv
      · have hb : ¬ ((((σ 47 17) * r1) * r2) ≤ (100 * p7)) := hb
        replace hv := hv.2 hb
        refine go_steps q_R_wrongAt kc_R_wrongAt 6 rfl ?_
        refine go_le (L1 := [some (.ref 47), some (.int p1), none, none, none, none, some (.int (p6 ||| 4)), none, some (.int 0), none]) (by repeat (first | exact trivial | refine ⟨rfl, ?_⟩)) ?_
        exact hv
  · have hb : ¬ ((σ 47 0) ≤ p8) := hb
    replace hv := hv.2 hb
    refine go_steps q_R_wrongAt kc_R_wrongAt 4 rfl ?_
    obtain ⟨r3, σ3, hg, hv⟩ := hv
    refine go_callV q_R_wrongAt kc_R_wrongAt rfl q_R_stands am_k114 ⟨rfl, rfl, by decide⟩ rfl rfl (Nat.le_of_ble_eq_true rfl) (Nat.le_of_ble_eq_true rfl) rfl rfl hg ?_
    refine go_steps q_R_wrongAt kc_R_wrongAt 4 rfl ?_
    refine go_le (L1 := [some (.ref 47), some (.int p1), none, none, some (.int p4), none, some (.int p6), some (.int (p7 + r3)), some (.int (p8 + 1)), none]) (by repeat (first | exact trivial | refine ⟨rfl, ?_⟩)) ?_
    exact hv
set_option maxHeartbeats 4000000 in
set_option maxRecDepth 100000 in
theorem v_R_wrongAt_232 {l : Launch} {D : va_G} {DA : Nat → ClassId} {b sz d L : Nat} {cu : Bool} {σ : Nat → Nat → Int32} {r : Option Value} {X' : am_X} (p1 : Int32) (p6 : Int32) (p8 : Int32)
    (hv : (((σ 47 0) ≤ p8) → ((((p6 &&& 4) = 0) → ((¬ (p1 < 0 ∨ 20 ≤ Int32.toNatClampNeg p1)) ∧ (∃ (σ1 : Nat → Nat → Int32), am_Go l D DA b sz d M_R_makeLoads (0, [some (.ref 47), none, none, none, none, none, none, none], [], (am_TT cu L, am_RR cu, am_us σ 56 (Int32.toNatClampNeg p1) 1)) none (am_TT cu L, am_RR cu, σ1) ∧ ((¬ (p1 < 0 ∨ 20 ≤ Int32.toNatClampNeg p1)) ∧ ((¬ (p1 < 0 ∨ 20 ≤ Int32.toNatClampNeg p1)) ∧ ((¬ (p1 < 0 ∨ 20 ≤ Int32.toNatClampNeg p1)) ∧ (am_Go l D DA b sz (d + 1) M_R_wrongAt (327, [some (.ref 47), none, none, none, none, none, some (.int p6), none, some (.int (if (σ1 61 (Int32.toNatClampNeg p1)) ≤ (σ1 52 (Int32.toNatClampNeg p1)) then 0 else 1 : Int32)), some (.int 0)], [], (am_TT cu L, am_RR cu, am_us σ1 56 (Int32.toNatClampNeg p1) 0)) r X'))))))) ∧ (¬ ((p6 &&& 4) = 0) → (r = some (.int p6) ∧ X' = (am_TT cu L, am_RR cu, σ))))) ∧ (¬ ((σ 47 0) ≤ p8) → ((¬ (p8 < 0 ∨ 20 ≤ Int32.toNatClampNeg p8)) ∧ ((((σ 56 (Int32.toNatClampNeg p8)) = 0) → (am_Go l D DA b sz (d + 1) M_R_wrongAt (232, [some (.ref 47), some (.int p1), none, none, none, none, some (.int p6), none, some (.int (p8 + 1)), none], [], (am_TT cu L, am_RR cu, σ)) r X')) ∧ (¬ ((σ 56 (Int32.toNatClampNeg p8)) = 0) → (∃ (r2 : Int32) (σ2 : Nat → Nat → Int32), am_Go l D DA b sz d M_R_isInWay (0, [some (.ref 47), some (.int p1), some (.int p8), none, none, none, none], [], (am_TT cu L, am_RR cu, σ)) (some (.int r2)) (am_TT cu L, am_RR cu, σ2) ∧ (((r2 = 0) → (am_Go l D DA b sz (d + 1) M_R_wrongAt (232, [some (.ref 47), some (.int p1), none, none, none, none, some (.int p6), none, some (.int (p8 + 1)), none], [], (am_TT cu L, am_RR cu, σ2)) r X')) ∧ (¬ (r2 = 0) → (am_Go l D DA b sz (d + 1) M_R_wrongAt (232, [some (.ref 47), some (.int p1), none, none, none, none, some (.int (p6 ||| 16)), none, some (.int (p8 + 1)), none], [], (am_TT cu L, am_RR cu, σ2)) r X'))))))))) :
    am_Go l D DA b sz (d + 1) M_R_wrongAt (232, [some (.ref 47), some (.int p1), none, none, none, none, some (.int p6), none, some (.int p8), none], [], (am_TT cu L, am_RR cu, σ)) r X' := by
  refine go_steps q_R_wrongAt kc_R_wrongAt 4 rfl ?_
  refine go_if (fun hb => ?_) (fun hb => ?_)
  · have hb : (σ 47 0) ≤ p8 := hb
    replace hv := hv.1 hb
    refine go_steps q_R_wrongAt kc_R_wrongAt 4 rfl ?_
    refine go_if (fun hb => ?_) (fun hb => ?_)
    · have hb : (p6 &&& 4) = 0 := hb
      replace hv := hv.1 hb
      refine go_steps q_R_wrongAt kc_R_wrongAt 4 rfl ?_
      obtain ⟨hc, hv⟩ := hv
      refine go_bastore q_R_wrongAt kc_R_wrongAt rfl rfl hc (Or.inr rfl) ?_
      refine go_steps q_R_wrongAt kc_R_wrongAt 1 rfl ?_
      obtain ⟨σ1, hg, hv⟩ := hv
      refine go_callV q_R_wrongAt kc_R_wrongAt rfl q_R_makeLoads am_k117 ⟨rfl, rfl, by decide⟩ rfl rfl (Nat.le_of_ble_eq_true rfl) (Nat.le_of_ble_eq_true rfl) rfl rfl hg ?_
      refine go_steps q_R_wrongAt kc_R_wrongAt 4 rfl ?_
      obtain ⟨hc, hv⟩ := hv
      refine go_bastore q_R_wrongAt kc_R_wrongAt rfl rfl hc (Or.inl rfl) ?_
      refine go_steps q_R_wrongAt kc_R_wrongAt 3 rfl ?_
      obtain ⟨hc1, hv⟩ := hv
      refine go_iaload q_R_wrongAt kc_R_wrongAt rfl rfl hc1 ?_
      refine go_steps q_R_wrongAt kc_R_wrongAt 3 rfl ?_
      obtain ⟨hc2, hv⟩ := hv
      refine go_iaload q_R_wrongAt kc_R_wrongAt rfl rfl hc2 ?_
      refine go_steps q_R_wrongAt kc_R_wrongAt 1 rfl ?_
      have key : am_Go l D DA b sz (d + 1) M_R_wrongAt (322, [some (.ref 47), some (.int p1), none, none, none, none, some (.int p6), none, some (.int p8), none], [.int (if (σ1 61 (Int32.toNatClampNeg p1)) ≤ (σ1 52 (Int32.toNatClampNeg p1)) then 0 else 1 : Int32)], (am_TT cu L, am_RR cu, am_us σ1 56 (Int32.toNatClampNeg p1) 0)) r X' := by
        refine go_steps q_R_wrongAt kc_R_wrongAt 3 rfl ?_
        refine go_le (L1 := [some (.ref 47), none, none, none, none, none, some (.int p6), none, some (.int (if (σ1 61 (Int32.toNatClampNeg p1)) ≤ (σ1 52 (Int32.toNatClampNeg p1)) then 0 else 1 : Int32)), some (.int 0)]) (by repeat (first | exact trivial | refine ⟨rfl, ?_⟩)) ?_
        exact hv
      refine go_if (fun hb => ?_) (fun hb => ?_)
      · have hb : (σ1 61 (Int32.toNatClampNeg p1)) ≤ (σ1 52 (Int32.toNatClampNeg p1)) := hb
        rw [show (if (σ1 61 (Int32.toNatClampNeg p1)) ≤ (σ1 52 (Int32.toNatClampNeg p1)) then 0 else 1 : Int32) = 0 from if_pos hb] at key
        refine go_steps q_R_wrongAt kc_R_wrongAt 1 rfl ?_
        exact key
      · have hb : ¬ ((σ1 61 (Int32.toNatClampNeg p1)) ≤ (σ1 52 (Int32.toNatClampNeg p1))) := hb
        rw [show (if (σ1 61 (Int32.toNatClampNeg p1)) ≤ (σ1 52 (Int32.toNatClampNeg p1)) then 0 else 1 : Int32) = 1 from if_neg hb] at key
        refine go_steps q_R_wrongAt kc_R_wrongAt 2 rfl ?_
        exact key
    · have hb : ¬ ((p6 &&& 4) = 0) := hb
      replace hv := hv.2 hb
      refine go_steps q_R_wrongAt kc_R_wrongAt 1 rfl ?_
      obtain ⟨rfl, rfl⟩ := hv
      exact go_retI q_R_wrongAt kc_R_wrongAt rfl rfl rfl
  · have hb : ¬ ((σ 47 0) ≤ p8) := hb
    replace hv := hv.2 hb
    refine go_steps q_R_wrongAt kc_R_wrongAt 3 rfl ?_
    obtain ⟨hc3, hv⟩ := hv
    refine go_baload q_R_wrongAt kc_R_wrongAt rfl rfl hc3 ?_
    refine go_steps q_R_wrongAt kc_R_wrongAt 1 rfl ?_
    refine go_if (fun hb => ?_) (fun hb => ?_)
    · have hb : (σ 56 (Int32.toNatClampNeg p8)) = 0 := hb
      replace hv := hv.1 hb
      refine go_steps q_R_wrongAt kc_R_wrongAt 2 rfl ?_
      refine go_le (L1 := [some (.ref 47), some (.int p1), none, none, none, none, some (.int p6), none, some (.int (p8 + 1)), none]) (by repeat (first | exact trivial | refine ⟨rfl, ?_⟩)) ?_
      exact hv
    · have hb : ¬ ((σ 56 (Int32.toNatClampNeg p8)) = 0) := hb
      replace hv := hv.2 hb
      refine go_steps q_R_wrongAt kc_R_wrongAt 3 rfl ?_
      obtain ⟨r2, σ2, hg, hv⟩ := hv
      refine go_callV q_R_wrongAt kc_R_wrongAt rfl q_R_isInWay am_k116 ⟨rfl, rfl, by decide⟩ rfl rfl (Nat.le_of_ble_eq_true rfl) (Nat.le_of_ble_eq_true rfl) rfl rfl hg ?_
      refine go_steps q_R_wrongAt kc_R_wrongAt 1 rfl ?_
      refine go_if (fun hb => ?_) (fun hb => ?_)
      · have hb : r2 = 0 := hb
        replace hv := hv.1 hb
        refine go_steps q_R_wrongAt kc_R_wrongAt 2 rfl ?_
        refine go_le (L1 := [some (.ref 47), some (.int p1), none, none, none, none, some (.int p6), none, some (.int (p8 + 1)), none]) (by repeat (first | exact trivial | refine ⟨rfl, ?_⟩)) ?_
        exact hv
      · have hb : ¬ (r2 = 0) := hb
        replace hv := hv.2 hb
        refine go_steps q_R_wrongAt kc_R_wrongAt 6 rfl ?_
        refine go_le (L1 := [some (.ref 47), some (.int p1), none, none, none, none, some (.int (p6 ||| 16)), none, some (.int (p8 + 1)), none]) (by repeat (first | exact trivial | refine ⟨rfl, ?_⟩)) ?_
        exact hv
set_option maxHeartbeats 4000000 in
set_option maxRecDepth 100000 in
theorem v_R_wrongAt_327 {l : Launch} {D : va_G} {DA : Nat → ClassId} {b sz d L : Nat} {cu : Bool} {σ : Nat → Nat → Int32} {r : Option Value} {X' : am_X} (p6 : Int32) (p8 : Int32) (p9 : Int32)
    (hv : (((σ 47 0) ≤ p9) → (r = some (.int (if p8 = 0 then p6 else p6 ||| 8 : Int32)) ∧ X' = (am_TT cu L, am_RR cu, σ))) ∧ (¬ ((σ 47 0) ≤ p9) → (((p8 = 0) → ((¬ (p9 < 0 ∨ 20 ≤ Int32.toNatClampNeg p9)) ∧ ((((σ 56 (Int32.toNatClampNeg p9)) = 0) → (am_Go l D DA b sz (d + 1) M_R_wrongAt (327, [some (.ref 47), none, none, none, none, none, some (.int p6), none, some (.int 0), some (.int (p9 + 1))], [], (am_TT cu L, am_RR cu, σ)) r X')) ∧ (¬ ((σ 56 (Int32.toNatClampNeg p9)) = 0) → ((¬ (p9 < 0 ∨ 20 ≤ Int32.toNatClampNeg p9)) ∧ ((¬ (p9 < 0 ∨ 20 ≤ Int32.toNatClampNeg p9)) ∧ (am_Go l D DA b sz (d + 1) M_R_wrongAt (327, [some (.ref 47), none, none, none, none, none, some (.int p6), none, some (.int (if (σ 61 (Int32.toNatClampNeg p9)) ≤ (σ 52 (Int32.toNatClampNeg p9)) then 0 else 1 : Int32)), some (.int (p9 + 1))], [], (am_TT cu L, am_RR cu, σ)) r X'))))))) ∧ (¬ (p8 = 0) → (am_Go l D DA b sz (d + 1) M_R_wrongAt (327, [some (.ref 47), none, none, none, none, none, some (.int p6), none, some (.int 1), some (.int (p9 + 1))], [], (am_TT cu L, am_RR cu, σ)) r X'))))) :
    am_Go l D DA b sz (d + 1) M_R_wrongAt (327, [some (.ref 47), none, none, none, none, none, some (.int p6), none, some (.int p8), some (.int p9)], [], (am_TT cu L, am_RR cu, σ)) r X' := by
  refine go_steps q_R_wrongAt kc_R_wrongAt 4 rfl ?_
  refine go_if (fun hb => ?_) (fun hb => ?_)
  · have hb : (σ 47 0) ≤ p9 := hb
    replace hv := hv.1 hb
    refine go_steps q_R_wrongAt kc_R_wrongAt 2 rfl ?_
    have key : am_Go l D DA b sz (d + 1) M_R_wrongAt (396, [some (.ref 47), none, none, none, none, none, some (.int p6), none, some (.int p8), some (.int p9)], [.int (if p8 = 0 then p6 else p6 ||| 8 : Int32)], (am_TT cu L, am_RR cu, σ)) r X' := by
      obtain ⟨rfl, rfl⟩ := hv
      exact go_retI q_R_wrongAt kc_R_wrongAt rfl rfl rfl
    refine go_if (fun hb => ?_) (fun hb => ?_)
    · have hb : p8 = 0 := hb
      rw [show (if p8 = 0 then p6 else p6 ||| 8 : Int32) = p6 from if_pos hb] at key
      refine go_steps q_R_wrongAt kc_R_wrongAt 1 rfl ?_
      exact key
    · have hb : ¬ (p8 = 0) := hb
      rw [show (if p8 = 0 then p6 else p6 ||| 8 : Int32) = (p6 ||| 8) from if_neg hb] at key
      refine go_steps q_R_wrongAt kc_R_wrongAt 4 rfl ?_
      exact key
  · have hb : ¬ ((σ 47 0) ≤ p9) := hb
    replace hv := hv.2 hb
    refine go_steps q_R_wrongAt kc_R_wrongAt 2 rfl ?_
    refine go_if (fun hb => ?_) (fun hb => ?_)
    · have hb : p8 = 0 := hb
      replace hv := hv.1 hb
      refine go_steps q_R_wrongAt kc_R_wrongAt 3 rfl ?_
      obtain ⟨hc1, hv⟩ := hv
      refine go_baload q_R_wrongAt kc_R_wrongAt rfl rfl hc1 ?_
      refine go_steps q_R_wrongAt kc_R_wrongAt 1 rfl ?_
      refine go_if (fun hb => ?_) (fun hb => ?_)
      · have hb : (σ 56 (Int32.toNatClampNeg p9)) = 0 := hb
        replace hv := hv.1 hb
        refine go_steps q_R_wrongAt kc_R_wrongAt 4 rfl ?_
        refine go_le (L1 := [some (.ref 47), none, none, none, none, none, some (.int p6), none, some (.int 0), some (.int (p9 + 1))]) (by repeat (first | exact trivial | refine ⟨rfl, ?_⟩)) ?_
        exact hv
      · have hb : ¬ ((σ 56 (Int32.toNatClampNeg p9)) = 0) := hb
        replace hv := hv.2 hb
        refine go_steps q_R_wrongAt kc_R_wrongAt 3 rfl ?_
        obtain ⟨hc2, hv⟩ := hv
        refine go_iaload q_R_wrongAt kc_R_wrongAt rfl rfl hc2 ?_
        refine go_steps q_R_wrongAt kc_R_wrongAt 3 rfl ?_
        obtain ⟨hc3, hv⟩ := hv
        refine go_iaload q_R_wrongAt kc_R_wrongAt rfl rfl hc3 ?_
        refine go_steps q_R_wrongAt kc_R_wrongAt 1 rfl ?_
        have key : am_Go l D DA b sz (d + 1) M_R_wrongAt (373, [some (.ref 47), none, none, none, none, none, some (.int p6), none, some (.int p8), some (.int p9)], [.int (if (σ 61 (Int32.toNatClampNeg p9)) ≤ (σ 52 (Int32.toNatClampNeg p9)) then 0 else 1 : Int32)], (am_TT cu L, am_RR cu, σ)) r X' := by
          refine go_steps q_R_wrongAt kc_R_wrongAt 3 rfl ?_
          refine go_le (L1 := [some (.ref 47), none, none, none, none, none, some (.int p6), none, some (.int (if (σ 61 (Int32.toNatClampNeg p9)) ≤ (σ 52 (Int32.toNatClampNeg p9)) then 0 else 1 : Int32)), some (.int (p9 + 1))]) (by repeat (first | exact trivial | refine ⟨rfl, ?_⟩)) ?_
          exact hv
        refine go_if (fun hb => ?_) (fun hb => ?_)
        · have hb : (σ 61 (Int32.toNatClampNeg p9)) ≤ (σ 52 (Int32.toNatClampNeg p9)) := hb
          rw [show (if (σ 61 (Int32.toNatClampNeg p9)) ≤ (σ 52 (Int32.toNatClampNeg p9)) then 0 else 1 : Int32) = 0 from if_pos hb] at key
          refine go_steps q_R_wrongAt kc_R_wrongAt 1 rfl ?_
          exact key
        · have hb : ¬ ((σ 61 (Int32.toNatClampNeg p9)) ≤ (σ 52 (Int32.toNatClampNeg p9))) := hb
          rw [show (if (σ 61 (Int32.toNatClampNeg p9)) ≤ (σ 52 (Int32.toNatClampNeg p9)) then 0 else 1 : Int32) = 1 from if_neg hb] at key
          refine go_steps q_R_wrongAt kc_R_wrongAt 2 rfl ?_
          exact key
    · have hb : ¬ (p8 = 0) := hb
      replace hv := hv.2 hb
      refine go_steps q_R_wrongAt kc_R_wrongAt 5 rfl ?_
      refine go_le (L1 := [some (.ref 47), none, none, none, none, none, some (.int p6), none, some (.int 1), some (.int (p9 + 1))]) (by repeat (first | exact trivial | refine ⟨rfl, ?_⟩)) ?_
      exact hv
set_option maxHeartbeats 4000000 in
set_option maxRecDepth 100000 in
theorem v_R_longOf_0 {l : Launch} {D : va_G} {DA : Nat → ClassId} {b sz d L : Nat} {cu : Bool} {σ : Nat → Nat → Int32} {r : Option Value} {X' : am_X} (p1 : Int32)
    (hv : (¬ (p1 < 0 ∨ 20 ≤ Int32.toNatClampNeg p1)) ∧ ((((σ 60 (Int32.toNatClampNeg p1)) = 0) → ((¬ (p1 < 0 ∨ 20 ≤ Int32.toNatClampNeg p1)) ∧ (r = some (.int (σ 48 (Int32.toNatClampNeg p1))) ∧ X' = (am_TT cu L, am_RR cu, σ)))) ∧ (¬ ((σ 60 (Int32.toNatClampNeg p1)) = 0) → ((¬ (p1 < 0 ∨ 20 ≤ Int32.toNatClampNeg p1)) ∧ (r = some (.int (σ 49 (Int32.toNatClampNeg p1))) ∧ X' = (am_TT cu L, am_RR cu, σ)))))) :
    am_Go l D DA b sz d M_R_longOf (0, [some (.ref 47), some (.int p1)], [], (am_TT cu L, am_RR cu, σ)) r X' := by
  refine go_steps q_R_longOf kc_R_longOf 3 rfl ?_
  obtain ⟨hc1, hv⟩ := hv
  refine go_baload q_R_longOf kc_R_longOf rfl rfl hc1 ?_
  refine go_steps q_R_longOf kc_R_longOf 1 rfl ?_
  refine go_if (fun hb => ?_) (fun hb => ?_)
  · have hb : (σ 60 (Int32.toNatClampNeg p1)) = 0 := hb
    replace hv := hv.1 hb
    refine go_steps q_R_longOf kc_R_longOf 3 rfl ?_
    obtain ⟨hc2, hv⟩ := hv
    refine go_iaload q_R_longOf kc_R_longOf rfl rfl hc2 ?_
    obtain ⟨rfl, rfl⟩ := hv
    exact go_retI q_R_longOf kc_R_longOf rfl rfl rfl
  · have hb : ¬ ((σ 60 (Int32.toNatClampNeg p1)) = 0) := hb
    replace hv := hv.2 hb
    refine go_steps q_R_longOf kc_R_longOf 3 rfl ?_
    obtain ⟨hc3, hv⟩ := hv
    refine go_iaload q_R_longOf kc_R_longOf rfl rfl hc3 ?_
    refine go_steps q_R_longOf kc_R_longOf 1 rfl ?_
    obtain ⟨rfl, rfl⟩ := hv
    exact go_retI q_R_longOf kc_R_longOf rfl rfl rfl
set_option maxHeartbeats 4000000 in
set_option maxRecDepth 100000 in
theorem v_R_wideOf_0 {l : Launch} {D : va_G} {DA : Nat → ClassId} {b sz d L : Nat} {cu : Bool} {σ : Nat → Nat → Int32} {r : Option Value} {X' : am_X} (p1 : Int32)
    (hv : (¬ (p1 < 0 ∨ 20 ≤ Int32.toNatClampNeg p1)) ∧ ((((σ 60 (Int32.toNatClampNeg p1)) = 0) → ((¬ (p1 < 0 ∨ 20 ≤ Int32.toNatClampNeg p1)) ∧ (r = some (.int (σ 49 (Int32.toNatClampNeg p1))) ∧ X' = (am_TT cu L, am_RR cu, σ)))) ∧ (¬ ((σ 60 (Int32.toNatClampNeg p1)) = 0) → ((¬ (p1 < 0 ∨ 20 ≤ Int32.toNatClampNeg p1)) ∧ (r = some (.int (σ 48 (Int32.toNatClampNeg p1))) ∧ X' = (am_TT cu L, am_RR cu, σ)))))) :
    am_Go l D DA b sz d M_R_wideOf (0, [some (.ref 47), some (.int p1)], [], (am_TT cu L, am_RR cu, σ)) r X' := by
  refine go_steps q_R_wideOf kc_R_wideOf 3 rfl ?_
  obtain ⟨hc1, hv⟩ := hv
  refine go_baload q_R_wideOf kc_R_wideOf rfl rfl hc1 ?_
  refine go_steps q_R_wideOf kc_R_wideOf 1 rfl ?_
  refine go_if (fun hb => ?_) (fun hb => ?_)
  · have hb : (σ 60 (Int32.toNatClampNeg p1)) = 0 := hb
    replace hv := hv.1 hb
    refine go_steps q_R_wideOf kc_R_wideOf 3 rfl ?_
    obtain ⟨hc2, hv⟩ := hv
    refine go_iaload q_R_wideOf kc_R_wideOf rfl rfl hc2 ?_
    obtain ⟨rfl, rfl⟩ := hv
    exact go_retI q_R_wideOf kc_R_wideOf rfl rfl rfl
  · have hb : ¬ ((σ 60 (Int32.toNatClampNeg p1)) = 0) := hb
    replace hv := hv.2 hb
    refine go_steps q_R_wideOf kc_R_wideOf 3 rfl ?_
    obtain ⟨hc3, hv⟩ := hv
    refine go_iaload q_R_wideOf kc_R_wideOf rfl rfl hc3 ?_
    refine go_steps q_R_wideOf kc_R_wideOf 1 rfl ?_
    obtain ⟨rfl, rfl⟩ := hv
    exact go_retI q_R_wideOf kc_R_wideOf rfl rfl rfl
set_option maxHeartbeats 4000000 in
set_option maxRecDepth 100000 in
theorem v_R_area_0 {l : Launch} {D : va_G} {DA : Nat → ClassId} {b sz d L : Nat} {cu : Bool} {σ : Nat → Nat → Int32} {r : Option Value} {X' : am_X} (p1 : Int32) (p2 : Int32)
    (hv : (¬ (p1 < 0 ∨ 20 ≤ Int32.toNatClampNeg p1)) ∧ (∃ (r1 : Int32) (σ1 : Nat → Nat → Int32), am_Go l D DA b sz d M_R_longOf (0, [some (.ref 47), some (.int p1)], [], (am_TT cu L, am_RR cu, σ)) (some (.int r1)) (am_TT cu L, am_RR cu, σ1) ∧ ((¬ (p2 < 0 ∨ 20 ≤ Int32.toNatClampNeg p2)) ∧ (∃ (r2 : Int32) (σ2 : Nat → Nat → Int32), am_Go l D DA b sz d M_R_longOf (0, [some (.ref 47), some (.int p2)], [], (am_TT cu L, am_RR cu, σ1)) (some (.int r2)) (am_TT cu L, am_RR cu, σ2) ∧ ((∃ (r3 : Int32) (σ3 : Nat → Nat → Int32), am_Go l D DA b sz d M_R_common (0, [some (.int (σ 57 (Int32.toNatClampNeg p1))), some (.int r1), some (.int (σ1 57 (Int32.toNatClampNeg p2))), some (.int r2), none, none], [], (am_TT cu L, am_RR cu, σ2)) (some (.int r3)) (am_TT cu L, am_RR cu, σ3) ∧ ((¬ (p1 < 0 ∨ 20 ≤ Int32.toNatClampNeg p1)) ∧ (∃ (r4 : Int32) (σ4 : Nat → Nat → Int32), am_Go l D DA b sz d M_R_wideOf (0, [some (.ref 47), some (.int p1)], [], (am_TT cu L, am_RR cu, σ3)) (some (.int r4)) (am_TT cu L, am_RR cu, σ4) ∧ ((¬ (p2 < 0 ∨ 20 ≤ Int32.toNatClampNeg p2)) ∧ (∃ (r5 : Int32) (σ5 : Nat → Nat → Int32), am_Go l D DA b sz d M_R_wideOf (0, [some (.ref 47), some (.int p2)], [], (am_TT cu L, am_RR cu, σ4)) (some (.int r5)) (am_TT cu L, am_RR cu, σ5) ∧ ((∃ (r6 : Int32) (σ6 : Nat → Nat → Int32), am_Go l D DA b sz d M_R_common (0, [some (.int (σ3 58 (Int32.toNatClampNeg p1))), some (.int r4), some (.int (σ4 58 (Int32.toNatClampNeg p2))), some (.int r5), none, none], [], (am_TT cu L, am_RR cu, σ5)) (some (.int r6)) (am_TT cu L, am_RR cu, σ6) ∧ (r = some (.int (r3 * r6)) ∧ X' = (am_TT cu L, am_RR cu, σ6)))))))))))))) :
    am_Go l D DA b sz (d + 1) M_R_area (0, [some (.ref 47), some (.int p1), some (.int p2)], [], (am_TT cu L, am_RR cu, σ)) r X' := by
  refine go_steps q_R_area kc_R_area 3 rfl ?_
  obtain ⟨hc1, hv⟩ := hv
  refine go_iaload q_R_area kc_R_area rfl rfl hc1 ?_
  refine go_steps q_R_area kc_R_area 2 rfl ?_
  obtain ⟨r1, σ1, hg, hv⟩ := hv
  refine go_callV q_R_area kc_R_area rfl q_R_longOf am_k110 ⟨rfl, rfl, by decide⟩ rfl rfl (Nat.le_of_ble_eq_true rfl) (Nat.le_of_ble_eq_true rfl) rfl rfl hg ?_
  refine go_steps q_R_area kc_R_area 3 rfl ?_
  obtain ⟨hc2, hv⟩ := hv
  refine go_iaload q_R_area kc_R_area rfl rfl hc2 ?_
  refine go_steps q_R_area kc_R_area 2 rfl ?_
  obtain ⟨r2, σ2, hg, hv⟩ := hv
  refine go_callV q_R_area kc_R_area rfl q_R_longOf am_k110 ⟨rfl, rfl, by decide⟩ rfl rfl (Nat.le_of_ble_eq_true rfl) (Nat.le_of_ble_eq_true rfl) rfl rfl hg ?_
  obtain ⟨r3, σ3, hg, hv⟩ := hv
  refine go_callS q_R_area kc_R_area rfl q_R_common am_k113 rfl rfl rfl (Nat.le_of_ble_eq_true rfl) (Nat.le_of_ble_eq_true rfl) hg ?_
  refine go_steps q_R_area kc_R_area 3 rfl ?_
  obtain ⟨hc3, hv⟩ := hv
  refine go_iaload q_R_area kc_R_area rfl rfl hc3 ?_
  refine go_steps q_R_area kc_R_area 2 rfl ?_
  obtain ⟨r4, σ4, hg, hv⟩ := hv
  refine go_callV q_R_area kc_R_area rfl q_R_wideOf am_k111 ⟨rfl, rfl, by decide⟩ rfl rfl (Nat.le_of_ble_eq_true rfl) (Nat.le_of_ble_eq_true rfl) rfl rfl hg ?_
  refine go_steps q_R_area kc_R_area 3 rfl ?_
  obtain ⟨hc4, hv⟩ := hv
  refine go_iaload q_R_area kc_R_area rfl rfl hc4 ?_
  refine go_steps q_R_area kc_R_area 2 rfl ?_
  obtain ⟨r5, σ5, hg, hv⟩ := hv
  refine go_callV q_R_area kc_R_area rfl q_R_wideOf am_k111 ⟨rfl, rfl, by decide⟩ rfl rfl (Nat.le_of_ble_eq_true rfl) (Nat.le_of_ble_eq_true rfl) rfl rfl hg ?_
  obtain ⟨r6, σ6, hg, hv⟩ := hv
  refine go_callS q_R_area kc_R_area rfl q_R_common am_k113 rfl rfl rfl (Nat.le_of_ble_eq_true rfl) (Nat.le_of_ble_eq_true rfl) hg ?_
  refine go_steps q_R_area kc_R_area 1 rfl ?_
  obtain ⟨rfl, rfl⟩ := hv
  exact go_retI q_R_area kc_R_area rfl rfl rfl
set_option maxHeartbeats 4000000 in
set_option maxRecDepth 100000 in
theorem v_R_common_0 {l : Launch} {D : va_G} {DA : Nat → ClassId} {b sz d L : Nat} {cu : Bool} {σ : Nat → Nat → Int32} {r : Option Value} {X' : am_X} (p0 : Int32) (p1 : Int32) (p2 : Int32) (p3 : Int32)
    (hv : r = some (.int (if (if (p2 + p3) ≤ (p0 + p1) then p2 + p3 else p0 + p1 : Int32) ≤ (if p0 ≤ p2 then p2 else p0 : Int32) then 0 else (if (p2 + p3) ≤ (p0 + p1) then p2 + p3 else p0 + p1 : Int32) - (if p0 ≤ p2 then p2 else p0 : Int32) : Int32)) ∧ X' = (am_TT cu L, am_RR cu, σ)) :
    am_Go l D DA b sz d M_R_common (0, [some (.int p0), some (.int p1), some (.int p2), some (.int p3), none, none], [], (am_TT cu L, am_RR cu, σ)) r X' := by
  refine go_steps q_R_common kc_R_common 3 rfl ?_
  have key : am_Go l D DA b sz d M_R_common (10, [some (.int p0), some (.int p1), some (.int p2), some (.int p3), none, none], [.int (if p0 ≤ p2 then p2 else p0 : Int32)], (am_TT cu L, am_RR cu, σ)) r X' := by
    refine go_steps q_R_common kc_R_common 8 rfl ?_
    have key : am_Go l D DA b sz d M_R_common (30, [some (.int p0), some (.int p1), some (.int p2), some (.int p3), some (.int (if p0 ≤ p2 then p2 else p0 : Int32)), none], [.int (if (p2 + p3) ≤ (p0 + p1) then p2 + p3 else p0 + p1 : Int32)], (am_TT cu L, am_RR cu, σ)) r X' := by
      refine go_steps q_R_common kc_R_common 4 rfl ?_
      have key : am_Go l D DA b sz d M_R_common (48, [some (.int p0), some (.int p1), some (.int p2), some (.int p3), some (.int (if p0 ≤ p2 then p2 else p0 : Int32)), some (.int (if (p2 + p3) ≤ (p0 + p1) then p2 + p3 else p0 + p1 : Int32))], [.int (if (if (p2 + p3) ≤ (p0 + p1) then p2 + p3 else p0 + p1 : Int32) ≤ (if p0 ≤ p2 then p2 else p0 : Int32) then 0 else (if (p2 + p3) ≤ (p0 + p1) then p2 + p3 else p0 + p1 : Int32) - (if p0 ≤ p2 then p2 else p0 : Int32) : Int32)], (am_TT cu L, am_RR cu, σ)) r X' := by
        obtain ⟨rfl, rfl⟩ := hv
        exact go_retI q_R_common kc_R_common rfl rfl rfl
      refine go_if (fun hb => ?_) (fun hb => ?_)
      · have hb : (if (p2 + p3) ≤ (p0 + p1) then p2 + p3 else p0 + p1 : Int32) ≤ (if p0 ≤ p2 then p2 else p0 : Int32) := hb
        rw [show (if (if (p2 + p3) ≤ (p0 + p1) then p2 + p3 else p0 + p1 : Int32) ≤ (if p0 ≤ p2 then p2 else p0 : Int32) then 0 else (if (p2 + p3) ≤ (p0 + p1) then p2 + p3 else p0 + p1 : Int32) - (if p0 ≤ p2 then p2 else p0 : Int32) : Int32) = 0 from if_pos hb] at key
        refine go_steps q_R_common kc_R_common 1 rfl ?_
        exact key
      · have hb : ¬ ((if (p2 + p3) ≤ (p0 + p1) then p2 + p3 else p0 + p1 : Int32) ≤ (if p0 ≤ p2 then p2 else p0 : Int32)) := hb
        rw [show (if (if (p2 + p3) ≤ (p0 + p1) then p2 + p3 else p0 + p1 : Int32) ≤ (if p0 ≤ p2 then p2 else p0 : Int32) then 0 else (if (p2 + p3) ≤ (p0 + p1) then p2 + p3 else p0 + p1 : Int32) - (if p0 ≤ p2 then p2 else p0 : Int32) : Int32) = ((if (p2 + p3) ≤ (p0 + p1) then p2 + p3 else p0 + p1 : Int32) - (if p0 ≤ p2 then p2 else p0 : Int32)) from if_neg hb] at key
        refine go_steps q_R_common kc_R_common 4 rfl ?_
        exact key
    refine go_if (fun hb => ?_) (fun hb => ?_)
    · have hb : (p2 + p3) ≤ (p0 + p1) := hb
      rw [show (if (p2 + p3) ≤ (p0 + p1) then p2 + p3 else p0 + p1 : Int32) = (p2 + p3) from if_pos hb] at key
      refine go_steps q_R_common kc_R_common 3 rfl ?_
      exact key
    · have hb : ¬ ((p2 + p3) ≤ (p0 + p1)) := hb
      rw [show (if (p2 + p3) ≤ (p0 + p1) then p2 + p3 else p0 + p1 : Int32) = (p0 + p1) from if_neg hb] at key
      refine go_steps q_R_common kc_R_common 4 rfl ?_
      exact key
  refine go_if (fun hb => ?_) (fun hb => ?_)
  · have hb : p0 ≤ p2 := hb
    rw [show (if p0 ≤ p2 then p2 else p0 : Int32) = p2 from if_pos hb] at key
    refine go_steps q_R_common kc_R_common 1 rfl ?_
    exact key
  · have hb : ¬ (p0 ≤ p2) := hb
    rw [show (if p0 ≤ p2 then p2 else p0 : Int32) = p0 from if_neg hb] at key
    refine go_steps q_R_common kc_R_common 2 rfl ?_
    exact key
set_option maxHeartbeats 4000000 in
set_option maxRecDepth 100000 in
theorem v_R_stands_0 {l : Launch} {D : va_G} {DA : Nat → ClassId} {b sz d L : Nat} {cu : Bool} {σ : Nat → Nat → Int32} {r : Option Value} {X' : am_X} (p1 : Int32) (p2 : Int32)
    (hv : ((p1 = p2) → (r = some (.int 0) ∧ X' = (am_TT cu L, am_RR cu, σ))) ∧ (¬ (p1 = p2) → ((¬ (p2 < 0 ∨ 20 ≤ Int32.toNatClampNeg p2)) ∧ ((((σ 56 (Int32.toNatClampNeg p2)) = 0) → (r = some (.int 0) ∧ X' = (am_TT cu L, am_RR cu, σ))) ∧ (¬ ((σ 56 (Int32.toNatClampNeg p2)) = 0) → (∃ (r1 : Int32) (σ1 : Nat → Nat → Int32), am_Go l D DA b sz d M_R_topOf (0, [some (.ref 47), some (.int p2)], [], (am_TT cu L, am_RR cu, σ)) (some (.int r1)) (am_TT cu L, am_RR cu, σ1) ∧ ((¬ (p1 < 0 ∨ 20 ≤ Int32.toNatClampNeg p1)) ∧ (((r1 = (σ1 59 (Int32.toNatClampNeg p1))) → (∃ (r2 : Int32) (σ2 : Nat → Nat → Int32), am_Go l D DA b sz d M_R_area (0, [some (.ref 47), some (.int p1), some (.int p2)], [], (am_TT cu L, am_RR cu, σ1)) (some (.int r2)) (am_TT cu L, am_RR cu, σ2) ∧ (r = some (.int r2) ∧ X' = (am_TT cu L, am_RR cu, σ2)))) ∧ (¬ (r1 = (σ1 59 (Int32.toNatClampNeg p1))) → (r = some (.int 0) ∧ X' = (am_TT cu L, am_RR cu, σ1))))))))))) :
    am_Go l D DA b sz (d + 1) M_R_stands (0, [some (.ref 47), some (.int p1), some (.int p2)], [], (am_TT cu L, am_RR cu, σ)) r X' := by
  refine go_steps q_R_stands kc_R_stands 3 rfl ?_
  refine go_if (fun hb => ?_) (fun hb => ?_)
  · have hb : p1 = p2 := hb
    replace hv := hv.1 hb
    refine go_steps q_R_stands kc_R_stands 1 rfl ?_
    obtain ⟨rfl, rfl⟩ := hv
    exact go_retI q_R_stands kc_R_stands rfl rfl rfl
  · have hb : ¬ (p1 = p2) := hb
    replace hv := hv.2 hb
    refine go_steps q_R_stands kc_R_stands 3 rfl ?_
    obtain ⟨hc1, hv⟩ := hv
    refine go_baload q_R_stands kc_R_stands rfl rfl hc1 ?_
    refine go_steps q_R_stands kc_R_stands 1 rfl ?_
    refine go_if (fun hb => ?_) (fun hb => ?_)
    · have hb : (σ 56 (Int32.toNatClampNeg p2)) = 0 := hb
      replace hv := hv.1 hb
      refine go_steps q_R_stands kc_R_stands 1 rfl ?_
      obtain ⟨rfl, rfl⟩ := hv
      exact go_retI q_R_stands kc_R_stands rfl rfl rfl
    · have hb : ¬ ((σ 56 (Int32.toNatClampNeg p2)) = 0) := hb
      replace hv := hv.2 hb
      refine go_steps q_R_stands kc_R_stands 2 rfl ?_
      obtain ⟨r1, σ1, hg, hv⟩ := hv
      refine go_callV q_R_stands kc_R_stands rfl q_R_topOf am_k115 ⟨rfl, rfl, by decide⟩ rfl rfl (Nat.le_of_ble_eq_true rfl) (Nat.le_of_ble_eq_true rfl) rfl rfl hg ?_
      refine go_steps q_R_stands kc_R_stands 3 rfl ?_
      obtain ⟨hc2, hv⟩ := hv
      refine go_iaload q_R_stands kc_R_stands rfl rfl hc2 ?_
      refine go_steps q_R_stands kc_R_stands 1 rfl ?_
      refine go_if (fun hb => ?_) (fun hb => ?_)
      · have hb : r1 = (σ1 59 (Int32.toNatClampNeg p1)) := hb
        replace hv := hv.1 hb
        refine go_steps q_R_stands kc_R_stands 3 rfl ?_
        obtain ⟨r2, σ2, hg, hv⟩ := hv
        refine go_callV q_R_stands kc_R_stands rfl q_R_area am_k112 ⟨rfl, rfl, by decide⟩ rfl rfl (Nat.le_of_ble_eq_true rfl) (Nat.le_of_ble_eq_true rfl) rfl rfl hg ?_
        refine go_steps q_R_stands kc_R_stands 1 rfl ?_
        obtain ⟨rfl, rfl⟩ := hv
        exact go_retI q_R_stands kc_R_stands rfl rfl rfl
      · have hb : ¬ (r1 = (σ1 59 (Int32.toNatClampNeg p1))) := hb
        replace hv := hv.2 hb
        refine go_steps q_R_stands kc_R_stands 1 rfl ?_
        obtain ⟨rfl, rfl⟩ := hv
        exact go_retI q_R_stands kc_R_stands rfl rfl rfl
set_option maxHeartbeats 4000000 in
set_option maxRecDepth 100000 in
theorem v_R_topOf_0 {l : Launch} {D : va_G} {DA : Nat → ClassId} {b sz d L : Nat} {cu : Bool} {σ : Nat → Nat → Int32} {r : Option Value} {X' : am_X} (p1 : Int32)
    (hv : (¬ (p1 < 0 ∨ 20 ≤ Int32.toNatClampNeg p1)) ∧ ((¬ (p1 < 0 ∨ 20 ≤ Int32.toNatClampNeg p1)) ∧ (r = some (.int ((σ 59 (Int32.toNatClampNeg p1)) + (σ 50 (Int32.toNatClampNeg p1)))) ∧ X' = (am_TT cu L, am_RR cu, σ)))) :
    am_Go l D DA b sz d M_R_topOf (0, [some (.ref 47), some (.int p1)], [], (am_TT cu L, am_RR cu, σ)) r X' := by
  refine go_steps q_R_topOf kc_R_topOf 3 rfl ?_
  obtain ⟨hc1, hv⟩ := hv
  refine go_iaload q_R_topOf kc_R_topOf rfl rfl hc1 ?_
  refine go_steps q_R_topOf kc_R_topOf 3 rfl ?_
  obtain ⟨hc2, hv⟩ := hv
  refine go_iaload q_R_topOf kc_R_topOf rfl rfl hc2 ?_
  refine go_steps q_R_topOf kc_R_topOf 1 rfl ?_
  obtain ⟨rfl, rfl⟩ := hv
  exact go_retI q_R_topOf kc_R_topOf rfl rfl rfl
set_option maxHeartbeats 4000000 in
set_option maxRecDepth 100000 in
theorem v_R_isInWay_0 {l : Launch} {D : va_G} {DA : Nat → ClassId} {b sz d L : Nat} {cu : Bool} {σ : Nat → Nat → Int32} {r : Option Value} {X' : am_X} (p1 : Int32) (p2 : Int32)
    (hv : (¬ (p1 < 0 ∨ 20 ≤ Int32.toNatClampNeg p1)) ∧ ((¬ (p2 < 0 ∨ 20 ≤ Int32.toNatClampNeg p2)) ∧ ((((σ 53 (Int32.toNatClampNeg p1)) = (σ 53 (Int32.toNatClampNeg p2))) → (r = some (.int 0) ∧ X' = (am_TT cu L, am_RR cu, σ))) ∧ (¬ ((σ 53 (Int32.toNatClampNeg p1)) = (σ 53 (Int32.toNatClampNeg p2))) → ((¬ (p1 < 0 ∨ 20 ≤ Int32.toNatClampNeg p1)) ∧ ((¬ (p2 < 0 ∨ 20 ≤ Int32.toNatClampNeg p2)) ∧ ((¬ (p1 < 0 ∨ 20 ≤ Int32.toNatClampNeg p1)) ∧ (∃ (r1 : Int32) (σ1 : Nat → Nat → Int32), am_Go l D DA b sz d M_R_wideOf (0, [some (.ref 47), some (.int p1)], [], (am_TT cu L, am_RR cu, σ)) (some (.int r1)) (am_TT cu L, am_RR cu, σ1) ∧ ((¬ (p2 < 0 ∨ 20 ≤ Int32.toNatClampNeg p2)) ∧ (∃ (r2 : Int32) (σ2 : Nat → Nat → Int32), am_Go l D DA b sz d M_R_wideOf (0, [some (.ref 47), some (.int p2)], [], (am_TT cu L, am_RR cu, σ1)) (some (.int r2)) (am_TT cu L, am_RR cu, σ2) ∧ ((∃ (r3 : Int32) (σ3 : Nat → Nat → Int32), am_Go l D DA b sz d M_R_common (0, [some (.int (σ 58 (Int32.toNatClampNeg p1))), some (.int r1), some (.int (σ1 58 (Int32.toNatClampNeg p2))), some (.int r2), none, none], [], (am_TT cu L, am_RR cu, σ2)) (some (.int r3)) (am_TT cu L, am_RR cu, σ3) ∧ ((¬ (p1 < 0 ∨ 20 ≤ Int32.toNatClampNeg p1)) ∧ ((¬ (p1 < 0 ∨ 20 ≤ Int32.toNatClampNeg p1)) ∧ ((¬ (p2 < 0 ∨ 20 ≤ Int32.toNatClampNeg p2)) ∧ ((¬ (p2 < 0 ∨ 20 ≤ Int32.toNatClampNeg p2)) ∧ (∃ (r4 : Int32) (σ4 : Nat → Nat → Int32), am_Go l D DA b sz d M_R_common (0, [some (.int (σ3 59 (Int32.toNatClampNeg p1))), some (.int (σ3 50 (Int32.toNatClampNeg p1))), some (.int (σ3 59 (Int32.toNatClampNeg p2))), some (.int (σ3 50 (Int32.toNatClampNeg p2))), none, none], [], (am_TT cu L, am_RR cu, σ3)) (some (.int r4)) (am_TT cu L, am_RR cu, σ4) ∧ ((¬ ((if (σ 53 (Int32.toNatClampNeg p1)) ≤ (σ 53 (Int32.toNatClampNeg p2)) then p2 else p1 : Int32) < 0 ∨ 20 ≤ Int32.toNatClampNeg (if (σ 53 (Int32.toNatClampNeg p1)) ≤ (σ 53 (Int32.toNatClampNeg p2)) then p2 else p1 : Int32))) ∧ ((¬ ((if (if (σ 53 (Int32.toNatClampNeg p1)) ≤ (σ 53 (Int32.toNatClampNeg p2)) then p2 else p1 : Int32) = p1 then p2 else p1 : Int32) < 0 ∨ 20 ≤ Int32.toNatClampNeg (if (if (σ 53 (Int32.toNatClampNeg p1)) ≤ (σ 53 (Int32.toNatClampNeg p2)) then p2 else p1 : Int32) = p1 then p2 else p1 : Int32))) ∧ (∃ (r5 : Int32) (σ5 : Nat → Nat → Int32), am_Go l D DA b sz d M_R_longOf (0, [some (.ref 47), some (.int (if (if (σ 53 (Int32.toNatClampNeg p1)) ≤ (σ 53 (Int32.toNatClampNeg p2)) then p2 else p1 : Int32) = p1 then p2 else p1 : Int32))], [], (am_TT cu L, am_RR cu, σ4)) (some (.int r5)) (am_TT cu L, am_RR cu, σ5) ∧ ((((σ4 57 (Int32.toNatClampNeg (if (σ 53 (Int32.toNatClampNeg p1)) ≤ (σ 53 (Int32.toNatClampNeg p2)) then p2 else p1 : Int32))) < ((σ4 57 (Int32.toNatClampNeg (if (if (σ 53 (Int32.toNatClampNeg p1)) ≤ (σ 53 (Int32.toNatClampNeg p2)) then p2 else p1 : Int32) = p1 then p2 else p1 : Int32))) + r5)) → ((¬ ((if (σ 53 (Int32.toNatClampNeg p1)) ≤ (σ 53 (Int32.toNatClampNeg p2)) then p2 else p1 : Int32) < 0 ∨ 20 ≤ Int32.toNatClampNeg (if (σ 53 (Int32.toNatClampNeg p1)) ≤ (σ 53 (Int32.toNatClampNeg p2)) then p2 else p1 : Int32))) ∧ (∃ (r6 : Int32) (σ6 : Nat → Nat → Int32), am_Go l D DA b sz d M_R_topOf (0, [some (.ref 47), some (.int (if (if (σ 53 (Int32.toNatClampNeg p1)) ≤ (σ 53 (Int32.toNatClampNeg p2)) then p2 else p1 : Int32) = p1 then p2 else p1 : Int32))], [], (am_TT cu L, am_RR cu, σ5)) (some (.int r6)) (am_TT cu L, am_RR cu, σ6) ∧ ((((σ5 59 (Int32.toNatClampNeg (if (σ 53 (Int32.toNatClampNeg p1)) ≤ (σ 53 (Int32.toNatClampNeg p2)) then p2 else p1 : Int32))) < r6) → (r = some (.int 0) ∧ X' = (am_TT cu L, am_RR cu, σ6))) ∧ (¬ ((σ5 59 (Int32.toNatClampNeg (if (σ 53 (Int32.toNatClampNeg p1)) ≤ (σ 53 (Int32.toNatClampNeg p2)) then p2 else p1 : Int32))) < r6) → (∃ (r7 : Int32) (σ7 : Nat → Nat → Int32), am_Go l D DA b sz d M_R_area (0, [some (.ref 47), some (.int p1), some (.int p2)], [], (am_TT cu L, am_RR cu, σ6)) (some (.int r7)) (am_TT cu L, am_RR cu, σ7) ∧ (((if r7 ≤ 0 then 0 else 1 : Int32) = 0 ∨ (if r7 ≤ 0 then 0 else 1 : Int32) = 1) ∧ (r = some (.int (if r7 ≤ 0 then 0 else 1 : Int32)) ∧ X' = (am_TT cu L, am_RR cu, σ7))))))))) ∧ (¬ ((σ4 57 (Int32.toNatClampNeg (if (σ 53 (Int32.toNatClampNeg p1)) ≤ (σ 53 (Int32.toNatClampNeg p2)) then p2 else p1 : Int32))) < ((σ4 57 (Int32.toNatClampNeg (if (if (σ 53 (Int32.toNatClampNeg p1)) ≤ (σ 53 (Int32.toNatClampNeg p2)) then p2 else p1 : Int32) = p1 then p2 else p1 : Int32))) + r5)) → ((((if r3 ≤ 0 then 0 else 1 : Int32) = 0) → ((¬ ((if (σ 53 (Int32.toNatClampNeg p1)) ≤ (σ 53 (Int32.toNatClampNeg p2)) then p2 else p1 : Int32) < 0 ∨ 20 ≤ Int32.toNatClampNeg (if (σ 53 (Int32.toNatClampNeg p1)) ≤ (σ 53 (Int32.toNatClampNeg p2)) then p2 else p1 : Int32))) ∧ (∃ (r8 : Int32) (σ8 : Nat → Nat → Int32), am_Go l D DA b sz d M_R_topOf (0, [some (.ref 47), some (.int (if (if (σ 53 (Int32.toNatClampNeg p1)) ≤ (σ 53 (Int32.toNatClampNeg p2)) then p2 else p1 : Int32) = p1 then p2 else p1 : Int32))], [], (am_TT cu L, am_RR cu, σ5)) (some (.int r8)) (am_TT cu L, am_RR cu, σ8) ∧ ((((σ5 59 (Int32.toNatClampNeg (if (σ 53 (Int32.toNatClampNeg p1)) ≤ (σ 53 (Int32.toNatClampNeg p2)) then p2 else p1 : Int32))) < r8) → (r = some (.int 0) ∧ X' = (am_TT cu L, am_RR cu, σ8))) ∧ (¬ ((σ5 59 (Int32.toNatClampNeg (if (σ 53 (Int32.toNatClampNeg p1)) ≤ (σ 53 (Int32.toNatClampNeg p2)) then p2 else p1 : Int32))) < r8) → (∃ (r9 : Int32) (σ9 : Nat → Nat → Int32), am_Go l D DA b sz d M_R_area (0, [some (.ref 47), some (.int p1), some (.int p2)], [], (am_TT cu L, am_RR cu, σ8)) (some (.int r9)) (am_TT cu L, am_RR cu, σ9) ∧ (((if r9 ≤ 0 then 0 else 1 : Int32) = 0 ∨ (if r9 ≤ 0 then 0 else 1 : Int32) = 1) ∧ (r = some (.int (if r9 ≤ 0 then 0 else 1 : Int32)) ∧ X' = (am_TT cu L, am_RR cu, σ9))))))))) ∧ (¬ ((if r3 ≤ 0 then 0 else 1 : Int32) = 0) → ((((if r4 ≤ 0 then 0 else 1 : Int32) = 0) → ((¬ ((if (σ 53 (Int32.toNatClampNeg p1)) ≤ (σ 53 (Int32.toNatClampNeg p2)) then p2 else p1 : Int32) < 0 ∨ 20 ≤ Int32.toNatClampNeg (if (σ 53 (Int32.toNatClampNeg p1)) ≤ (σ 53 (Int32.toNatClampNeg p2)) then p2 else p1 : Int32))) ∧ (∃ (r10 : Int32) (σ10 : Nat → Nat → Int32), am_Go l D DA b sz d M_R_topOf (0, [some (.ref 47), some (.int (if (if (σ 53 (Int32.toNatClampNeg p1)) ≤ (σ 53 (Int32.toNatClampNeg p2)) then p2 else p1 : Int32) = p1 then p2 else p1 : Int32))], [], (am_TT cu L, am_RR cu, σ5)) (some (.int r10)) (am_TT cu L, am_RR cu, σ10) ∧ ((((σ5 59 (Int32.toNatClampNeg (if (σ 53 (Int32.toNatClampNeg p1)) ≤ (σ 53 (Int32.toNatClampNeg p2)) then p2 else p1 : Int32))) < r10) → (r = some (.int 0) ∧ X' = (am_TT cu L, am_RR cu, σ10))) ∧ (¬ ((σ5 59 (Int32.toNatClampNeg (if (σ 53 (Int32.toNatClampNeg p1)) ≤ (σ 53 (Int32.toNatClampNeg p2)) then p2 else p1 : Int32))) < r10) → (∃ (r11 : Int32) (σ11 : Nat → Nat → Int32), am_Go l D DA b sz d M_R_area (0, [some (.ref 47), some (.int p1), some (.int p2)], [], (am_TT cu L, am_RR cu, σ10)) (some (.int r11)) (am_TT cu L, am_RR cu, σ11) ∧ (((if r11 ≤ 0 then 0 else 1 : Int32) = 0 ∨ (if r11 ≤ 0 then 0 else 1 : Int32) = 1) ∧ (r = some (.int (if r11 ≤ 0 then 0 else 1 : Int32)) ∧ X' = (am_TT cu L, am_RR cu, σ11))))))))) ∧ (¬ ((if r4 ≤ 0 then 0 else 1 : Int32) = 0) → (r = some (.int 1) ∧ X' = (am_TT cu L, am_RR cu, σ5)))))))))))))))))))))))))))) :
    am_Go l D DA b sz (d + 1) M_R_isInWay (0, [some (.ref 47), some (.int p1), some (.int p2), none, none, none, none], [], (am_TT cu L, am_RR cu, σ)) r X' := by
  refine go_steps q_R_isInWay kc_R_isInWay 3 rfl ?_
  obtain ⟨hc1, hv⟩ := hv
  refine go_iaload q_R_isInWay kc_R_isInWay rfl rfl hc1 ?_
  refine go_steps q_R_isInWay kc_R_isInWay 3 rfl ?_
  obtain ⟨hc2, hv⟩ := hv
  refine go_iaload q_R_isInWay kc_R_isInWay rfl rfl hc2 ?_
  refine go_steps q_R_isInWay kc_R_isInWay 1 rfl ?_
  refine go_if (fun hb => ?_) (fun hb => ?_)
  · have hb : (σ 53 (Int32.toNatClampNeg p1)) = (σ 53 (Int32.toNatClampNeg p2)) := hb
    replace hv := hv.1 hb
    refine go_steps q_R_isInWay kc_R_isInWay 1 rfl ?_
    obtain ⟨rfl, rfl⟩ := hv
    exact go_retI q_R_isInWay kc_R_isInWay rfl rfl rfl
  · have hb : ¬ ((σ 53 (Int32.toNatClampNeg p1)) = (σ 53 (Int32.toNatClampNeg p2))) := hb
    replace hv := hv.2 hb
    refine go_steps q_R_isInWay kc_R_isInWay 3 rfl ?_
    obtain ⟨hc3, hv⟩ := hv
    refine go_iaload q_R_isInWay kc_R_isInWay rfl rfl hc3 ?_
    refine go_steps q_R_isInWay kc_R_isInWay 3 rfl ?_
    obtain ⟨hc4, hv⟩ := hv
    refine go_iaload q_R_isInWay kc_R_isInWay rfl rfl hc4 ?_
    refine go_steps q_R_isInWay kc_R_isInWay 1 rfl ?_
    have key : am_Go l D DA b sz (d + 1) M_R_isInWay (37, [some (.ref 47), some (.int p1), some (.int p2), none, none, none, none], [.int (if (σ 53 (Int32.toNatClampNeg p1)) ≤ (σ 53 (Int32.toNatClampNeg p2)) then p2 else p1 : Int32)], (am_TT cu L, am_RR cu, σ)) r X' := by
      refine go_steps q_R_isInWay kc_R_isInWay 4 rfl ?_
      have key : am_Go l D DA b sz (d + 1) M_R_isInWay (48, [some (.ref 47), some (.int p1), some (.int p2), some (.int (if (σ 53 (Int32.toNatClampNeg p1)) ≤ (σ 53 (Int32.toNatClampNeg p2)) then p2 else p1 : Int32)), none, none, none], [.int (if (if (σ 53 (Int32.toNatClampNeg p1)) ≤ (σ 53 (Int32.toNatClampNeg p2)) then p2 else p1 : Int32) = p1 then p2 else p1 : Int32)], (am_TT cu L, am_RR cu, σ)) r X' := by
        refine go_steps q_R_isInWay kc_R_isInWay 4 rfl ?_
        obtain ⟨hc5, hv⟩ := hv
        refine go_iaload q_R_isInWay kc_R_isInWay rfl rfl hc5 ?_
        refine go_steps q_R_isInWay kc_R_isInWay 2 rfl ?_
        obtain ⟨r1, σ1, hg, hv⟩ := hv
        refine go_callV q_R_isInWay kc_R_isInWay rfl q_R_wideOf am_k111 ⟨rfl, rfl, by decide⟩ rfl rfl (Nat.le_of_ble_eq_true rfl) (Nat.le_of_ble_eq_true rfl) rfl rfl hg ?_
        refine go_steps q_R_isInWay kc_R_isInWay 3 rfl ?_
        obtain ⟨hc6, hv⟩ := hv
        refine go_iaload q_R_isInWay kc_R_isInWay rfl rfl hc6 ?_
        refine go_steps q_R_isInWay kc_R_isInWay 2 rfl ?_
        obtain ⟨r2, σ2, hg, hv⟩ := hv
        refine go_callV q_R_isInWay kc_R_isInWay rfl q_R_wideOf am_k111 ⟨rfl, rfl, by decide⟩ rfl rfl (Nat.le_of_ble_eq_true rfl) (Nat.le_of_ble_eq_true rfl) rfl rfl hg ?_
        obtain ⟨r3, σ3, hg, hv⟩ := hv
        refine go_callS q_R_isInWay kc_R_isInWay rfl q_R_common am_k113 rfl rfl rfl (Nat.le_of_ble_eq_true rfl) (Nat.le_of_ble_eq_true rfl) hg ?_
        refine go_steps q_R_isInWay kc_R_isInWay 1 rfl ?_
        have key : am_Go l D DA b sz (d + 1) M_R_isInWay (83, [some (.ref 47), some (.int p1), some (.int p2), some (.int (if (σ 53 (Int32.toNatClampNeg p1)) ≤ (σ 53 (Int32.toNatClampNeg p2)) then p2 else p1 : Int32)), some (.int (if (if (σ 53 (Int32.toNatClampNeg p1)) ≤ (σ 53 (Int32.toNatClampNeg p2)) then p2 else p1 : Int32) = p1 then p2 else p1 : Int32)), none, none], [.int (if r3 ≤ 0 then 0 else 1 : Int32)], (am_TT cu L, am_RR cu, σ3)) r X' := by
          refine go_steps q_R_isInWay kc_R_isInWay 4 rfl ?_
          obtain ⟨hc7, hv⟩ := hv
          refine go_iaload q_R_isInWay kc_R_isInWay rfl rfl hc7 ?_
          refine go_steps q_R_isInWay kc_R_isInWay 3 rfl ?_
          obtain ⟨hc8, hv⟩ := hv
          refine go_iaload q_R_isInWay kc_R_isInWay rfl rfl hc8 ?_
          refine go_steps q_R_isInWay kc_R_isInWay 3 rfl ?_
          obtain ⟨hc9, hv⟩ := hv
          refine go_iaload q_R_isInWay kc_R_isInWay rfl rfl hc9 ?_
          refine go_steps q_R_isInWay kc_R_isInWay 3 rfl ?_
          obtain ⟨hc10, hv⟩ := hv
          refine go_iaload q_R_isInWay kc_R_isInWay rfl rfl hc10 ?_
          obtain ⟨r4, σ4, hg, hv⟩ := hv
          refine go_callS q_R_isInWay kc_R_isInWay rfl q_R_common am_k113 rfl rfl rfl (Nat.le_of_ble_eq_true rfl) (Nat.le_of_ble_eq_true rfl) hg ?_
          refine go_steps q_R_isInWay kc_R_isInWay 1 rfl ?_
          have key : am_Go l D DA b sz (d + 1) M_R_isInWay (120, [some (.ref 47), some (.int p1), some (.int p2), some (.int (if (σ 53 (Int32.toNatClampNeg p1)) ≤ (σ 53 (Int32.toNatClampNeg p2)) then p2 else p1 : Int32)), some (.int (if (if (σ 53 (Int32.toNatClampNeg p1)) ≤ (σ 53 (Int32.toNatClampNeg p2)) then p2 else p1 : Int32) = p1 then p2 else p1 : Int32)), some (.int (if r3 ≤ 0 then 0 else 1 : Int32)), none], [.int (if r4 ≤ 0 then 0 else 1 : Int32)], (am_TT cu L, am_RR cu, σ4)) r X' := by
            refine go_steps q_R_isInWay kc_R_isInWay 4 rfl ?_
            obtain ⟨hc11, hv⟩ := hv
            refine go_iaload q_R_isInWay kc_R_isInWay rfl rfl hc11 ?_
            refine go_steps q_R_isInWay kc_R_isInWay 3 rfl ?_
            obtain ⟨hc12, hv⟩ := hv
            refine go_iaload q_R_isInWay kc_R_isInWay rfl rfl hc12 ?_
            refine go_steps q_R_isInWay kc_R_isInWay 2 rfl ?_
            obtain ⟨r5, σ5, hg, hv⟩ := hv
            refine go_callV q_R_isInWay kc_R_isInWay rfl q_R_longOf am_k110 ⟨rfl, rfl, by decide⟩ rfl rfl (Nat.le_of_ble_eq_true rfl) (Nat.le_of_ble_eq_true rfl) rfl rfl hg ?_
            refine go_steps q_R_isInWay kc_R_isInWay 2 rfl ?_
            refine go_if (fun hb => ?_) (fun hb => ?_)
            · have hb : (σ4 57 (Int32.toNatClampNeg (if (σ 53 (Int32.toNatClampNeg p1)) ≤ (σ 53 (Int32.toNatClampNeg p2)) then p2 else p1 : Int32))) < ((σ4 57 (Int32.toNatClampNeg (if (if (σ 53 (Int32.toNatClampNeg p1)) ≤ (σ 53 (Int32.toNatClampNeg p2)) then p2 else p1 : Int32) = p1 then p2 else p1 : Int32))) + r5) := hb
              replace hv := hv.1 hb
              refine go_steps q_R_isInWay kc_R_isInWay 3 rfl ?_
              obtain ⟨hc13, hv⟩ := hv
              refine go_iaload q_R_isInWay kc_R_isInWay rfl rfl hc13 ?_
              refine go_steps q_R_isInWay kc_R_isInWay 2 rfl ?_
              obtain ⟨r6, σ6, hg, hv⟩ := hv
              refine go_callV q_R_isInWay kc_R_isInWay rfl q_R_topOf am_k115 ⟨rfl, rfl, by decide⟩ rfl rfl (Nat.le_of_ble_eq_true rfl) (Nat.le_of_ble_eq_true rfl) rfl rfl hg ?_
              refine go_steps q_R_isInWay kc_R_isInWay 1 rfl ?_
              refine go_if (fun hb => ?_) (fun hb => ?_)
              · have hb : (σ5 59 (Int32.toNatClampNeg (if (σ 53 (Int32.toNatClampNeg p1)) ≤ (σ 53 (Int32.toNatClampNeg p2)) then p2 else p1 : Int32))) < r6 := hb
                replace hv := hv.1 hb
                refine go_steps q_R_isInWay kc_R_isInWay 1 rfl ?_
                obtain ⟨rfl, rfl⟩ := hv
                exact go_retI q_R_isInWay kc_R_isInWay rfl rfl rfl
              · have hb : ¬ ((σ5 59 (Int32.toNatClampNeg (if (σ 53 (Int32.toNatClampNeg p1)) ≤ (σ 53 (Int32.toNatClampNeg p2)) then p2 else p1 : Int32))) < r6) := hb
                replace hv := hv.2 hb
                refine go_steps q_R_isInWay kc_R_isInWay 3 rfl ?_
                obtain ⟨r7, σ7, hg, hv⟩ := hv
                refine go_callV q_R_isInWay kc_R_isInWay rfl q_R_area am_k112 ⟨rfl, rfl, by decide⟩ rfl rfl (Nat.le_of_ble_eq_true rfl) (Nat.le_of_ble_eq_true rfl) rfl rfl hg ?_
                refine go_steps q_R_isInWay kc_R_isInWay 1 rfl ?_
                have key : am_Go l D DA b sz (d + 1) M_R_isInWay (186, [some (.ref 47), some (.int p1), some (.int p2), some (.int (if (σ 53 (Int32.toNatClampNeg p1)) ≤ (σ 53 (Int32.toNatClampNeg p2)) then p2 else p1 : Int32)), some (.int (if (if (σ 53 (Int32.toNatClampNeg p1)) ≤ (σ 53 (Int32.toNatClampNeg p2)) then p2 else p1 : Int32) = p1 then p2 else p1 : Int32)), some (.int (if r3 ≤ 0 then 0 else 1 : Int32)), some (.int (if r4 ≤ 0 then 0 else 1 : Int32))], [.int (if r7 ≤ 0 then 0 else 1 : Int32)], (am_TT cu L, am_RR cu, σ7)) r X' := by
                  obtain ⟨hc, rfl, rfl⟩ := hv
                  exact go_retI q_R_isInWay kc_R_isInWay rfl rfl (am_nar hc)
                refine go_if (fun hb => ?_) (fun hb => ?_)
                · have hb : r7 ≤ 0 := hb
                  rw [show (if r7 ≤ 0 then 0 else 1 : Int32) = 0 from if_pos hb] at key
                  refine go_steps q_R_isInWay kc_R_isInWay 1 rfl ?_
                  exact key
                · have hb : ¬ (r7 ≤ 0) := hb
                  rw [show (if r7 ≤ 0 then 0 else 1 : Int32) = 1 from if_neg hb] at key
                  refine go_steps q_R_isInWay kc_R_isInWay 2 rfl ?_
                  exact key
            · have hb : ¬ ((σ4 57 (Int32.toNatClampNeg (if (σ 53 (Int32.toNatClampNeg p1)) ≤ (σ 53 (Int32.toNatClampNeg p2)) then p2 else p1 : Int32))) < ((σ4 57 (Int32.toNatClampNeg (if (if (σ 53 (Int32.toNatClampNeg p1)) ≤ (σ 53 (Int32.toNatClampNeg p2)) then p2 else p1 : Int32) = p1 then p2 else p1 : Int32))) + r5)) := hb
              replace hv := hv.2 hb
              refine go_steps q_R_isInWay kc_R_isInWay 2 rfl ?_
              refine go_if (fun hb => ?_) (fun hb => ?_)
              · have hb : (if r3 ≤ 0 then 0 else 1 : Int32) = 0 := hb
                replace hv := hv.1 hb
                refine go_steps q_R_isInWay kc_R_isInWay 3 rfl ?_
                obtain ⟨hc14, hv⟩ := hv
                refine go_iaload q_R_isInWay kc_R_isInWay rfl rfl hc14 ?_
                refine go_steps q_R_isInWay kc_R_isInWay 2 rfl ?_
                obtain ⟨r8, σ8, hg, hv⟩ := hv
                refine go_callV q_R_isInWay kc_R_isInWay rfl q_R_topOf am_k115 ⟨rfl, rfl, by decide⟩ rfl rfl (Nat.le_of_ble_eq_true rfl) (Nat.le_of_ble_eq_true rfl) rfl rfl hg ?_
                refine go_steps q_R_isInWay kc_R_isInWay 1 rfl ?_
                refine go_if (fun hb => ?_) (fun hb => ?_)
                · have hb : (σ5 59 (Int32.toNatClampNeg (if (σ 53 (Int32.toNatClampNeg p1)) ≤ (σ 53 (Int32.toNatClampNeg p2)) then p2 else p1 : Int32))) < r8 := hb
                  replace hv := hv.1 hb
                  refine go_steps q_R_isInWay kc_R_isInWay 1 rfl ?_
                  obtain ⟨rfl, rfl⟩ := hv
                  exact go_retI q_R_isInWay kc_R_isInWay rfl rfl rfl
                · have hb : ¬ ((σ5 59 (Int32.toNatClampNeg (if (σ 53 (Int32.toNatClampNeg p1)) ≤ (σ 53 (Int32.toNatClampNeg p2)) then p2 else p1 : Int32))) < r8) := hb
                  replace hv := hv.2 hb
                  refine go_steps q_R_isInWay kc_R_isInWay 3 rfl ?_
                  obtain ⟨r9, σ9, hg, hv⟩ := hv
                  refine go_callV q_R_isInWay kc_R_isInWay rfl q_R_area am_k112 ⟨rfl, rfl, by decide⟩ rfl rfl (Nat.le_of_ble_eq_true rfl) (Nat.le_of_ble_eq_true rfl) rfl rfl hg ?_
                  refine go_steps q_R_isInWay kc_R_isInWay 1 rfl ?_
                  have key : am_Go l D DA b sz (d + 1) M_R_isInWay (186, [some (.ref 47), some (.int p1), some (.int p2), some (.int (if (σ 53 (Int32.toNatClampNeg p1)) ≤ (σ 53 (Int32.toNatClampNeg p2)) then p2 else p1 : Int32)), some (.int (if (if (σ 53 (Int32.toNatClampNeg p1)) ≤ (σ 53 (Int32.toNatClampNeg p2)) then p2 else p1 : Int32) = p1 then p2 else p1 : Int32)), some (.int (if r3 ≤ 0 then 0 else 1 : Int32)), some (.int (if r4 ≤ 0 then 0 else 1 : Int32))], [.int (if r9 ≤ 0 then 0 else 1 : Int32)], (am_TT cu L, am_RR cu, σ9)) r X' := by
                    obtain ⟨hc, rfl, rfl⟩ := hv
                    exact go_retI q_R_isInWay kc_R_isInWay rfl rfl (am_nar hc)
                  refine go_if (fun hb => ?_) (fun hb => ?_)
                  · have hb : r9 ≤ 0 := hb
                    rw [show (if r9 ≤ 0 then 0 else 1 : Int32) = 0 from if_pos hb] at key
                    refine go_steps q_R_isInWay kc_R_isInWay 1 rfl ?_
                    exact key
                  · have hb : ¬ (r9 ≤ 0) := hb
                    rw [show (if r9 ≤ 0 then 0 else 1 : Int32) = 1 from if_neg hb] at key
                    refine go_steps q_R_isInWay kc_R_isInWay 2 rfl ?_
                    exact key
              · have hb : ¬ ((if r3 ≤ 0 then 0 else 1 : Int32) = 0) := hb
                replace hv := hv.2 hb
                refine go_steps q_R_isInWay kc_R_isInWay 2 rfl ?_
                refine go_if (fun hb => ?_) (fun hb => ?_)
                · have hb : (if r4 ≤ 0 then 0 else 1 : Int32) = 0 := hb
                  replace hv := hv.1 hb
                  refine go_steps q_R_isInWay kc_R_isInWay 3 rfl ?_
                  obtain ⟨hc15, hv⟩ := hv
                  refine go_iaload q_R_isInWay kc_R_isInWay rfl rfl hc15 ?_
                  refine go_steps q_R_isInWay kc_R_isInWay 2 rfl ?_
                  obtain ⟨r10, σ10, hg, hv⟩ := hv
                  refine go_callV q_R_isInWay kc_R_isInWay rfl q_R_topOf am_k115 ⟨rfl, rfl, by decide⟩ rfl rfl (Nat.le_of_ble_eq_true rfl) (Nat.le_of_ble_eq_true rfl) rfl rfl hg ?_
                  refine go_steps q_R_isInWay kc_R_isInWay 1 rfl ?_
                  refine go_if (fun hb => ?_) (fun hb => ?_)
                  · have hb : (σ5 59 (Int32.toNatClampNeg (if (σ 53 (Int32.toNatClampNeg p1)) ≤ (σ 53 (Int32.toNatClampNeg p2)) then p2 else p1 : Int32))) < r10 := hb
                    replace hv := hv.1 hb
                    refine go_steps q_R_isInWay kc_R_isInWay 1 rfl ?_
                    obtain ⟨rfl, rfl⟩ := hv
                    exact go_retI q_R_isInWay kc_R_isInWay rfl rfl rfl
                  · have hb : ¬ ((σ5 59 (Int32.toNatClampNeg (if (σ 53 (Int32.toNatClampNeg p1)) ≤ (σ 53 (Int32.toNatClampNeg p2)) then p2 else p1 : Int32))) < r10) := hb
                    replace hv := hv.2 hb
                    refine go_steps q_R_isInWay kc_R_isInWay 3 rfl ?_
                    obtain ⟨r11, σ11, hg, hv⟩ := hv
                    refine go_callV q_R_isInWay kc_R_isInWay rfl q_R_area am_k112 ⟨rfl, rfl, by decide⟩ rfl rfl (Nat.le_of_ble_eq_true rfl) (Nat.le_of_ble_eq_true rfl) rfl rfl hg ?_
                    refine go_steps q_R_isInWay kc_R_isInWay 1 rfl ?_
                    have key : am_Go l D DA b sz (d + 1) M_R_isInWay (186, [some (.ref 47), some (.int p1), some (.int p2), some (.int (if (σ 53 (Int32.toNatClampNeg p1)) ≤ (σ 53 (Int32.toNatClampNeg p2)) then p2 else p1 : Int32)), some (.int (if (if (σ 53 (Int32.toNatClampNeg p1)) ≤ (σ 53 (Int32.toNatClampNeg p2)) then p2 else p1 : Int32) = p1 then p2 else p1 : Int32)), some (.int (if r3 ≤ 0 then 0 else 1 : Int32)), some (.int (if r4 ≤ 0 then 0 else 1 : Int32))], [.int (if r11 ≤ 0 then 0 else 1 : Int32)], (am_TT cu L, am_RR cu, σ11)) r X' := by
                      obtain ⟨hc, rfl, rfl⟩ := hv
                      exact go_retI q_R_isInWay kc_R_isInWay rfl rfl (am_nar hc)
                    refine go_if (fun hb => ?_) (fun hb => ?_)
                    · have hb : r11 ≤ 0 := hb
                      rw [show (if r11 ≤ 0 then 0 else 1 : Int32) = 0 from if_pos hb] at key
                      refine go_steps q_R_isInWay kc_R_isInWay 1 rfl ?_
                      exact key
                    · have hb : ¬ (r11 ≤ 0) := hb
                      rw [show (if r11 ≤ 0 then 0 else 1 : Int32) = 1 from if_neg hb] at key
                      refine go_steps q_R_isInWay kc_R_isInWay 2 rfl ?_
                      exact key
                · have hb : ¬ ((if r4 ≤ 0 then 0 else 1 : Int32) = 0) := hb
                  replace hv := hv.2 hb
                  refine go_steps q_R_isInWay kc_R_isInWay 1 rfl ?_
                  obtain ⟨rfl, rfl⟩ := hv
                  exact go_retI q_R_isInWay kc_R_isInWay rfl rfl rfl
          refine go_if (fun hb => ?_) (fun hb => ?_)
          · have hb : r4 ≤ 0 := hb
            rw [show (if r4 ≤ 0 then 0 else 1 : Int32) = 0 from if_pos hb] at key
            refine go_steps q_R_isInWay kc_R_isInWay 1 rfl ?_
            exact key
          · have hb : ¬ (r4 ≤ 0) := hb
            rw [show (if r4 ≤ 0 then 0 else 1 : Int32) = 1 from if_neg hb] at key
            refine go_steps q_R_isInWay kc_R_isInWay 2 rfl ?_
            exact key
        refine go_if (fun hb => ?_) (fun hb => ?_)
        · have hb : r3 ≤ 0 := hb
          rw [show (if r3 ≤ 0 then 0 else 1 : Int32) = 0 from if_pos hb] at key
          refine go_steps q_R_isInWay kc_R_isInWay 1 rfl ?_
          exact key
        · have hb : ¬ (r3 ≤ 0) := hb
          rw [show (if r3 ≤ 0 then 0 else 1 : Int32) = 1 from if_neg hb] at key
          refine go_steps q_R_isInWay kc_R_isInWay 2 rfl ?_
          exact key
      refine go_if (fun hb => ?_) (fun hb => ?_)
      · have hb : (if (σ 53 (Int32.toNatClampNeg p1)) ≤ (σ 53 (Int32.toNatClampNeg p2)) then p2 else p1 : Int32) = p1 := hb
        rw [show (if (if (σ 53 (Int32.toNatClampNeg p1)) ≤ (σ 53 (Int32.toNatClampNeg p2)) then p2 else p1 : Int32) = p1 then p2 else p1 : Int32) = p2 from if_pos hb] at key
        refine go_steps q_R_isInWay kc_R_isInWay 2 rfl ?_
        exact key
      · have hb : ¬ ((if (σ 53 (Int32.toNatClampNeg p1)) ≤ (σ 53 (Int32.toNatClampNeg p2)) then p2 else p1 : Int32) = p1) := hb
        rw [show (if (if (σ 53 (Int32.toNatClampNeg p1)) ≤ (σ 53 (Int32.toNatClampNeg p2)) then p2 else p1 : Int32) = p1 then p2 else p1 : Int32) = p1 from if_neg hb] at key
        refine go_steps q_R_isInWay kc_R_isInWay 1 rfl ?_
        exact key
    refine go_if (fun hb => ?_) (fun hb => ?_)
    · have hb : (σ 53 (Int32.toNatClampNeg p1)) ≤ (σ 53 (Int32.toNatClampNeg p2)) := hb
      rw [show (if (σ 53 (Int32.toNatClampNeg p1)) ≤ (σ 53 (Int32.toNatClampNeg p2)) then p2 else p1 : Int32) = p2 from if_pos hb] at key
      refine go_steps q_R_isInWay kc_R_isInWay 1 rfl ?_
      exact key
    · have hb : ¬ ((σ 53 (Int32.toNatClampNeg p1)) ≤ (σ 53 (Int32.toNatClampNeg p2))) := hb
      rw [show (if (σ 53 (Int32.toNatClampNeg p1)) ≤ (σ 53 (Int32.toNatClampNeg p2)) then p2 else p1 : Int32) = p1 from if_neg hb] at key
      refine go_steps q_R_isInWay kc_R_isInWay 2 rfl ?_
      exact key
set_option maxHeartbeats 4000000 in
set_option maxRecDepth 100000 in
theorem v_R_makeLoads_0 {l : Launch} {D : va_G} {DA : Nat → ClassId} {b sz d L : Nat} {cu : Bool} {σ : Nat → Nat → Int32} {r : Option Value} {X' : am_X}
    (hv : am_Go l D DA b sz (d + 1) M_R_makeLoads (2, [some (.ref 47), some (.int 0), none, none, none, none, none, none], [], (am_TT cu L, am_RR cu, σ)) r X') :
    am_Go l D DA b sz (d + 1) M_R_makeLoads (0, [some (.ref 47), none, none, none, none, none, none, none], [], (am_TT cu L, am_RR cu, σ)) r X' := by
  refine go_steps q_R_makeLoads kc_R_makeLoads 2 rfl ?_
  refine go_le (L1 := [some (.ref 47), some (.int 0), none, none, none, none, none, none]) (by repeat (first | exact trivial | refine ⟨rfl, ?_⟩)) ?_
  exact hv
set_option maxHeartbeats 4000000 in
set_option maxRecDepth 100000 in
theorem v_R_makeLoads_2 {l : Launch} {D : va_G} {DA : Nat → ClassId} {b sz d L : Nat} {cu : Bool} {σ : Nat → Nat → Int32} {r : Option Value} {X' : am_X} (p1 : Int32)
    (hv : (((σ 47 0) ≤ p1) → (am_Go l D DA b sz (d + 1) M_R_makeLoads (25, [some (.ref 47), some (.int 0), none, none, none, none, none, none], [], (am_TT cu L, am_RR cu, σ)) r X')) ∧ (¬ ((σ 47 0) ≤ p1) → ((¬ (p1 < 0 ∨ 20 ≤ Int32.toNatClampNeg p1)) ∧ (am_Go l D DA b sz (d + 1) M_R_makeLoads (2, [some (.ref 47), some (.int (p1 + 1)), none, none, none, none, none, none], [], (am_TT cu L, am_RR cu, am_us σ 61 (Int32.toNatClampNeg p1) 0)) r X')))) :
    am_Go l D DA b sz (d + 1) M_R_makeLoads (2, [some (.ref 47), some (.int p1), none, none, none, none, none, none], [], (am_TT cu L, am_RR cu, σ)) r X' := by
  refine go_steps q_R_makeLoads kc_R_makeLoads 4 rfl ?_
  refine go_if (fun hb => ?_) (fun hb => ?_)
  · have hb : (σ 47 0) ≤ p1 := hb
    replace hv := hv.1 hb
    refine go_steps q_R_makeLoads kc_R_makeLoads 2 rfl ?_
    refine go_le (L1 := [some (.ref 47), some (.int 0), none, none, none, none, none, none]) (by repeat (first | exact trivial | refine ⟨rfl, ?_⟩)) ?_
    exact hv
  · have hb : ¬ ((σ 47 0) ≤ p1) := hb
    replace hv := hv.2 hb
    refine go_steps q_R_makeLoads kc_R_makeLoads 4 rfl ?_
    obtain ⟨hc, hv⟩ := hv
    refine go_iastore q_R_makeLoads kc_R_makeLoads rfl rfl hc ?_
    refine go_steps q_R_makeLoads kc_R_makeLoads 2 rfl ?_
    refine go_le (L1 := [some (.ref 47), some (.int (p1 + 1)), none, none, none, none, none, none]) (by repeat (first | exact trivial | refine ⟨rfl, ?_⟩)) ?_
    exact hv
set_option maxHeartbeats 4000000 in
set_option maxRecDepth 100000 in
theorem v_R_makeLoads_25 {l : Launch} {D : va_G} {DA : Nat → ClassId} {b sz d L : Nat} {cu : Bool} {σ : Nat → Nat → Int32} {r : Option Value} {X' : am_X} (p1 : Int32)
    (hv : am_Go l D DA b sz (d + 1) M_R_makeLoads (29, [some (.ref 47), some (.int p1), some (.int (-1)), some (.int 0), none, none, none, none], [], (am_TT cu L, am_RR cu, σ)) r X') :
    am_Go l D DA b sz (d + 1) M_R_makeLoads (25, [some (.ref 47), some (.int p1), none, none, none, none, none, none], [], (am_TT cu L, am_RR cu, σ)) r X' := by
  refine go_steps q_R_makeLoads kc_R_makeLoads 4 rfl ?_
  refine go_le (L1 := [some (.ref 47), some (.int p1), some (.int (-1)), some (.int 0), none, none, none, none]) (by repeat (first | exact trivial | refine ⟨rfl, ?_⟩)) ?_
  exact hv
set_option maxHeartbeats 4000000 in
set_option maxRecDepth 100000 in
theorem v_R_makeLoads_29 {l : Launch} {D : va_G} {DA : Nat → ClassId} {b sz d L : Nat} {cu : Bool} {σ : Nat → Nat → Int32} {r : Option Value} {X' : am_X} (p1 : Int32) (p2 : Int32) (p3 : Int32)
    (hv : (((σ 47 0) ≤ p3) → (((p2 = (-1)) → (r = none ∧ X' = (am_TT cu L, am_RR cu, σ))) ∧ (¬ (p2 = (-1)) → (am_Go l D DA b sz (d + 1) M_R_makeLoads (97, [some (.ref 47), some (.int (p1 ||| (1 <<< (p2 &&& 31 : Int32) : Int32))), some (.int p2), some (.int 0), some (.int 0), none, none, none], [], (am_TT cu L, am_RR cu, σ)) r X')))) ∧ (¬ ((σ 47 0) ≤ p3) → ((¬ (p3 < 0 ∨ 20 ≤ Int32.toNatClampNeg p3)) ∧ ((((σ 56 (Int32.toNatClampNeg p3)) = 0) → (am_Go l D DA b sz (d + 1) M_R_makeLoads (29, [some (.ref 47), some (.int p1), some (.int p2), some (.int (p3 + 1)), none, none, none, none], [], (am_TT cu L, am_RR cu, σ)) r X')) ∧ (¬ ((σ 56 (Int32.toNatClampNeg p3)) = 0) → (((((p1 >>> (p3 &&& 31 : Int32) : Int32) &&& 1) = (0 : Int32)) → (((p2 = (-1)) → (am_Go l D DA b sz (d + 1) M_R_makeLoads (29, [some (.ref 47), some (.int p1), some (.int p3), some (.int (p3 + 1)), none, none, none, none], [], (am_TT cu L, am_RR cu, σ)) r X')) ∧ (¬ (p2 = (-1)) → (∃ (r1 : Int32) (σ1 : Nat → Nat → Int32), am_Go l D DA b sz d M_R_topOf (0, [some (.ref 47), some (.int p3)], [], (am_TT cu L, am_RR cu, σ)) (some (.int r1)) (am_TT cu L, am_RR cu, σ1) ∧ ((∃ (r2 : Int32) (σ2 : Nat → Nat → Int32), am_Go l D DA b sz d M_R_topOf (0, [some (.ref 47), some (.int p2)], [], (am_TT cu L, am_RR cu, σ1)) (some (.int r2)) (am_TT cu L, am_RR cu, σ2) ∧ (((r1 ≤ r2) → (am_Go l D DA b sz (d + 1) M_R_makeLoads (29, [some (.ref 47), some (.int p1), some (.int p2), some (.int (p3 + 1)), none, none, none, none], [], (am_TT cu L, am_RR cu, σ2)) r X')) ∧ (¬ (r1 ≤ r2) → (am_Go l D DA b sz (d + 1) M_R_makeLoads (29, [some (.ref 47), some (.int p1), some (.int p3), some (.int (p3 + 1)), none, none, none, none], [], (am_TT cu L, am_RR cu, σ2)) r X'))))))))) ∧ (¬ (((p1 >>> (p3 &&& 31 : Int32) : Int32) &&& 1) = (0 : Int32)) → (am_Go l D DA b sz (d + 1) M_R_makeLoads (29, [some (.ref 47), some (.int p1), some (.int p2), some (.int (p3 + 1)), none, none, none, none], [], (am_TT cu L, am_RR cu, σ)) r X')))))))) :
    am_Go l D DA b sz (d + 1) M_R_makeLoads (29, [some (.ref 47), some (.int p1), some (.int p2), some (.int p3), none, none, none, none], [], (am_TT cu L, am_RR cu, σ)) r X' := by
  refine go_steps q_R_makeLoads kc_R_makeLoads 4 rfl ?_
  refine go_if (fun hb => ?_) (fun hb => ?_)
  · have hb : (σ 47 0) ≤ p3 := hb
    replace hv := hv.1 hb
    refine go_steps q_R_makeLoads kc_R_makeLoads 3 rfl ?_
    refine go_if (fun hb => ?_) (fun hb => ?_)
    · have hb : p2 = (-1) := hb
      replace hv := hv.1 hb
      obtain ⟨rfl, rfl⟩ := hv
      exact go_retV q_R_makeLoads kc_R_makeLoads rfl rfl
    · have hb : ¬ (p2 = (-1)) := hb
      replace hv := hv.2 hb
      refine go_steps q_R_makeLoads kc_R_makeLoads 10 rfl ?_
      refine go_le (L1 := [some (.ref 47), some (.int (p1 ||| (1 <<< (p2 &&& 31 : Int32) : Int32))), some (.int p2), some (.int 0), some (.int 0), none, none, none]) (by repeat (first | exact trivial | refine ⟨rfl, ?_⟩)) ?_
      exact hv
  · have hb : ¬ ((σ 47 0) ≤ p3) := hb
    replace hv := hv.2 hb
    refine go_steps q_R_makeLoads kc_R_makeLoads 3 rfl ?_
    obtain ⟨hc1, hv⟩ := hv
    refine go_baload q_R_makeLoads kc_R_makeLoads rfl rfl hc1 ?_
    refine go_steps q_R_makeLoads kc_R_makeLoads 1 rfl ?_
    refine go_if (fun hb => ?_) (fun hb => ?_)
    · have hb : (σ 56 (Int32.toNatClampNeg p3)) = 0 := hb
      replace hv := hv.1 hb
      refine go_steps q_R_makeLoads kc_R_makeLoads 2 rfl ?_
      refine go_le (L1 := [some (.ref 47), some (.int p1), some (.int p2), some (.int (p3 + 1)), none, none, none, none]) (by repeat (first | exact trivial | refine ⟨rfl, ?_⟩)) ?_
      exact hv
    · have hb : ¬ ((σ 56 (Int32.toNatClampNeg p3)) = 0) := hb
      replace hv := hv.2 hb
      refine go_steps q_R_makeLoads kc_R_makeLoads 6 rfl ?_
      refine go_if (fun hb => ?_) (fun hb => ?_)
      · have hb : ((p1 >>> (p3 &&& 31 : Int32) : Int32) &&& 1) = (0 : Int32) := hb
        replace hv := hv.1 hb
        refine go_steps q_R_makeLoads kc_R_makeLoads 3 rfl ?_
        refine go_if (fun hb => ?_) (fun hb => ?_)
        · have hb : p2 = (-1) := hb
          replace hv := hv.1 hb
          refine go_steps q_R_makeLoads kc_R_makeLoads 4 rfl ?_
          refine go_le (L1 := [some (.ref 47), some (.int p1), some (.int p3), some (.int (p3 + 1)), none, none, none, none]) (by repeat (first | exact trivial | refine ⟨rfl, ?_⟩)) ?_
          exact hv
        · have hb : ¬ (p2 = (-1)) := hb
          replace hv := hv.2 hb
          refine go_steps q_R_makeLoads kc_R_makeLoads 2 rfl ?_
          obtain ⟨r1, σ1, hg, hv⟩ := hv
          refine go_callV q_R_makeLoads kc_R_makeLoads rfl q_R_topOf am_k115 ⟨rfl, rfl, by decide⟩ rfl rfl (Nat.le_of_ble_eq_true rfl) (Nat.le_of_ble_eq_true rfl) rfl rfl hg ?_
          refine go_steps q_R_makeLoads kc_R_makeLoads 2 rfl ?_
          obtain ⟨r2, σ2, hg, hv⟩ := hv
          refine go_callV q_R_makeLoads kc_R_makeLoads rfl q_R_topOf am_k115 ⟨rfl, rfl, by decide⟩ rfl rfl (Nat.le_of_ble_eq_true rfl) (Nat.le_of_ble_eq_true rfl) rfl rfl hg ?_
          refine go_steps q_R_makeLoads kc_R_makeLoads 1 rfl ?_
          refine go_if (fun hb => ?_) (fun hb => ?_)
          · have hb : r1 ≤ r2 := hb
            replace hv := hv.1 hb
            refine go_steps q_R_makeLoads kc_R_makeLoads 2 rfl ?_
            refine go_le (L1 := [some (.ref 47), some (.int p1), some (.int p2), some (.int (p3 + 1)), none, none, none, none]) (by repeat (first | exact trivial | refine ⟨rfl, ?_⟩)) ?_
            exact hv
          · have hb : ¬ (r1 ≤ r2) := hb
            replace hv := hv.2 hb
            refine go_steps q_R_makeLoads kc_R_makeLoads 4 rfl ?_
            refine go_le (L1 := [some (.ref 47), some (.int p1), some (.int p3), some (.int (p3 + 1)), none, none, none, none]) (by repeat (first | exact trivial | refine ⟨rfl, ?_⟩)) ?_
            exact hv
      · have hb : ¬ (((p1 >>> (p3 &&& 31 : Int32) : Int32) &&& 1) = (0 : Int32)) := hb
        replace hv := hv.2 hb
        refine go_steps q_R_makeLoads kc_R_makeLoads 2 rfl ?_
        refine go_le (L1 := [some (.ref 47), some (.int p1), some (.int p2), some (.int (p3 + 1)), none, none, none, none]) (by repeat (first | exact trivial | refine ⟨rfl, ?_⟩)) ?_
        exact hv
set_option maxHeartbeats 4000000 in
set_option maxRecDepth 100000 in
theorem v_R_makeLoads_97 {l : Launch} {D : va_G} {DA : Nat → ClassId} {b sz d L : Nat} {cu : Bool} {σ : Nat → Nat → Int32} {r : Option Value} {X' : am_X} (p1 : Int32) (p2 : Int32) (p3 : Int32) (p4 : Int32)
    (hv : (((σ 47 0) ≤ p4) → (((p3 = 0) → (am_Go l D DA b sz (d + 1) M_R_makeLoads (25, [some (.ref 47), some (.int p1), none, none, none, none, none, none], [], (am_TT cu L, am_RR cu, σ)) r X')) ∧ (¬ (p3 = 0) → ((¬ (p2 < 0 ∨ 20 ≤ Int32.toNatClampNeg p2)) ∧ ((¬ (p2 < 0 ∨ 20 ≤ Int32.toNatClampNeg p2)) ∧ (am_Go l D DA b sz (d + 1) M_R_makeLoads (151, [some (.ref 47), some (.int p1), some (.int p2), some (.int p3), some (.int ((σ 51 (Int32.toNatClampNeg p2)) + (σ 61 (Int32.toNatClampNeg p2)))), some (.int ((σ 51 (Int32.toNatClampNeg p2)) + (σ 61 (Int32.toNatClampNeg p2)))), some (.int 0), none], [], (am_TT cu L, am_RR cu, σ)) r X')))))) ∧ (¬ ((σ 47 0) ≤ p4) → (∃ (r1 : Int32) (σ1 : Nat → Nat → Int32), am_Go l D DA b sz d M_R_stands (0, [some (.ref 47), some (.int p2), some (.int p4)], [], (am_TT cu L, am_RR cu, σ)) (some (.int r1)) (am_TT cu L, am_RR cu, σ1) ∧ (am_Go l D DA b sz (d + 1) M_R_makeLoads (97, [some (.ref 47), some (.int p1), some (.int p2), some (.int (p3 + r1)), some (.int (p4 + 1)), none, none, none], [], (am_TT cu L, am_RR cu, σ1)) r X')))) :
    am_Go l D DA b sz (d + 1) M_R_makeLoads (97, [some (.ref 47), some (.int p1), some (.int p2), some (.int p3), some (.int p4), none, none, none], [], (am_TT cu L, am_RR cu, σ)) r X' := by
  refine go_steps q_R_makeLoads kc_R_makeLoads 4 rfl ?_
  refine go_if (fun hb => ?_) (fun hb => ?_)
  · have hb : (σ 47 0) ≤ p4 := hb
    replace hv := hv.1 hb
    refine go_steps q_R_makeLoads kc_R_makeLoads 2 rfl ?_
    refine go_if (fun hb => ?_) (fun hb => ?_)
    · have hb : p3 = 0 := hb
      replace hv := hv.1 hb
      refine go_steps q_R_makeLoads kc_R_makeLoads 1 rfl ?_
      refine go_le (L1 := [some (.ref 47), some (.int p1), none, none, none, none, none, none]) (by repeat (first | exact trivial | refine ⟨rfl, ?_⟩)) ?_
      exact hv
    · have hb : ¬ (p3 = 0) := hb
      replace hv := hv.2 hb
      refine go_steps q_R_makeLoads kc_R_makeLoads 3 rfl ?_
      obtain ⟨hc1, hv⟩ := hv
      refine go_iaload q_R_makeLoads kc_R_makeLoads rfl rfl hc1 ?_
      refine go_steps q_R_makeLoads kc_R_makeLoads 3 rfl ?_
      obtain ⟨hc2, hv⟩ := hv
      refine go_iaload q_R_makeLoads kc_R_makeLoads rfl rfl hc2 ?_
      refine go_steps q_R_makeLoads kc_R_makeLoads 6 rfl ?_
      refine go_le (L1 := [some (.ref 47), some (.int p1), some (.int p2), some (.int p3), some (.int ((σ 51 (Int32.toNatClampNeg p2)) + (σ 61 (Int32.toNatClampNeg p2)))), some (.int ((σ 51 (Int32.toNatClampNeg p2)) + (σ 61 (Int32.toNatClampNeg p2)))), some (.int 0), none]) (by repeat (first | exact trivial | refine ⟨rfl, ?_⟩)) ?_
      exact hv
  · have hb : ¬ ((σ 47 0) ≤ p4) := hb
    replace hv := hv.2 hb
    refine go_steps q_R_makeLoads kc_R_makeLoads 4 rfl ?_
    obtain ⟨r1, σ1, hg, hv⟩ := hv
    refine go_callV q_R_makeLoads kc_R_makeLoads rfl q_R_stands am_k114 ⟨rfl, rfl, by decide⟩ rfl rfl (Nat.le_of_ble_eq_true rfl) (Nat.le_of_ble_eq_true rfl) rfl rfl hg ?_
    refine go_steps q_R_makeLoads kc_R_makeLoads 4 rfl ?_
    refine go_le (L1 := [some (.ref 47), some (.int p1), some (.int p2), some (.int (p3 + r1)), some (.int (p4 + 1)), none, none, none]) (by repeat (first | exact trivial | refine ⟨rfl, ?_⟩)) ?_
    exact hv
set_option maxHeartbeats 4000000 in
set_option maxRecDepth 100000 in
theorem v_R_makeLoads_151 {l : Launch} {D : va_G} {DA : Nat → ClassId} {b sz d L : Nat} {cu : Bool} {σ : Nat → Nat → Int32} {r : Option Value} {X' : am_X} (p1 : Int32) (p2 : Int32) (p3 : Int32) (p4 : Int32) (p5 : Int32) (p6 : Int32)
    (hv : (((σ 47 0) ≤ p6) → (am_Go l D DA b sz (d + 1) M_R_makeLoads (206, [some (.ref 47), some (.int p1), some (.int p2), none, none, some (.int p5), some (.int 0), none], [], (am_TT cu L, am_RR cu, σ)) r X')) ∧ (¬ ((σ 47 0) ≤ p6) → (∃ (r1 : Int32) (σ1 : Nat → Nat → Int32), am_Go l D DA b sz d M_R_stands (0, [some (.ref 47), some (.int p2), some (.int p6)], [], (am_TT cu L, am_RR cu, σ)) (some (.int r1)) (am_TT cu L, am_RR cu, σ1) ∧ ((¬ (Int32.toInt64 p3) = 0) ∧ ((¬ (p6 < 0 ∨ 20 ≤ Int32.toNatClampNeg p6)) ∧ ((¬ (p6 < 0 ∨ 20 ≤ Int32.toNatClampNeg p6)) ∧ (am_Go l D DA b sz (d + 1) M_R_makeLoads (151, [some (.ref 47), some (.int p1), some (.int p2), some (.int p3), some (.int p4), some (.int (p5 - (Int64.toInt32 (((Int32.toInt64 p4) * (Int32.toInt64 r1)) / (Int32.toInt64 p3))))), some (.int (p6 + 1)), none], [], (am_TT cu L, am_RR cu, am_us σ1 61 (Int32.toNatClampNeg p6) ((σ1 61 (Int32.toNatClampNeg p6)) + (Int64.toInt32 (((Int32.toInt64 p4) * (Int32.toInt64 r1)) / (Int32.toInt64 p3)))))) r X'))))))) :
    am_Go l D DA b sz (d + 1) M_R_makeLoads (151, [some (.ref 47), some (.int p1), some (.int p2), some (.int p3), some (.int p4), some (.int p5), some (.int p6), none], [], (am_TT cu L, am_RR cu, σ)) r X' := by
  refine go_steps q_R_makeLoads kc_R_makeLoads 4 rfl ?_
  refine go_if (fun hb => ?_) (fun hb => ?_)
  · have hb : (σ 47 0) ≤ p6 := hb
    replace hv := hv.1 hb
    refine go_steps q_R_makeLoads kc_R_makeLoads 2 rfl ?_
    refine go_le (L1 := [some (.ref 47), some (.int p1), some (.int p2), none, none, some (.int p5), some (.int 0), none]) (by repeat (first | exact trivial | refine ⟨rfl, ?_⟩)) ?_
    exact hv
  · have hb : ¬ ((σ 47 0) ≤ p6) := hb
    replace hv := hv.2 hb
    refine go_steps q_R_makeLoads kc_R_makeLoads 5 rfl ?_
    obtain ⟨r1, σ1, hg, hv⟩ := hv
    refine go_callV q_R_makeLoads kc_R_makeLoads rfl q_R_stands am_k114 ⟨rfl, rfl, by decide⟩ rfl rfl (Nat.le_of_ble_eq_true rfl) (Nat.le_of_ble_eq_true rfl) rfl rfl hg ?_
    refine go_steps q_R_makeLoads kc_R_makeLoads 4 rfl ?_
    obtain ⟨hc, hv⟩ := hv
    refine go_ldiv q_R_makeLoads kc_R_makeLoads rfl hc ?_
    refine go_steps q_R_makeLoads kc_R_makeLoads 6 rfl ?_
    obtain ⟨hc1, hv⟩ := hv
    refine go_iaload q_R_makeLoads kc_R_makeLoads rfl rfl hc1 ?_
    refine go_steps q_R_makeLoads kc_R_makeLoads 2 rfl ?_
    obtain ⟨hc, hv⟩ := hv
    refine go_iastore q_R_makeLoads kc_R_makeLoads rfl rfl hc ?_
    refine go_steps q_R_makeLoads kc_R_makeLoads 6 rfl ?_
    refine go_le (L1 := [some (.ref 47), some (.int p1), some (.int p2), some (.int p3), some (.int p4), some (.int (p5 - (Int64.toInt32 (((Int32.toInt64 p4) * (Int32.toInt64 r1)) / (Int32.toInt64 p3))))), some (.int (p6 + 1)), none]) (by repeat (first | exact trivial | refine ⟨rfl, ?_⟩)) ?_
    exact hv
set_option maxHeartbeats 4000000 in
set_option maxRecDepth 100000 in
theorem v_R_makeLoads_206 {l : Launch} {D : va_G} {DA : Nat → ClassId} {b sz d L : Nat} {cu : Bool} {σ : Nat → Nat → Int32} {r : Option Value} {X' : am_X} (p1 : Int32) (p2 : Int32) (p5 : Int32) (p6 : Int32)
    (hv : (((σ 47 0) ≤ p6) → (am_Go l D DA b sz (d + 1) M_R_makeLoads (25, [some (.ref 47), some (.int p1), none, none, none, none, none, none], [], (am_TT cu L, am_RR cu, σ)) r X')) ∧ (¬ ((σ 47 0) ≤ p6) → (((p5 ≤ 0) → (am_Go l D DA b sz (d + 1) M_R_makeLoads (25, [some (.ref 47), some (.int p1), none, none, none, none, none, none], [], (am_TT cu L, am_RR cu, σ)) r X')) ∧ (¬ (p5 ≤ 0) → (∃ (r1 : Int32) (σ1 : Nat → Nat → Int32), am_Go l D DA b sz d M_R_stands (0, [some (.ref 47), some (.int p2), some (.int p6)], [], (am_TT cu L, am_RR cu, σ)) (some (.int r1)) (am_TT cu L, am_RR cu, σ1) ∧ (((r1 = 0) → (am_Go l D DA b sz (d + 1) M_R_makeLoads (206, [some (.ref 47), some (.int p1), some (.int p2), none, none, some (.int p5), some (.int (p6 + 1)), none], [], (am_TT cu L, am_RR cu, σ1)) r X')) ∧ (¬ (r1 = 0) → ((¬ (p6 < 0 ∨ 20 ≤ Int32.toNatClampNeg p6)) ∧ ((¬ (p6 < 0 ∨ 20 ≤ Int32.toNatClampNeg p6)) ∧ (am_Go l D DA b sz (d + 1) M_R_makeLoads (206, [some (.ref 47), some (.int p1), some (.int p2), none, none, some (.int (p5 + (-1))), some (.int (p6 + 1)), none], [], (am_TT cu L, am_RR cu, am_us σ1 61 (Int32.toNatClampNeg p6) ((σ1 61 (Int32.toNatClampNeg p6)) + 1))) r X')))))))))) :
    am_Go l D DA b sz (d + 1) M_R_makeLoads (206, [some (.ref 47), some (.int p1), some (.int p2), none, none, some (.int p5), some (.int p6), none], [], (am_TT cu L, am_RR cu, σ)) r X' := by
  refine go_steps q_R_makeLoads kc_R_makeLoads 4 rfl ?_
  refine go_if (fun hb => ?_) (fun hb => ?_)
  · have hb : (σ 47 0) ≤ p6 := hb
    replace hv := hv.1 hb
    refine go_steps q_R_makeLoads kc_R_makeLoads 1 rfl ?_
    refine go_le (L1 := [some (.ref 47), some (.int p1), none, none, none, none, none, none]) (by repeat (first | exact trivial | refine ⟨rfl, ?_⟩)) ?_
    exact hv
  · have hb : ¬ ((σ 47 0) ≤ p6) := hb
    replace hv := hv.2 hb
    refine go_steps q_R_makeLoads kc_R_makeLoads 2 rfl ?_
    refine go_if (fun hb => ?_) (fun hb => ?_)
    · have hb : p5 ≤ 0 := hb
      replace hv := hv.1 hb
      refine go_steps q_R_makeLoads kc_R_makeLoads 1 rfl ?_
      refine go_le (L1 := [some (.ref 47), some (.int p1), none, none, none, none, none, none]) (by repeat (first | exact trivial | refine ⟨rfl, ?_⟩)) ?_
      exact hv
    · have hb : ¬ (p5 ≤ 0) := hb
      replace hv := hv.2 hb
      refine go_steps q_R_makeLoads kc_R_makeLoads 3 rfl ?_
      obtain ⟨r1, σ1, hg, hv⟩ := hv
      refine go_callV q_R_makeLoads kc_R_makeLoads rfl q_R_stands am_k114 ⟨rfl, rfl, by decide⟩ rfl rfl (Nat.le_of_ble_eq_true rfl) (Nat.le_of_ble_eq_true rfl) rfl rfl hg ?_
      refine go_steps q_R_makeLoads kc_R_makeLoads 1 rfl ?_
      refine go_if (fun hb => ?_) (fun hb => ?_)
      · have hb : r1 = 0 := hb
        replace hv := hv.1 hb
        refine go_steps q_R_makeLoads kc_R_makeLoads 3 rfl ?_
        refine go_le (L1 := [some (.ref 47), some (.int p1), some (.int p2), none, none, some (.int p5), some (.int (p6 + 1)), none]) (by repeat (first | exact trivial | refine ⟨rfl, ?_⟩)) ?_
        exact hv
      · have hb : ¬ (r1 = 0) := hb
        replace hv := hv.2 hb
        refine go_steps q_R_makeLoads kc_R_makeLoads 4 rfl ?_
        obtain ⟨hc1, hv⟩ := hv
        refine go_iaload q_R_makeLoads kc_R_makeLoads rfl rfl hc1 ?_
        refine go_steps q_R_makeLoads kc_R_makeLoads 2 rfl ?_
        obtain ⟨hc, hv⟩ := hv
        refine go_iastore q_R_makeLoads kc_R_makeLoads rfl rfl hc ?_
        refine go_steps q_R_makeLoads kc_R_makeLoads 3 rfl ?_
        refine go_le (L1 := [some (.ref 47), some (.int p1), some (.int p2), none, none, some (.int (p5 + (-1))), some (.int (p6 + 1)), none]) (by repeat (first | exact trivial | refine ⟨rfl, ?_⟩)) ?_
        exact hv
set_option maxHeartbeats 4000000 in
set_option maxRecDepth 100000 in
theorem v_R_place_0 {l : Launch} {D : va_G} {DA : Nat → ClassId} {b sz d L : Nat} {cu : Bool} {σ : Nat → Nat → Int32} {r : Option Value} {X' : am_X} (p1 : Int32) (p2 : Int32) (p3 : Int32) (p4 : Int32) (p5 : Int32)
    (hv : (∃ (r1 : Int32) (σ1 : Nat → Nat → Int32), am_Go l D DA b sz d M_R_asked (0, [some (.ref 47), some (.int p1), some (.int p2), some (.int p3), some (.int p4), some (.int p5)], [], (am_TT cu L, am_RR cu, σ)) (some (.int r1)) (am_TT cu L, am_RR cu, σ1) ∧ (((r1 = 0) → (∃ (r2 : Int32) (σ2 : Nat → Nat → Int32), am_Go l D DA b sz d M_R_wrongAt (0, [some (.ref 47), some (.int p1), some (.int p2), some (.int p3), some (.int p4), some (.int p5), none, none, none, none], [], (am_TT cu L, am_RR cu, σ1)) (some (.int r2)) (am_TT cu L, am_RR cu, σ2) ∧ (((r2 = 0) → ((¬ (p1 < 0 ∨ 20 ≤ Int32.toNatClampNeg p1)) ∧ (r = some (.int 1) ∧ X' = (am_TT cu L, am_RR cu, am_us σ2 56 (Int32.toNatClampNeg p1) 1)))) ∧ (¬ (r2 = 0) → (r = some (.int 0) ∧ X' = (am_TT cu L, am_RR cu, σ2)))))) ∧ (¬ (r1 = 0) → (r = some (.int r1) ∧ X' = (am_TT cu L, am_RR cu, σ1)))))) :
    am_Go l D DA b sz (d + 1) M_R_place (0, [some (.ref 47), some (.int p1), some (.int p2), some (.int p3), some (.int p4), some (.int p5), none], [], (am_TT cu L, am_RR cu, σ)) r X' := by
  refine go_steps q_R_place kc_R_place 6 rfl ?_
  obtain ⟨r1, σ1, hg, hv⟩ := hv
  refine go_callV q_R_place kc_R_place rfl q_R_asked am_k107 ⟨rfl, rfl, by decide⟩ rfl rfl (Nat.le_of_ble_eq_true rfl) (Nat.le_of_ble_eq_true rfl) rfl rfl hg ?_
  refine go_steps q_R_place kc_R_place 3 rfl ?_
  refine go_if (fun hb => ?_) (fun hb => ?_)
  · have hb : r1 = 0 := hb
    replace hv := hv.1 hb
    refine go_steps q_R_place kc_R_place 6 rfl ?_
    obtain ⟨r2, σ2, hg, hv⟩ := hv
    refine go_callV q_R_place kc_R_place rfl q_R_wrongAt am_k109 ⟨rfl, rfl, by decide⟩ rfl rfl (Nat.le_of_ble_eq_true rfl) (Nat.le_of_ble_eq_true rfl) rfl rfl hg ?_
    refine go_steps q_R_place kc_R_place 1 rfl ?_
    refine go_if (fun hb => ?_) (fun hb => ?_)
    · have hb : r2 = 0 := hb
      replace hv := hv.1 hb
      refine go_steps q_R_place kc_R_place 4 rfl ?_
      obtain ⟨hc, hv⟩ := hv
      refine go_bastore q_R_place kc_R_place rfl rfl hc (Or.inr rfl) ?_
      refine go_steps q_R_place kc_R_place 1 rfl ?_
      obtain ⟨rfl, rfl⟩ := hv
      exact go_retI q_R_place kc_R_place rfl rfl rfl
    · have hb : ¬ (r2 = 0) := hb
      replace hv := hv.2 hb
      refine go_steps q_R_place kc_R_place 1 rfl ?_
      obtain ⟨rfl, rfl⟩ := hv
      exact go_retI q_R_place kc_R_place rfl rfl rfl
  · have hb : ¬ (r1 = 0) := hb
    replace hv := hv.2 hb
    refine go_steps q_R_place kc_R_place 1 rfl ?_
    obtain ⟨rfl, rfl⟩ := hv
    exact go_retI q_R_place kc_R_place rfl rfl rfl
set_option maxHeartbeats 4000000 in
set_option maxRecDepth 100000 in
theorem v_R_set_0 {l : Launch} {D : va_G} {DA : Nat → ClassId} {b sz d L : Nat} {cu : Bool} {σ : Nat → Nat → Int32} {r : Option Value} {X' : am_X} (p1 : Int32)
    (hv : (∃ (r1 : Int32) (σ1 : Nat → Nat → Int32), am_Go l D DA b sz d M_R_isBox (0, [some (.ref 47), some (.int p1)], [], (am_TT cu L, am_RR cu, σ)) (some (.int r1)) (am_TT cu L, am_RR cu, σ1) ∧ (((r1 = 0) → (r = some (.int (-2)) ∧ X' = (am_TT cu L, am_RR cu, σ1))) ∧ (¬ (r1 = 0) → ((¬ (p1 < 0 ∨ 20 ≤ Int32.toNatClampNeg p1)) ∧ ((((σ1 56 (Int32.toNatClampNeg p1)) = 0) → (∃ (r2 : Int32) (σ2 : Nat → Nat → Int32), am_Go l D DA b sz d M_R_sets (0, [some (.ref 47), some (.int p1), none, none, none, none], [], (am_TT cu L, am_RR cu, σ1)) (some (.int r2)) (am_TT cu L, am_RR cu, σ2) ∧ (r = some (.int (if r2 = 0 then (-1) else 1 : Int32)) ∧ X' = (am_TT cu L, am_RR cu, σ2)))) ∧ (¬ ((σ1 56 (Int32.toNatClampNeg p1)) = 0) → (r = some (.int (-4)) ∧ X' = (am_TT cu L, am_RR cu, σ1))))))))) :
    am_Go l D DA b sz (d + 1) M_R_set (0, [some (.ref 47), some (.int p1)], [], (am_TT cu L, am_RR cu, σ)) r X' := by
  refine go_steps q_R_set kc_R_set 2 rfl ?_
  obtain ⟨r1, σ1, hg, hv⟩ := hv
  refine go_callV q_R_set kc_R_set rfl q_R_isBox am_k108 ⟨rfl, rfl, by decide⟩ rfl rfl (Nat.le_of_ble_eq_true rfl) (Nat.le_of_ble_eq_true rfl) rfl rfl hg ?_
  refine go_steps q_R_set kc_R_set 1 rfl ?_
  refine go_if (fun hb => ?_) (fun hb => ?_)
  · have hb : r1 = 0 := hb
    replace hv := hv.1 hb
    refine go_steps q_R_set kc_R_set 1 rfl ?_
    obtain ⟨rfl, rfl⟩ := hv
    exact go_retI q_R_set kc_R_set rfl rfl rfl
  · have hb : ¬ (r1 = 0) := hb
    replace hv := hv.2 hb
    refine go_steps q_R_set kc_R_set 3 rfl ?_
    obtain ⟨hc1, hv⟩ := hv
    refine go_baload q_R_set kc_R_set rfl rfl hc1 ?_
    refine go_steps q_R_set kc_R_set 1 rfl ?_
    refine go_if (fun hb => ?_) (fun hb => ?_)
    · have hb : (σ1 56 (Int32.toNatClampNeg p1)) = 0 := hb
      replace hv := hv.1 hb
      refine go_steps q_R_set kc_R_set 2 rfl ?_
      obtain ⟨r2, σ2, hg, hv⟩ := hv
      refine go_callV q_R_set kc_R_set rfl q_R_sets am_k120 ⟨rfl, rfl, by decide⟩ rfl rfl (Nat.le_of_ble_eq_true rfl) (Nat.le_of_ble_eq_true rfl) rfl rfl hg ?_
      refine go_steps q_R_set kc_R_set 1 rfl ?_
      have key : am_Go l D DA b sz (d + 1) M_R_set (36, [some (.ref 47), some (.int p1)], [.int (if r2 = 0 then (-1) else 1 : Int32)], (am_TT cu L, am_RR cu, σ2)) r X' := by
        obtain ⟨rfl, rfl⟩ := hv
        exact go_retI q_R_set kc_R_set rfl rfl rfl
      refine go_if (fun hb => ?_) (fun hb => ?_)
      · have hb : r2 = 0 := hb
        rw [show (if r2 = 0 then (-1) else 1 : Int32) = (-1) from if_pos hb] at key
        refine go_steps q_R_set kc_R_set 1 rfl ?_
        exact key
      · have hb : ¬ (r2 = 0) := hb
        rw [show (if r2 = 0 then (-1) else 1 : Int32) = 1 from if_neg hb] at key
        refine go_steps q_R_set kc_R_set 2 rfl ?_
        exact key
    · have hb : ¬ ((σ1 56 (Int32.toNatClampNeg p1)) = 0) := hb
      replace hv := hv.2 hb
      refine go_steps q_R_set kc_R_set 1 rfl ?_
      obtain ⟨rfl, rfl⟩ := hv
      exact go_retI q_R_set kc_R_set rfl rfl rfl
set_option maxHeartbeats 4000000 in
set_option maxRecDepth 100000 in
theorem v_R_sets_0 {l : Launch} {D : va_G} {DA : Nat → ClassId} {b sz d L : Nat} {cu : Bool} {σ : Nat → Nat → Int32} {r : Option Value} {X' : am_X} (p1 : Int32)
    (hv : am_Go l D DA b sz (d + 1) M_R_sets (2, [some (.ref 47), some (.int p1), some (.int 0), none, none, none], [], (am_TT cu L, am_RR cu, σ)) r X') :
    am_Go l D DA b sz (d + 1) M_R_sets (0, [some (.ref 47), some (.int p1), none, none, none, none], [], (am_TT cu L, am_RR cu, σ)) r X' := by
  refine go_steps q_R_sets kc_R_sets 2 rfl ?_
  refine go_le (L1 := [some (.ref 47), some (.int p1), some (.int 0), none, none, none]) (by repeat (first | exact trivial | refine ⟨rfl, ?_⟩)) ?_
  exact hv
set_option maxHeartbeats 4000000 in
set_option maxRecDepth 100000 in
theorem v_R_sets_2 {l : Launch} {D : va_G} {DA : Nat → ClassId} {b sz d L : Nat} {cu : Bool} {σ : Nat → Nat → Int32} {r : Option Value} {X' : am_X} (p1 : Int32) (p2 : Int32)
    (hv : ((p2 = (-1)) → (r = some (.int 0) ∧ X' = (am_TT cu L, am_RR cu, σ))) ∧ (¬ (p2 = (-1)) → (am_Go l D DA b sz (d + 1) M_R_sets (9, [some (.ref 47), some (.int p1), some (.int p2), some (.int 0), none, none], [], (am_TT cu L, am_RR cu, σ)) r X'))) :
    am_Go l D DA b sz (d + 1) M_R_sets (2, [some (.ref 47), some (.int p1), some (.int p2), none, none, none], [], (am_TT cu L, am_RR cu, σ)) r X' := by
  refine go_steps q_R_sets kc_R_sets 3 rfl ?_
  refine go_if (fun hb => ?_) (fun hb => ?_)
  · have hb : p2 = (-1) := hb
    replace hv := hv.1 hb
    refine go_steps q_R_sets kc_R_sets 1 rfl ?_
    obtain ⟨rfl, rfl⟩ := hv
    exact go_retI q_R_sets kc_R_sets rfl rfl rfl
  · have hb : ¬ (p2 = (-1)) := hb
    replace hv := hv.2 hb
    refine go_steps q_R_sets kc_R_sets 2 rfl ?_
    refine go_le (L1 := [some (.ref 47), some (.int p1), some (.int p2), some (.int 0), none, none]) (by repeat (first | exact trivial | refine ⟨rfl, ?_⟩)) ?_
    exact hv
set_option maxHeartbeats 4000000 in
set_option maxRecDepth 100000 in
theorem v_R_sets_9 {l : Launch} {D : va_G} {DA : Nat → ClassId} {b sz d L : Nat} {cu : Bool} {σ : Nat → Nat → Int32} {r : Option Value} {X' : am_X} (p1 : Int32) (p2 : Int32) (p3 : Int32)
    (hv : ((p3 = (-1)) → (∃ (r1 : Int32) (σ1 : Nat → Nat → Int32), am_Go l D DA b sz d M_R_nextEnd (0, [some (.ref 47), some (.int 2), some (.int p2), none, none, none], [], (am_TT cu L, am_RR cu, σ)) (some (.int r1)) (am_TT cu L, am_RR cu, σ1) ∧ (am_Go l D DA b sz (d + 1) M_R_sets (2, [some (.ref 47), some (.int p1), some (.int r1), none, none, none], [], (am_TT cu L, am_RR cu, σ1)) r X'))) ∧ (¬ (p3 = (-1)) → (am_Go l D DA b sz (d + 1) M_R_sets (17, [some (.ref 47), some (.int p1), some (.int p2), some (.int p3), some (.int 0), none], [], (am_TT cu L, am_RR cu, σ)) r X'))) :
    am_Go l D DA b sz (d + 1) M_R_sets (9, [some (.ref 47), some (.int p1), some (.int p2), some (.int p3), none, none], [], (am_TT cu L, am_RR cu, σ)) r X' := by
  refine go_steps q_R_sets kc_R_sets 3 rfl ?_
  refine go_if (fun hb => ?_) (fun hb => ?_)
  · have hb : p3 = (-1) := hb
    replace hv := hv.1 hb
    refine go_steps q_R_sets kc_R_sets 3 rfl ?_
    obtain ⟨r1, σ1, hg, hv⟩ := hv
    refine go_callV q_R_sets kc_R_sets rfl q_R_nextEnd am_k121 ⟨rfl, rfl, by decide⟩ rfl rfl (Nat.le_of_ble_eq_true rfl) (Nat.le_of_ble_eq_true rfl) rfl rfl hg ?_
    refine go_steps q_R_sets kc_R_sets 2 rfl ?_
    refine go_le (L1 := [some (.ref 47), some (.int p1), some (.int r1), none, none, none]) (by repeat (first | exact trivial | refine ⟨rfl, ?_⟩)) ?_
    exact hv
  · have hb : ¬ (p3 = (-1)) := hb
    replace hv := hv.2 hb
    refine go_steps q_R_sets kc_R_sets 2 rfl ?_
    refine go_le (L1 := [some (.ref 47), some (.int p1), some (.int p2), some (.int p3), some (.int 0), none]) (by repeat (first | exact trivial | refine ⟨rfl, ?_⟩)) ?_
    exact hv
set_option maxHeartbeats 4000000 in
set_option maxRecDepth 100000 in
theorem v_R_sets_17 {l : Launch} {D : va_G} {DA : Nat → ClassId} {b sz d L : Nat} {cu : Bool} {σ : Nat → Nat → Int32} {r : Option Value} {X' : am_X} (p1 : Int32) (p2 : Int32) (p3 : Int32) (p4 : Int32)
    (hv : ((p4 = (-1)) → (∃ (r1 : Int32) (σ1 : Nat → Nat → Int32), am_Go l D DA b sz d M_R_nextEnd (0, [some (.ref 47), some (.int 0), some (.int p3), none, none, none], [], (am_TT cu L, am_RR cu, σ)) (some (.int r1)) (am_TT cu L, am_RR cu, σ1) ∧ (am_Go l D DA b sz (d + 1) M_R_sets (9, [some (.ref 47), some (.int p1), some (.int p2), some (.int r1), none, none], [], (am_TT cu L, am_RR cu, σ1)) r X'))) ∧ (¬ (p4 = (-1)) → (am_Go l D DA b sz (d + 1) M_R_sets (26, [some (.ref 47), some (.int p1), some (.int p2), some (.int p3), some (.int p4), some (.int 0)], [], (am_TT cu L, am_RR cu, σ)) r X'))) :
    am_Go l D DA b sz (d + 1) M_R_sets (17, [some (.ref 47), some (.int p1), some (.int p2), some (.int p3), some (.int p4), none], [], (am_TT cu L, am_RR cu, σ)) r X' := by
  refine go_steps q_R_sets kc_R_sets 3 rfl ?_
  refine go_if (fun hb => ?_) (fun hb => ?_)
  · have hb : p4 = (-1) := hb
    replace hv := hv.1 hb
    refine go_steps q_R_sets kc_R_sets 3 rfl ?_
    obtain ⟨r1, σ1, hg, hv⟩ := hv
    refine go_callV q_R_sets kc_R_sets rfl q_R_nextEnd am_k121 ⟨rfl, rfl, by decide⟩ rfl rfl (Nat.le_of_ble_eq_true rfl) (Nat.le_of_ble_eq_true rfl) rfl rfl hg ?_
    refine go_steps q_R_sets kc_R_sets 2 rfl ?_
    refine go_le (L1 := [some (.ref 47), some (.int p1), some (.int p2), some (.int r1), none, none]) (by repeat (first | exact trivial | refine ⟨rfl, ?_⟩)) ?_
    exact hv
  · have hb : ¬ (p4 = (-1)) := hb
    replace hv := hv.2 hb
    refine go_steps q_R_sets kc_R_sets 2 rfl ?_
    refine go_le (L1 := [some (.ref 47), some (.int p1), some (.int p2), some (.int p3), some (.int p4), some (.int 0)]) (by repeat (first | exact trivial | refine ⟨rfl, ?_⟩)) ?_
    exact hv
set_option maxHeartbeats 4000000 in
set_option maxRecDepth 100000 in
theorem v_R_sets_26 {l : Launch} {D : va_G} {DA : Nat → ClassId} {b sz d L : Nat} {cu : Bool} {σ : Nat → Nat → Int32} {r : Option Value} {X' : am_X} (p1 : Int32) (p2 : Int32) (p3 : Int32) (p4 : Int32) (p5 : Int32)
    (hv : (¬ (p1 < 0 ∨ 20 ≤ Int32.toNatClampNeg p1)) ∧ ((((σ 54 (Int32.toNatClampNeg p1)) = 0) → (((1 ≤ p5) → (∃ (r1 : Int32) (σ1 : Nat → Nat → Int32), am_Go l D DA b sz d M_R_nextEnd (0, [some (.ref 47), some (.int 1), some (.int p4), none, none, none], [], (am_TT cu L, am_RR cu, σ)) (some (.int r1)) (am_TT cu L, am_RR cu, σ1) ∧ (am_Go l D DA b sz (d + 1) M_R_sets (17, [some (.ref 47), some (.int p1), some (.int p2), some (.int p3), some (.int r1), none], [], (am_TT cu L, am_RR cu, σ1)) r X'))) ∧ (¬ (1 ≤ p5) → (∃ (r2 : Int32) (σ2 : Nat → Nat → Int32), am_Go l D DA b sz d M_R_wrongAt (0, [some (.ref 47), some (.int p1), some (.int p3), some (.int p4), some (.int p2), some (.int (if p5 = 1 then 1 else 0 : Int32)), none, none, none, none], [], (am_TT cu L, am_RR cu, σ)) (some (.int r2)) (am_TT cu L, am_RR cu, σ2) ∧ (((r2 = 0) → ((¬ (p1 < 0 ∨ 20 ≤ Int32.toNatClampNeg p1)) ∧ (r = some (.int 1) ∧ X' = (am_TT cu L, am_RR cu, am_us σ2 56 (Int32.toNatClampNeg p1) 1)))) ∧ (¬ (r2 = 0) → (am_Go l D DA b sz (d + 1) M_R_sets (26, [some (.ref 47), some (.int p1), some (.int p2), some (.int p3), some (.int p4), some (.int (p5 + 1))], [], (am_TT cu L, am_RR cu, σ2)) r X'))))))) ∧ (¬ ((σ 54 (Int32.toNatClampNeg p1)) = 0) → ((¬ (p1 < 0 ∨ 20 ≤ Int32.toNatClampNeg p1)) ∧ ((¬ (p1 < 0 ∨ 20 ≤ Int32.toNatClampNeg p1)) ∧ ((((if (σ 48 (Int32.toNatClampNeg p1)) = (σ 49 (Int32.toNatClampNeg p1)) then 1 else 2 : Int32) ≤ p5) → (∃ (r3 : Int32) (σ3 : Nat → Nat → Int32), am_Go l D DA b sz d M_R_nextEnd (0, [some (.ref 47), some (.int 1), some (.int p4), none, none, none], [], (am_TT cu L, am_RR cu, σ)) (some (.int r3)) (am_TT cu L, am_RR cu, σ3) ∧ (am_Go l D DA b sz (d + 1) M_R_sets (17, [some (.ref 47), some (.int p1), some (.int p2), some (.int p3), some (.int r3), none], [], (am_TT cu L, am_RR cu, σ3)) r X'))) ∧ (¬ ((if (σ 48 (Int32.toNatClampNeg p1)) = (σ 49 (Int32.toNatClampNeg p1)) then 1 else 2 : Int32) ≤ p5) → (∃ (r4 : Int32) (σ4 : Nat → Nat → Int32), am_Go l D DA b sz d M_R_wrongAt (0, [some (.ref 47), some (.int p1), some (.int p3), some (.int p4), some (.int p2), some (.int (if p5 = 1 then 1 else 0 : Int32)), none, none, none, none], [], (am_TT cu L, am_RR cu, σ)) (some (.int r4)) (am_TT cu L, am_RR cu, σ4) ∧ (((r4 = 0) → ((¬ (p1 < 0 ∨ 20 ≤ Int32.toNatClampNeg p1)) ∧ (r = some (.int 1) ∧ X' = (am_TT cu L, am_RR cu, am_us σ4 56 (Int32.toNatClampNeg p1) 1)))) ∧ (¬ (r4 = 0) → (am_Go l D DA b sz (d + 1) M_R_sets (26, [some (.ref 47), some (.int p1), some (.int p2), some (.int p3), some (.int p4), some (.int (p5 + 1))], [], (am_TT cu L, am_RR cu, σ4)) r X'))))))))))) :
    am_Go l D DA b sz (d + 1) M_R_sets (26, [some (.ref 47), some (.int p1), some (.int p2), some (.int p3), some (.int p4), some (.int p5)], [], (am_TT cu L, am_RR cu, σ)) r X' := by
  refine go_steps q_R_sets kc_R_sets 4 rfl ?_
  obtain ⟨hc1, hv⟩ := hv
  refine go_baload q_R_sets kc_R_sets rfl rfl hc1 ?_
  refine go_steps q_R_sets kc_R_sets 1 rfl ?_
  refine go_if (fun hb => ?_) (fun hb => ?_)
  · have hb : (σ 54 (Int32.toNatClampNeg p1)) = 0 := hb
    replace hv := hv.1 hb
    refine go_steps q_R_sets kc_R_sets 2 rfl ?_
    refine go_if (fun hb => ?_) (fun hb => ?_)
    · have hb : 1 ≤ p5 := hb
      replace hv := hv.1 hb
      refine go_steps q_R_sets kc_R_sets 3 rfl ?_
      obtain ⟨r1, σ1, hg, hv⟩ := hv
      refine go_callV q_R_sets kc_R_sets rfl q_R_nextEnd am_k121 ⟨rfl, rfl, by decide⟩ rfl rfl (Nat.le_of_ble_eq_true rfl) (Nat.le_of_ble_eq_true rfl) rfl rfl hg ?_
      refine go_steps q_R_sets kc_R_sets 2 rfl ?_
      refine go_le (L1 := [some (.ref 47), some (.int p1), some (.int p2), some (.int p3), some (.int r1), none]) (by repeat (first | exact trivial | refine ⟨rfl, ?_⟩)) ?_
      exact hv
    · have hb : ¬ (1 ≤ p5) := hb
      replace hv := hv.2 hb
      refine go_steps q_R_sets kc_R_sets 8 rfl ?_
      have key : am_Go l D DA b sz (d + 1) M_R_sets (77, [some (.ref 47), some (.int p1), some (.int p2), some (.int p3), some (.int p4), some (.int p5)], [.int (if p5 = 1 then 1 else 0 : Int32), .int p2, .int p4, .int p3, .int p1, .ref 47], (am_TT cu L, am_RR cu, σ)) r X' := by
        obtain ⟨r2, σ2, hg, hv⟩ := hv
        refine go_callV q_R_sets kc_R_sets rfl q_R_wrongAt am_k109 ⟨rfl, rfl, by decide⟩ rfl rfl (Nat.le_of_ble_eq_true rfl) (Nat.le_of_ble_eq_true rfl) rfl rfl hg ?_
        refine go_steps q_R_sets kc_R_sets 1 rfl ?_
        refine go_if (fun hb => ?_) (fun hb => ?_)
        · have hb : r2 = 0 := hb
          replace hv := hv.1 hb
          refine go_steps q_R_sets kc_R_sets 4 rfl ?_
          obtain ⟨hc, hv⟩ := hv
          refine go_bastore q_R_sets kc_R_sets rfl rfl hc (Or.inr rfl) ?_
          refine go_steps q_R_sets kc_R_sets 1 rfl ?_
          obtain ⟨rfl, rfl⟩ := hv
          exact go_retI q_R_sets kc_R_sets rfl rfl rfl
        · have hb : ¬ (r2 = 0) := hb
          replace hv := hv.2 hb
          refine go_steps q_R_sets kc_R_sets 3 rfl ?_
          refine go_le (L1 := [some (.ref 47), some (.int p1), some (.int p2), some (.int p3), some (.int p4), some (.int (p5 + 1))]) (by repeat (first | exact trivial | refine ⟨rfl, ?_⟩)) ?_
          exact hv
      refine go_if (fun hb => ?_) (fun hb => ?_)
      · have hb : p5 = 1 := hb
        rw [show (if p5 = 1 then 1 else 0 : Int32) = 1 from if_pos hb] at key
        refine go_steps q_R_sets kc_R_sets 2 rfl ?_
        exact key
      · have hb : ¬ (p5 = 1) := hb
        rw [show (if p5 = 1 then 1 else 0 : Int32) = 0 from if_neg hb] at key
        refine go_steps q_R_sets kc_R_sets 1 rfl ?_
        exact key
  · have hb : ¬ ((σ 54 (Int32.toNatClampNeg p1)) = 0) := hb
    replace hv := hv.2 hb
    refine go_steps q_R_sets kc_R_sets 3 rfl ?_
    obtain ⟨hc2, hv⟩ := hv
    refine go_iaload q_R_sets kc_R_sets rfl rfl hc2 ?_
    refine go_steps q_R_sets kc_R_sets 3 rfl ?_
    obtain ⟨hc3, hv⟩ := hv
    refine go_iaload q_R_sets kc_R_sets rfl rfl hc3 ?_
    refine go_steps q_R_sets kc_R_sets 1 rfl ?_
    have key : am_Go l D DA b sz (d + 1) M_R_sets (57, [some (.ref 47), some (.int p1), some (.int p2), some (.int p3), some (.int p4), some (.int p5)], [.int (if (σ 48 (Int32.toNatClampNeg p1)) = (σ 49 (Int32.toNatClampNeg p1)) then 1 else 2 : Int32), .int p5], (am_TT cu L, am_RR cu, σ)) r X' := by
      refine go_steps q_R_sets kc_R_sets 1 rfl ?_
      refine go_if (fun hb => ?_) (fun hb => ?_)
      · have hb : (if (σ 48 (Int32.toNatClampNeg p1)) = (σ 49 (Int32.toNatClampNeg p1)) then 1 else 2 : Int32) ≤ p5 := hb
        replace hv := hv.1 hb
        refine go_steps q_R_sets kc_R_sets 3 rfl ?_
        obtain ⟨r3, σ3, hg, hv⟩ := hv
        refine go_callV q_R_sets kc_R_sets rfl q_R_nextEnd am_k121 ⟨rfl, rfl, by decide⟩ rfl rfl (Nat.le_of_ble_eq_true rfl) (Nat.le_of_ble_eq_true rfl) rfl rfl hg ?_
        refine go_steps q_R_sets kc_R_sets 2 rfl ?_
        refine go_le (L1 := [some (.ref 47), some (.int p1), some (.int p2), some (.int p3), some (.int r3), none]) (by repeat (first | exact trivial | refine ⟨rfl, ?_⟩)) ?_
        exact hv
      · have hb : ¬ ((if (σ 48 (Int32.toNatClampNeg p1)) = (σ 49 (Int32.toNatClampNeg p1)) then 1 else 2 : Int32) ≤ p5) := hb
        replace hv := hv.2 hb
        refine go_steps q_R_sets kc_R_sets 8 rfl ?_
        have key : am_Go l D DA b sz (d + 1) M_R_sets (77, [some (.ref 47), some (.int p1), some (.int p2), some (.int p3), some (.int p4), some (.int p5)], [.int (if p5 = 1 then 1 else 0 : Int32), .int p2, .int p4, .int p3, .int p1, .ref 47], (am_TT cu L, am_RR cu, σ)) r X' := by
          obtain ⟨r4, σ4, hg, hv⟩ := hv
          refine go_callV q_R_sets kc_R_sets rfl q_R_wrongAt am_k109 ⟨rfl, rfl, by decide⟩ rfl rfl (Nat.le_of_ble_eq_true rfl) (Nat.le_of_ble_eq_true rfl) rfl rfl hg ?_
          refine go_steps q_R_sets kc_R_sets 1 rfl ?_
          refine go_if (fun hb => ?_) (fun hb => ?_)
          · have hb : r4 = 0 := hb
            replace hv := hv.1 hb
            refine go_steps q_R_sets kc_R_sets 4 rfl ?_
            obtain ⟨hc, hv⟩ := hv
            refine go_bastore q_R_sets kc_R_sets rfl rfl hc (Or.inr rfl) ?_
            refine go_steps q_R_sets kc_R_sets 1 rfl ?_
            obtain ⟨rfl, rfl⟩ := hv
            exact go_retI q_R_sets kc_R_sets rfl rfl rfl
          · have hb : ¬ (r4 = 0) := hb
            replace hv := hv.2 hb
            refine go_steps q_R_sets kc_R_sets 3 rfl ?_
            refine go_le (L1 := [some (.ref 47), some (.int p1), some (.int p2), some (.int p3), some (.int p4), some (.int (p5 + 1))]) (by repeat (first | exact trivial | refine ⟨rfl, ?_⟩)) ?_
            exact hv
        refine go_if (fun hb => ?_) (fun hb => ?_)
        · have hb : p5 = 1 := hb
          rw [show (if p5 = 1 then 1 else 0 : Int32) = 1 from if_pos hb] at key
          refine go_steps q_R_sets kc_R_sets 2 rfl ?_
          exact key
        · have hb : ¬ (p5 = 1) := hb
          rw [show (if p5 = 1 then 1 else 0 : Int32) = 0 from if_neg hb] at key
          refine go_steps q_R_sets kc_R_sets 1 rfl ?_
          exact key
    refine go_if (fun hb => ?_) (fun hb => ?_)
    · have hb : (σ 48 (Int32.toNatClampNeg p1)) = (σ 49 (Int32.toNatClampNeg p1)) := hb
      rw [show (if (σ 48 (Int32.toNatClampNeg p1)) = (σ 49 (Int32.toNatClampNeg p1)) then 1 else 2 : Int32) = 1 from if_pos hb] at key
      refine go_steps q_R_sets kc_R_sets 1 rfl ?_
      exact key
    · have hb : ¬ ((σ 48 (Int32.toNatClampNeg p1)) = (σ 49 (Int32.toNatClampNeg p1))) := hb
      rw [show (if (σ 48 (Int32.toNatClampNeg p1)) = (σ 49 (Int32.toNatClampNeg p1)) then 1 else 2 : Int32) = 2 from if_neg hb] at key
      refine go_steps q_R_sets kc_R_sets 2 rfl ?_
      exact key
set_option maxHeartbeats 4000000 in
set_option maxRecDepth 100000 in
theorem v_R_nextEnd_0 {l : Launch} {D : va_G} {DA : Nat → ClassId} {b sz d L : Nat} {cu : Bool} {σ : Nat → Nat → Int32} {r : Option Value} {X' : am_X} (p1 : Int32) (p2 : Int32)
    (hv : am_Go l D DA b sz (d + 1) M_R_nextEnd (5, [some (.ref 47), some (.int p1), some (.int p2), some (.int (-1)), some (.int 0), none], [], (am_TT cu L, am_RR cu, σ)) r X') :
    am_Go l D DA b sz (d + 1) M_R_nextEnd (0, [some (.ref 47), some (.int p1), some (.int p2), none, none, none], [], (am_TT cu L, am_RR cu, σ)) r X' := by
  refine go_steps q_R_nextEnd kc_R_nextEnd 4 rfl ?_
  refine go_le (L1 := [some (.ref 47), some (.int p1), some (.int p2), some (.int (-1)), some (.int 0), none]) (by repeat (first | exact trivial | refine ⟨rfl, ?_⟩)) ?_
  exact hv
set_option maxHeartbeats 4000000 in
set_option maxRecDepth 100000 in
theorem v_R_nextEnd_5 {l : Launch} {D : va_G} {DA : Nat → ClassId} {b sz d L : Nat} {cu : Bool} {σ : Nat → Nat → Int32} {r : Option Value} {X' : am_X} (p1 : Int32) (p2 : Int32) (p3 : Int32) (p4 : Int32)
    (hv : (((σ 47 0) ≤ p4) → (r = some (.int p3) ∧ X' = (am_TT cu L, am_RR cu, σ))) ∧ (¬ ((σ 47 0) ≤ p4) → ((¬ (p4 < 0 ∨ 20 ≤ Int32.toNatClampNeg p4)) ∧ ((((σ 56 (Int32.toNatClampNeg p4)) = 0) → (am_Go l D DA b sz (d + 1) M_R_nextEnd (5, [some (.ref 47), some (.int p1), some (.int p2), some (.int p3), some (.int (p4 + 1)), none], [], (am_TT cu L, am_RR cu, σ)) r X')) ∧ (¬ ((σ 56 (Int32.toNatClampNeg p4)) = 0) → (((p1 = 0) → ((¬ (p4 < 0 ∨ 20 ≤ Int32.toNatClampNeg p4)) ∧ (∃ (r1 : Int32) (σ1 : Nat → Nat → Int32), am_Go l D DA b sz d M_R_longOf (0, [some (.ref 47), some (.int p4)], [], (am_TT cu L, am_RR cu, σ)) (some (.int r1)) (am_TT cu L, am_RR cu, σ1) ∧ (((((σ 57 (Int32.toNatClampNeg p4)) + r1) ≤ p2) → (am_Go l D DA b sz (d + 1) M_R_nextEnd (5, [some (.ref 47), some (.int p1), some (.int p2), some (.int p3), some (.int (p4 + 1)), none], [], (am_TT cu L, am_RR cu, σ1)) r X')) ∧ (¬ (((σ 57 (Int32.toNatClampNeg p4)) + r1) ≤ p2) → (((p3 = (-1)) → (am_Go l D DA b sz (d + 1) M_R_nextEnd (5, [some (.ref 47), some (.int p1), some (.int p2), some (.int ((σ 57 (Int32.toNatClampNeg p4)) + r1)), some (.int (p4 + 1)), none], [], (am_TT cu L, am_RR cu, σ1)) r X')) ∧ (¬ (p3 = (-1)) → (((p3 ≤ ((σ 57 (Int32.toNatClampNeg p4)) + r1)) → (am_Go l D DA b sz (d + 1) M_R_nextEnd (5, [some (.ref 47), some (.int p1), some (.int p2), some (.int p3), some (.int (p4 + 1)), none], [], (am_TT cu L, am_RR cu, σ1)) r X')) ∧ (¬ (p3 ≤ ((σ 57 (Int32.toNatClampNeg p4)) + r1)) → (am_Go l D DA b sz (d + 1) M_R_nextEnd (5, [some (.ref 47), some (.int p1), some (.int p2), some (.int ((σ 57 (Int32.toNatClampNeg p4)) + r1)), some (.int (p4 + 1)), none], [], (am_TT cu L, am_RR cu, σ1)) r X')))))))))) ∧ (¬ (p1 = 0) → (((p1 = 1) → ((¬ (p4 < 0 ∨ 20 ≤ Int32.toNatClampNeg p4)) ∧ (∃ (r2 : Int32) (σ2 : Nat → Nat → Int32), am_Go l D DA b sz d M_R_wideOf (0, [some (.ref 47), some (.int p4)], [], (am_TT cu L, am_RR cu, σ)) (some (.int r2)) (am_TT cu L, am_RR cu, σ2) ∧ (((((σ 58 (Int32.toNatClampNeg p4)) + r2) ≤ p2) → (am_Go l D DA b sz (d + 1) M_R_nextEnd (5, [some (.ref 47), some (.int p1), some (.int p2), some (.int p3), some (.int (p4 + 1)), none], [], (am_TT cu L, am_RR cu, σ2)) r X')) ∧ (¬ (((σ 58 (Int32.toNatClampNeg p4)) + r2) ≤ p2) → (((p3 = (-1)) → (am_Go l D DA b sz (d + 1) M_R_nextEnd (5, [some (.ref 47), some (.int p1), some (.int p2), some (.int ((σ 58 (Int32.toNatClampNeg p4)) + r2)), some (.int (p4 + 1)), none], [], (am_TT cu L, am_RR cu, σ2)) r X')) ∧ (¬ (p3 = (-1)) → (((p3 ≤ ((σ 58 (Int32.toNatClampNeg p4)) + r2)) → (am_Go l D DA b sz (d + 1) M_R_nextEnd (5, [some (.ref 47), some (.int p1), some (.int p2), some (.int p3), some (.int (p4 + 1)), none], [], (am_TT cu L, am_RR cu, σ2)) r X')) ∧ (¬ (p3 ≤ ((σ 58 (Int32.toNatClampNeg p4)) + r2)) → (am_Go l D DA b sz (d + 1) M_R_nextEnd (5, [some (.ref 47), some (.int p1), some (.int p2), some (.int ((σ 58 (Int32.toNatClampNeg p4)) + r2)), some (.int (p4 + 1)), none], [], (am_TT cu L, am_RR cu, σ2)) r X')))))))))) ∧ (¬ (p1 = 1) → (∃ (r3 : Int32) (σ3 : Nat → Nat → Int32), am_Go l D DA b sz d M_R_topOf (0, [some (.ref 47), some (.int p4)], [], (am_TT cu L, am_RR cu, σ)) (some (.int r3)) (am_TT cu L, am_RR cu, σ3) ∧ (((r3 ≤ p2) → (am_Go l D DA b sz (d + 1) M_R_nextEnd (5, [some (.ref 47), some (.int p1), some (.int p2), some (.int p3), some (.int (p4 + 1)), none], [], (am_TT cu L, am_RR cu, σ3)) r X')) ∧ (¬ (r3 ≤ p2) → (((p3 = (-1)) → (am_Go l D DA b sz (d + 1) M_R_nextEnd (5, [some (.ref 47), some (.int p1), some (.int p2), some (.int r3), some (.int (p4 + 1)), none], [], (am_TT cu L, am_RR cu, σ3)) r X')) ∧ (¬ (p3 = (-1)) → (((p3 ≤ r3) → (am_Go l D DA b sz (d + 1) M_R_nextEnd (5, [some (.ref 47), some (.int p1), some (.int p2), some (.int p3), some (.int (p4 + 1)), none], [], (am_TT cu L, am_RR cu, σ3)) r X')) ∧ (¬ (p3 ≤ r3) → (am_Go l D DA b sz (d + 1) M_R_nextEnd (5, [some (.ref 47), some (.int p1), some (.int p2), some (.int r3), some (.int (p4 + 1)), none], [], (am_TT cu L, am_RR cu, σ3)) r X'))))))))))))))))) :
    am_Go l D DA b sz (d + 1) M_R_nextEnd (5, [some (.ref 47), some (.int p1), some (.int p2), some (.int p3), some (.int p4), none], [], (am_TT cu L, am_RR cu, σ)) r X' := by
  refine go_steps q_R_nextEnd kc_R_nextEnd 4 rfl ?_
  refine go_if (fun hb => ?_) (fun hb => ?_)
  · have hb : (σ 47 0) ≤ p4 := hb
    replace hv := hv.1 hb
    refine go_steps q_R_nextEnd kc_R_nextEnd 1 rfl ?_
    obtain ⟨rfl, rfl⟩ := hv
    exact go_retI q_R_nextEnd kc_R_nextEnd rfl rfl rfl
  · have hb : ¬ ((σ 47 0) ≤ p4) := hb
    replace hv := hv.2 hb
    refine go_steps q_R_nextEnd kc_R_nextEnd 3 rfl ?_
    obtain ⟨hc1, hv⟩ := hv
    refine go_baload q_R_nextEnd kc_R_nextEnd rfl rfl hc1 ?_
    refine go_steps q_R_nextEnd kc_R_nextEnd 1 rfl ?_
    refine go_if (fun hb => ?_) (fun hb => ?_)
    · have hb : (σ 56 (Int32.toNatClampNeg p4)) = 0 := hb
      replace hv := hv.1 hb
      refine go_steps q_R_nextEnd kc_R_nextEnd 3 rfl ?_
      refine go_le (L1 := [some (.ref 47), some (.int p1), some (.int p2), some (.int p3), some (.int (p4 + 1)), none]) (by repeat (first | exact trivial | refine ⟨rfl, ?_⟩)) ?_
      exact hv
    · have hb : ¬ ((σ 56 (Int32.toNatClampNeg p4)) = 0) := hb
      replace hv := hv.2 hb
      refine go_steps q_R_nextEnd kc_R_nextEnd 2 rfl ?_
      refine go_if (fun hb => ?_) (fun hb => ?_)
      · have hb : p1 = 0 := hb
        replace hv := hv.1 hb
        refine go_steps q_R_nextEnd kc_R_nextEnd 3 rfl ?_
        obtain ⟨hc2, hv⟩ := hv
        refine go_iaload q_R_nextEnd kc_R_nextEnd rfl rfl hc2 ?_
        refine go_steps q_R_nextEnd kc_R_nextEnd 2 rfl ?_
        obtain ⟨r1, σ1, hg, hv⟩ := hv
        refine go_callV q_R_nextEnd kc_R_nextEnd rfl q_R_longOf am_k110 ⟨rfl, rfl, by decide⟩ rfl rfl (Nat.le_of_ble_eq_true rfl) (Nat.le_of_ble_eq_true rfl) rfl rfl hg ?_
        refine go_steps q_R_nextEnd kc_R_nextEnd 6 rfl ?_
        refine go_if (fun hb => ?_) (fun hb => ?_)
        · have hb : ((σ 57 (Int32.toNatClampNeg p4)) + r1) ≤ p2 := hb
          replace hv := hv.1 hb
          refine go_steps q_R_nextEnd kc_R_nextEnd 2 rfl ?_
          refine go_le (L1 := [some (.ref 47), some (.int p1), some (.int p2), some (.int p3), some (.int (p4 + 1)), none]) (by repeat (first | exact trivial | refine ⟨rfl, ?_⟩)) ?_
          exact hv
        · have hb : ¬ (((σ 57 (Int32.toNatClampNeg p4)) + r1) ≤ p2) := hb
          replace hv := hv.2 hb
          refine go_steps q_R_nextEnd kc_R_nextEnd 3 rfl ?_
          refine go_if (fun hb => ?_) (fun hb => ?_)
          · have hb : p3 = (-1) := hb
            replace hv := hv.1 hb
            refine go_steps q_R_nextEnd kc_R_nextEnd 4 rfl ?_
            refine go_le (L1 := [some (.ref 47), some (.int p1), some (.int p2), some (.int ((σ 57 (Int32.toNatClampNeg p4)) + r1)), some (.int (p4 + 1)), none]) (by repeat (first | exact trivial | refine ⟨rfl, ?_⟩)) ?_
            exact hv
          · have hb : ¬ (p3 = (-1)) := hb
            replace hv := hv.2 hb
            refine go_steps q_R_nextEnd kc_R_nextEnd 3 rfl ?_
            refine go_if (fun hb => ?_) (fun hb => ?_)
            · have hb : p3 ≤ ((σ 57 (Int32.toNatClampNeg p4)) + r1) := hb
              replace hv := hv.1 hb
              refine go_steps q_R_nextEnd kc_R_nextEnd 2 rfl ?_
              refine go_le (L1 := [some (.ref 47), some (.int p1), some (.int p2), some (.int p3), some (.int (p4 + 1)), none]) (by repeat (first | exact trivial | refine ⟨rfl, ?_⟩)) ?_
              exact hv
            · have hb : ¬ (p3 ≤ ((σ 57 (Int32.toNatClampNeg p4)) + r1)) := hb
              replace hv := hv.2 hb
              refine go_steps q_R_nextEnd kc_R_nextEnd 4 rfl ?_
              refine go_le (L1 := [some (.ref 47), some (.int p1), some (.int p2), some (.int ((σ 57 (Int32.toNatClampNeg p4)) + r1)), some (.int (p4 + 1)), none]) (by repeat (first | exact trivial | refine ⟨rfl, ?_⟩)) ?_
              exact hv
      · have hb : ¬ (p1 = 0) := hb
        replace hv := hv.2 hb
        refine go_steps q_R_nextEnd kc_R_nextEnd 3 rfl ?_
        refine go_if (fun hb => ?_) (fun hb => ?_)
        · have hb : p1 = 1 := hb
          replace hv := hv.1 hb
          refine go_steps q_R_nextEnd kc_R_nextEnd 3 rfl ?_
          obtain ⟨hc3, hv⟩ := hv
          refine go_iaload q_R_nextEnd kc_R_nextEnd rfl rfl hc3 ?_
          refine go_steps q_R_nextEnd kc_R_nextEnd 2 rfl ?_
          obtain ⟨r2, σ2, hg, hv⟩ := hv
          refine go_callV q_R_nextEnd kc_R_nextEnd rfl q_R_wideOf am_k111 ⟨rfl, rfl, by decide⟩ rfl rfl (Nat.le_of_ble_eq_true rfl) (Nat.le_of_ble_eq_true rfl) rfl rfl hg ?_
          refine go_steps q_R_nextEnd kc_R_nextEnd 6 rfl ?_
          refine go_if (fun hb => ?_) (fun hb => ?_)
          · have hb : ((σ 58 (Int32.toNatClampNeg p4)) + r2) ≤ p2 := hb
            replace hv := hv.1 hb
            refine go_steps q_R_nextEnd kc_R_nextEnd 2 rfl ?_
            refine go_le (L1 := [some (.ref 47), some (.int p1), some (.int p2), some (.int p3), some (.int (p4 + 1)), none]) (by repeat (first | exact trivial | refine ⟨rfl, ?_⟩)) ?_
            exact hv
          · have hb : ¬ (((σ 58 (Int32.toNatClampNeg p4)) + r2) ≤ p2) := hb
            replace hv := hv.2 hb
            refine go_steps q_R_nextEnd kc_R_nextEnd 3 rfl ?_
            refine go_if (fun hb => ?_) (fun hb => ?_)
            · have hb : p3 = (-1) := hb
              replace hv := hv.1 hb
              refine go_steps q_R_nextEnd kc_R_nextEnd 4 rfl ?_
              refine go_le (L1 := [some (.ref 47), some (.int p1), some (.int p2), some (.int ((σ 58 (Int32.toNatClampNeg p4)) + r2)), some (.int (p4 + 1)), none]) (by repeat (first | exact trivial | refine ⟨rfl, ?_⟩)) ?_
              exact hv
            · have hb : ¬ (p3 = (-1)) := hb
              replace hv := hv.2 hb
              refine go_steps q_R_nextEnd kc_R_nextEnd 3 rfl ?_
              refine go_if (fun hb => ?_) (fun hb => ?_)
              · have hb : p3 ≤ ((σ 58 (Int32.toNatClampNeg p4)) + r2) := hb
                replace hv := hv.1 hb
                refine go_steps q_R_nextEnd kc_R_nextEnd 2 rfl ?_
                refine go_le (L1 := [some (.ref 47), some (.int p1), some (.int p2), some (.int p3), some (.int (p4 + 1)), none]) (by repeat (first | exact trivial | refine ⟨rfl, ?_⟩)) ?_
                exact hv
              · have hb : ¬ (p3 ≤ ((σ 58 (Int32.toNatClampNeg p4)) + r2)) := hb
                replace hv := hv.2 hb
                refine go_steps q_R_nextEnd kc_R_nextEnd 4 rfl ?_
                refine go_le (L1 := [some (.ref 47), some (.int p1), some (.int p2), some (.int ((σ 58 (Int32.toNatClampNeg p4)) + r2)), some (.int (p4 + 1)), none]) (by repeat (first | exact trivial | refine ⟨rfl, ?_⟩)) ?_
                exact hv
        · have hb : ¬ (p1 = 1) := hb
          replace hv := hv.2 hb
          refine go_steps q_R_nextEnd kc_R_nextEnd 2 rfl ?_
          obtain ⟨r3, σ3, hg, hv⟩ := hv
          refine go_callV q_R_nextEnd kc_R_nextEnd rfl q_R_topOf am_k115 ⟨rfl, rfl, by decide⟩ rfl rfl (Nat.le_of_ble_eq_true rfl) (Nat.le_of_ble_eq_true rfl) rfl rfl hg ?_
          refine go_steps q_R_nextEnd kc_R_nextEnd 4 rfl ?_
          refine go_if (fun hb => ?_) (fun hb => ?_)
          · have hb : r3 ≤ p2 := hb
            replace hv := hv.1 hb
            refine go_steps q_R_nextEnd kc_R_nextEnd 2 rfl ?_
            refine go_le (L1 := [some (.ref 47), some (.int p1), some (.int p2), some (.int p3), some (.int (p4 + 1)), none]) (by repeat (first | exact trivial | refine ⟨rfl, ?_⟩)) ?_
            exact hv
          · have hb : ¬ (r3 ≤ p2) := hb
            replace hv := hv.2 hb
            refine go_steps q_R_nextEnd kc_R_nextEnd 3 rfl ?_
            refine go_if (fun hb => ?_) (fun hb => ?_)
            · have hb : p3 = (-1) := hb
              replace hv := hv.1 hb
              refine go_steps q_R_nextEnd kc_R_nextEnd 4 rfl ?_
              refine go_le (L1 := [some (.ref 47), some (.int p1), some (.int p2), some (.int r3), some (.int (p4 + 1)), none]) (by repeat (first | exact trivial | refine ⟨rfl, ?_⟩)) ?_
              exact hv
            · have hb : ¬ (p3 = (-1)) := hb
              replace hv := hv.2 hb
              refine go_steps q_R_nextEnd kc_R_nextEnd 3 rfl ?_
              refine go_if (fun hb => ?_) (fun hb => ?_)
              · have hb : p3 ≤ r3 := hb
                replace hv := hv.1 hb
                refine go_steps q_R_nextEnd kc_R_nextEnd 2 rfl ?_
                refine go_le (L1 := [some (.ref 47), some (.int p1), some (.int p2), some (.int p3), some (.int (p4 + 1)), none]) (by repeat (first | exact trivial | refine ⟨rfl, ?_⟩)) ?_
                exact hv
              · have hb : ¬ (p3 ≤ r3) := hb
                replace hv := hv.2 hb
                refine go_steps q_R_nextEnd kc_R_nextEnd 4 rfl ?_
                refine go_le (L1 := [some (.ref 47), some (.int p1), some (.int p2), some (.int r3), some (.int (p4 + 1)), none]) (by repeat (first | exact trivial | refine ⟨rfl, ?_⟩)) ?_
                exact hv
set_option maxHeartbeats 4000000 in
set_option maxRecDepth 100000 in
theorem v_R_take_0 {l : Launch} {D : va_G} {DA : Nat → ClassId} {b sz d L : Nat} {cu : Bool} {σ : Nat → Nat → Int32} {r : Option Value} {X' : am_X} (p1 : Int32)
    (hv : (∃ (r1 : Int32) (σ1 : Nat → Nat → Int32), am_Go l D DA b sz d M_R_isBox (0, [some (.ref 47), some (.int p1)], [], (am_TT cu L, am_RR cu, σ)) (some (.int r1)) (am_TT cu L, am_RR cu, σ1) ∧ (((r1 = 0) → (r = some (.int (-2)) ∧ X' = (am_TT cu L, am_RR cu, σ1))) ∧ (¬ (r1 = 0) → ((¬ (p1 < 0 ∨ 20 ≤ Int32.toNatClampNeg p1)) ∧ ((((σ1 56 (Int32.toNatClampNeg p1)) = 0) → (r = some (.int (-4)) ∧ X' = (am_TT cu L, am_RR cu, σ1))) ∧ (¬ ((σ1 56 (Int32.toNatClampNeg p1)) = 0) → (am_Go l D DA b sz (d + 1) M_R_take (25, [some (.ref 47), some (.int p1), some (.int 0)], [], (am_TT cu L, am_RR cu, σ1)) r X')))))))) :
    am_Go l D DA b sz (d + 1) M_R_take (0, [some (.ref 47), some (.int p1), none], [], (am_TT cu L, am_RR cu, σ)) r X' := by
  refine go_steps q_R_take kc_R_take 2 rfl ?_
  obtain ⟨r1, σ1, hg, hv⟩ := hv
  refine go_callV q_R_take kc_R_take rfl q_R_isBox am_k108 ⟨rfl, rfl, by decide⟩ rfl rfl (Nat.le_of_ble_eq_true rfl) (Nat.le_of_ble_eq_true rfl) rfl rfl hg ?_
  refine go_steps q_R_take kc_R_take 1 rfl ?_
  refine go_if (fun hb => ?_) (fun hb => ?_)
  · have hb : r1 = 0 := hb
    replace hv := hv.1 hb
    refine go_steps q_R_take kc_R_take 1 rfl ?_
    obtain ⟨rfl, rfl⟩ := hv
    exact go_retI q_R_take kc_R_take rfl rfl rfl
  · have hb : ¬ (r1 = 0) := hb
    replace hv := hv.2 hb
    refine go_steps q_R_take kc_R_take 3 rfl ?_
    obtain ⟨hc1, hv⟩ := hv
    refine go_baload q_R_take kc_R_take rfl rfl hc1 ?_
    refine go_steps q_R_take kc_R_take 1 rfl ?_
    refine go_if (fun hb => ?_) (fun hb => ?_)
    · have hb : (σ1 56 (Int32.toNatClampNeg p1)) = 0 := hb
      replace hv := hv.1 hb
      refine go_steps q_R_take kc_R_take 1 rfl ?_
      obtain ⟨rfl, rfl⟩ := hv
      exact go_retI q_R_take kc_R_take rfl rfl rfl
    · have hb : ¬ ((σ1 56 (Int32.toNatClampNeg p1)) = 0) := hb
      replace hv := hv.2 hb
      refine go_steps q_R_take kc_R_take 2 rfl ?_
      refine go_le (L1 := [some (.ref 47), some (.int p1), some (.int 0)]) (by repeat (first | exact trivial | refine ⟨rfl, ?_⟩)) ?_
      exact hv
set_option maxHeartbeats 4000000 in
set_option maxRecDepth 100000 in
theorem v_R_take_25 {l : Launch} {D : va_G} {DA : Nat → ClassId} {b sz d L : Nat} {cu : Bool} {σ : Nat → Nat → Int32} {r : Option Value} {X' : am_X} (p1 : Int32) (p2 : Int32)
    (hv : (((σ 47 0) ≤ p2) → ((¬ (p1 < 0 ∨ 20 ≤ Int32.toNatClampNeg p1)) ∧ (r = some (.int 1) ∧ X' = (am_TT cu L, am_RR cu, am_us σ 56 (Int32.toNatClampNeg p1) 0)))) ∧ (¬ ((σ 47 0) ≤ p2) → ((¬ (p2 < 0 ∨ 20 ≤ Int32.toNatClampNeg p2)) ∧ ((((σ 56 (Int32.toNatClampNeg p2)) = 0) → (am_Go l D DA b sz (d + 1) M_R_take (25, [some (.ref 47), some (.int p1), some (.int (p2 + 1))], [], (am_TT cu L, am_RR cu, σ)) r X')) ∧ (¬ ((σ 56 (Int32.toNatClampNeg p2)) = 0) → (∃ (r1 : Int32) (σ1 : Nat → Nat → Int32), am_Go l D DA b sz d M_R_stands (0, [some (.ref 47), some (.int p2), some (.int p1)], [], (am_TT cu L, am_RR cu, σ)) (some (.int r1)) (am_TT cu L, am_RR cu, σ1) ∧ (((r1 ≤ 0) → (am_Go l D DA b sz (d + 1) M_R_take (25, [some (.ref 47), some (.int p1), some (.int (p2 + 1))], [], (am_TT cu L, am_RR cu, σ1)) r X')) ∧ (¬ (r1 ≤ 0) → (r = some (.int 0) ∧ X' = (am_TT cu L, am_RR cu, σ1)))))))))) :
    am_Go l D DA b sz (d + 1) M_R_take (25, [some (.ref 47), some (.int p1), some (.int p2)], [], (am_TT cu L, am_RR cu, σ)) r X' := by
  refine go_steps q_R_take kc_R_take 4 rfl ?_
  refine go_if (fun hb => ?_) (fun hb => ?_)
  · have hb : (σ 47 0) ≤ p2 := hb
    replace hv := hv.1 hb
    refine go_steps q_R_take kc_R_take 4 rfl ?_
    obtain ⟨hc, hv⟩ := hv
    refine go_bastore q_R_take kc_R_take rfl rfl hc (Or.inl rfl) ?_
    refine go_steps q_R_take kc_R_take 1 rfl ?_
    obtain ⟨rfl, rfl⟩ := hv
    exact go_retI q_R_take kc_R_take rfl rfl rfl
  · have hb : ¬ ((σ 47 0) ≤ p2) := hb
    replace hv := hv.2 hb
    refine go_steps q_R_take kc_R_take 3 rfl ?_
    obtain ⟨hc1, hv⟩ := hv
    refine go_baload q_R_take kc_R_take rfl rfl hc1 ?_
    refine go_steps q_R_take kc_R_take 1 rfl ?_
    refine go_if (fun hb => ?_) (fun hb => ?_)
    · have hb : (σ 56 (Int32.toNatClampNeg p2)) = 0 := hb
      replace hv := hv.1 hb
      refine go_steps q_R_take kc_R_take 2 rfl ?_
      refine go_le (L1 := [some (.ref 47), some (.int p1), some (.int (p2 + 1))]) (by repeat (first | exact trivial | refine ⟨rfl, ?_⟩)) ?_
      exact hv
    · have hb : ¬ ((σ 56 (Int32.toNatClampNeg p2)) = 0) := hb
      replace hv := hv.2 hb
      refine go_steps q_R_take kc_R_take 3 rfl ?_
      obtain ⟨r1, σ1, hg, hv⟩ := hv
      refine go_callV q_R_take kc_R_take rfl q_R_stands am_k114 ⟨rfl, rfl, by decide⟩ rfl rfl (Nat.le_of_ble_eq_true rfl) (Nat.le_of_ble_eq_true rfl) rfl rfl hg ?_
      refine go_steps q_R_take kc_R_take 1 rfl ?_
      refine go_if (fun hb => ?_) (fun hb => ?_)
      · have hb : r1 ≤ 0 := hb
        replace hv := hv.1 hb
        refine go_steps q_R_take kc_R_take 2 rfl ?_
        refine go_le (L1 := [some (.ref 47), some (.int p1), some (.int (p2 + 1))]) (by repeat (first | exact trivial | refine ⟨rfl, ?_⟩)) ?_
        exact hv
      · have hb : ¬ (r1 ≤ 0) := hb
        replace hv := hv.2 hb
        refine go_steps q_R_take kc_R_take 1 rfl ?_
        obtain ⟨rfl, rfl⟩ := hv
        exact go_retI q_R_take kc_R_take rfl rfl rfl
set_option maxHeartbeats 4000000 in
set_option maxRecDepth 100000 in
theorem v_R_clear_0 {l : Launch} {D : va_G} {DA : Nat → ClassId} {b sz d L : Nat} {cu : Bool} {σ : Nat → Nat → Int32} {r : Option Value} {X' : am_X}
    (hv : (∃ (r1 : Int32) (σ1 : Nat → Nat → Int32), am_Go l D DA b sz d M_R_placed (0, [some (.ref 47), none, none], [], (am_TT cu L, am_RR cu, σ)) (some (.int r1)) (am_TT cu L, am_RR cu, σ1) ∧ (am_Go l D DA b sz (d + 1) M_R_clear (7, [some (.ref 47), some (.int r1), some (.int 0)], [], (am_TT cu L, am_RR cu, σ1)) r X'))) :
    am_Go l D DA b sz (d + 1) M_R_clear (0, [some (.ref 47), none, none], [], (am_TT cu L, am_RR cu, σ)) r X' := by
  refine go_steps q_R_clear kc_R_clear 1 rfl ?_
  obtain ⟨r1, σ1, hg, hv⟩ := hv
  refine go_callV q_R_clear kc_R_clear rfl q_R_placed am_k102 ⟨rfl, rfl, by decide⟩ rfl rfl (Nat.le_of_ble_eq_true rfl) (Nat.le_of_ble_eq_true rfl) rfl rfl hg ?_
  refine go_steps q_R_clear kc_R_clear 3 rfl ?_
  refine go_le (L1 := [some (.ref 47), some (.int r1), some (.int 0)]) (by repeat (first | exact trivial | refine ⟨rfl, ?_⟩)) ?_
  exact hv
set_option maxHeartbeats 4000000 in
set_option maxRecDepth 100000 in
theorem v_R_clear_7 {l : Launch} {D : va_G} {DA : Nat → ClassId} {b sz d L : Nat} {cu : Bool} {σ : Nat → Nat → Int32} {r : Option Value} {X' : am_X} (p1 : Int32) (p2 : Int32)
    (hv : (((σ 47 0) ≤ p2) → (r = some (.int p1) ∧ X' = (am_TT cu L, am_RR cu, σ))) ∧ (¬ ((σ 47 0) ≤ p2) → ((¬ (p2 < 0 ∨ 20 ≤ Int32.toNatClampNeg p2)) ∧ (am_Go l D DA b sz (d + 1) M_R_clear (7, [some (.ref 47), some (.int p1), some (.int (p2 + 1))], [], (am_TT cu L, am_RR cu, am_us σ 56 (Int32.toNatClampNeg p2) 0)) r X')))) :
    am_Go l D DA b sz (d + 1) M_R_clear (7, [some (.ref 47), some (.int p1), some (.int p2)], [], (am_TT cu L, am_RR cu, σ)) r X' := by
  refine go_steps q_R_clear kc_R_clear 4 rfl ?_
  refine go_if (fun hb => ?_) (fun hb => ?_)
  · have hb : (σ 47 0) ≤ p2 := hb
    replace hv := hv.1 hb
    refine go_steps q_R_clear kc_R_clear 1 rfl ?_
    obtain ⟨rfl, rfl⟩ := hv
    exact go_retI q_R_clear kc_R_clear rfl rfl rfl
  · have hb : ¬ ((σ 47 0) ≤ p2) := hb
    replace hv := hv.2 hb
    refine go_steps q_R_clear kc_R_clear 4 rfl ?_
    obtain ⟨hc, hv⟩ := hv
    refine go_bastore q_R_clear kc_R_clear rfl rfl hc (Or.inl rfl) ?_
    refine go_steps q_R_clear kc_R_clear 2 rfl ?_
    refine go_le (L1 := [some (.ref 47), some (.int p1), some (.int (p2 + 1))]) (by repeat (first | exact trivial | refine ⟨rfl, ?_⟩)) ?_
    exact hv
set_option maxHeartbeats 4000000 in
set_option maxRecDepth 100000 in
theorem v_R_best_0 {l : Launch} {D : va_G} {DA : Nat → ClassId} {b sz d L : Nat} {cu : Bool} {σ : Nat → Nat → Int32} {r : Option Value} {X' : am_X} (p1 : Int32)
    (hv : (∃ (r1 : Int32) (σ1 : Nat → Nat → Int32), am_Go l D DA b sz d M_R_isSet (0, [some (.ref 47), some (.int p1)], [], (am_TT cu L, am_RR cu, σ)) (some (.int r1)) (am_TT cu L, am_RR cu, σ1) ∧ (((r1 = 0) → (r = some (.int (-2)) ∧ X' = (am_TT cu L, am_RR cu, σ1))) ∧ (¬ (r1 = 0) → (am_Go l D DA b sz (d + 1) M_R_best (15, [some (.ref 47), some (.int p1), some (.int 0), some (.int 0)], [], (am_TT cu L, am_RR cu, σ1)) r X'))))) :
    am_Go l D DA b sz (d + 1) M_R_best (0, [some (.ref 47), some (.int p1), none, none], [], (am_TT cu L, am_RR cu, σ)) r X' := by
  refine go_steps q_R_best kc_R_best 2 rfl ?_
  obtain ⟨r1, σ1, hg, hv⟩ := hv
  refine go_callV q_R_best kc_R_best rfl q_R_isSet am_k125 ⟨rfl, rfl, by decide⟩ rfl rfl (Nat.le_of_ble_eq_true rfl) (Nat.le_of_ble_eq_true rfl) rfl rfl hg ?_
  refine go_steps q_R_best kc_R_best 1 rfl ?_
  refine go_if (fun hb => ?_) (fun hb => ?_)
  · have hb : r1 = 0 := hb
    replace hv := hv.1 hb
    refine go_steps q_R_best kc_R_best 1 rfl ?_
    obtain ⟨rfl, rfl⟩ := hv
    exact go_retI q_R_best kc_R_best rfl rfl rfl
  · have hb : ¬ (r1 = 0) := hb
    replace hv := hv.2 hb
    refine go_steps q_R_best kc_R_best 4 rfl ?_
    refine go_le (L1 := [some (.ref 47), some (.int p1), some (.int 0), some (.int 0)]) (by repeat (first | exact trivial | refine ⟨rfl, ?_⟩)) ?_
    exact hv
set_option maxHeartbeats 4000000 in
set_option maxRecDepth 100000 in
theorem v_R_best_15 {l : Launch} {D : va_G} {DA : Nat → ClassId} {b sz d L : Nat} {cu : Bool} {σ : Nat → Nat → Int32} {r : Option Value} {X' : am_X} (p1 : Int32) (p2 : Int32) (p3 : Int32)
    (hv : (((σ 47 0) ≤ p3) → (((p2 ≤ 5) → (∃ (σ1 : Nat → Nat → Int32), am_Go l D DA b sz d M_R_orders (0, [some (.ref 47), some (.int p1), some (.int p1), some (.int 0), some (.int p2), none, none], [], (am_TT cu L, am_RR cu, am_us (am_us σ 47 25 (-1)) 47 26 0)) none (am_TT cu L, am_RR cu, σ1) ∧ ((∃ (r2 : Int32) (σ2 : Nat → Nat → Int32), am_Go l D DA b sz d M_R_lists (0, [some (.ref 47), some (.int (σ1 47 24)), some (.int p2), none, none], [], (am_TT cu L, am_RR cu, σ1)) (some (.int r2)) (am_TT cu L, am_RR cu, σ2) ∧ (r = some (.int r2) ∧ X' = (am_TT cu L, am_RR cu, σ2)))))) ∧ (¬ (p2 ≤ 5) → (r = some (.int (-3)) ∧ X' = (am_TT cu L, am_RR cu, σ))))) ∧ (¬ ((σ 47 0) ≤ p3) → (((((p1 >>> (p3 &&& 31 : Int32) : Int32) &&& 1) = (0 : Int32)) → (am_Go l D DA b sz (d + 1) M_R_best (15, [some (.ref 47), some (.int p1), some (.int p2), some (.int (p3 + 1))], [], (am_TT cu L, am_RR cu, σ)) r X')) ∧ (¬ (((p1 >>> (p3 &&& 31 : Int32) : Int32) &&& 1) = (0 : Int32)) → ((¬ (p3 < 0 ∨ 20 ≤ Int32.toNatClampNeg p3)) ∧ ((((σ 56 (Int32.toNatClampNeg p3)) = 0) → (am_Go l D DA b sz (d + 1) M_R_best (15, [some (.ref 47), some (.int p1), some (.int (p2 + 1)), some (.int (p3 + 1))], [], (am_TT cu L, am_RR cu, σ)) r X')) ∧ (¬ ((σ 56 (Int32.toNatClampNeg p3)) = 0) → (r = some (.int (-4)) ∧ X' = (am_TT cu L, am_RR cu, σ))))))))) :
    am_Go l D DA b sz (d + 1) M_R_best (15, [some (.ref 47), some (.int p1), some (.int p2), some (.int p3)], [], (am_TT cu L, am_RR cu, σ)) r X' := by
  refine go_steps q_R_best kc_R_best 4 rfl ?_
  refine go_if (fun hb => ?_) (fun hb => ?_)
  · have hb : (σ 47 0) ≤ p3 := hb
    replace hv := hv.1 hb
    refine go_steps q_R_best kc_R_best 3 rfl ?_
    refine go_if (fun hb => ?_) (fun hb => ?_)
    · have hb : p2 ≤ 5 := hb
      replace hv := hv.1 hb
      refine go_steps q_R_best kc_R_best 11 rfl ?_
      obtain ⟨σ1, hg, hv⟩ := hv
      refine go_callV q_R_best kc_R_best rfl q_R_orders am_k126 ⟨rfl, rfl, by decide⟩ rfl rfl (Nat.le_of_ble_eq_true rfl) (Nat.le_of_ble_eq_true rfl) rfl rfl hg ?_
      refine go_steps q_R_best kc_R_best 4 rfl ?_
      obtain ⟨r2, σ2, hg, hv⟩ := hv
      refine go_callV q_R_best kc_R_best rfl q_R_lists am_k127 ⟨rfl, rfl, by decide⟩ rfl rfl (Nat.le_of_ble_eq_true rfl) (Nat.le_of_ble_eq_true rfl) rfl rfl hg ?_
      obtain ⟨rfl, rfl⟩ := hv
      exact go_retI q_R_best kc_R_best rfl rfl rfl
    · have hb : ¬ (p2 ≤ 5) := hb
      replace hv := hv.2 hb
      refine go_steps q_R_best kc_R_best 1 rfl ?_
      obtain ⟨rfl, rfl⟩ := hv
      exact go_retI q_R_best kc_R_best rfl rfl rfl
  · have hb : ¬ ((σ 47 0) ≤ p3) := hb
    replace hv := hv.2 hb
    refine go_steps q_R_best kc_R_best 6 rfl ?_
    refine go_if (fun hb => ?_) (fun hb => ?_)
    · have hb : ((p1 >>> (p3 &&& 31 : Int32) : Int32) &&& 1) = (0 : Int32) := hb
      replace hv := hv.1 hb
      refine go_steps q_R_best kc_R_best 3 rfl ?_
      refine go_le (L1 := [some (.ref 47), some (.int p1), some (.int p2), some (.int (p3 + 1))]) (by repeat (first | exact trivial | refine ⟨rfl, ?_⟩)) ?_
      exact hv
    · have hb : ¬ (((p1 >>> (p3 &&& 31 : Int32) : Int32) &&& 1) = (0 : Int32)) := hb
      replace hv := hv.2 hb
      refine go_steps q_R_best kc_R_best 3 rfl ?_
      obtain ⟨hc1, hv⟩ := hv
      refine go_baload q_R_best kc_R_best rfl rfl hc1 ?_
      refine go_steps q_R_best kc_R_best 1 rfl ?_
      refine go_if (fun hb => ?_) (fun hb => ?_)
      · have hb : (σ 56 (Int32.toNatClampNeg p3)) = 0 := hb
        replace hv := hv.1 hb
        refine go_steps q_R_best kc_R_best 3 rfl ?_
        refine go_le (L1 := [some (.ref 47), some (.int p1), some (.int (p2 + 1)), some (.int (p3 + 1))]) (by repeat (first | exact trivial | refine ⟨rfl, ?_⟩)) ?_
        exact hv
      · have hb : ¬ ((σ 56 (Int32.toNatClampNeg p3)) = 0) := hb
        replace hv := hv.2 hb
        refine go_steps q_R_best kc_R_best 1 rfl ?_
        obtain ⟨rfl, rfl⟩ := hv
        exact go_retI q_R_best kc_R_best rfl rfl rfl
set_option maxHeartbeats 4000000 in
set_option maxRecDepth 100000 in
theorem v_R_isSet_0 {l : Launch} {D : va_G} {DA : Nat → ClassId} {b sz d L : Nat} {cu : Bool} {σ : Nat → Nat → Int32} {r : Option Value} {X' : am_X} (p1 : Int32)
    (hv : ((p1 ≤ 0) → (r = some (.int 0) ∧ X' = (am_TT cu L, am_RR cu, σ))) ∧ (¬ (p1 ≤ 0) → (((if (0 : Int32) ≤ (lg_cmp (Int32.toInt64 p1) ((Int64.ofNat 1) <<< (Int32.toInt64 (σ 47 0) &&& 63))) then 0 else 1 : Int32) = 0 ∨ (if (0 : Int32) ≤ (lg_cmp (Int32.toInt64 p1) ((Int64.ofNat 1) <<< (Int32.toInt64 (σ 47 0) &&& 63))) then 0 else 1 : Int32) = 1) ∧ (r = some (.int (if (0 : Int32) ≤ (lg_cmp (Int32.toInt64 p1) ((Int64.ofNat 1) <<< (Int32.toInt64 (σ 47 0) &&& 63))) then 0 else 1 : Int32)) ∧ X' = (am_TT cu L, am_RR cu, σ))))) :
    am_Go l D DA b sz d M_R_isSet (0, [some (.ref 47), some (.int p1)], [], (am_TT cu L, am_RR cu, σ)) r X' := by
  refine go_steps q_R_isSet kc_R_isSet 2 rfl ?_
  refine go_if (fun hb => ?_) (fun hb => ?_)
  · have hb : p1 ≤ 0 := hb
    replace hv := hv.1 hb
    refine go_steps q_R_isSet kc_R_isSet 1 rfl ?_
    obtain ⟨rfl, rfl⟩ := hv
    exact go_retI q_R_isSet kc_R_isSet rfl rfl rfl
  · have hb : ¬ (p1 ≤ 0) := hb
    replace hv := hv.2 hb
    refine go_steps q_R_isSet kc_R_isSet 8 rfl ?_
    have key : am_Go l D DA b sz d M_R_isSet (21, [some (.ref 47), some (.int p1)], [.int (if (0 : Int32) ≤ (lg_cmp (Int32.toInt64 p1) ((Int64.ofNat 1) <<< (Int32.toInt64 (σ 47 0) &&& 63))) then 0 else 1 : Int32)], (am_TT cu L, am_RR cu, σ)) r X' := by
      obtain ⟨hc, rfl, rfl⟩ := hv
      exact go_retI q_R_isSet kc_R_isSet rfl rfl (am_nar hc)
    refine go_if (fun hb => ?_) (fun hb => ?_)
    · have hb : (0 : Int32) ≤ (lg_cmp (Int32.toInt64 p1) ((Int64.ofNat 1) <<< (Int32.toInt64 (σ 47 0) &&& 63))) := hb
      rw [show (if (0 : Int32) ≤ (lg_cmp (Int32.toInt64 p1) ((Int64.ofNat 1) <<< (Int32.toInt64 (σ 47 0) &&& 63))) then 0 else 1 : Int32) = 0 from if_pos hb] at key
      refine go_steps q_R_isSet kc_R_isSet 1 rfl ?_
      exact key
    · have hb : ¬ ((0 : Int32) ≤ (lg_cmp (Int32.toInt64 p1) ((Int64.ofNat 1) <<< (Int32.toInt64 (σ 47 0) &&& 63)))) := hb
      rw [show (if (0 : Int32) ≤ (lg_cmp (Int32.toInt64 p1) ((Int64.ofNat 1) <<< (Int32.toInt64 (σ 47 0) &&& 63))) then 0 else 1 : Int32) = 1 from if_neg hb] at key
      refine go_steps q_R_isSet kc_R_isSet 2 rfl ?_
      exact key
