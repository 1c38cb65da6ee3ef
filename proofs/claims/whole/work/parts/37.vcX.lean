/-! some methods cut more finely; the law from its loop on (written by tools/mkvc2.py) -/
set_option maxHeartbeats 4000000 in
set_option maxRecDepth 100000 in
theorem v_R_isInWayc_0 {l : Launch} {D : va_G} {DA : Nat → ClassId} {b sz d L : Nat} {cu : Bool} {σ : Nat → Nat → Int32} {r : Option Value} {X' : am_X} (p1 : Int32) (p2 : Int32)
    (hv : (¬ (p1 < 0 ∨ 20 ≤ Int32.toNatClampNeg p1)) ∧ ((¬ (p2 < 0 ∨ 20 ≤ Int32.toNatClampNeg p2)) ∧ ((((σ 53 (Int32.toNatClampNeg p1)) = (σ 53 (Int32.toNatClampNeg p2))) → (r = some (.int 0) ∧ X' = (am_TT cu L, am_RR cu, σ))) ∧ (¬ ((σ 53 (Int32.toNatClampNeg p1)) = (σ 53 (Int32.toNatClampNeg p2))) → ((¬ (p1 < 0 ∨ 20 ≤ Int32.toNatClampNeg p1)) ∧ ((¬ (p2 < 0 ∨ 20 ≤ Int32.toNatClampNeg p2)) ∧ (am_Go l D DA b sz (d + 1) M_R_isInWay (50, [some (.ref 47), some (.int p1), some (.int p2), some (.int (if (σ 53 (Int32.toNatClampNeg p1)) ≤ (σ 53 (Int32.toNatClampNeg p2)) then p2 else p1 : Int32)), some (.int (if (if (σ 53 (Int32.toNatClampNeg p1)) ≤ (σ 53 (Int32.toNatClampNeg p2)) then p2 else p1 : Int32) = p1 then p2 else p1 : Int32)), none, none], [], (am_TT cu L, am_RR cu, σ)) r X'))))))) :
    am_Go l D DA b sz (d + 1) M_R_isInWay (0, [some (.ref 47), some (.int p1), some (.int p2), none, none, none, none], [], (am_TT cu L, am_RR cu, σ)) r X' := by
  refine go_steps q_R_isInWay kc_R_isInWay 3 rfl ?_
  obtain ⟨hc1, hv⟩ := hv
  refine go_iaload q_R_isInWay kc_R_isInWay rfl rfl hc1 ?_
  refine go_steps q_R_isInWay kc_R_isInWay 3 rfl ?_
  obtain ⟨hc2, hv⟩ := hv
  refine go_iaload q_R_isInWay kc_R_isInWay rfl rfl hc2 ?_
  refine go_steps q_R_isInWay kc_R_isInWay 1 rfl ?_
  refine go_if (fun hb => ?_) (fun hb => ?_)
  · have hb : (σ 53 (Int32.toNatClampNeg p1)) = (σ 53 (Int32.toNatClampNeg p2)) := hb
    replace hv := hv.1 hb
    refine go_steps q_R_isInWay kc_R_isInWay 1 rfl ?_
    obtain ⟨rfl, rfl⟩ := hv
    exact go_retI q_R_isInWay kc_R_isInWay rfl rfl rfl
  · have hb : ¬ ((σ 53 (Int32.toNatClampNeg p1)) = (σ 53 (Int32.toNatClampNeg p2))) := hb
    replace hv := hv.2 hb
    refine go_steps q_R_isInWay kc_R_isInWay 3 rfl ?_
    obtain ⟨hc3, hv⟩ := hv
    refine go_iaload q_R_isInWay kc_R_isInWay rfl rfl hc3 ?_
    refine go_steps q_R_isInWay kc_R_isInWay 3 rfl ?_
    obtain ⟨hc4, hv⟩ := hv
    refine go_iaload q_R_isInWay kc_R_isInWay rfl rfl hc4 ?_
    refine go_steps q_R_isInWay kc_R_isInWay 1 rfl ?_
    have key : am_Go l D DA b sz (d + 1) M_R_isInWay (37, [some (.ref 47), some (.int p1), some (.int p2), none, none, none, none], [.int (if (σ 53 (Int32.toNatClampNeg p1)) ≤ (σ 53 (Int32.toNatClampNeg p2)) then p2 else p1 : Int32)], (am_TT cu L, am_RR cu, σ)) r X' := by
      refine go_steps q_R_isInWay kc_R_isInWay 4 rfl ?_
      have key : am_Go l D DA b sz (d + 1) M_R_isInWay (48, [some (.ref 47), some (.int p1), some (.int p2), some (.int (if (σ 53 (Int32.toNatClampNeg p1)) ≤ (σ 53 (Int32.toNatClampNeg p2)) then p2 else p1 : Int32)), none, none, none], [.int (if (if (σ 53 (Int32.toNatClampNeg p1)) ≤ (σ 53 (Int32.toNatClampNeg p2)) then p2 else p1 : Int32) = p1 then p2 else p1 : Int32)], (am_TT cu L, am_RR cu, σ)) r X' := by
        refine go_steps q_R_isInWay kc_R_isInWay 1 rfl ?_
        refine go_le (L1 := [some (.ref 47), some (.int p1), some (.int p2), some (.int (if (σ 53 (Int32.toNatClampNeg p1)) ≤ (σ 53 (Int32.toNatClampNeg p2)) then p2 else p1 : Int32)), some (.int (if (if (σ 53 (Int32.toNatClampNeg p1)) ≤ (σ 53 (Int32.toNatClampNeg p2)) then p2 else p1 : Int32) = p1 then p2 else p1 : Int32)), none, none]) (by repeat (first | exact trivial | refine ⟨rfl, ?_⟩)) ?_
        exact hv
      refine go_if (fun hb => ?_) (fun hb => ?_)
      · have hb : (if (σ 53 (Int32.toNatClampNeg p1)) ≤ (σ 53 (Int32.toNatClampNeg p2)) then p2 else p1 : Int32) = p1 := hb
        rw [show (if (if (σ 53 (Int32.toNatClampNeg p1)) ≤ (σ 53 (Int32.toNatClampNeg p2)) then p2 else p1 : Int32) = p1 then p2 else p1 : Int32) = p2 from if_pos hb] at key
        refine go_steps q_R_isInWay kc_R_isInWay 2 rfl ?_
        exact key
      · have hb : ¬ ((if (σ 53 (Int32.toNatClampNeg p1)) ≤ (σ 53 (Int32.toNatClampNeg p2)) then p2 else p1 : Int32) = p1) := hb
        rw [show (if (if (σ 53 (Int32.toNatClampNeg p1)) ≤ (σ 53 (Int32.toNatClampNeg p2)) then p2 else p1 : Int32) = p1 then p2 else p1 : Int32) = p1 from if_neg hb] at key
        refine go_steps q_R_isInWay kc_R_isInWay 1 rfl ?_
        exact key
    refine go_if (fun hb => ?_) (fun hb => ?_)
    · have hb : (σ 53 (Int32.toNatClampNeg p1)) ≤ (σ 53 (Int32.toNatClampNeg p2)) := hb
      rw [show (if (σ 53 (Int32.toNatClampNeg p1)) ≤ (σ 53 (Int32.toNatClampNeg p2)) then p2 else p1 : Int32) = p2 from if_pos hb] at key
      refine go_steps q_R_isInWay kc_R_isInWay 1 rfl ?_
      exact key
    · have hb : ¬ ((σ 53 (Int32.toNatClampNeg p1)) ≤ (σ 53 (Int32.toNatClampNeg p2))) := hb
      rw [show (if (σ 53 (Int32.toNatClampNeg p1)) ≤ (σ 53 (Int32.toNatClampNeg p2)) then p2 else p1 : Int32) = p1 from if_neg hb] at key
      refine go_steps q_R_isInWay kc_R_isInWay 2 rfl ?_
      exact key
set_option maxHeartbeats 4000000 in
set_option maxRecDepth 100000 in
theorem v_R_isInWayc_50 {l : Launch} {D : va_G} {DA : Nat → ClassId} {b sz d L : Nat} {cu : Bool} {σ : Nat → Nat → Int32} {r : Option Value} {X' : am_X} (p1 : Int32) (p2 : Int32) (p3 : Int32) (p4 : Int32)
    (hv : (¬ (p1 < 0 ∨ 20 ≤ Int32.toNatClampNeg p1)) ∧ (∃ (r1 : Int32) (σ1 : Nat → Nat → Int32), am_Go l D DA b sz d M_R_wideOf (0, [some (.ref 47), some (.int p1)], [], (am_TT cu L, am_RR cu, σ)) (some (.int r1)) (am_TT cu L, am_RR cu, σ1) ∧ ((¬ (p2 < 0 ∨ 20 ≤ Int32.toNatClampNeg p2)) ∧ (∃ (r2 : Int32) (σ2 : Nat → Nat → Int32), am_Go l D DA b sz d M_R_wideOf (0, [some (.ref 47), some (.int p2)], [], (am_TT cu L, am_RR cu, σ1)) (some (.int r2)) (am_TT cu L, am_RR cu, σ2) ∧ ((∃ (r3 : Int32) (σ3 : Nat → Nat → Int32), am_Go l D DA b sz d M_R_common (0, [some (.int (σ 58 (Int32.toNatClampNeg p1))), some (.int r1), some (.int (σ1 58 (Int32.toNatClampNeg p2))), some (.int r2), none, none], [], (am_TT cu L, am_RR cu, σ2)) (some (.int r3)) (am_TT cu L, am_RR cu, σ3) ∧ ((¬ (p1 < 0 ∨ 20 ≤ Int32.toNatClampNeg p1)) ∧ ((¬ (p1 < 0 ∨ 20 ≤ Int32.toNatClampNeg p1)) ∧ ((¬ (p2 < 0 ∨ 20 ≤ Int32.toNatClampNeg p2)) ∧ ((¬ (p2 < 0 ∨ 20 ≤ Int32.toNatClampNeg p2)) ∧ (∃ (r4 : Int32) (σ4 : Nat → Nat → Int32), am_Go l D DA b sz d M_R_common (0, [some (.int (σ3 59 (Int32.toNatClampNeg p1))), some (.int (σ3 50 (Int32.toNatClampNeg p1))), some (.int (σ3 59 (Int32.toNatClampNeg p2))), some (.int (σ3 50 (Int32.toNatClampNeg p2))), none, none], [], (am_TT cu L, am_RR cu, σ3)) (some (.int r4)) (am_TT cu L, am_RR cu, σ4) ∧ ((¬ (p3 < 0 ∨ 20 ≤ Int32.toNatClampNeg p3)) ∧ ((¬ (p4 < 0 ∨ 20 ≤ Int32.toNatClampNeg p4)) ∧ (∃ (r5 : Int32) (σ5 : Nat → Nat → Int32), am_Go l D DA b sz d M_R_longOf (0, [some (.ref 47), some (.int p4)], [], (am_TT cu L, am_RR cu, σ4)) (some (.int r5)) (am_TT cu L, am_RR cu, σ5) ∧ ((((σ4 57 (Int32.toNatClampNeg p3)) < ((σ4 57 (Int32.toNatClampNeg p4)) + r5)) → (am_Go l D DA b sz (d + 1) M_R_isInWay (157, [some (.ref 47), some (.int p1), some (.int p2), some (.int p3), some (.int p4), none, none], [], (am_TT cu L, am_RR cu, σ5)) r X')) ∧ (¬ ((σ4 57 (Int32.toNatClampNeg p3)) < ((σ4 57 (Int32.toNatClampNeg p4)) + r5)) → ((((if r3 ≤ 0 then 0 else 1 : Int32) = 0) → (am_Go l D DA b sz (d + 1) M_R_isInWay (157, [some (.ref 47), some (.int p1), some (.int p2), some (.int p3), some (.int p4), none, none], [], (am_TT cu L, am_RR cu, σ5)) r X')) ∧ (¬ ((if r3 ≤ 0 then 0 else 1 : Int32) = 0) → ((((if r4 ≤ 0 then 0 else 1 : Int32) = 0) → (am_Go l D DA b sz (d + 1) M_R_isInWay (157, [some (.ref 47), some (.int p1), some (.int p2), some (.int p3), some (.int p4), none, none], [], (am_TT cu L, am_RR cu, σ5)) r X')) ∧ (¬ ((if r4 ≤ 0 then 0 else 1 : Int32) = 0) → (r = some (.int 1) ∧ X' = (am_TT cu L, am_RR cu, σ5)))))))))))))))))))))) :
    am_Go l D DA b sz (d + 1) M_R_isInWay (50, [some (.ref 47), some (.int p1), some (.int p2), some (.int p3), some (.int p4), none, none], [], (am_TT cu L, am_RR cu, σ)) r X' := by
  refine go_steps q_R_isInWay kc_R_isInWay 3 rfl ?_
  obtain ⟨hc1, hv⟩ := hv
  refine go_iaload q_R_isInWay kc_R_isInWay rfl rfl hc1 ?_
  refine go_steps q_R_isInWay kc_R_isInWay 2 rfl ?_
  obtain ⟨r1, σ1, hg, hv⟩ := hv
  refine go_callV q_R_isInWay kc_R_isInWay rfl q_R_wideOf am_k111 ⟨rfl, rfl, by decide⟩ rfl rfl (Nat.le_of_ble_eq_true rfl) (Nat.le_of_ble_eq_true rfl) rfl rfl hg ?_
  refine go_steps q_R_isInWay kc_R_isInWay 3 rfl ?_
  obtain ⟨hc2, hv⟩ := hv
  refine go_iaload q_R_isInWay kc_R_isInWay rfl rfl hc2 ?_
  refine go_steps q_R_isInWay kc_R_isInWay 2 rfl ?_
  obtain ⟨r2, σ2, hg, hv⟩ := hv
  refine go_callV q_R_isInWay kc_R_isInWay rfl q_R_wideOf am_k111 ⟨rfl, rfl, by decide⟩ rfl rfl (Nat.le_of_ble_eq_true rfl) (Nat.le_of_ble_eq_true rfl) rfl rfl hg ?_
  obtain ⟨r3, σ3, hg, hv⟩ := hv
  refine go_callS q_R_isInWay kc_R_isInWay rfl q_R_common am_k113 rfl rfl rfl (Nat.le_of_ble_eq_true rfl) (Nat.le_of_ble_eq_true rfl) hg ?_
  refine go_steps q_R_isInWay kc_R_isInWay 1 rfl ?_
  have key : am_Go l D DA b sz (d + 1) M_R_isInWay (83, [some (.ref 47), some (.int p1), some (.int p2), some (.int p3), some (.int p4), none, none], [.int (if r3 ≤ 0 then 0 else 1 : Int32)], (am_TT cu L, am_RR cu, σ3)) r X' := by
    refine go_steps q_R_isInWay kc_R_isInWay 4 rfl ?_
    obtain ⟨hc3, hv⟩ := hv
    refine go_iaload q_R_isInWay kc_R_isInWay rfl rfl hc3 ?_
    refine go_steps q_R_isInWay kc_R_isInWay 3 rfl ?_
    obtain ⟨hc4, hv⟩ := hv
    refine go_iaload q_R_isInWay kc_R_isInWay rfl rfl hc4 ?_
    refine go_steps q_R_isInWay kc_R_isInWay 3 rfl ?_
    obtain ⟨hc5, hv⟩ := hv
    refine go_iaload q_R_isInWay kc_R_isInWay rfl rfl hc5 ?_
    refine go_steps q_R_isInWay kc_R_isInWay 3 rfl ?_
    obtain ⟨hc6, hv⟩ := hv
    refine go_iaload q_R_isInWay kc_R_isInWay rfl rfl hc6 ?_
    obtain ⟨r4, σ4, hg, hv⟩ := hv
    refine go_callS q_R_isInWay kc_R_isInWay rfl q_R_common am_k113 rfl rfl rfl (Nat.le_of_ble_eq_true rfl) (Nat.le_of_ble_eq_true rfl) hg ?_
    refine go_steps q_R_isInWay kc_R_isInWay 1 rfl ?_
    have key : am_Go l D DA b sz (d + 1) M_R_isInWay (120, [some (.ref 47), some (.int p1), some (.int p2), some (.int p3), some (.int p4), some (.int (if r3 ≤ 0 then 0 else 1 : Int32)), none], [.int (if r4 ≤ 0 then 0 else 1 : Int32)], (am_TT cu L, am_RR cu, σ4)) r X' := by
      refine go_steps q_R_isInWay kc_R_isInWay 4 rfl ?_
      obtain ⟨hc7, hv⟩ := hv
      refine go_iaload q_R_isInWay kc_R_isInWay rfl rfl hc7 ?_
      refine go_steps q_R_isInWay kc_R_isInWay 3 rfl ?_
      obtain ⟨hc8, hv⟩ := hv
      refine go_iaload q_R_isInWay kc_R_isInWay rfl rfl hc8 ?_
      refine go_steps q_R_isInWay kc_R_isInWay 2 rfl ?_
      obtain ⟨r5, σ5, hg, hv⟩ := hv
      refine go_callV q_R_isInWay kc_R_isInWay rfl q_R_longOf am_k110 ⟨rfl, rfl, by decide⟩ rfl rfl (Nat.le_of_ble_eq_true rfl) (Nat.le_of_ble_eq_true rfl) rfl rfl hg ?_
      refine go_steps q_R_isInWay kc_R_isInWay 2 rfl ?_
      refine go_if (fun hb => ?_) (fun hb => ?_)
      · have hb : (σ4 57 (Int32.toNatClampNeg p3)) < ((σ4 57 (Int32.toNatClampNeg p4)) + r5) := hb
        replace hv := hv.1 hb
        refine go_le (L1 := [some (.ref 47), some (.int p1), some (.int p2), some (.int p3), some (.int p4), none, none]) (by repeat (first | exact trivial | refine ⟨rfl, ?_⟩)) ?_
        exact hv
      · have hb : ¬ ((σ4 57 (Int32.toNatClampNeg p3)) < ((σ4 57 (Int32.toNatClampNeg p4)) + r5)) := hb
        replace hv := hv.2 hb
        refine go_steps q_R_isInWay kc_R_isInWay 2 rfl ?_
        refine go_if (fun hb => ?_) (fun hb => ?_)
        · have hb : (if r3 ≤ 0 then 0 else 1 : Int32) = 0 := hb
          replace hv := hv.1 hb
          refine go_le (L1 := [some (.ref 47), some (.int p1), some (.int p2), some (.int p3), some (.int p4), none, none]) (by repeat (first | exact trivial | refine ⟨rfl, ?_⟩)) ?_
          exact hv
        · have hb : ¬ ((if r3 ≤ 0 then 0 else 1 : Int32) = 0) := hb
          replace hv := hv.2 hb
          refine go_steps q_R_isInWay kc_R_isInWay 2 rfl ?_
          refine go_if (fun hb => ?_) (fun hb => ?_)
          · have hb : (if r4 ≤ 0 then 0 else 1 : Int32) = 0 := hb
            replace hv := hv.1 hb
            refine go_le (L1 := [some (.ref 47), some (.int p1), some (.int p2), some (.int p3), some (.int p4), none, none]) (by repeat (first | exact trivial | refine ⟨rfl, ?_⟩)) ?_
            exact hv
          · have hb : ¬ ((if r4 ≤ 0 then 0 else 1 : Int32) = 0) := hb
            replace hv := hv.2 hb
            refine go_steps q_R_isInWay kc_R_isInWay 1 rfl ?_
            obtain ⟨rfl, rfl⟩ := hv
            exact go_retI q_R_isInWay kc_R_isInWay rfl rfl rfl
    refine go_if (fun hb => ?_) (fun hb => ?_)
    · have hb : r4 ≤ 0 := hb
      rw [show (if r4 ≤ 0 then 0 else 1 : Int32) = 0 from if_pos hb] at key
      refine go_steps q_R_isInWay kc_R_isInWay 1 rfl ?_
      exact key
    · have hb : ¬ (r4 ≤ 0) := hb
      rw [show (if r4 ≤ 0 then 0 else 1 : Int32) = 1 from if_neg hb] at key
      refine go_steps q_R_isInWay kc_R_isInWay 2 rfl ?_
      exact key
  refine go_if (fun hb => ?_) (fun hb => ?_)
  · have hb : r3 ≤ 0 := hb
    rw [show (if r3 ≤ 0 then 0 else 1 : Int32) = 0 from if_pos hb] at key
    refine go_steps q_R_isInWay kc_R_isInWay 1 rfl ?_
    exact key
  · have hb : ¬ (r3 ≤ 0) := hb
    rw [show (if r3 ≤ 0 then 0 else 1 : Int32) = 1 from if_neg hb] at key
    refine go_steps q_R_isInWay kc_R_isInWay 2 rfl ?_
    exact key
set_option maxHeartbeats 4000000 in
set_option maxRecDepth 100000 in
theorem v_R_isInWayc_157 {l : Launch} {D : va_G} {DA : Nat → ClassId} {b sz d L : Nat} {cu : Bool} {σ : Nat → Nat → Int32} {r : Option Value} {X' : am_X} (p1 : Int32) (p2 : Int32) (p3 : Int32) (p4 : Int32)
    (hv : (¬ (p3 < 0 ∨ 20 ≤ Int32.toNatClampNeg p3)) ∧ (∃ (r1 : Int32) (σ1 : Nat → Nat → Int32), am_Go l D DA b sz d M_R_topOf (0, [some (.ref 47), some (.int p4)], [], (am_TT cu L, am_RR cu, σ)) (some (.int r1)) (am_TT cu L, am_RR cu, σ1) ∧ ((((σ 59 (Int32.toNatClampNeg p3)) < r1) → (r = some (.int 0) ∧ X' = (am_TT cu L, am_RR cu, σ1))) ∧ (¬ ((σ 59 (Int32.toNatClampNeg p3)) < r1) → (∃ (r2 : Int32) (σ2 : Nat → Nat → Int32), am_Go l D DA b sz d M_R_area (0, [some (.ref 47), some (.int p1), some (.int p2)], [], (am_TT cu L, am_RR cu, σ1)) (some (.int r2)) (am_TT cu L, am_RR cu, σ2) ∧ (((if r2 ≤ 0 then 0 else 1 : Int32) = 0 ∨ (if r2 ≤ 0 then 0 else 1 : Int32) = 1) ∧ (r = some (.int (if r2 ≤ 0 then 0 else 1 : Int32)) ∧ X' = (am_TT cu L, am_RR cu, σ2)))))))) :
    am_Go l D DA b sz (d + 1) M_R_isInWay (157, [some (.ref 47), some (.int p1), some (.int p2), some (.int p3), some (.int p4), none, none], [], (am_TT cu L, am_RR cu, σ)) r X' := by
  refine go_steps q_R_isInWay kc_R_isInWay 3 rfl ?_
  obtain ⟨hc1, hv⟩ := hv
  refine go_iaload q_R_isInWay kc_R_isInWay rfl rfl hc1 ?_
  refine go_steps q_R_isInWay kc_R_isInWay 2 rfl ?_
  obtain ⟨r1, σ1, hg, hv⟩ := hv
  refine go_callV q_R_isInWay kc_R_isInWay rfl q_R_topOf am_k115 ⟨rfl, rfl, by decide⟩ rfl rfl (Nat.le_of_ble_eq_true rfl) (Nat.le_of_ble_eq_true rfl) rfl rfl hg ?_
  refine go_steps q_R_isInWay kc_R_isInWay 1 rfl ?_
  refine go_if (fun hb => ?_) (fun hb => ?_)
  · have hb : (σ 59 (Int32.toNatClampNeg p3)) < r1 := hb
    replace hv := hv.1 hb
    refine go_steps q_R_isInWay kc_R_isInWay 1 rfl ?_
    obtain ⟨rfl, rfl⟩ := hv
    exact go_retI q_R_isInWay kc_R_isInWay rfl rfl rfl
  · have hb : ¬ ((σ 59 (Int32.toNatClampNeg p3)) < r1) := hb
    replace hv := hv.2 hb
    refine go_steps q_R_isInWay kc_R_isInWay 3 rfl ?_
    obtain ⟨r2, σ2, hg, hv⟩ := hv
    refine go_callV q_R_isInWay kc_R_isInWay rfl q_R_area am_k112 ⟨rfl, rfl, by decide⟩ rfl rfl (Nat.le_of_ble_eq_true rfl) (Nat.le_of_ble_eq_true rfl) rfl rfl hg ?_
    refine go_steps q_R_isInWay kc_R_isInWay 1 rfl ?_
    have key : am_Go l D DA b sz (d + 1) M_R_isInWay (186, [some (.ref 47), some (.int p1), some (.int p2), some (.int p3), some (.int p4), none, none], [.int (if r2 ≤ 0 then 0 else 1 : Int32)], (am_TT cu L, am_RR cu, σ2)) r X' := by
      obtain ⟨hc, rfl, rfl⟩ := hv
      exact go_retI q_R_isInWay kc_R_isInWay rfl rfl (am_nar hc)
    refine go_if (fun hb => ?_) (fun hb => ?_)
    · have hb : r2 ≤ 0 := hb
      rw [show (if r2 ≤ 0 then 0 else 1 : Int32) = 0 from if_pos hb] at key
      refine go_steps q_R_isInWay kc_R_isInWay 1 rfl ?_
      exact key
    · have hb : ¬ (r2 ≤ 0) := hb
      rw [show (if r2 ≤ 0 then 0 else 1 : Int32) = 1 from if_neg hb] at key
      refine go_steps q_R_isInWay kc_R_isInWay 2 rfl ?_
      exact key
set_option maxHeartbeats 4000000 in
set_option maxRecDepth 100000 in
theorem v_R_nextEndc_0 {l : Launch} {D : va_G} {DA : Nat → ClassId} {b sz d L : Nat} {cu : Bool} {σ : Nat → Nat → Int32} {r : Option Value} {X' : am_X} (p1 : Int32) (p2 : Int32)
    (hv : am_Go l D DA b sz (d + 1) M_R_nextEnd (5, [some (.ref 47), some (.int p1), some (.int p2), some (.int (-1)), some (.int 0), none], [], (am_TT cu L, am_RR cu, σ)) r X') :
    am_Go l D DA b sz (d + 1) M_R_nextEnd (0, [some (.ref 47), some (.int p1), some (.int p2), none, none, none], [], (am_TT cu L, am_RR cu, σ)) r X' := by
  refine go_steps q_R_nextEnd kc_R_nextEnd 4 rfl ?_
  refine go_le (L1 := [some (.ref 47), some (.int p1), some (.int p2), some (.int (-1)), some (.int 0), none]) (by repeat (first | exact trivial | refine ⟨rfl, ?_⟩)) ?_
  exact hv
set_option maxHeartbeats 4000000 in
set_option maxRecDepth 100000 in
theorem v_R_nextEndc_5 {l : Launch} {D : va_G} {DA : Nat → ClassId} {b sz d L : Nat} {cu : Bool} {σ : Nat → Nat → Int32} {r : Option Value} {X' : am_X} (p1 : Int32) (p2 : Int32) (p3 : Int32) (p4 : Int32)
    (hv : (((σ 47 0) ≤ p4) → (r = some (.int p3) ∧ X' = (am_TT cu L, am_RR cu, σ))) ∧ (¬ ((σ 47 0) ≤ p4) → ((¬ (p4 < 0 ∨ 20 ≤ Int32.toNatClampNeg p4)) ∧ ((((σ 56 (Int32.toNatClampNeg p4)) = 0) → (am_Go l D DA b sz (d + 1) M_R_nextEnd (5, [some (.ref 47), some (.int p1), some (.int p2), some (.int p3), some (.int (p4 + 1)), none], [], (am_TT cu L, am_RR cu, σ)) r X')) ∧ (¬ ((σ 56 (Int32.toNatClampNeg p4)) = 0) → (((p1 = 0) → ((¬ (p4 < 0 ∨ 20 ≤ Int32.toNatClampNeg p4)) ∧ (∃ (r1 : Int32) (σ1 : Nat → Nat → Int32), am_Go l D DA b sz d M_R_longOf (0, [some (.ref 47), some (.int p4)], [], (am_TT cu L, am_RR cu, σ)) (some (.int r1)) (am_TT cu L, am_RR cu, σ1) ∧ (am_Go l D DA b sz (d + 1) M_R_nextEnd (78, [some (.ref 47), some (.int p1), some (.int p2), some (.int p3), some (.int p4), some (.int ((σ 57 (Int32.toNatClampNeg p4)) + r1))], [], (am_TT cu L, am_RR cu, σ1)) r X')))) ∧ (¬ (p1 = 0) → (((p1 = 1) → ((¬ (p4 < 0 ∨ 20 ≤ Int32.toNatClampNeg p4)) ∧ (∃ (r2 : Int32) (σ2 : Nat → Nat → Int32), am_Go l D DA b sz d M_R_wideOf (0, [some (.ref 47), some (.int p4)], [], (am_TT cu L, am_RR cu, σ)) (some (.int r2)) (am_TT cu L, am_RR cu, σ2) ∧ (am_Go l D DA b sz (d + 1) M_R_nextEnd (78, [some (.ref 47), some (.int p1), some (.int p2), some (.int p3), some (.int p4), some (.int ((σ 58 (Int32.toNatClampNeg p4)) + r2))], [], (am_TT cu L, am_RR cu, σ2)) r X')))) ∧ (¬ (p1 = 1) → (∃ (r3 : Int32) (σ3 : Nat → Nat → Int32), am_Go l D DA b sz d M_R_topOf (0, [some (.ref 47), some (.int p4)], [], (am_TT cu L, am_RR cu, σ)) (some (.int r3)) (am_TT cu L, am_RR cu, σ3) ∧ (am_Go l D DA b sz (d + 1) M_R_nextEnd (78, [some (.ref 47), some (.int p1), some (.int p2), some (.int p3), some (.int p4), some (.int r3)], [], (am_TT cu L, am_RR cu, σ3)) r X'))))))))))) :
    am_Go l D DA b sz (d + 1) M_R_nextEnd (5, [some (.ref 47), some (.int p1), some (.int p2), some (.int p3), some (.int p4), none], [], (am_TT cu L, am_RR cu, σ)) r X' := by
  refine go_steps q_R_nextEnd kc_R_nextEnd 4 rfl ?_
  refine go_if (fun hb => ?_) (fun hb => ?_)
  · have hb : (σ 47 0) ≤ p4 := hb
    replace hv := hv.1 hb
    refine go_steps q_R_nextEnd kc_R_nextEnd 1 rfl ?_
    obtain ⟨rfl, rfl⟩ := hv
    exact go_retI q_R_nextEnd kc_R_nextEnd rfl rfl rfl
  · have hb : ¬ ((σ 47 0) ≤ p4) := hb
    replace hv := hv.2 hb
    refine go_steps q_R_nextEnd kc_R_nextEnd 3 rfl ?_
    obtain ⟨hc1, hv⟩ := hv
    refine go_baload q_R_nextEnd kc_R_nextEnd rfl rfl hc1 ?_
    refine go_steps q_R_nextEnd kc_R_nextEnd 1 rfl ?_
    refine go_if (fun hb => ?_) (fun hb => ?_)
    · have hb : (σ 56 (Int32.toNatClampNeg p4)) = 0 := hb
      replace hv := hv.1 hb
      refine go_steps q_R_nextEnd kc_R_nextEnd 3 rfl ?_
      refine go_le (L1 := [some (.ref 47), some (.int p1), some (.int p2), some (.int p3), some (.int (p4 + 1)), none]) (by repeat (first | exact trivial | refine ⟨rfl, ?_⟩)) ?_
      exact hv
    · have hb : ¬ ((σ 56 (Int32.toNatClampNeg p4)) = 0) := hb
      replace hv := hv.2 hb
      refine go_steps q_R_nextEnd kc_R_nextEnd 2 rfl ?_
      refine go_if (fun hb => ?_) (fun hb => ?_)
      · have hb : p1 = 0 := hb
        replace hv := hv.1 hb
        refine go_steps q_R_nextEnd kc_R_nextEnd 3 rfl ?_
        obtain ⟨hc2, hv⟩ := hv
        refine go_iaload q_R_nextEnd kc_R_nextEnd rfl rfl hc2 ?_
        refine go_steps q_R_nextEnd kc_R_nextEnd 2 rfl ?_
        obtain ⟨r1, σ1, hg, hv⟩ := hv
        refine go_callV q_R_nextEnd kc_R_nextEnd rfl q_R_longOf am_k110 ⟨rfl, rfl, by decide⟩ rfl rfl (Nat.le_of_ble_eq_true rfl) (Nat.le_of_ble_eq_true rfl) rfl rfl hg ?_
        refine go_steps q_R_nextEnd kc_R_nextEnd 3 rfl ?_
        refine go_le (L1 := [some (.ref 47), some (.int p1), some (.int p2), some (.int p3), some (.int p4), some (.int ((σ 57 (Int32.toNatClampNeg p4)) + r1))]) (by repeat (first | exact trivial | refine ⟨rfl, ?_⟩)) ?_
        exact hv
      · have hb : ¬ (p1 = 0) := hb
        replace hv := hv.2 hb
        refine go_steps q_R_nextEnd kc_R_nextEnd 3 rfl ?_
        refine go_if (fun hb => ?_) (fun hb => ?_)
        · have hb : p1 = 1 := hb
          replace hv := hv.1 hb
          refine go_steps q_R_nextEnd kc_R_nextEnd 3 rfl ?_
          obtain ⟨hc3, hv⟩ := hv
          refine go_iaload q_R_nextEnd kc_R_nextEnd rfl rfl hc3 ?_
          refine go_steps q_R_nextEnd kc_R_nextEnd 2 rfl ?_
          obtain ⟨r2, σ2, hg, hv⟩ := hv
          refine go_callV q_R_nextEnd kc_R_nextEnd rfl q_R_wideOf am_k111 ⟨rfl, rfl, by decide⟩ rfl rfl (Nat.le_of_ble_eq_true rfl) (Nat.le_of_ble_eq_true rfl) rfl rfl hg ?_
          refine go_steps q_R_nextEnd kc_R_nextEnd 3 rfl ?_
          refine go_le (L1 := [some (.ref 47), some (.int p1), some (.int p2), some (.int p3), some (.int p4), some (.int ((σ 58 (Int32.toNatClampNeg p4)) + r2))]) (by repeat (first | exact trivial | refine ⟨rfl, ?_⟩)) ?_
          exact hv
        · have hb : ¬ (p1 = 1) := hb
          replace hv := hv.2 hb
          refine go_steps q_R_nextEnd kc_R_nextEnd 2 rfl ?_
          obtain ⟨r3, σ3, hg, hv⟩ := hv
          refine go_callV q_R_nextEnd kc_R_nextEnd rfl q_R_topOf am_k115 ⟨rfl, rfl, by decide⟩ rfl rfl (Nat.le_of_ble_eq_true rfl) (Nat.le_of_ble_eq_true rfl) rfl rfl hg ?_
          refine go_steps q_R_nextEnd kc_R_nextEnd 1 rfl ?_
          refine go_le (L1 := [some (.ref 47), some (.int p1), some (.int p2), some (.int p3), some (.int p4), some (.int r3)]) (by repeat (first | exact trivial | refine ⟨rfl, ?_⟩)) ?_
          exact hv
set_option maxHeartbeats 4000000 in
set_option maxRecDepth 100000 in
theorem v_R_nextEndc_78 {l : Launch} {D : va_G} {DA : Nat → ClassId} {b sz d L : Nat} {cu : Bool} {σ : Nat → Nat → Int32} {r : Option Value} {X' : am_X} (p1 : Int32) (p2 : Int32) (p3 : Int32) (p4 : Int32) (p5 : Int32)
    (hv : ((p5 ≤ p2) → (am_Go l D DA b sz (d + 1) M_R_nextEnd (5, [some (.ref 47), some (.int p1), some (.int p2), some (.int p3), some (.int (p4 + 1)), none], [], (am_TT cu L, am_RR cu, σ)) r X')) ∧ (¬ (p5 ≤ p2) → (((p3 = (-1)) → (am_Go l D DA b sz (d + 1) M_R_nextEnd (5, [some (.ref 47), some (.int p1), some (.int p2), some (.int p5), some (.int (p4 + 1)), none], [], (am_TT cu L, am_RR cu, σ)) r X')) ∧ (¬ (p3 = (-1)) → (((p3 ≤ p5) → (am_Go l D DA b sz (d + 1) M_R_nextEnd (5, [some (.ref 47), some (.int p1), some (.int p2), some (.int p3), some (.int (p4 + 1)), none], [], (am_TT cu L, am_RR cu, σ)) r X')) ∧ (¬ (p3 ≤ p5) → (am_Go l D DA b sz (d + 1) M_R_nextEnd (5, [some (.ref 47), some (.int p1), some (.int p2), some (.int p5), some (.int (p4 + 1)), none], [], (am_TT cu L, am_RR cu, σ)) r X'))))))) :
    am_Go l D DA b sz (d + 1) M_R_nextEnd (78, [some (.ref 47), some (.int p1), some (.int p2), some (.int p3), some (.int p4), some (.int p5)], [], (am_TT cu L, am_RR cu, σ)) r X' := by
  refine go_steps q_R_nextEnd kc_R_nextEnd 3 rfl ?_
  refine go_if (fun hb => ?_) (fun hb => ?_)
  · have hb : p5 ≤ p2 := hb
    replace hv := hv.1 hb
    refine go_steps q_R_nextEnd kc_R_nextEnd 2 rfl ?_
    refine go_le (L1 := [some (.ref 47), some (.int p1), some (.int p2), some (.int p3), some (.int (p4 + 1)), none]) (by repeat (first | exact trivial | refine ⟨rfl, ?_⟩)) ?_
    exact hv
  · have hb : ¬ (p5 ≤ p2) := hb
    replace hv := hv.2 hb
    refine go_steps q_R_nextEnd kc_R_nextEnd 3 rfl ?_
    refine go_if (fun hb => ?_) (fun hb => ?_)
    · have hb : p3 = (-1) := hb
      replace hv := hv.1 hb
      refine go_steps q_R_nextEnd kc_R_nextEnd 4 rfl ?_
      refine go_le (L1 := [some (.ref 47), some (.int p1), some (.int p2), some (.int p5), some (.int (p4 + 1)), none]) (by repeat (first | exact trivial | refine ⟨rfl, ?_⟩)) ?_
      exact hv
    · have hb : ¬ (p3 = (-1)) := hb
      replace hv := hv.2 hb
      refine go_steps q_R_nextEnd kc_R_nextEnd 3 rfl ?_
      refine go_if (fun hb => ?_) (fun hb => ?_)
      · have hb : p3 ≤ p5 := hb
        replace hv := hv.1 hb
        refine go_steps q_R_nextEnd kc_R_nextEnd 2 rfl ?_
        refine go_le (L1 := [some (.ref 47), some (.int p1), some (.int p2), some (.int p3), some (.int (p4 + 1)), none]) (by repeat (first | exact trivial | refine ⟨rfl, ?_⟩)) ?_
        exact hv
      · have hb : ¬ (p3 ≤ p5) := hb
        replace hv := hv.2 hb
        refine go_steps q_R_nextEnd kc_R_nextEnd 4 rfl ?_
        refine go_le (L1 := [some (.ref 47), some (.int p1), some (.int p2), some (.int p5), some (.int (p4 + 1)), none]) (by repeat (first | exact trivial | refine ⟨rfl, ?_⟩)) ?_
        exact hv
set_option maxHeartbeats 4000000 in
set_option maxRecDepth 100000 in
theorem v_R_atc_0 {l : Launch} {D : va_G} {DA : Nat → ClassId} {b sz d L : Nat} {cu : Bool} {σ : Nat → Nat → Int32} {r : Option Value} {X' : am_X} (p1 : Int32) (p2 : Int32) (p3 : Int32)
    (hv : am_Go l D DA b sz (d + 1) M_R_at (3, [some (.ref 47), some (.int p1), some (.int p2), some (.int p3), some (.int 0), none], [], (am_TT cu L, am_RR cu, σ)) r X') :
    am_Go l D DA b sz (d + 1) M_R_at (0, [some (.ref 47), some (.int p1), some (.int p2), some (.int p3), none, none], [], (am_TT cu L, am_RR cu, σ)) r X' := by
  refine go_steps q_R_at kc_R_at 2 rfl ?_
  refine go_le (L1 := [some (.ref 47), some (.int p1), some (.int p2), some (.int p3), some (.int 0), none]) (by repeat (first | exact trivial | refine ⟨rfl, ?_⟩)) ?_
  exact hv
set_option maxHeartbeats 4000000 in
set_option maxRecDepth 100000 in
theorem v_R_atc_3 {l : Launch} {D : va_G} {DA : Nat → ClassId} {b sz d L : Nat} {cu : Bool} {σ : Nat → Nat → Int32} {r : Option Value} {X' : am_X} (p1 : Int32) (p2 : Int32) (p3 : Int32) (p4 : Int32)
    (hv : (((σ 47 0) ≤ p4) → (r = some (.int (-1)) ∧ X' = (am_TT cu L, am_RR cu, σ))) ∧ (¬ ((σ 47 0) ≤ p4) → ((¬ (p4 < 0 ∨ 20 ≤ Int32.toNatClampNeg p4)) ∧ ((((σ 56 (Int32.toNatClampNeg p4)) = 0) → (am_Go l D DA b sz (d + 1) M_R_at (62, [some (.ref 47), some (.int p1), some (.int p2), some (.int p3), some (.int p4), some (.int 0)], [], (am_TT cu L, am_RR cu, σ)) r X')) ∧ (¬ ((σ 56 (Int32.toNatClampNeg p4)) = 0) → ((¬ (p4 < 0 ∨ 20 ≤ Int32.toNatClampNeg p4)) ∧ (((p1 < (σ 57 (Int32.toNatClampNeg p4))) → (am_Go l D DA b sz (d + 1) M_R_at (62, [some (.ref 47), some (.int p1), some (.int p2), some (.int p3), some (.int p4), some (.int 0)], [], (am_TT cu L, am_RR cu, σ)) r X')) ∧ (¬ (p1 < (σ 57 (Int32.toNatClampNeg p4))) → ((¬ (p4 < 0 ∨ 20 ≤ Int32.toNatClampNeg p4)) ∧ (((p2 < (σ 58 (Int32.toNatClampNeg p4))) → (am_Go l D DA b sz (d + 1) M_R_at (62, [some (.ref 47), some (.int p1), some (.int p2), some (.int p3), some (.int p4), some (.int 0)], [], (am_TT cu L, am_RR cu, σ)) r X')) ∧ (¬ (p2 < (σ 58 (Int32.toNatClampNeg p4))) → ((¬ (p4 < 0 ∨ 20 ≤ Int32.toNatClampNeg p4)) ∧ (am_Go l D DA b sz (d + 1) M_R_at (62, [some (.ref 47), some (.int p1), some (.int p2), some (.int p3), some (.int p4), some (.int (if p3 < (σ 59 (Int32.toNatClampNeg p4)) then 0 else 1 : Int32))], [], (am_TT cu L, am_RR cu, σ)) r X'))))))))))))) :
    am_Go l D DA b sz (d + 1) M_R_at (3, [some (.ref 47), some (.int p1), some (.int p2), some (.int p3), some (.int p4), none], [], (am_TT cu L, am_RR cu, σ)) r X' := by
  refine go_steps q_R_at kc_R_at 4 rfl ?_
  refine go_if (fun hb => ?_) (fun hb => ?_)
  · have hb : (σ 47 0) ≤ p4 := hb
    replace hv := hv.1 hb
    refine go_steps q_R_at kc_R_at 1 rfl ?_
    obtain ⟨rfl, rfl⟩ := hv
    exact go_retI q_R_at kc_R_at rfl rfl rfl
  · have hb : ¬ ((σ 47 0) ≤ p4) := hb
    replace hv := hv.2 hb
    refine go_steps q_R_at kc_R_at 3 rfl ?_
    obtain ⟨hc1, hv⟩ := hv
    refine go_baload q_R_at kc_R_at rfl rfl hc1 ?_
    refine go_steps q_R_at kc_R_at 1 rfl ?_
    refine go_if (fun hb => ?_) (fun hb => ?_)
    · have hb : (σ 56 (Int32.toNatClampNeg p4)) = 0 := hb
      replace hv := hv.1 hb
      refine go_steps q_R_at kc_R_at 2 rfl ?_
      refine go_le (L1 := [some (.ref 47), some (.int p1), some (.int p2), some (.int p3), some (.int p4), some (.int 0)]) (by repeat (first | exact trivial | refine ⟨rfl, ?_⟩)) ?_
      exact hv
    · have hb : ¬ ((σ 56 (Int32.toNatClampNeg p4)) = 0) := hb
      replace hv := hv.2 hb
      refine go_steps q_R_at kc_R_at 4 rfl ?_
      obtain ⟨hc2, hv⟩ := hv
      refine go_iaload q_R_at kc_R_at rfl rfl hc2 ?_
      refine go_steps q_R_at kc_R_at 1 rfl ?_
      refine go_if (fun hb => ?_) (fun hb => ?_)
      · have hb : p1 < (σ 57 (Int32.toNatClampNeg p4)) := hb
        replace hv := hv.1 hb
        refine go_steps q_R_at kc_R_at 2 rfl ?_
        refine go_le (L1 := [some (.ref 47), some (.int p1), some (.int p2), some (.int p3), some (.int p4), some (.int 0)]) (by repeat (first | exact trivial | refine ⟨rfl, ?_⟩)) ?_
        exact hv
      · have hb : ¬ (p1 < (σ 57 (Int32.toNatClampNeg p4))) := hb
        replace hv := hv.2 hb
        refine go_steps q_R_at kc_R_at 4 rfl ?_
        obtain ⟨hc3, hv⟩ := hv
        refine go_iaload q_R_at kc_R_at rfl rfl hc3 ?_
        refine go_steps q_R_at kc_R_at 1 rfl ?_
        refine go_if (fun hb => ?_) (fun hb => ?_)
        · have hb : p2 < (σ 58 (Int32.toNatClampNeg p4)) := hb
          replace hv := hv.1 hb
          refine go_steps q_R_at kc_R_at 2 rfl ?_
          refine go_le (L1 := [some (.ref 47), some (.int p1), some (.int p2), some (.int p3), some (.int p4), some (.int 0)]) (by repeat (first | exact trivial | refine ⟨rfl, ?_⟩)) ?_
          exact hv
        · have hb : ¬ (p2 < (σ 58 (Int32.toNatClampNeg p4))) := hb
          replace hv := hv.2 hb
          refine go_steps q_R_at kc_R_at 4 rfl ?_
          obtain ⟨hc4, hv⟩ := hv
          refine go_iaload q_R_at kc_R_at rfl rfl hc4 ?_
          refine go_steps q_R_at kc_R_at 1 rfl ?_
          have key : am_Go l D DA b sz (d + 1) M_R_at (60, [some (.ref 47), some (.int p1), some (.int p2), some (.int p3), some (.int p4), none], [.int (if p3 < (σ 59 (Int32.toNatClampNeg p4)) then 0 else 1 : Int32)], (am_TT cu L, am_RR cu, σ)) r X' := by
            refine go_steps q_R_at kc_R_at 1 rfl ?_
            refine go_le (L1 := [some (.ref 47), some (.int p1), some (.int p2), some (.int p3), some (.int p4), some (.int (if p3 < (σ 59 (Int32.toNatClampNeg p4)) then 0 else 1 : Int32))]) (by repeat (first | exact trivial | refine ⟨rfl, ?_⟩)) ?_
            exact hv
          refine go_if (fun hb => ?_) (fun hb => ?_)
          · have hb : p3 < (σ 59 (Int32.toNatClampNeg p4)) := hb
            rw [show (if p3 < (σ 59 (Int32.toNatClampNeg p4)) then 0 else 1 : Int32) = 0 from if_pos hb] at key
            refine go_steps q_R_at kc_R_at 1 rfl ?_
            exact key
          · have hb : ¬ (p3 < (σ 59 (Int32.toNatClampNeg p4))) := hb
            rw [show (if p3 < (σ 59 (Int32.toNatClampNeg p4)) then 0 else 1 : Int32) = 1 from if_neg hb] at key
            refine go_steps q_R_at kc_R_at 2 rfl ?_
            exact key
set_option maxHeartbeats 4000000 in
set_option maxRecDepth 100000 in
theorem v_R_atc_62 {l : Launch} {D : va_G} {DA : Nat → ClassId} {b sz d L : Nat} {cu : Bool} {σ : Nat → Nat → Int32} {r : Option Value} {X' : am_X} (p1 : Int32) (p2 : Int32) (p3 : Int32) (p4 : Int32) (p5 : Int32)
    (hv : ((p5 = 0) → (am_Go l D DA b sz (d + 1) M_R_at (3, [some (.ref 47), some (.int p1), some (.int p2), some (.int p3), some (.int (p4 + 1)), none], [], (am_TT cu L, am_RR cu, σ)) r X')) ∧ (¬ (p5 = 0) → ((¬ (p4 < 0 ∨ 20 ≤ Int32.toNatClampNeg p4)) ∧ (∃ (r1 : Int32) (σ1 : Nat → Nat → Int32), am_Go l D DA b sz d M_R_longOf (0, [some (.ref 47), some (.int p4)], [], (am_TT cu L, am_RR cu, σ)) (some (.int r1)) (am_TT cu L, am_RR cu, σ1) ∧ (((((σ 57 (Int32.toNatClampNeg p4)) + r1) ≤ p1) → (am_Go l D DA b sz (d + 1) M_R_at (3, [some (.ref 47), some (.int p1), some (.int p2), some (.int p3), some (.int (p4 + 1)), none], [], (am_TT cu L, am_RR cu, σ1)) r X')) ∧ (¬ (((σ 57 (Int32.toNatClampNeg p4)) + r1) ≤ p1) → ((¬ (p4 < 0 ∨ 20 ≤ Int32.toNatClampNeg p4)) ∧ (∃ (r2 : Int32) (σ2 : Nat → Nat → Int32), am_Go l D DA b sz d M_R_wideOf (0, [some (.ref 47), some (.int p4)], [], (am_TT cu L, am_RR cu, σ1)) (some (.int r2)) (am_TT cu L, am_RR cu, σ2) ∧ (((((σ1 58 (Int32.toNatClampNeg p4)) + r2) ≤ p2) → (am_Go l D DA b sz (d + 1) M_R_at (3, [some (.ref 47), some (.int p1), some (.int p2), some (.int p3), some (.int (p4 + 1)), none], [], (am_TT cu L, am_RR cu, σ2)) r X')) ∧ (¬ (((σ1 58 (Int32.toNatClampNeg p4)) + r2) ≤ p2) → (∃ (r3 : Int32) (σ3 : Nat → Nat → Int32), am_Go l D DA b sz d M_R_topOf (0, [some (.ref 47), some (.int p4)], [], (am_TT cu L, am_RR cu, σ2)) (some (.int r3)) (am_TT cu L, am_RR cu, σ3) ∧ (((r3 ≤ p3) → (am_Go l D DA b sz (d + 1) M_R_at (3, [some (.ref 47), some (.int p1), some (.int p2), some (.int p3), some (.int (p4 + 1)), none], [], (am_TT cu L, am_RR cu, σ3)) r X')) ∧ (¬ (r3 ≤ p3) → (r = some (.int p4) ∧ X' = (am_TT cu L, am_RR cu, σ3))))))))))))))) :
    am_Go l D DA b sz (d + 1) M_R_at (62, [some (.ref 47), some (.int p1), some (.int p2), some (.int p3), some (.int p4), some (.int p5)], [], (am_TT cu L, am_RR cu, σ)) r X' := by
  refine go_steps q_R_at kc_R_at 2 rfl ?_
  refine go_if (fun hb => ?_) (fun hb => ?_)
  · have hb : p5 = 0 := hb
    replace hv := hv.1 hb
    refine go_steps q_R_at kc_R_at 2 rfl ?_
    refine go_le (L1 := [some (.ref 47), some (.int p1), some (.int p2), some (.int p3), some (.int (p4 + 1)), none]) (by repeat (first | exact trivial | refine ⟨rfl, ?_⟩)) ?_
    exact hv
  · have hb : ¬ (p5 = 0) := hb
    replace hv := hv.2 hb
    refine go_steps q_R_at kc_R_at 4 rfl ?_
    obtain ⟨hc1, hv⟩ := hv
    refine go_iaload q_R_at kc_R_at rfl rfl hc1 ?_
    refine go_steps q_R_at kc_R_at 2 rfl ?_
    obtain ⟨r1, σ1, hg, hv⟩ := hv
    refine go_callV q_R_at kc_R_at rfl q_R_longOf am_k110 ⟨rfl, rfl, by decide⟩ rfl rfl (Nat.le_of_ble_eq_true rfl) (Nat.le_of_ble_eq_true rfl) rfl rfl hg ?_
    refine go_steps q_R_at kc_R_at 2 rfl ?_
    refine go_if (fun hb => ?_) (fun hb => ?_)
    · have hb : ((σ 57 (Int32.toNatClampNeg p4)) + r1) ≤ p1 := hb
      replace hv := hv.1 hb
      refine go_steps q_R_at kc_R_at 2 rfl ?_
      refine go_le (L1 := [some (.ref 47), some (.int p1), some (.int p2), some (.int p3), some (.int (p4 + 1)), none]) (by repeat (first | exact trivial | refine ⟨rfl, ?_⟩)) ?_
      exact hv
    · have hb : ¬ (((σ 57 (Int32.toNatClampNeg p4)) + r1) ≤ p1) := hb
      replace hv := hv.2 hb
      refine go_steps q_R_at kc_R_at 4 rfl ?_
      obtain ⟨hc2, hv⟩ := hv
      refine go_iaload q_R_at kc_R_at rfl rfl hc2 ?_
      refine go_steps q_R_at kc_R_at 2 rfl ?_
      obtain ⟨r2, σ2, hg, hv⟩ := hv
      refine go_callV q_R_at kc_R_at rfl q_R_wideOf am_k111 ⟨rfl, rfl, by decide⟩ rfl rfl (Nat.le_of_ble_eq_true rfl) (Nat.le_of_ble_eq_true rfl) rfl rfl hg ?_
      refine go_steps q_R_at kc_R_at 2 rfl ?_
      refine go_if (fun hb => ?_) (fun hb => ?_)
      · have hb : ((σ1 58 (Int32.toNatClampNeg p4)) + r2) ≤ p2 := hb
        replace hv := hv.1 hb
        refine go_steps q_R_at kc_R_at 2 rfl ?_
        refine go_le (L1 := [some (.ref 47), some (.int p1), some (.int p2), some (.int p3), some (.int (p4 + 1)), none]) (by repeat (first | exact trivial | refine ⟨rfl, ?_⟩)) ?_
        exact hv
      · have hb : ¬ (((σ1 58 (Int32.toNatClampNeg p4)) + r2) ≤ p2) := hb
        replace hv := hv.2 hb
        refine go_steps q_R_at kc_R_at 3 rfl ?_
        obtain ⟨r3, σ3, hg, hv⟩ := hv
        refine go_callV q_R_at kc_R_at rfl q_R_topOf am_k115 ⟨rfl, rfl, by decide⟩ rfl rfl (Nat.le_of_ble_eq_true rfl) (Nat.le_of_ble_eq_true rfl) rfl rfl hg ?_
        refine go_steps q_R_at kc_R_at 1 rfl ?_
        refine go_if (fun hb => ?_) (fun hb => ?_)
        · have hb : r3 ≤ p3 := hb
          replace hv := hv.1 hb
          refine go_steps q_R_at kc_R_at 2 rfl ?_
          refine go_le (L1 := [some (.ref 47), some (.int p1), some (.int p2), some (.int p3), some (.int (p4 + 1)), none]) (by repeat (first | exact trivial | refine ⟨rfl, ?_⟩)) ?_
          exact hv
        · have hb : ¬ (r3 ≤ p3) := hb
          replace hv := hv.2 hb
          refine go_steps q_R_at kc_R_at 1 rfl ?_
          obtain ⟨rfl, rfl⟩ := hv
          exact go_retI q_R_at kc_R_at rfl rfl rfl
set_option maxHeartbeats 4000000 in
set_option maxRecDepth 100000 in
theorem v_L_law_18 {l : Launch} {D : va_G} {DA : Nat → ClassId} {b sz d L : Nat} {cu : Bool} {σ : Nat → Nat → Int32} {r : Option Value} {X' : am_X} (p3 : Int32)
    (hv : ((((Int32.ofNat L) - 9) < p3) → (r = some (.int 1) ∧ X' = (am_TT cu L, am_RR cu, σ))) ∧ (¬ (((Int32.ofNat L) - 9) < p3) → ((¬ (p3 < 0 ∨ L ≤ Int32.toNatClampNeg p3)) ∧ ((((σ 0 (Int32.toNatClampNeg p3)) &&& 31) = 0 → ((¬ ((p3 + 1) < 0 ∨ L ≤ Int32.toNatClampNeg (p3 + 1))) ∧ ((¬ ((p3 + 2) < 0 ∨ L ≤ Int32.toNatClampNeg (p3 + 2))) ∧ ((¬ ((p3 + 3) < 0 ∨ L ≤ Int32.toNatClampNeg (p3 + 3))) ∧ ((¬ ((p3 + 4) < 0 ∨ L ≤ Int32.toNatClampNeg (p3 + 4))) ∧ ((¬ ((p3 + 5) < 0 ∨ L ≤ Int32.toNatClampNeg (p3 + 5))) ∧ ((¬ ((p3 + 6) < 0 ∨ L ≤ Int32.toNatClampNeg (p3 + 6))) ∧ ((¬ ((p3 + 7) < 0 ∨ L ≤ Int32.toNatClampNeg (p3 + 7))) ∧ ((¬ ((p3 + 8) < 0 ∨ L ≤ Int32.toNatClampNeg (p3 + 8))) ∧ (∃ (r1 : Int32) (σ1 : Nat → Nat → Int32), am_Go l D DA b sz d M_B_box (0, [some (.ref 1), some (.int (σ 0 (Int32.toNatClampNeg (p3 + 1)))), some (.int (σ 0 (Int32.toNatClampNeg (p3 + 2)))), some (.int (σ 0 (Int32.toNatClampNeg (p3 + 3)))), some (.int (σ 0 (Int32.toNatClampNeg (p3 + 4)))), some (.int (σ 0 (Int32.toNatClampNeg (p3 + 5)))), some (.int (σ 0 (Int32.toNatClampNeg (p3 + 6)))), some (.int (if (σ 0 (Int32.toNatClampNeg (p3 + 7))) = 0 then 0 else 1 : Int32)), some (.int (σ 0 (Int32.toNatClampNeg (p3 + 8)))), none], [], (am_TT cu L, am_RR cu, σ)) (some (.int r1)) (am_TT cu L, am_RR cu, σ1) ∧ ((¬ ((p3 + 1) < 0 ∨ L ≤ Int32.toNatClampNeg (p3 + 1))) ∧ ((¬ ((p3 + 2) < 0 ∨ L ≤ Int32.toNatClampNeg (p3 + 2))) ∧ ((¬ ((p3 + 3) < 0 ∨ L ≤ Int32.toNatClampNeg (p3 + 3))) ∧ ((¬ ((p3 + 4) < 0 ∨ L ≤ Int32.toNatClampNeg (p3 + 4))) ∧ ((¬ ((p3 + 5) < 0 ∨ L ≤ Int32.toNatClampNeg (p3 + 5))) ∧ ((¬ ((p3 + 6) < 0 ∨ L ≤ Int32.toNatClampNeg (p3 + 6))) ∧ ((¬ ((p3 + 7) < 0 ∨ L ≤ Int32.toNatClampNeg (p3 + 7))) ∧ ((¬ ((p3 + 8) < 0 ∨ L ≤ Int32.toNatClampNeg (p3 + 8))) ∧ (∃ (r2 : Int32) (σ2 : Nat → Nat → Int32), am_Go l D DA b sz d M_R_box (0, [some (.ref 47), some (.int (σ1 0 (Int32.toNatClampNeg (p3 + 1)))), some (.int (σ1 0 (Int32.toNatClampNeg (p3 + 2)))), some (.int (σ1 0 (Int32.toNatClampNeg (p3 + 3)))), some (.int (σ1 0 (Int32.toNatClampNeg (p3 + 4)))), some (.int (σ1 0 (Int32.toNatClampNeg (p3 + 5)))), some (.int (σ1 0 (Int32.toNatClampNeg (p3 + 6)))), some (.int (if (σ1 0 (Int32.toNatClampNeg (p3 + 7))) = 0 then 0 else 1 : Int32)), some (.int (σ1 0 (Int32.toNatClampNeg (p3 + 8))))], [], (am_TT cu L, am_RR cu, σ1)) (some (.int r2)) (am_TT cu L, am_RR cu, σ2) ∧ (((r1 = r2) → (am_Go l D DA b sz (d + 1) M_L_law (18, [some (.ref 0), some (.ref 1), some (.ref 47), some (.int (p3 + 9))], [], (am_TT cu L, am_RR cu, σ2)) r X')) ∧ (¬ (r1 = r2) → (r = some (.int 0) ∧ X' = (am_TT cu L, am_RR cu, σ2))))))))))))))))))))))) ∧ (((σ 0 (Int32.toNatClampNeg p3)) &&& 31) = 1 → ((¬ ((p3 + 1) < 0 ∨ L ≤ Int32.toNatClampNeg (p3 + 1))) ∧ ((¬ ((p3 + 2) < 0 ∨ L ≤ Int32.toNatClampNeg (p3 + 2))) ∧ ((¬ ((p3 + 3) < 0 ∨ L ≤ Int32.toNatClampNeg (p3 + 3))) ∧ (∃ (r3 : Int32) (σ3 : Nat → Nat → Int32), am_Go l D DA b sz d M_B_truck (0, [some (.ref 1), some (.int (σ 0 (Int32.toNatClampNeg (p3 + 1)))), some (.int (σ 0 (Int32.toNatClampNeg (p3 + 2)))), some (.int (σ 0 (Int32.toNatClampNeg (p3 + 3))))], [], (am_TT cu L, am_RR cu, σ)) (some (.int r3)) (am_TT cu L, am_RR cu, σ3) ∧ ((¬ ((p3 + 1) < 0 ∨ L ≤ Int32.toNatClampNeg (p3 + 1))) ∧ ((¬ ((p3 + 2) < 0 ∨ L ≤ Int32.toNatClampNeg (p3 + 2))) ∧ ((¬ ((p3 + 3) < 0 ∨ L ≤ Int32.toNatClampNeg (p3 + 3))) ∧ (∃ (r4 : Int32) (σ4 : Nat → Nat → Int32), am_Go l D DA b sz d M_R_truck (0, [some (.ref 47), some (.int (σ3 0 (Int32.toNatClampNeg (p3 + 1)))), some (.int (σ3 0 (Int32.toNatClampNeg (p3 + 2)))), some (.int (σ3 0 (Int32.toNatClampNeg (p3 + 3))))], [], (am_TT cu L, am_RR cu, σ3)) (some (.int r4)) (am_TT cu L, am_RR cu, σ4) ∧ (((r3 = r4) → (am_Go l D DA b sz (d + 1) M_L_law (18, [some (.ref 0), some (.ref 1), some (.ref 47), some (.int (p3 + 9))], [], (am_TT cu L, am_RR cu, σ4)) r X')) ∧ (¬ (r3 = r4) → (r = some (.int 0) ∧ X' = (am_TT cu L, am_RR cu, σ4))))))))))))) ∧ (((σ 0 (Int32.toNatClampNeg p3)) &&& 31) = 2 → ((¬ ((p3 + 1) < 0 ∨ L ≤ Int32.toNatClampNeg (p3 + 1))) ∧ (∃ (r5 : Int32) (σ5 : Nat → Nat → Int32), am_Go l D DA b sz d M_B_share (0, [some (.ref 1), some (.int (σ 0 (Int32.toNatClampNeg (p3 + 1)))), none], [], (am_TT cu L, am_RR cu, σ)) (some (.int r5)) (am_TT cu L, am_RR cu, σ5) ∧ ((¬ ((p3 + 1) < 0 ∨ L ≤ Int32.toNatClampNeg (p3 + 1))) ∧ (∃ (r6 : Int32) (σ6 : Nat → Nat → Int32), am_Go l D DA b sz d M_R_share (0, [some (.ref 47), some (.int (σ5 0 (Int32.toNatClampNeg (p3 + 1)))), none], [], (am_TT cu L, am_RR cu, σ5)) (some (.int r6)) (am_TT cu L, am_RR cu, σ6) ∧ (((r5 = r6) → (am_Go l D DA b sz (d + 1) M_L_law (18, [some (.ref 0), some (.ref 1), some (.ref 47), some (.int (p3 + 9))], [], (am_TT cu L, am_RR cu, σ6)) r X')) ∧ (¬ (r5 = r6) → (r = some (.int 0) ∧ X' = (am_TT cu L, am_RR cu, σ6))))))))) ∧ (((σ 0 (Int32.toNatClampNeg p3)) &&& 31) = 3 → ((¬ ((p3 + 1) < 0 ∨ L ≤ Int32.toNatClampNeg (p3 + 1))) ∧ ((¬ ((p3 + 2) < 0 ∨ L ≤ Int32.toNatClampNeg (p3 + 2))) ∧ ((¬ ((p3 + 3) < 0 ∨ L ≤ Int32.toNatClampNeg (p3 + 3))) ∧ ((¬ ((p3 + 4) < 0 ∨ L ≤ Int32.toNatClampNeg (p3 + 4))) ∧ (∃ (r7 : Int32) (σ7 : Nat → Nat → Int32), am_Go l D DA b sz d M_B_axles (0, [some (.ref 1), some (.int (σ 0 (Int32.toNatClampNeg (p3 + 1)))), some (.int (σ 0 (Int32.toNatClampNeg (p3 + 2)))), some (.int (σ 0 (Int32.toNatClampNeg (p3 + 3)))), some (.int (σ 0 (Int32.toNatClampNeg (p3 + 4))))], [], (am_TT cu L, am_RR cu, σ)) (some (.int r7)) (am_TT cu L, am_RR cu, σ7) ∧ ((¬ ((p3 + 1) < 0 ∨ L ≤ Int32.toNatClampNeg (p3 + 1))) ∧ ((¬ ((p3 + 2) < 0 ∨ L ≤ Int32.toNatClampNeg (p3 + 2))) ∧ ((¬ ((p3 + 3) < 0 ∨ L ≤ Int32.toNatClampNeg (p3 + 3))) ∧ ((¬ ((p3 + 4) < 0 ∨ L ≤ Int32.toNatClampNeg (p3 + 4))) ∧ (∃ (r8 : Int32) (σ8 : Nat → Nat → Int32), am_Go l D DA b sz d M_R_axles (0, [some (.ref 47), some (.int (σ7 0 (Int32.toNatClampNeg (p3 + 1)))), some (.int (σ7 0 (Int32.toNatClampNeg (p3 + 2)))), some (.int (σ7 0 (Int32.toNatClampNeg (p3 + 3)))), some (.int (σ7 0 (Int32.toNatClampNeg (p3 + 4))))], [], (am_TT cu L, am_RR cu, σ7)) (some (.int r8)) (am_TT cu L, am_RR cu, σ8) ∧ (((r7 = r8) → (am_Go l D DA b sz (d + 1) M_L_law (18, [some (.ref 0), some (.ref 1), some (.ref 47), some (.int (p3 + 9))], [], (am_TT cu L, am_RR cu, σ8)) r X')) ∧ (¬ (r7 = r8) → (r = some (.int 0) ∧ X' = (am_TT cu L, am_RR cu, σ8))))))))))))))) ∧ (((σ 0 (Int32.toNatClampNeg p3)) &&& 31) = 4 → ((¬ ((p3 + 1) < 0 ∨ L ≤ Int32.toNatClampNeg (p3 + 1))) ∧ (∃ (r9 : Int32) (σ9 : Nat → Nat → Int32), am_Go l D DA b sz d M_B_side (0, [some (.ref 1), some (.int (σ 0 (Int32.toNatClampNeg (p3 + 1)))), none], [], (am_TT cu L, am_RR cu, σ)) (some (.int r9)) (am_TT cu L, am_RR cu, σ9) ∧ ((¬ ((p3 + 1) < 0 ∨ L ≤ Int32.toNatClampNeg (p3 + 1))) ∧ (∃ (r10 : Int32) (σ10 : Nat → Nat → Int32), am_Go l D DA b sz d M_R_side (0, [some (.ref 47), some (.int (σ9 0 (Int32.toNatClampNeg (p3 + 1)))), none], [], (am_TT cu L, am_RR cu, σ9)) (some (.int r10)) (am_TT cu L, am_RR cu, σ10) ∧ (((r9 = r10) → (am_Go l D DA b sz (d + 1) M_L_law (18, [some (.ref 0), some (.ref 1), some (.ref 47), some (.int (p3 + 9))], [], (am_TT cu L, am_RR cu, σ10)) r X')) ∧ (¬ (r9 = r10) → (r = some (.int 0) ∧ X' = (am_TT cu L, am_RR cu, σ10))))))))) ∧ (((σ 0 (Int32.toNatClampNeg p3)) &&& 31) = 5 → ((¬ ((p3 + 1) < 0 ∨ L ≤ Int32.toNatClampNeg (p3 + 1))) ∧ ((¬ ((p3 + 2) < 0 ∨ L ≤ Int32.toNatClampNeg (p3 + 2))) ∧ ((¬ ((p3 + 3) < 0 ∨ L ≤ Int32.toNatClampNeg (p3 + 3))) ∧ ((¬ ((p3 + 4) < 0 ∨ L ≤ Int32.toNatClampNeg (p3 + 4))) ∧ ((¬ ((p3 + 5) < 0 ∨ L ≤ Int32.toNatClampNeg (p3 + 5))) ∧ (∃ (r11 : Int32) (σ11 : Nat → Nat → Int32), am_Go l D DA b sz d M_B_wrong (0, [some (.ref 1), some (.int (σ 0 (Int32.toNatClampNeg (p3 + 1)))), some (.int (σ 0 (Int32.toNatClampNeg (p3 + 2)))), some (.int (σ 0 (Int32.toNatClampNeg (p3 + 3)))), some (.int (σ 0 (Int32.toNatClampNeg (p3 + 4)))), some (.int (if (σ 0 (Int32.toNatClampNeg (p3 + 5))) = 0 then 0 else 1 : Int32)), none], [], (am_TT cu L, am_RR cu, σ)) (some (.int r11)) (am_TT cu L, am_RR cu, σ11) ∧ ((¬ ((p3 + 1) < 0 ∨ L ≤ Int32.toNatClampNeg (p3 + 1))) ∧ ((¬ ((p3 + 2) < 0 ∨ L ≤ Int32.toNatClampNeg (p3 + 2))) ∧ ((¬ ((p3 + 3) < 0 ∨ L ≤ Int32.toNatClampNeg (p3 + 3))) ∧ ((¬ ((p3 + 4) < 0 ∨ L ≤ Int32.toNatClampNeg (p3 + 4))) ∧ ((¬ ((p3 + 5) < 0 ∨ L ≤ Int32.toNatClampNeg (p3 + 5))) ∧ (∃ (r12 : Int32) (σ12 : Nat → Nat → Int32), am_Go l D DA b sz d M_R_wrong (0, [some (.ref 47), some (.int (σ11 0 (Int32.toNatClampNeg (p3 + 1)))), some (.int (σ11 0 (Int32.toNatClampNeg (p3 + 2)))), some (.int (σ11 0 (Int32.toNatClampNeg (p3 + 3)))), some (.int (σ11 0 (Int32.toNatClampNeg (p3 + 4)))), some (.int (if (σ11 0 (Int32.toNatClampNeg (p3 + 5))) = 0 then 0 else 1 : Int32)), none], [], (am_TT cu L, am_RR cu, σ11)) (some (.int r12)) (am_TT cu L, am_RR cu, σ12) ∧ (((r11 = r12) → (am_Go l D DA b sz (d + 1) M_L_law (18, [some (.ref 0), some (.ref 1), some (.ref 47), some (.int (p3 + 9))], [], (am_TT cu L, am_RR cu, σ12)) r X')) ∧ (¬ (r11 = r12) → (r = some (.int 0) ∧ X' = (am_TT cu L, am_RR cu, σ12))))))))))))))))) ∧ (((σ 0 (Int32.toNatClampNeg p3)) &&& 31) = 6 → ((¬ ((p3 + 1) < 0 ∨ L ≤ Int32.toNatClampNeg (p3 + 1))) ∧ ((¬ ((p3 + 2) < 0 ∨ L ≤ Int32.toNatClampNeg (p3 + 2))) ∧ ((¬ ((p3 + 3) < 0 ∨ L ≤ Int32.toNatClampNeg (p3 + 3))) ∧ ((¬ ((p3 + 4) < 0 ∨ L ≤ Int32.toNatClampNeg (p3 + 4))) ∧ ((¬ ((p3 + 5) < 0 ∨ L ≤ Int32.toNatClampNeg (p3 + 5))) ∧ (∃ (r13 : Int32) (σ13 : Nat → Nat → Int32), am_Go l D DA b sz d M_B_place (0, [some (.ref 1), some (.int (σ 0 (Int32.toNatClampNeg (p3 + 1)))), some (.int (σ 0 (Int32.toNatClampNeg (p3 + 2)))), some (.int (σ 0 (Int32.toNatClampNeg (p3 + 3)))), some (.int (σ 0 (Int32.toNatClampNeg (p3 + 4)))), some (.int (if (σ 0 (Int32.toNatClampNeg (p3 + 5))) = 0 then 0 else 1 : Int32)), none], [], (am_TT cu L, am_RR cu, σ)) (some (.int r13)) (am_TT cu L, am_RR cu, σ13) ∧ ((¬ ((p3 + 1) < 0 ∨ L ≤ Int32.toNatClampNeg (p3 + 1))) ∧ ((¬ ((p3 + 2) < 0 ∨ L ≤ Int32.toNatClampNeg (p3 + 2))) ∧ ((¬ ((p3 + 3) < 0 ∨ L ≤ Int32.toNatClampNeg (p3 + 3))) ∧ ((¬ ((p3 + 4) < 0 ∨ L ≤ Int32.toNatClampNeg (p3 + 4))) ∧ ((¬ ((p3 + 5) < 0 ∨ L ≤ Int32.toNatClampNeg (p3 + 5))) ∧ (∃ (r14 : Int32) (σ14 : Nat → Nat → Int32), am_Go l D DA b sz d M_R_place (0, [some (.ref 47), some (.int (σ13 0 (Int32.toNatClampNeg (p3 + 1)))), some (.int (σ13 0 (Int32.toNatClampNeg (p3 + 2)))), some (.int (σ13 0 (Int32.toNatClampNeg (p3 + 3)))), some (.int (σ13 0 (Int32.toNatClampNeg (p3 + 4)))), some (.int (if (σ13 0 (Int32.toNatClampNeg (p3 + 5))) = 0 then 0 else 1 : Int32)), none], [], (am_TT cu L, am_RR cu, σ13)) (some (.int r14)) (am_TT cu L, am_RR cu, σ14) ∧ (((r13 = r14) → (am_Go l D DA b sz (d + 1) M_L_law (18, [some (.ref 0), some (.ref 1), some (.ref 47), some (.int (p3 + 9))], [], (am_TT cu L, am_RR cu, σ14)) r X')) ∧ (¬ (r13 = r14) → (r = some (.int 0) ∧ X' = (am_TT cu L, am_RR cu, σ14))))))))))))))))) ∧ (((σ 0 (Int32.toNatClampNeg p3)) &&& 31) = 7 → ((¬ ((p3 + 1) < 0 ∨ L ≤ Int32.toNatClampNeg (p3 + 1))) ∧ (∃ (r15 : Int32) (σ15 : Nat → Nat → Int32), am_Go l D DA b sz d M_B_set (0, [some (.ref 1), some (.int (σ 0 (Int32.toNatClampNeg (p3 + 1))))], [], (am_TT cu L, am_RR cu, σ)) (some (.int r15)) (am_TT cu L, am_RR cu, σ15) ∧ ((¬ ((p3 + 1) < 0 ∨ L ≤ Int32.toNatClampNeg (p3 + 1))) ∧ (∃ (r16 : Int32) (σ16 : Nat → Nat → Int32), am_Go l D DA b sz d M_R_set (0, [some (.ref 47), some (.int (σ15 0 (Int32.toNatClampNeg (p3 + 1))))], [], (am_TT cu L, am_RR cu, σ15)) (some (.int r16)) (am_TT cu L, am_RR cu, σ16) ∧ (((r15 = r16) → (am_Go l D DA b sz (d + 1) M_L_law (18, [some (.ref 0), some (.ref 1), some (.ref 47), some (.int (p3 + 9))], [], (am_TT cu L, am_RR cu, σ16)) r X')) ∧ (¬ (r15 = r16) → (r = some (.int 0) ∧ X' = (am_TT cu L, am_RR cu, σ16))))))))) ∧ (((σ 0 (Int32.toNatClampNeg p3)) &&& 31) = 8 → ((¬ ((p3 + 1) < 0 ∨ L ≤ Int32.toNatClampNeg (p3 + 1))) ∧ (∃ (r17 : Int32) (σ17 : Nat → Nat → Int32), am_Go l D DA b sz d M_B_take (0, [some (.ref 1), some (.int (σ 0 (Int32.toNatClampNeg (p3 + 1))))], [], (am_TT cu L, am_RR cu, σ)) (some (.int r17)) (am_TT cu L, am_RR cu, σ17) ∧ ((¬ ((p3 + 1) < 0 ∨ L ≤ Int32.toNatClampNeg (p3 + 1))) ∧ (∃ (r18 : Int32) (σ18 : Nat → Nat → Int32), am_Go l D DA b sz d M_R_take (0, [some (.ref 47), some (.int (σ17 0 (Int32.toNatClampNeg (p3 + 1)))), none], [], (am_TT cu L, am_RR cu, σ17)) (some (.int r18)) (am_TT cu L, am_RR cu, σ18) ∧ (((r17 = r18) → (am_Go l D DA b sz (d + 1) M_L_law (18, [some (.ref 0), some (.ref 1), some (.ref 47), some (.int (p3 + 9))], [], (am_TT cu L, am_RR cu, σ18)) r X')) ∧ (¬ (r17 = r18) → (r = some (.int 0) ∧ X' = (am_TT cu L, am_RR cu, σ18))))))))) ∧ (((σ 0 (Int32.toNatClampNeg p3)) &&& 31) = 9 → ((∃ (r19 : Int32) (σ19 : Nat → Nat → Int32), am_Go l D DA b sz d M_B_clear (0, [some (.ref 1), none], [], (am_TT cu L, am_RR cu, σ)) (some (.int r19)) (am_TT cu L, am_RR cu, σ19) ∧ ((∃ (r20 : Int32) (σ20 : Nat → Nat → Int32), am_Go l D DA b sz d M_R_clear (0, [some (.ref 47), none, none], [], (am_TT cu L, am_RR cu, σ19)) (some (.int r20)) (am_TT cu L, am_RR cu, σ20) ∧ (((r19 = r20) → (am_Go l D DA b sz (d + 1) M_L_law (18, [some (.ref 0), some (.ref 1), some (.ref 47), some (.int (p3 + 9))], [], (am_TT cu L, am_RR cu, σ20)) r X')) ∧ (¬ (r19 = r20) → (r = some (.int 0) ∧ X' = (am_TT cu L, am_RR cu, σ20))))))))) ∧ (((σ 0 (Int32.toNatClampNeg p3)) &&& 31) = 10 → ((¬ ((p3 + 1) < 0 ∨ L ≤ Int32.toNatClampNeg (p3 + 1))) ∧ (∃ (r21 : Int32) (σ21 : Nat → Nat → Int32), am_Go l D DA b sz d M_B_best (0, [some (.ref 1), some (.int (σ 0 (Int32.toNatClampNeg (p3 + 1))))], [], (am_TT cu L, am_RR cu, σ)) (some (.int r21)) (am_TT cu L, am_RR cu, σ21) ∧ ((¬ ((p3 + 1) < 0 ∨ L ≤ Int32.toNatClampNeg (p3 + 1))) ∧ (∃ (r22 : Int32) (σ22 : Nat → Nat → Int32), am_Go l D DA b sz d M_R_best (0, [some (.ref 47), some (.int (σ21 0 (Int32.toNatClampNeg (p3 + 1)))), none, none], [], (am_TT cu L, am_RR cu, σ21)) (some (.int r22)) (am_TT cu L, am_RR cu, σ22) ∧ (((r21 = r22) → (am_Go l D DA b sz (d + 1) M_L_law (18, [some (.ref 0), some (.ref 1), some (.ref 47), some (.int (p3 + 9))], [], (am_TT cu L, am_RR cu, σ22)) r X')) ∧ (¬ (r21 = r22) → (r = some (.int 0) ∧ X' = (am_TT cu L, am_RR cu, σ22))))))))) ∧ (((σ 0 (Int32.toNatClampNeg p3)) &&& 31) = 11 → ((¬ ((p3 + 1) < 0 ∨ L ≤ Int32.toNatClampNeg (p3 + 1))) ∧ ((¬ ((p3 + 2) < 0 ∨ L ≤ Int32.toNatClampNeg (p3 + 2))) ∧ (∃ (r23 : Int32) (σ23 : Nat → Nat → Int32), am_Go l D DA b sz d M_B_about (0, [some (.ref 1), some (.int (σ 0 (Int32.toNatClampNeg (p3 + 1)))), some (.int (σ 0 (Int32.toNatClampNeg (p3 + 2)))), none, none], [], (am_TT cu L, am_RR cu, σ)) (some (.int r23)) (am_TT cu L, am_RR cu, σ23) ∧ ((¬ ((p3 + 1) < 0 ∨ L ≤ Int32.toNatClampNeg (p3 + 1))) ∧ ((¬ ((p3 + 2) < 0 ∨ L ≤ Int32.toNatClampNeg (p3 + 2))) ∧ (∃ (r24 : Int32) (σ24 : Nat → Nat → Int32), am_Go l D DA b sz d M_R_about (0, [some (.ref 47), some (.int (σ23 0 (Int32.toNatClampNeg (p3 + 1)))), some (.int (σ23 0 (Int32.toNatClampNeg (p3 + 2)))), none, none], [], (am_TT cu L, am_RR cu, σ23)) (some (.int r24)) (am_TT cu L, am_RR cu, σ24) ∧ (((r23 = r24) → (am_Go l D DA b sz (d + 1) M_L_law (18, [some (.ref 0), some (.ref 1), some (.ref 47), some (.int (p3 + 9))], [], (am_TT cu L, am_RR cu, σ24)) r X')) ∧ (¬ (r23 = r24) → (r = some (.int 0) ∧ X' = (am_TT cu L, am_RR cu, σ24))))))))))) ∧ (((σ 0 (Int32.toNatClampNeg p3)) &&& 31) = 12 → ((¬ ((p3 + 1) < 0 ∨ L ≤ Int32.toNatClampNeg (p3 + 1))) ∧ ((¬ ((p3 + 2) < 0 ∨ L ≤ Int32.toNatClampNeg (p3 + 2))) ∧ ((¬ ((p3 + 3) < 0 ∨ L ≤ Int32.toNatClampNeg (p3 + 3))) ∧ (∃ (r25 : Int32) (σ25 : Nat → Nat → Int32), am_Go l D DA b sz d M_B_at (0, [some (.ref 1), some (.int (σ 0 (Int32.toNatClampNeg (p3 + 1)))), some (.int (σ 0 (Int32.toNatClampNeg (p3 + 2)))), some (.int (σ 0 (Int32.toNatClampNeg (p3 + 3)))), none], [], (am_TT cu L, am_RR cu, σ)) (some (.int r25)) (am_TT cu L, am_RR cu, σ25) ∧ ((¬ ((p3 + 1) < 0 ∨ L ≤ Int32.toNatClampNeg (p3 + 1))) ∧ ((¬ ((p3 + 2) < 0 ∨ L ≤ Int32.toNatClampNeg (p3 + 2))) ∧ ((¬ ((p3 + 3) < 0 ∨ L ≤ Int32.toNatClampNeg (p3 + 3))) ∧ (∃ (r26 : Int32) (σ26 : Nat → Nat → Int32), am_Go l D DA b sz d M_R_at (0, [some (.ref 47), some (.int (σ25 0 (Int32.toNatClampNeg (p3 + 1)))), some (.int (σ25 0 (Int32.toNatClampNeg (p3 + 2)))), some (.int (σ25 0 (Int32.toNatClampNeg (p3 + 3)))), none, none], [], (am_TT cu L, am_RR cu, σ25)) (some (.int r26)) (am_TT cu L, am_RR cu, σ26) ∧ (((r25 = r26) → (am_Go l D DA b sz (d + 1) M_L_law (18, [some (.ref 0), some (.ref 1), some (.ref 47), some (.int (p3 + 9))], [], (am_TT cu L, am_RR cu, σ26)) r X')) ∧ (¬ (r25 = r26) → (r = some (.int 0) ∧ X' = (am_TT cu L, am_RR cu, σ26))))))))))))) ∧ (((σ 0 (Int32.toNatClampNeg p3)) &&& 31) = 13 → ((¬ ((p3 + 1) < 0 ∨ L ≤ Int32.toNatClampNeg (p3 + 1))) ∧ ((¬ ((p3 + 2) < 0 ∨ L ≤ Int32.toNatClampNeg (p3 + 2))) ∧ ((¬ ((p3 + 3) < 0 ∨ L ≤ Int32.toNatClampNeg (p3 + 3))) ∧ (∃ (r27 : Int32) (σ27 : Nat → Nat → Int32), am_Go l D DA b sz d M_B_axle (0, [some (.ref 1), some (.int (σ 0 (Int32.toNatClampNeg (p3 + 1)))), some (.int (σ 0 (Int32.toNatClampNeg (p3 + 2)))), some (.int (σ 0 (Int32.toNatClampNeg (p3 + 3)))), none, none], [], (am_TT cu L, am_RR cu, σ)) (some (.int r27)) (am_TT cu L, am_RR cu, σ27) ∧ ((¬ ((p3 + 1) < 0 ∨ L ≤ Int32.toNatClampNeg (p3 + 1))) ∧ ((¬ ((p3 + 2) < 0 ∨ L ≤ Int32.toNatClampNeg (p3 + 2))) ∧ ((¬ ((p3 + 3) < 0 ∨ L ≤ Int32.toNatClampNeg (p3 + 3))) ∧ (∃ (r28 : Int32) (σ28 : Nat → Nat → Int32), am_Go l D DA b sz d M_R_axle (0, [some (.ref 47), some (.int (σ27 0 (Int32.toNatClampNeg (p3 + 1)))), some (.int (σ27 0 (Int32.toNatClampNeg (p3 + 2)))), some (.int (σ27 0 (Int32.toNatClampNeg (p3 + 3)))), none, none, none, none, none], [], (am_TT cu L, am_RR cu, σ27)) (some (.int r28)) (am_TT cu L, am_RR cu, σ28) ∧ (((r27 = r28) → (am_Go l D DA b sz (d + 1) M_L_law (18, [some (.ref 0), some (.ref 1), some (.ref 47), some (.int (p3 + 9))], [], (am_TT cu L, am_RR cu, σ28)) r X')) ∧ (¬ (r27 = r28) → (r = some (.int 0) ∧ X' = (am_TT cu L, am_RR cu, σ28))))))))))))) ∧ (((σ 0 (Int32.toNatClampNeg p3)) &&& 31) = 14 → ((¬ ((p3 + 1) < 0 ∨ L ≤ Int32.toNatClampNeg (p3 + 1))) ∧ (∃ (r29 : Int32) (σ29 : Nat → Nat → Int32), am_Go l D DA b sz d M_B_over (0, [some (.ref 1), some (.int (σ 0 (Int32.toNatClampNeg (p3 + 1))))], [], (am_TT cu L, am_RR cu, σ)) (some (.int r29)) (am_TT cu L, am_RR cu, σ29) ∧ ((¬ ((p3 + 1) < 0 ∨ L ≤ Int32.toNatClampNeg (p3 + 1))) ∧ (∃ (r30 : Int32) (σ30 : Nat → Nat → Int32), am_Go l D DA b sz d M_R_over (0, [some (.ref 47), some (.int (σ29 0 (Int32.toNatClampNeg (p3 + 1))))], [], (am_TT cu L, am_RR cu, σ29)) (some (.int r30)) (am_TT cu L, am_RR cu, σ30) ∧ (((r29 = r30) → (am_Go l D DA b sz (d + 1) M_L_law (18, [some (.ref 0), some (.ref 1), some (.ref 47), some (.int (p3 + 9))], [], (am_TT cu L, am_RR cu, σ30)) r X')) ∧ (¬ (r29 = r30) → (r = some (.int 0) ∧ X' = (am_TT cu L, am_RR cu, σ30))))))))) ∧ (((σ 0 (Int32.toNatClampNeg p3)) &&& 31) = 15 → ((∃ (r31 : Int32) (σ31 : Nat → Nat → Int32), am_Go l D DA b sz d M_B_fit (0, [some (.ref 1), none], [], (am_TT cu L, am_RR cu, σ)) (some (.int r31)) (am_TT cu L, am_RR cu, σ31) ∧ ((∃ (r32 : Int32) (σ32 : Nat → Nat → Int32), am_Go l D DA b sz d M_R_fit (0, [some (.ref 47), none], [], (am_TT cu L, am_RR cu, σ31)) (some (.int r32)) (am_TT cu L, am_RR cu, σ32) ∧ (((r31 = r32) → (am_Go l D DA b sz (d + 1) M_L_law (18, [some (.ref 0), some (.ref 1), some (.ref 47), some (.int (p3 + 9))], [], (am_TT cu L, am_RR cu, σ32)) r X')) ∧ (¬ (r31 = r32) → (r = some (.int 0) ∧ X' = (am_TT cu L, am_RR cu, σ32))))))))) ∧ (((σ 0 (Int32.toNatClampNeg p3)) &&& 31) = 16 → ((¬ ((p3 + 1) < 0 ∨ L ≤ Int32.toNatClampNeg (p3 + 1))) ∧ ((¬ ((p3 + 2) < 0 ∨ L ≤ Int32.toNatClampNeg (p3 + 2))) ∧ ((¬ ((p3 + 3) < 0 ∨ L ≤ Int32.toNatClampNeg (p3 + 3))) ∧ (∃ (r33 : Int32) (cu33 : Bool) (σ33 : Nat → Nat → Int32), am_Go l D DA b sz d M_B_cut (0, [some (.ref 1), some (.int (σ 0 (Int32.toNatClampNeg (p3 + 1)))), some (.int (σ 0 (Int32.toNatClampNeg (p3 + 2)))), some (.int (σ 0 (Int32.toNatClampNeg (p3 + 3))))], [], (am_TT cu L, am_RR cu, σ)) (some (.int r33)) (am_TT cu33 L, am_RR cu33, σ33) ∧ ((¬ ((p3 + 1) < 0 ∨ L ≤ Int32.toNatClampNeg (p3 + 1))) ∧ ((¬ ((p3 + 2) < 0 ∨ L ≤ Int32.toNatClampNeg (p3 + 2))) ∧ ((¬ ((p3 + 3) < 0 ∨ L ≤ Int32.toNatClampNeg (p3 + 3))) ∧ (∃ (r34 : Int32) (σ34 : Nat → Nat → Int32), am_Go l D DA b sz d M_R_cut (0, [some (.ref 47), some (.int (σ33 0 (Int32.toNatClampNeg (p3 + 1)))), some (.int (σ33 0 (Int32.toNatClampNeg (p3 + 2)))), some (.int (σ33 0 (Int32.toNatClampNeg (p3 + 3))))], [], (am_TT cu33 L, am_RR cu33, σ33)) (some (.int r34)) (am_TT cu33 L, am_RR cu33, σ34) ∧ (((r33 = r34) → (am_Go l D DA b sz (d + 1) M_L_law (18, [some (.ref 0), some (.ref 1), some (.ref 47), some (.int (p3 + 9))], [], (am_TT cu33 L, am_RR cu33, σ34)) r X')) ∧ (¬ (r33 = r34) → (r = some (.int 0) ∧ X' = (am_TT cu33 L, am_RR cu33, σ34))))))))))))) ∧ (((σ 0 (Int32.toNatClampNeg p3)) &&& 31) = 17 → ((¬ ((p3 + 1) < 0 ∨ L ≤ Int32.toNatClampNeg (p3 + 1))) ∧ ((¬ ((p3 + 2) < 0 ∨ L ≤ Int32.toNatClampNeg (p3 + 2))) ∧ (∃ (r35 : Int32) (σ35 : Nat → Nat → Int32), am_Go l D DA b sz d M_B_piece (0, [some (.ref 1), some (.int (σ 0 (Int32.toNatClampNeg (p3 + 1)))), some (.int (σ 0 (Int32.toNatClampNeg (p3 + 2))))], [], (am_TT cu L, am_RR cu, σ)) (some (.int r35)) (am_TT cu L, am_RR cu, σ35) ∧ ((¬ ((p3 + 1) < 0 ∨ L ≤ Int32.toNatClampNeg (p3 + 1))) ∧ ((¬ ((p3 + 2) < 0 ∨ L ≤ Int32.toNatClampNeg (p3 + 2))) ∧ (∃ (r36 : Int32) (σ36 : Nat → Nat → Int32), am_Go l D DA b sz d M_R_piece (0, [some (.ref 47), some (.int (σ35 0 (Int32.toNatClampNeg (p3 + 1)))), some (.int (σ35 0 (Int32.toNatClampNeg (p3 + 2))))], [], (am_TT cu L, am_RR cu, σ35)) (some (.int r36)) (am_TT cu L, am_RR cu, σ36) ∧ (((r35 = r36) → (am_Go l D DA b sz (d + 1) M_L_law (18, [some (.ref 0), some (.ref 1), some (.ref 47), some (.int (p3 + 9))], [], (am_TT cu L, am_RR cu, σ36)) r X')) ∧ (¬ (r35 = r36) → (r = some (.int 0) ∧ X' = (am_TT cu L, am_RR cu, σ36))))))))))) ∧ (((σ 0 (Int32.toNatClampNeg p3)) &&& 31) = 18 → ((¬ ((p3 + 1) < 0 ∨ L ≤ Int32.toNatClampNeg (p3 + 1))) ∧ (∃ (r37 : Int32) (σ37 : Nat → Nat → Int32), am_Go l D DA b sz d M_B_trucks (0, [some (.ref 1), some (.int (σ 0 (Int32.toNatClampNeg (p3 + 1)))), none], [], (am_TT cu L, am_RR cu, σ)) (some (.int r37)) (am_TT cu L, am_RR cu, σ37) ∧ ((¬ ((p3 + 1) < 0 ∨ L ≤ Int32.toNatClampNeg (p3 + 1))) ∧ (∃ (r38 : Int32) (σ38 : Nat → Nat → Int32), am_Go l D DA b sz d M_R_trucks (0, [some (.ref 47), some (.int (σ37 0 (Int32.toNatClampNeg (p3 + 1)))), none, none, none], [], (am_TT cu L, am_RR cu, σ37)) (some (.int r38)) (am_TT cu L, am_RR cu, σ38) ∧ (((r37 = r38) → (am_Go l D DA b sz (d + 1) M_L_law (18, [some (.ref 0), some (.ref 1), some (.ref 47), some (.int (p3 + 9))], [], (am_TT cu L, am_RR cu, σ38)) r X')) ∧ (¬ (r37 = r38) → (r = some (.int 0) ∧ X' = (am_TT cu L, am_RR cu, σ38))))))))) ∧ (((σ 0 (Int32.toNatClampNeg p3)) &&& 31) = 19 → ((¬ ((p3 + 1) < 0 ∨ L ≤ Int32.toNatClampNeg (p3 + 1))) ∧ (∃ (r39 : Int32) (σ39 : Nat → Nat → Int32), am_Go l D DA b sz d M_B_shown (0, [some (.ref 1), some (.int (σ 0 (Int32.toNatClampNeg (p3 + 1))))], [], (am_TT cu L, am_RR cu, σ)) (some (.int r39)) (am_TT cu L, am_RR cu, σ39) ∧ ((¬ ((p3 + 1) < 0 ∨ L ≤ Int32.toNatClampNeg (p3 + 1))) ∧ (∃ (r40 : Int32) (σ40 : Nat → Nat → Int32), am_Go l D DA b sz d M_R_shown (0, [some (.ref 47), some (.int (σ39 0 (Int32.toNatClampNeg (p3 + 1))))], [], (am_TT cu L, am_RR cu, σ39)) (some (.int r40)) (am_TT cu L, am_RR cu, σ40) ∧ (((r39 = r40) → (am_Go l D DA b sz (d + 1) M_L_law (18, [some (.ref 0), some (.ref 1), some (.ref 47), some (.int (p3 + 9))], [], (am_TT cu L, am_RR cu, σ40)) r X')) ∧ (¬ (r39 = r40) → (r = some (.int 0) ∧ X' = (am_TT cu L, am_RR cu, σ40))))))))) ∧ (((σ 0 (Int32.toNatClampNeg p3)) &&& 31) = 20 → ((¬ ((p3 + 1) < 0 ∨ L ≤ Int32.toNatClampNeg (p3 + 1))) ∧ (∃ (r41 : Int32) (σ41 : Nat → Nat → Int32), am_Go l D DA b sz d M_B_count (0, [some (.ref 1), some (.int (σ 0 (Int32.toNatClampNeg (p3 + 1)))), none], [], (am_TT cu L, am_RR cu, σ)) (some (.int r41)) (am_TT cu L, am_RR cu, σ41) ∧ ((¬ ((p3 + 1) < 0 ∨ L ≤ Int32.toNatClampNeg (p3 + 1))) ∧ (∃ (r42 : Int32) (σ42 : Nat → Nat → Int32), am_Go l D DA b sz d M_R_count (0, [some (.ref 47), some (.int (σ41 0 (Int32.toNatClampNeg (p3 + 1)))), none, none], [], (am_TT cu L, am_RR cu, σ41)) (some (.int r42)) (am_TT cu L, am_RR cu, σ42) ∧ (((r41 = r42) → (am_Go l D DA b sz (d + 1) M_L_law (18, [some (.ref 0), some (.ref 1), some (.ref 47), some (.int (p3 + 9))], [], (am_TT cu L, am_RR cu, σ42)) r X')) ∧ (¬ (r41 = r42) → (r = some (.int 0) ∧ X' = (am_TT cu L, am_RR cu, σ42))))))))) ∧ (¬ ((σ 0 (Int32.toNatClampNeg p3)) &&& 31) = 0 → ¬ ((σ 0 (Int32.toNatClampNeg p3)) &&& 31) = 1 → ¬ ((σ 0 (Int32.toNatClampNeg p3)) &&& 31) = 2 → ¬ ((σ 0 (Int32.toNatClampNeg p3)) &&& 31) = 3 → ¬ ((σ 0 (Int32.toNatClampNeg p3)) &&& 31) = 4 → ¬ ((σ 0 (Int32.toNatClampNeg p3)) &&& 31) = 5 → ¬ ((σ 0 (Int32.toNatClampNeg p3)) &&& 31) = 6 → ¬ ((σ 0 (Int32.toNatClampNeg p3)) &&& 31) = 7 → ¬ ((σ 0 (Int32.toNatClampNeg p3)) &&& 31) = 8 → ¬ ((σ 0 (Int32.toNatClampNeg p3)) &&& 31) = 9 → ¬ ((σ 0 (Int32.toNatClampNeg p3)) &&& 31) = 10 → ¬ ((σ 0 (Int32.toNatClampNeg p3)) &&& 31) = 11 → ¬ ((σ 0 (Int32.toNatClampNeg p3)) &&& 31) = 12 → ¬ ((σ 0 (Int32.toNatClampNeg p3)) &&& 31) = 13 → ¬ ((σ 0 (Int32.toNatClampNeg p3)) &&& 31) = 14 → ¬ ((σ 0 (Int32.toNatClampNeg p3)) &&& 31) = 15 → ¬ ((σ 0 (Int32.toNatClampNeg p3)) &&& 31) = 16 → ¬ ((σ 0 (Int32.toNatClampNeg p3)) &&& 31) = 17 → ¬ ((σ 0 (Int32.toNatClampNeg p3)) &&& 31) = 18 → ¬ ((σ 0 (Int32.toNatClampNeg p3)) &&& 31) = 19 → ¬ ((σ 0 (Int32.toNatClampNeg p3)) &&& 31) = 20 → (am_Go l D DA b sz (d + 1) M_L_law (18, [some (.ref 0), some (.ref 1), some (.ref 47), some (.int (p3 + 9))], [], (am_TT cu L, am_RR cu, σ)) r X')))))) :
    am_Go l D DA b sz (d + 1) M_L_law (18, [some (.ref 0), some (.ref 1), some (.ref 47), some (.int p3)], [], (am_TT cu L, am_RR cu, σ)) r X' := by
  refine go_steps q_L_law kc_L_law 6 rfl ?_
  refine go_if (fun hb => ?_) (fun hb => ?_)
  · have hb : ((Int32.ofNat L) - 9) < p3 := hb
    replace hv := hv.1 hb
    refine go_steps q_L_law kc_L_law 1 rfl ?_
    obtain ⟨rfl, rfl⟩ := hv
    exact go_retI q_L_law kc_L_law rfl rfl rfl
  · have hb : ¬ (((Int32.ofNat L) - 9) < p3) := hb
    replace hv := hv.2 hb
    refine go_steps q_L_law kc_L_law 2 rfl ?_
    obtain ⟨hc1, hv⟩ := hv
    refine go_iaload q_L_law kc_L_law rfl rfl hc1 ?_
    refine go_steps q_L_law kc_L_law 2 rfl ?_
    by_cases hs0 : ((σ 0 (Int32.toNatClampNeg p3)) &&& 31) = 0
    · replace hv := hv.1 hs0
      refine go_sw q_L_law kc_L_law rfl (g := 132) (by first | (rw [hs0]; rfl) | (simp only [hs0]; rfl)) ?_
      refine go_steps q_L_law kc_L_law 5 rfl ?_
      obtain ⟨hc2, hv⟩ := hv
      refine go_iaload q_L_law kc_L_law rfl rfl hc2 ?_
      refine go_steps q_L_law kc_L_law 4 rfl ?_
      obtain ⟨hc3, hv⟩ := hv
      refine go_iaload q_L_law kc_L_law rfl rfl hc3 ?_
      refine go_steps q_L_law kc_L_law 4 rfl ?_
      obtain ⟨hc4, hv⟩ := hv
      refine go_iaload q_L_law kc_L_law rfl rfl hc4 ?_
      refine go_steps q_L_law kc_L_law 4 rfl ?_
      obtain ⟨hc5, hv⟩ := hv
      refine go_iaload q_L_law kc_L_law rfl rfl hc5 ?_
      refine go_steps q_L_law kc_L_law 4 rfl ?_
      obtain ⟨hc6, hv⟩ := hv
      refine go_iaload q_L_law kc_L_law rfl rfl hc6 ?_
      refine go_steps q_L_law kc_L_law 4 rfl ?_
      obtain ⟨hc7, hv⟩ := hv
      refine go_iaload q_L_law kc_L_law rfl rfl hc7 ?_
      refine go_steps q_L_law kc_L_law 4 rfl ?_
      obtain ⟨hc8, hv⟩ := hv
      refine go_iaload q_L_law kc_L_law rfl rfl hc8 ?_
      refine go_steps q_L_law kc_L_law 1 rfl ?_
      have key : am_Go l D DA b sz (d + 1) M_L_law (178, [some (.ref 0), some (.ref 1), some (.ref 47), some (.int p3)], [.int (if (σ 0 (Int32.toNatClampNeg (p3 + 7))) = 0 then 0 else 1 : Int32), .int (σ 0 (Int32.toNatClampNeg (p3 + 6))), .int (σ 0 (Int32.toNatClampNeg (p3 + 5))), .int (σ 0 (Int32.toNatClampNeg (p3 + 4))), .int (σ 0 (Int32.toNatClampNeg (p3 + 3))), .int (σ 0 (Int32.toNatClampNeg (p3 + 2))), .int (σ 0 (Int32.toNatClampNeg (p3 + 1))), .ref 1], (am_TT cu L, am_RR cu, σ)) r X' := by
        refine go_steps q_L_law kc_L_law 4 rfl ?_
        obtain ⟨hc9, hv⟩ := hv
        refine go_iaload q_L_law kc_L_law rfl rfl hc9 ?_
        obtain ⟨r1, σ1, hg, hv⟩ := hv
        refine go_callV q_L_law kc_L_law rfl q_B_box am_k8 ⟨rfl, rfl, by decide⟩ rfl rfl (Nat.le_of_ble_eq_true rfl) (Nat.le_of_ble_eq_true rfl) rfl rfl hg ?_
        refine go_steps q_L_law kc_L_law 5 rfl ?_
        obtain ⟨hc10, hv⟩ := hv
        refine go_iaload q_L_law kc_L_law rfl rfl hc10 ?_
        refine go_steps q_L_law kc_L_law 4 rfl ?_
        obtain ⟨hc11, hv⟩ := hv
        refine go_iaload q_L_law kc_L_law rfl rfl hc11 ?_
        refine go_steps q_L_law kc_L_law 4 rfl ?_
        obtain ⟨hc12, hv⟩ := hv
        refine go_iaload q_L_law kc_L_law rfl rfl hc12 ?_
        refine go_steps q_L_law kc_L_law 4 rfl ?_
        obtain ⟨hc13, hv⟩ := hv
        refine go_iaload q_L_law kc_L_law rfl rfl hc13 ?_
        refine go_steps q_L_law kc_L_law 4 rfl ?_
        obtain ⟨hc14, hv⟩ := hv
        refine go_iaload q_L_law kc_L_law rfl rfl hc14 ?_
        refine go_steps q_L_law kc_L_law 4 rfl ?_
        obtain ⟨hc15, hv⟩ := hv
        refine go_iaload q_L_law kc_L_law rfl rfl hc15 ?_
        refine go_steps q_L_law kc_L_law 4 rfl ?_
        obtain ⟨hc16, hv⟩ := hv
        refine go_iaload q_L_law kc_L_law rfl rfl hc16 ?_
        refine go_steps q_L_law kc_L_law 1 rfl ?_
        have key : am_Go l D DA b sz (d + 1) M_L_law (233, [some (.ref 0), some (.ref 1), some (.ref 47), some (.int p3)], [.int (if (σ1 0 (Int32.toNatClampNeg (p3 + 7))) = 0 then 0 else 1 : Int32), .int (σ1 0 (Int32.toNatClampNeg (p3 + 6))), .int (σ1 0 (Int32.toNatClampNeg (p3 + 5))), .int (σ1 0 (Int32.toNatClampNeg (p3 + 4))), .int (σ1 0 (Int32.toNatClampNeg (p3 + 3))), .int (σ1 0 (Int32.toNatClampNeg (p3 + 2))), .int (σ1 0 (Int32.toNatClampNeg (p3 + 1))), .ref 47, .int r1], (am_TT cu L, am_RR cu, σ1)) r X' := by
          refine go_steps q_L_law kc_L_law 4 rfl ?_
          obtain ⟨hc17, hv⟩ := hv
          refine go_iaload q_L_law kc_L_law rfl rfl hc17 ?_
          obtain ⟨r2, σ2, hg, hv⟩ := hv
          refine go_callV q_L_law kc_L_law rfl q_R_box am_k99 ⟨rfl, rfl, by decide⟩ rfl rfl (Nat.le_of_ble_eq_true rfl) (Nat.le_of_ble_eq_true rfl) rfl rfl hg ?_
          refine go_steps q_L_law kc_L_law 1 rfl ?_
          refine go_if (fun hb => ?_) (fun hb => ?_)
          · have hb : r1 = r2 := hb
            replace hv := hv.1 hb
            refine go_steps q_L_law kc_L_law 2 rfl ?_
            refine go_le (L1 := [some (.ref 0), some (.ref 1), some (.ref 47), some (.int (p3 + 9))]) (by repeat (first | exact trivial | refine ⟨rfl, ?_⟩)) ?_
            exact hv
          · have hb : ¬ (r1 = r2) := hb
            replace hv := hv.2 hb
            refine go_steps q_L_law kc_L_law 1 rfl ?_
            obtain ⟨rfl, rfl⟩ := hv
            exact go_retI q_L_law kc_L_law rfl rfl rfl
        refine go_if (fun hb => ?_) (fun hb => ?_)
        · have hb : (σ1 0 (Int32.toNatClampNeg (p3 + 7))) = 0 := hb
          rw [show (if (σ1 0 (Int32.toNatClampNeg (p3 + 7))) = 0 then 0 else 1 : Int32) = 0 from if_pos hb] at key
          refine go_steps q_L_law kc_L_law 1 rfl ?_
          exact key
        · have hb : ¬ ((σ1 0 (Int32.toNatClampNeg (p3 + 7))) = 0) := hb
          rw [show (if (σ1 0 (Int32.toNatClampNeg (p3 + 7))) = 0 then 0 else 1 : Int32) = 1 from if_neg hb] at key
          refine go_steps q_L_law kc_L_law 2 rfl ?_
          exact key
      refine go_if (fun hb => ?_) (fun hb => ?_)
      · have hb : (σ 0 (Int32.toNatClampNeg (p3 + 7))) = 0 := hb
        rw [show (if (σ 0 (Int32.toNatClampNeg (p3 + 7))) = 0 then 0 else 1 : Int32) = 0 from if_pos hb] at key
        refine go_steps q_L_law kc_L_law 1 rfl ?_
        exact key
      · have hb : ¬ ((σ 0 (Int32.toNatClampNeg (p3 + 7))) = 0) := hb
        rw [show (if (σ 0 (Int32.toNatClampNeg (p3 + 7))) = 0 then 0 else 1 : Int32) = 1 from if_neg hb] at key
        refine go_steps q_L_law kc_L_law 2 rfl ?_
        exact key
    by_cases hs1 : ((σ 0 (Int32.toNatClampNeg p3)) &&& 31) = 1
    · replace hv := hv.2.1 hs1
      refine go_sw q_L_law kc_L_law rfl (g := 247) (by first | (rw [hs1]; rfl) | (simp only [hs1]; rfl)) ?_
      refine go_steps q_L_law kc_L_law 5 rfl ?_
      obtain ⟨hc18, hv⟩ := hv
      refine go_iaload q_L_law kc_L_law rfl rfl hc18 ?_
      refine go_steps q_L_law kc_L_law 4 rfl ?_
      obtain ⟨hc19, hv⟩ := hv
      refine go_iaload q_L_law kc_L_law rfl rfl hc19 ?_
      refine go_steps q_L_law kc_L_law 4 rfl ?_
      obtain ⟨hc20, hv⟩ := hv
      refine go_iaload q_L_law kc_L_law rfl rfl hc20 ?_
      obtain ⟨r3, σ3, hg, hv⟩ := hv
      refine go_callV q_L_law kc_L_law rfl q_B_truck am_k11 ⟨rfl, rfl, by decide⟩ rfl rfl (Nat.le_of_ble_eq_true rfl) (Nat.le_of_ble_eq_true rfl) rfl rfl hg ?_
      refine go_steps q_L_law kc_L_law 5 rfl ?_
      obtain ⟨hc21, hv⟩ := hv
      refine go_iaload q_L_law kc_L_law rfl rfl hc21 ?_
      refine go_steps q_L_law kc_L_law 4 rfl ?_
      obtain ⟨hc22, hv⟩ := hv
      refine go_iaload q_L_law kc_L_law rfl rfl hc22 ?_
      refine go_steps q_L_law kc_L_law 4 rfl ?_
      obtain ⟨hc23, hv⟩ := hv
      refine go_iaload q_L_law kc_L_law rfl rfl hc23 ?_
      obtain ⟨r4, σ4, hg, hv⟩ := hv
      refine go_callV q_L_law kc_L_law rfl q_R_truck am_k101 ⟨rfl, rfl, by decide⟩ rfl rfl (Nat.le_of_ble_eq_true rfl) (Nat.le_of_ble_eq_true rfl) rfl rfl hg ?_
      refine go_steps q_L_law kc_L_law 1 rfl ?_
      refine go_if (fun hb => ?_) (fun hb => ?_)
      · have hb : r3 = r4 := hb
        replace hv := hv.1 hb
        refine go_steps q_L_law kc_L_law 2 rfl ?_
        refine go_le (L1 := [some (.ref 0), some (.ref 1), some (.ref 47), some (.int (p3 + 9))]) (by repeat (first | exact trivial | refine ⟨rfl, ?_⟩)) ?_
        exact hv
      · have hb : ¬ (r3 = r4) := hb
        replace hv := hv.2 hb
        refine go_steps q_L_law kc_L_law 1 rfl ?_
        obtain ⟨rfl, rfl⟩ := hv
        exact go_retI q_L_law kc_L_law rfl rfl rfl
    by_cases hs2 : ((σ 0 (Int32.toNatClampNeg p3)) &&& 31) = 2
    · replace hv := hv.2.2.1 hs2
      refine go_sw q_L_law kc_L_law rfl (g := 290) (by first | (rw [hs2]; rfl) | (simp only [hs2]; rfl)) ?_
      refine go_steps q_L_law kc_L_law 5 rfl ?_
      obtain ⟨hc24, hv⟩ := hv
      refine go_iaload q_L_law kc_L_law rfl rfl hc24 ?_
      obtain ⟨r5, σ5, hg, hv⟩ := hv
      refine go_callV q_L_law kc_L_law rfl q_B_share am_k12 ⟨rfl, rfl, by decide⟩ rfl rfl (Nat.le_of_ble_eq_true rfl) (Nat.le_of_ble_eq_true rfl) rfl rfl hg ?_
      refine go_steps q_L_law kc_L_law 5 rfl ?_
      obtain ⟨hc25, hv⟩ := hv
      refine go_iaload q_L_law kc_L_law rfl rfl hc25 ?_
      obtain ⟨r6, σ6, hg, hv⟩ := hv
      refine go_callV q_L_law kc_L_law rfl q_R_share am_k103 ⟨rfl, rfl, by decide⟩ rfl rfl (Nat.le_of_ble_eq_true rfl) (Nat.le_of_ble_eq_true rfl) rfl rfl hg ?_
      refine go_steps q_L_law kc_L_law 1 rfl ?_
      refine go_if (fun hb => ?_) (fun hb => ?_)
      · have hb : r5 = r6 := hb
        replace hv := hv.1 hb
        refine go_steps q_L_law kc_L_law 2 rfl ?_
        refine go_le (L1 := [some (.ref 0), some (.ref 1), some (.ref 47), some (.int (p3 + 9))]) (by repeat (first | exact trivial | refine ⟨rfl, ?_⟩)) ?_
        exact hv
      · have hb : ¬ (r5 = r6) := hb
        replace hv := hv.2 hb
        refine go_steps q_L_law kc_L_law 1 rfl ?_
        obtain ⟨rfl, rfl⟩ := hv
        exact go_retI q_L_law kc_L_law rfl rfl rfl
    by_cases hs3 : ((σ 0 (Int32.toNatClampNeg p3)) &&& 31) = 3
    · replace hv := hv.2.2.2.1 hs3
      refine go_sw q_L_law kc_L_law rfl (g := 313) (by first | (rw [hs3]; rfl) | (simp only [hs3]; rfl)) ?_
      refine go_steps q_L_law kc_L_law 5 rfl ?_
      obtain ⟨hc26, hv⟩ := hv
      refine go_iaload q_L_law kc_L_law rfl rfl hc26 ?_
      refine go_steps q_L_law kc_L_law 4 rfl ?_
      obtain ⟨hc27, hv⟩ := hv
      refine go_iaload q_L_law kc_L_law rfl rfl hc27 ?_
      refine go_steps q_L_law kc_L_law 4 rfl ?_
      obtain ⟨hc28, hv⟩ := hv
      refine go_iaload q_L_law kc_L_law rfl rfl hc28 ?_
      refine go_steps q_L_law kc_L_law 4 rfl ?_
      obtain ⟨hc29, hv⟩ := hv
      refine go_iaload q_L_law kc_L_law rfl rfl hc29 ?_
      obtain ⟨r7, σ7, hg, hv⟩ := hv
      refine go_callV q_L_law kc_L_law rfl q_B_axles am_k13 ⟨rfl, rfl, by decide⟩ rfl rfl (Nat.le_of_ble_eq_true rfl) (Nat.le_of_ble_eq_true rfl) rfl rfl hg ?_
      refine go_steps q_L_law kc_L_law 5 rfl ?_
      obtain ⟨hc30, hv⟩ := hv
      refine go_iaload q_L_law kc_L_law rfl rfl hc30 ?_
      refine go_steps q_L_law kc_L_law 4 rfl ?_
      obtain ⟨hc31, hv⟩ := hv
      refine go_iaload q_L_law kc_L_law rfl rfl hc31 ?_
      refine go_steps q_L_law kc_L_law 4 rfl ?_
      obtain ⟨hc32, hv⟩ := hv
      refine go_iaload q_L_law kc_L_law rfl rfl hc32 ?_
      refine go_steps q_L_law kc_L_law 4 rfl ?_
      obtain ⟨hc33, hv⟩ := hv
      refine go_iaload q_L_law kc_L_law rfl rfl hc33 ?_
      obtain ⟨r8, σ8, hg, hv⟩ := hv
      refine go_callV q_L_law kc_L_law rfl q_R_axles am_k104 ⟨rfl, rfl, by decide⟩ rfl rfl (Nat.le_of_ble_eq_true rfl) (Nat.le_of_ble_eq_true rfl) rfl rfl hg ?_
      refine go_steps q_L_law kc_L_law 1 rfl ?_
      refine go_if (fun hb => ?_) (fun hb => ?_)
      · have hb : r7 = r8 := hb
        replace hv := hv.1 hb
        refine go_steps q_L_law kc_L_law 2 rfl ?_
        refine go_le (L1 := [some (.ref 0), some (.ref 1), some (.ref 47), some (.int (p3 + 9))]) (by repeat (first | exact trivial | refine ⟨rfl, ?_⟩)) ?_
        exact hv
      · have hb : ¬ (r7 = r8) := hb
        replace hv := hv.2 hb
        refine go_steps q_L_law kc_L_law 1 rfl ?_
        obtain ⟨rfl, rfl⟩ := hv
        exact go_retI q_L_law kc_L_law rfl rfl rfl
    by_cases hs4 : ((σ 0 (Int32.toNatClampNeg p3)) &&& 31) = 4
    · replace hv := hv.2.2.2.2.1 hs4
      refine go_sw q_L_law kc_L_law rfl (g := 366) (by first | (rw [hs4]; rfl) | (simp only [hs4]; rfl)) ?_
      refine go_steps q_L_law kc_L_law 5 rfl ?_
      obtain ⟨hc34, hv⟩ := hv
      refine go_iaload q_L_law kc_L_law rfl rfl hc34 ?_
      obtain ⟨r9, σ9, hg, hv⟩ := hv
      refine go_callV q_L_law kc_L_law rfl q_B_side am_k14 ⟨rfl, rfl, by decide⟩ rfl rfl (Nat.le_of_ble_eq_true rfl) (Nat.le_of_ble_eq_true rfl) rfl rfl hg ?_
      refine go_steps q_L_law kc_L_law 5 rfl ?_
      obtain ⟨hc35, hv⟩ := hv
      refine go_iaload q_L_law kc_L_law rfl rfl hc35 ?_
      obtain ⟨r10, σ10, hg, hv⟩ := hv
      refine go_callV q_L_law kc_L_law rfl q_R_side am_k105 ⟨rfl, rfl, by decide⟩ rfl rfl (Nat.le_of_ble_eq_true rfl) (Nat.le_of_ble_eq_true rfl) rfl rfl hg ?_
      refine go_steps q_L_law kc_L_law 1 rfl ?_
      refine go_if (fun hb => ?_) (fun hb => ?_)
      · have hb : r9 = r10 := hb
        replace hv := hv.1 hb
        refine go_steps q_L_law kc_L_law 2 rfl ?_
        refine go_le (L1 := [some (.ref 0), some (.ref 1), some (.ref 47), some (.int (p3 + 9))]) (by repeat (first | exact trivial | refine ⟨rfl, ?_⟩)) ?_
        exact hv
      · have hb : ¬ (r9 = r10) := hb
        replace hv := hv.2 hb
        refine go_steps q_L_law kc_L_law 1 rfl ?_
        obtain ⟨rfl, rfl⟩ := hv
        exact go_retI q_L_law kc_L_law rfl rfl rfl
    by_cases hs5 : ((σ 0 (Int32.toNatClampNeg p3)) &&& 31) = 5
    · replace hv := hv.2.2.2.2.2.1 hs5
      refine go_sw q_L_law kc_L_law rfl (g := 389) (by first | (rw [hs5]; rfl) | (simp only [hs5]; rfl)) ?_
      refine go_steps q_L_law kc_L_law 5 rfl ?_
      obtain ⟨hc36, hv⟩ := hv
      refine go_iaload q_L_law kc_L_law rfl rfl hc36 ?_
      refine go_steps q_L_law kc_L_law 4 rfl ?_
      obtain ⟨hc37, hv⟩ := hv
      refine go_iaload q_L_law kc_L_law rfl rfl hc37 ?_
      refine go_steps q_L_law kc_L_law 4 rfl ?_
      obtain ⟨hc38, hv⟩ := hv
      refine go_iaload q_L_law kc_L_law rfl rfl hc38 ?_
      refine go_steps q_L_law kc_L_law 4 rfl ?_
      obtain ⟨hc39, hv⟩ := hv
      refine go_iaload q_L_law kc_L_law rfl rfl hc39 ?_
      refine go_steps q_L_law kc_L_law 4 rfl ?_
      obtain ⟨hc40, hv⟩ := hv
      refine go_iaload q_L_law kc_L_law rfl rfl hc40 ?_
      refine go_steps q_L_law kc_L_law 1 rfl ?_
      have key : am_Go l D DA b sz (d + 1) M_L_law (423, [some (.ref 0), some (.ref 1), some (.ref 47), some (.int p3)], [.int (if (σ 0 (Int32.toNatClampNeg (p3 + 5))) = 0 then 0 else 1 : Int32), .int (σ 0 (Int32.toNatClampNeg (p3 + 4))), .int (σ 0 (Int32.toNatClampNeg (p3 + 3))), .int (σ 0 (Int32.toNatClampNeg (p3 + 2))), .int (σ 0 (Int32.toNatClampNeg (p3 + 1))), .ref 1], (am_TT cu L, am_RR cu, σ)) r X' := by
        obtain ⟨r11, σ11, hg, hv⟩ := hv
        refine go_callV q_L_law kc_L_law rfl q_B_wrong am_k15 ⟨rfl, rfl, by decide⟩ rfl rfl (Nat.le_of_ble_eq_true rfl) (Nat.le_of_ble_eq_true rfl) rfl rfl hg ?_
        refine go_steps q_L_law kc_L_law 5 rfl ?_
        obtain ⟨hc41, hv⟩ := hv
        refine go_iaload q_L_law kc_L_law rfl rfl hc41 ?_
        refine go_steps q_L_law kc_L_law 4 rfl ?_
        obtain ⟨hc42, hv⟩ := hv
        refine go_iaload q_L_law kc_L_law rfl rfl hc42 ?_
        refine go_steps q_L_law kc_L_law 4 rfl ?_
        obtain ⟨hc43, hv⟩ := hv
        refine go_iaload q_L_law kc_L_law rfl rfl hc43 ?_
        refine go_steps q_L_law kc_L_law 4 rfl ?_
        obtain ⟨hc44, hv⟩ := hv
        refine go_iaload q_L_law kc_L_law rfl rfl hc44 ?_
        refine go_steps q_L_law kc_L_law 4 rfl ?_
        obtain ⟨hc45, hv⟩ := hv
        refine go_iaload q_L_law kc_L_law rfl rfl hc45 ?_
        refine go_steps q_L_law kc_L_law 1 rfl ?_
        have key : am_Go l D DA b sz (d + 1) M_L_law (460, [some (.ref 0), some (.ref 1), some (.ref 47), some (.int p3)], [.int (if (σ11 0 (Int32.toNatClampNeg (p3 + 5))) = 0 then 0 else 1 : Int32), .int (σ11 0 (Int32.toNatClampNeg (p3 + 4))), .int (σ11 0 (Int32.toNatClampNeg (p3 + 3))), .int (σ11 0 (Int32.toNatClampNeg (p3 + 2))), .int (σ11 0 (Int32.toNatClampNeg (p3 + 1))), .ref 47, .int r11], (am_TT cu L, am_RR cu, σ11)) r X' := by
          obtain ⟨r12, σ12, hg, hv⟩ := hv
          refine go_callV q_L_law kc_L_law rfl q_R_wrong am_k106 ⟨rfl, rfl, by decide⟩ rfl rfl (Nat.le_of_ble_eq_true rfl) (Nat.le_of_ble_eq_true rfl) rfl rfl hg ?_
          refine go_steps q_L_law kc_L_law 1 rfl ?_
          refine go_if (fun hb => ?_) (fun hb => ?_)
          · have hb : r11 = r12 := hb
            replace hv := hv.1 hb
            refine go_steps q_L_law kc_L_law 2 rfl ?_
            refine go_le (L1 := [some (.ref 0), some (.ref 1), some (.ref 47), some (.int (p3 + 9))]) (by repeat (first | exact trivial | refine ⟨rfl, ?_⟩)) ?_
            exact hv
          · have hb : ¬ (r11 = r12) := hb
            replace hv := hv.2 hb
            refine go_steps q_L_law kc_L_law 1 rfl ?_
            obtain ⟨rfl, rfl⟩ := hv
            exact go_retI q_L_law kc_L_law rfl rfl rfl
        refine go_if (fun hb => ?_) (fun hb => ?_)
        · have hb : (σ11 0 (Int32.toNatClampNeg (p3 + 5))) = 0 := hb
          rw [show (if (σ11 0 (Int32.toNatClampNeg (p3 + 5))) = 0 then 0 else 1 : Int32) = 0 from if_pos hb] at key
          refine go_steps q_L_law kc_L_law 1 rfl ?_
          exact key
        · have hb : ¬ ((σ11 0 (Int32.toNatClampNeg (p3 + 5))) = 0) := hb
          rw [show (if (σ11 0 (Int32.toNatClampNeg (p3 + 5))) = 0 then 0 else 1 : Int32) = 1 from if_neg hb] at key
          refine go_steps q_L_law kc_L_law 2 rfl ?_
          exact key
      refine go_if (fun hb => ?_) (fun hb => ?_)
      · have hb : (σ 0 (Int32.toNatClampNeg (p3 + 5))) = 0 := hb
        rw [show (if (σ 0 (Int32.toNatClampNeg (p3 + 5))) = 0 then 0 else 1 : Int32) = 0 from if_pos hb] at key
        refine go_steps q_L_law kc_L_law 1 rfl ?_
        exact key
      · have hb : ¬ ((σ 0 (Int32.toNatClampNeg (p3 + 5))) = 0) := hb
        rw [show (if (σ 0 (Int32.toNatClampNeg (p3 + 5))) = 0 then 0 else 1 : Int32) = 1 from if_neg hb] at key
        refine go_steps q_L_law kc_L_law 2 rfl ?_
        exact key
    by_cases hs6 : ((σ 0 (Int32.toNatClampNeg p3)) &&& 31) = 6
    · replace hv := hv.2.2.2.2.2.2.1 hs6
      refine go_sw q_L_law kc_L_law rfl (g := 468) (by first | (rw [hs6]; rfl) | (simp only [hs6]; rfl)) ?_
      refine go_steps q_L_law kc_L_law 5 rfl ?_
      obtain ⟨hc46, hv⟩ := hv
      refine go_iaload q_L_law kc_L_law rfl rfl hc46 ?_
      refine go_steps q_L_law kc_L_law 4 rfl ?_
      obtain ⟨hc47, hv⟩ := hv
      refine go_iaload q_L_law kc_L_law rfl rfl hc47 ?_
      refine go_steps q_L_law kc_L_law 4 rfl ?_
      obtain ⟨hc48, hv⟩ := hv
      refine go_iaload q_L_law kc_L_law rfl rfl hc48 ?_
      refine go_steps q_L_law kc_L_law 4 rfl ?_
      obtain ⟨hc49, hv⟩ := hv
      refine go_iaload q_L_law kc_L_law rfl rfl hc49 ?_
      refine go_steps q_L_law kc_L_law 4 rfl ?_
      obtain ⟨hc50, hv⟩ := hv
      refine go_iaload q_L_law kc_L_law rfl rfl hc50 ?_
      refine go_steps q_L_law kc_L_law 1 rfl ?_
      have key : am_Go l D DA b sz (d + 1) M_L_law (502, [some (.ref 0), some (.ref 1), some (.ref 47), some (.int p3)], [.int (if (σ 0 (Int32.toNatClampNeg (p3 + 5))) = 0 then 0 else 1 : Int32), .int (σ 0 (Int32.toNatClampNeg (p3 + 4))), .int (σ 0 (Int32.toNatClampNeg (p3 + 3))), .int (σ 0 (Int32.toNatClampNeg (p3 + 2))), .int (σ 0 (Int32.toNatClampNeg (p3 + 1))), .ref 1], (am_TT cu L, am_RR cu, σ)) r X' := by
        obtain ⟨r13, σ13, hg, hv⟩ := hv
        refine go_callV q_L_law kc_L_law rfl q_B_place am_k32 ⟨rfl, rfl, by decide⟩ rfl rfl (Nat.le_of_ble_eq_true rfl) (Nat.le_of_ble_eq_true rfl) rfl rfl hg ?_
        refine go_steps q_L_law kc_L_law 5 rfl ?_
        obtain ⟨hc51, hv⟩ := hv
        refine go_iaload q_L_law kc_L_law rfl rfl hc51 ?_
        refine go_steps q_L_law kc_L_law 4 rfl ?_
        obtain ⟨hc52, hv⟩ := hv
        refine go_iaload q_L_law kc_L_law rfl rfl hc52 ?_
        refine go_steps q_L_law kc_L_law 4 rfl ?_
        obtain ⟨hc53, hv⟩ := hv
        refine go_iaload q_L_law kc_L_law rfl rfl hc53 ?_
        refine go_steps q_L_law kc_L_law 4 rfl ?_
        obtain ⟨hc54, hv⟩ := hv
        refine go_iaload q_L_law kc_L_law rfl rfl hc54 ?_
        refine go_steps q_L_law kc_L_law 4 rfl ?_
        obtain ⟨hc55, hv⟩ := hv
        refine go_iaload q_L_law kc_L_law rfl rfl hc55 ?_
        refine go_steps q_L_law kc_L_law 1 rfl ?_
        have key : am_Go l D DA b sz (d + 1) M_L_law (539, [some (.ref 0), some (.ref 1), some (.ref 47), some (.int p3)], [.int (if (σ13 0 (Int32.toNatClampNeg (p3 + 5))) = 0 then 0 else 1 : Int32), .int (σ13 0 (Int32.toNatClampNeg (p3 + 4))), .int (σ13 0 (Int32.toNatClampNeg (p3 + 3))), .int (σ13 0 (Int32.toNatClampNeg (p3 + 2))), .int (σ13 0 (Int32.toNatClampNeg (p3 + 1))), .ref 47, .int r13], (am_TT cu L, am_RR cu, σ13)) r X' := by
          obtain ⟨r14, σ14, hg, hv⟩ := hv
          refine go_callV q_L_law kc_L_law rfl q_R_place am_k118 ⟨rfl, rfl, by decide⟩ rfl rfl (Nat.le_of_ble_eq_true rfl) (Nat.le_of_ble_eq_true rfl) rfl rfl hg ?_
          refine go_steps q_L_law kc_L_law 1 rfl ?_
          refine go_if (fun hb => ?_) (fun hb => ?_)
          · have hb : r13 = r14 := hb
            replace hv := hv.1 hb
            refine go_steps q_L_law kc_L_law 2 rfl ?_
            refine go_le (L1 := [some (.ref 0), some (.ref 1), some (.ref 47), some (.int (p3 + 9))]) (by repeat (first | exact trivial | refine ⟨rfl, ?_⟩)) ?_
            exact hv
          · have hb : ¬ (r13 = r14) := hb
            replace hv := hv.2 hb
            refine go_steps q_L_law kc_L_law 1 rfl ?_
            obtain ⟨rfl, rfl⟩ := hv
            exact go_retI q_L_law kc_L_law rfl rfl rfl
        refine go_if (fun hb => ?_) (fun hb => ?_)
        · have hb : (σ13 0 (Int32.toNatClampNeg (p3 + 5))) = 0 := hb
          rw [show (if (σ13 0 (Int32.toNatClampNeg (p3 + 5))) = 0 then 0 else 1 : Int32) = 0 from if_pos hb] at key
          refine go_steps q_L_law kc_L_law 1 rfl ?_
          exact key
        · have hb : ¬ ((σ13 0 (Int32.toNatClampNeg (p3 + 5))) = 0) := hb
          rw [show (if (σ13 0 (Int32.toNatClampNeg (p3 + 5))) = 0 then 0 else 1 : Int32) = 1 from if_neg hb] at key
          refine go_steps q_L_law kc_L_law 2 rfl ?_
          exact key
      refine go_if (fun hb => ?_) (fun hb => ?_)
      · have hb : (σ 0 (Int32.toNatClampNeg (p3 + 5))) = 0 := hb
        rw [show (if (σ 0 (Int32.toNatClampNeg (p3 + 5))) = 0 then 0 else 1 : Int32) = 0 from if_pos hb] at key
        refine go_steps q_L_law kc_L_law 1 rfl ?_
        exact key
      · have hb : ¬ ((σ 0 (Int32.toNatClampNeg (p3 + 5))) = 0) := hb
        rw [show (if (σ 0 (Int32.toNatClampNeg (p3 + 5))) = 0 then 0 else 1 : Int32) = 1 from if_neg hb] at key
        refine go_steps q_L_law kc_L_law 2 rfl ?_
        exact key
    by_cases hs7 : ((σ 0 (Int32.toNatClampNeg p3)) &&& 31) = 7
    · replace hv := hv.2.2.2.2.2.2.2.1 hs7
      refine go_sw q_L_law kc_L_law rfl (g := 547) (by first | (rw [hs7]; rfl) | (simp only [hs7]; rfl)) ?_
      refine go_steps q_L_law kc_L_law 5 rfl ?_
      obtain ⟨hc56, hv⟩ := hv
      refine go_iaload q_L_law kc_L_law rfl rfl hc56 ?_
      obtain ⟨r15, σ15, hg, hv⟩ := hv
      refine go_callV q_L_law kc_L_law rfl q_B_set am_k34 ⟨rfl, rfl, by decide⟩ rfl rfl (Nat.le_of_ble_eq_true rfl) (Nat.le_of_ble_eq_true rfl) rfl rfl hg ?_
      refine go_steps q_L_law kc_L_law 5 rfl ?_
      obtain ⟨hc57, hv⟩ := hv
      refine go_iaload q_L_law kc_L_law rfl rfl hc57 ?_
      obtain ⟨r16, σ16, hg, hv⟩ := hv
      refine go_callV q_L_law kc_L_law rfl q_R_set am_k119 ⟨rfl, rfl, by decide⟩ rfl rfl (Nat.le_of_ble_eq_true rfl) (Nat.le_of_ble_eq_true rfl) rfl rfl hg ?_
      refine go_steps q_L_law kc_L_law 1 rfl ?_
      refine go_if (fun hb => ?_) (fun hb => ?_)
      · have hb : r15 = r16 := hb
        replace hv := hv.1 hb
        refine go_steps q_L_law kc_L_law 2 rfl ?_
        refine go_le (L1 := [some (.ref 0), some (.ref 1), some (.ref 47), some (.int (p3 + 9))]) (by repeat (first | exact trivial | refine ⟨rfl, ?_⟩)) ?_
        exact hv
      · have hb : ¬ (r15 = r16) := hb
        replace hv := hv.2 hb
        refine go_steps q_L_law kc_L_law 1 rfl ?_
        obtain ⟨rfl, rfl⟩ := hv
        exact go_retI q_L_law kc_L_law rfl rfl rfl
    by_cases hs8 : ((σ 0 (Int32.toNatClampNeg p3)) &&& 31) = 8
    · replace hv := hv.2.2.2.2.2.2.2.2.1 hs8
      refine go_sw q_L_law kc_L_law rfl (g := 570) (by first | (rw [hs8]; rfl) | (simp only [hs8]; rfl)) ?_
      refine go_steps q_L_law kc_L_law 5 rfl ?_
      obtain ⟨hc58, hv⟩ := hv
      refine go_iaload q_L_law kc_L_law rfl rfl hc58 ?_
      obtain ⟨r17, σ17, hg, hv⟩ := hv
      refine go_callV q_L_law kc_L_law rfl q_B_take am_k42 ⟨rfl, rfl, by decide⟩ rfl rfl (Nat.le_of_ble_eq_true rfl) (Nat.le_of_ble_eq_true rfl) rfl rfl hg ?_
      refine go_steps q_L_law kc_L_law 5 rfl ?_
      obtain ⟨hc59, hv⟩ := hv
      refine go_iaload q_L_law kc_L_law rfl rfl hc59 ?_
      obtain ⟨r18, σ18, hg, hv⟩ := hv
      refine go_callV q_L_law kc_L_law rfl q_R_take am_k122 ⟨rfl, rfl, by decide⟩ rfl rfl (Nat.le_of_ble_eq_true rfl) (Nat.le_of_ble_eq_true rfl) rfl rfl hg ?_
      refine go_steps q_L_law kc_L_law 1 rfl ?_
      refine go_if (fun hb => ?_) (fun hb => ?_)
      · have hb : r17 = r18 := hb
        replace hv := hv.1 hb
        refine go_steps q_L_law kc_L_law 2 rfl ?_
        refine go_le (L1 := [some (.ref 0), some (.ref 1), some (.ref 47), some (.int (p3 + 9))]) (by repeat (first | exact trivial | refine ⟨rfl, ?_⟩)) ?_
        exact hv
      · have hb : ¬ (r17 = r18) := hb
        replace hv := hv.2 hb
        refine go_steps q_L_law kc_L_law 1 rfl ?_
        obtain ⟨rfl, rfl⟩ := hv
        exact go_retI q_L_law kc_L_law rfl rfl rfl
    by_cases hs9 : ((σ 0 (Int32.toNatClampNeg p3)) &&& 31) = 9
    · replace hv := hv.2.2.2.2.2.2.2.2.2.1 hs9
      refine go_sw q_L_law kc_L_law rfl (g := 593) (by first | (rw [hs9]; rfl) | (simp only [hs9]; rfl)) ?_
      refine go_steps q_L_law kc_L_law 1 rfl ?_
      obtain ⟨r19, σ19, hg, hv⟩ := hv
      refine go_callV q_L_law kc_L_law rfl q_B_clear am_k45 ⟨rfl, rfl, by decide⟩ rfl rfl (Nat.le_of_ble_eq_true rfl) (Nat.le_of_ble_eq_true rfl) rfl rfl hg ?_
      refine go_steps q_L_law kc_L_law 1 rfl ?_
      obtain ⟨r20, σ20, hg, hv⟩ := hv
      refine go_callV q_L_law kc_L_law rfl q_R_clear am_k123 ⟨rfl, rfl, by decide⟩ rfl rfl (Nat.le_of_ble_eq_true rfl) (Nat.le_of_ble_eq_true rfl) rfl rfl hg ?_
      refine go_steps q_L_law kc_L_law 1 rfl ?_
      refine go_if (fun hb => ?_) (fun hb => ?_)
      · have hb : r19 = r20 := hb
        replace hv := hv.1 hb
        refine go_steps q_L_law kc_L_law 2 rfl ?_
        refine go_le (L1 := [some (.ref 0), some (.ref 1), some (.ref 47), some (.int (p3 + 9))]) (by repeat (first | exact trivial | refine ⟨rfl, ?_⟩)) ?_
        exact hv
      · have hb : ¬ (r19 = r20) := hb
        replace hv := hv.2 hb
        refine go_steps q_L_law kc_L_law 1 rfl ?_
        obtain ⟨rfl, rfl⟩ := hv
        exact go_retI q_L_law kc_L_law rfl rfl rfl
    by_cases hs10 : ((σ 0 (Int32.toNatClampNeg p3)) &&& 31) = 10
    · replace hv := hv.2.2.2.2.2.2.2.2.2.2.1 hs10
      refine go_sw q_L_law kc_L_law rfl (g := 606) (by first | (rw [hs10]; rfl) | (simp only [hs10]; rfl)) ?_
      refine go_steps q_L_law kc_L_law 5 rfl ?_
      obtain ⟨hc60, hv⟩ := hv
      refine go_iaload q_L_law kc_L_law rfl rfl hc60 ?_
      obtain ⟨r21, σ21, hg, hv⟩ := hv
      refine go_callV q_L_law kc_L_law rfl q_B_best am_k47 ⟨rfl, rfl, by decide⟩ rfl rfl (Nat.le_of_ble_eq_true rfl) (Nat.le_of_ble_eq_true rfl) rfl rfl hg ?_
      refine go_steps q_L_law kc_L_law 5 rfl ?_
      obtain ⟨hc61, hv⟩ := hv
      refine go_iaload q_L_law kc_L_law rfl rfl hc61 ?_
      obtain ⟨r22, σ22, hg, hv⟩ := hv
      refine go_callV q_L_law kc_L_law rfl q_R_best am_k124 ⟨rfl, rfl, by decide⟩ rfl rfl (Nat.le_of_ble_eq_true rfl) (Nat.le_of_ble_eq_true rfl) rfl rfl hg ?_
      refine go_steps q_L_law kc_L_law 1 rfl ?_
      refine go_if (fun hb => ?_) (fun hb => ?_)
      · have hb : r21 = r22 := hb
        replace hv := hv.1 hb
        refine go_steps q_L_law kc_L_law 2 rfl ?_
        refine go_le (L1 := [some (.ref 0), some (.ref 1), some (.ref 47), some (.int (p3 + 9))]) (by repeat (first | exact trivial | refine ⟨rfl, ?_⟩)) ?_
        exact hv
      · have hb : ¬ (r21 = r22) := hb
        replace hv := hv.2 hb
        refine go_steps q_L_law kc_L_law 1 rfl ?_
        obtain ⟨rfl, rfl⟩ := hv
        exact go_retI q_L_law kc_L_law rfl rfl rfl
    by_cases hs11 : ((σ 0 (Int32.toNatClampNeg p3)) &&& 31) = 11
    · replace hv := hv.2.2.2.2.2.2.2.2.2.2.2.1 hs11
      refine go_sw q_L_law kc_L_law rfl (g := 629) (by first | (rw [hs11]; rfl) | (simp only [hs11]; rfl)) ?_
      refine go_steps q_L_law kc_L_law 5 rfl ?_
      obtain ⟨hc62, hv⟩ := hv
      refine go_iaload q_L_law kc_L_law rfl rfl hc62 ?_
      refine go_steps q_L_law kc_L_law 4 rfl ?_
      obtain ⟨hc63, hv⟩ := hv
      refine go_iaload q_L_law kc_L_law rfl rfl hc63 ?_
      obtain ⟨r23, σ23, hg, hv⟩ := hv
      refine go_callV q_L_law kc_L_law rfl q_B_about am_k55 ⟨rfl, rfl, by decide⟩ rfl rfl (Nat.le_of_ble_eq_true rfl) (Nat.le_of_ble_eq_true rfl) rfl rfl hg ?_
      refine go_steps q_L_law kc_L_law 5 rfl ?_
      obtain ⟨hc64, hv⟩ := hv
      refine go_iaload q_L_law kc_L_law rfl rfl hc64 ?_
      refine go_steps q_L_law kc_L_law 4 rfl ?_
      obtain ⟨hc65, hv⟩ := hv
      refine go_iaload q_L_law kc_L_law rfl rfl hc65 ?_
      obtain ⟨r24, σ24, hg, hv⟩ := hv
      refine go_callV q_L_law kc_L_law rfl q_R_about am_k130 ⟨rfl, rfl, by decide⟩ rfl rfl (Nat.le_of_ble_eq_true rfl) (Nat.le_of_ble_eq_true rfl) rfl rfl hg ?_
      refine go_steps q_L_law kc_L_law 1 rfl ?_
      refine go_if (fun hb => ?_) (fun hb => ?_)
      · have hb : r23 = r24 := hb
        replace hv := hv.1 hb
        refine go_steps q_L_law kc_L_law 2 rfl ?_
        refine go_le (L1 := [some (.ref 0), some (.ref 1), some (.ref 47), some (.int (p3 + 9))]) (by repeat (first | exact trivial | refine ⟨rfl, ?_⟩)) ?_
        exact hv
      · have hb : ¬ (r23 = r24) := hb
        replace hv := hv.2 hb
        refine go_steps q_L_law kc_L_law 1 rfl ?_
        obtain ⟨rfl, rfl⟩ := hv
        exact go_retI q_L_law kc_L_law rfl rfl rfl
    by_cases hs12 : ((σ 0 (Int32.toNatClampNeg p3)) &&& 31) = 12
    · replace hv := hv.2.2.2.2.2.2.2.2.2.2.2.2.1 hs12
      refine go_sw q_L_law kc_L_law rfl (g := 662) (by first | (rw [hs12]; rfl) | (simp only [hs12]; rfl)) ?_
      refine go_steps q_L_law kc_L_law 5 rfl ?_
      obtain ⟨hc66, hv⟩ := hv
      refine go_iaload q_L_law kc_L_law rfl rfl hc66 ?_
      refine go_steps q_L_law kc_L_law 4 rfl ?_
      obtain ⟨hc67, hv⟩ := hv
      refine go_iaload q_L_law kc_L_law rfl rfl hc67 ?_
      refine go_steps q_L_law kc_L_law 4 rfl ?_
      obtain ⟨hc68, hv⟩ := hv
      refine go_iaload q_L_law kc_L_law rfl rfl hc68 ?_
      obtain ⟨r25, σ25, hg, hv⟩ := hv
      refine go_callV q_L_law kc_L_law rfl q_B_at am_k58 ⟨rfl, rfl, by decide⟩ rfl rfl (Nat.le_of_ble_eq_true rfl) (Nat.le_of_ble_eq_true rfl) rfl rfl hg ?_
      refine go_steps q_L_law kc_L_law 5 rfl ?_
      obtain ⟨hc69, hv⟩ := hv
      refine go_iaload q_L_law kc_L_law rfl rfl hc69 ?_
      refine go_steps q_L_law kc_L_law 4 rfl ?_
      obtain ⟨hc70, hv⟩ := hv
      refine go_iaload q_L_law kc_L_law rfl rfl hc70 ?_
      refine go_steps q_L_law kc_L_law 4 rfl ?_
      obtain ⟨hc71, hv⟩ := hv
      refine go_iaload q_L_law kc_L_law rfl rfl hc71 ?_
      obtain ⟨r26, σ26, hg, hv⟩ := hv
      refine go_callV q_L_law kc_L_law rfl q_R_at am_k131 ⟨rfl, rfl, by decide⟩ rfl rfl (Nat.le_of_ble_eq_true rfl) (Nat.le_of_ble_eq_true rfl) rfl rfl hg ?_
      refine go_steps q_L_law kc_L_law 1 rfl ?_
      refine go_if (fun hb => ?_) (fun hb => ?_)
      · have hb : r25 = r26 := hb
        replace hv := hv.1 hb
        refine go_steps q_L_law kc_L_law 2 rfl ?_
        refine go_le (L1 := [some (.ref 0), some (.ref 1), some (.ref 47), some (.int (p3 + 9))]) (by repeat (first | exact trivial | refine ⟨rfl, ?_⟩)) ?_
        exact hv
      · have hb : ¬ (r25 = r26) := hb
        replace hv := hv.2 hb
        refine go_steps q_L_law kc_L_law 1 rfl ?_
        obtain ⟨rfl, rfl⟩ := hv
        exact go_retI q_L_law kc_L_law rfl rfl rfl
    by_cases hs13 : ((σ 0 (Int32.toNatClampNeg p3)) &&& 31) = 13
    · replace hv := hv.2.2.2.2.2.2.2.2.2.2.2.2.2.1 hs13
      refine go_sw q_L_law kc_L_law rfl (g := 705) (by first | (rw [hs13]; rfl) | (simp only [hs13]; rfl)) ?_
      refine go_steps q_L_law kc_L_law 5 rfl ?_
      obtain ⟨hc72, hv⟩ := hv
      refine go_iaload q_L_law kc_L_law rfl rfl hc72 ?_
      refine go_steps q_L_law kc_L_law 4 rfl ?_
      obtain ⟨hc73, hv⟩ := hv
      refine go_iaload q_L_law kc_L_law rfl rfl hc73 ?_
      refine go_steps q_L_law kc_L_law 4 rfl ?_
      obtain ⟨hc74, hv⟩ := hv
      refine go_iaload q_L_law kc_L_law rfl rfl hc74 ?_
      obtain ⟨r27, σ27, hg, hv⟩ := hv
      refine go_callV q_L_law kc_L_law rfl q_B_axle am_k60 ⟨rfl, rfl, by decide⟩ rfl rfl (Nat.le_of_ble_eq_true rfl) (Nat.le_of_ble_eq_true rfl) rfl rfl hg ?_
      refine go_steps q_L_law kc_L_law 5 rfl ?_
      obtain ⟨hc75, hv⟩ := hv
      refine go_iaload q_L_law kc_L_law rfl rfl hc75 ?_
      refine go_steps q_L_law kc_L_law 4 rfl ?_
      obtain ⟨hc76, hv⟩ := hv
      refine go_iaload q_L_law kc_L_law rfl rfl hc76 ?_
      refine go_steps q_L_law kc_L_law 4 rfl ?_
      obtain ⟨hc77, hv⟩ := hv
      refine go_iaload q_L_law kc_L_law rfl rfl hc77 ?_
      obtain ⟨r28, σ28, hg, hv⟩ := hv
      refine go_callV q_L_law kc_L_law rfl q_R_axle am_k132 ⟨rfl, rfl, by decide⟩ rfl rfl (Nat.le_of_ble_eq_true rfl) (Nat.le_of_ble_eq_true rfl) rfl rfl hg ?_
      refine go_steps q_L_law kc_L_law 1 rfl ?_
      refine go_if (fun hb => ?_) (fun hb => ?_)
      · have hb : r27 = r28 := hb
        replace hv := hv.1 hb
        refine go_steps q_L_law kc_L_law 2 rfl ?_
        refine go_le (L1 := [some (.ref 0), some (.ref 1), some (.ref 47), some (.int (p3 + 9))]) (by repeat (first | exact trivial | refine ⟨rfl, ?_⟩)) ?_
        exact hv
      · have hb : ¬ (r27 = r28) := hb
        replace hv := hv.2 hb
        refine go_steps q_L_law kc_L_law 1 rfl ?_
        obtain ⟨rfl, rfl⟩ := hv
        exact go_retI q_L_law kc_L_law rfl rfl rfl
    by_cases hs14 : ((σ 0 (Int32.toNatClampNeg p3)) &&& 31) = 14
    · replace hv := hv.2.2.2.2.2.2.2.2.2.2.2.2.2.2.1 hs14
      refine go_sw q_L_law kc_L_law rfl (g := 748) (by first | (rw [hs14]; rfl) | (simp only [hs14]; rfl)) ?_
      refine go_steps q_L_law kc_L_law 5 rfl ?_
      obtain ⟨hc78, hv⟩ := hv
      refine go_iaload q_L_law kc_L_law rfl rfl hc78 ?_
      obtain ⟨r29, σ29, hg, hv⟩ := hv
      refine go_callV q_L_law kc_L_law rfl q_B_over am_k66 ⟨rfl, rfl, by decide⟩ rfl rfl (Nat.le_of_ble_eq_true rfl) (Nat.le_of_ble_eq_true rfl) rfl rfl hg ?_
      refine go_steps q_L_law kc_L_law 5 rfl ?_
      obtain ⟨hc79, hv⟩ := hv
      refine go_iaload q_L_law kc_L_law rfl rfl hc79 ?_
      obtain ⟨r30, σ30, hg, hv⟩ := hv
      refine go_callV q_L_law kc_L_law rfl q_R_over am_k136 ⟨rfl, rfl, by decide⟩ rfl rfl (Nat.le_of_ble_eq_true rfl) (Nat.le_of_ble_eq_true rfl) rfl rfl hg ?_
      refine go_steps q_L_law kc_L_law 1 rfl ?_
      refine go_if (fun hb => ?_) (fun hb => ?_)
      · have hb : r29 = r30 := hb
        replace hv := hv.1 hb
        refine go_steps q_L_law kc_L_law 2 rfl ?_
        refine go_le (L1 := [some (.ref 0), some (.ref 1), some (.ref 47), some (.int (p3 + 9))]) (by repeat (first | exact trivial | refine ⟨rfl, ?_⟩)) ?_
        exact hv
      · have hb : ¬ (r29 = r30) := hb
        replace hv := hv.2 hb
        refine go_steps q_L_law kc_L_law 1 rfl ?_
        obtain ⟨rfl, rfl⟩ := hv
        exact go_retI q_L_law kc_L_law rfl rfl rfl
    by_cases hs15 : ((σ 0 (Int32.toNatClampNeg p3)) &&& 31) = 15
    · replace hv := hv.2.2.2.2.2.2.2.2.2.2.2.2.2.2.2.1 hs15
      refine go_sw q_L_law kc_L_law rfl (g := 771) (by first | (rw [hs15]; rfl) | (simp only [hs15]; rfl)) ?_
      refine go_steps q_L_law kc_L_law 1 rfl ?_
      obtain ⟨r31, σ31, hg, hv⟩ := hv
      refine go_callV q_L_law kc_L_law rfl q_B_fit am_k69 ⟨rfl, rfl, by decide⟩ rfl rfl (Nat.le_of_ble_eq_true rfl) (Nat.le_of_ble_eq_true rfl) rfl rfl hg ?_
      refine go_steps q_L_law kc_L_law 1 rfl ?_
      obtain ⟨r32, σ32, hg, hv⟩ := hv
      refine go_callV q_L_law kc_L_law rfl q_R_fit am_k138 ⟨rfl, rfl, by decide⟩ rfl rfl (Nat.le_of_ble_eq_true rfl) (Nat.le_of_ble_eq_true rfl) rfl rfl hg ?_
      refine go_steps q_L_law kc_L_law 1 rfl ?_
      refine go_if (fun hb => ?_) (fun hb => ?_)
      · have hb : r31 = r32 := hb
        replace hv := hv.1 hb
        refine go_steps q_L_law kc_L_law 2 rfl ?_
        refine go_le (L1 := [some (.ref 0), some (.ref 1), some (.ref 47), some (.int (p3 + 9))]) (by repeat (first | exact trivial | refine ⟨rfl, ?_⟩)) ?_
        exact hv
      · have hb : ¬ (r31 = r32) := hb
        replace hv := hv.2 hb
        refine go_steps q_L_law kc_L_law 1 rfl ?_
        obtain ⟨rfl, rfl⟩ := hv
        exact go_retI q_L_law kc_L_law rfl rfl rfl
    by_cases hs16 : ((σ 0 (Int32.toNatClampNeg p3)) &&& 31) = 16
    · replace hv := hv.2.2.2.2.2.2.2.2.2.2.2.2.2.2.2.2.1 hs16
      refine go_sw q_L_law kc_L_law rfl (g := 784) (by first | (rw [hs16]; rfl) | (simp only [hs16]; rfl)) ?_
      refine go_steps q_L_law kc_L_law 5 rfl ?_
      obtain ⟨hc80, hv⟩ := hv
      refine go_iaload q_L_law kc_L_law rfl rfl hc80 ?_
      refine go_steps q_L_law kc_L_law 4 rfl ?_
      obtain ⟨hc81, hv⟩ := hv
      refine go_iaload q_L_law kc_L_law rfl rfl hc81 ?_
      refine go_steps q_L_law kc_L_law 4 rfl ?_
      obtain ⟨hc82, hv⟩ := hv
      refine go_iaload q_L_law kc_L_law rfl rfl hc82 ?_
      obtain ⟨r33, cu33, σ33, hg, hv⟩ := hv
      refine go_callV q_L_law kc_L_law rfl q_B_cut am_k70 ⟨rfl, rfl, by decide⟩ rfl rfl (Nat.le_of_ble_eq_true rfl) (Nat.le_of_ble_eq_true rfl) rfl rfl hg ?_
      refine go_steps q_L_law kc_L_law 5 rfl ?_
      obtain ⟨hc83, hv⟩ := hv
      refine go_iaload q_L_law kc_L_law rfl rfl hc83 ?_
      refine go_steps q_L_law kc_L_law 4 rfl ?_
      obtain ⟨hc84, hv⟩ := hv
      refine go_iaload q_L_law kc_L_law rfl rfl hc84 ?_
      refine go_steps q_L_law kc_L_law 4 rfl ?_
      obtain ⟨hc85, hv⟩ := hv
      refine go_iaload q_L_law kc_L_law rfl rfl hc85 ?_
      obtain ⟨r34, σ34, hg, hv⟩ := hv
      refine go_callV q_L_law kc_L_law rfl q_R_cut am_k139 ⟨rfl, rfl, by decide⟩ rfl rfl (Nat.le_of_ble_eq_true rfl) (Nat.le_of_ble_eq_true rfl) rfl rfl hg ?_
      refine go_steps q_L_law kc_L_law 1 rfl ?_
      refine go_if (fun hb => ?_) (fun hb => ?_)
      · have hb : r33 = r34 := hb
        replace hv := hv.1 hb
        refine go_steps q_L_law kc_L_law 2 rfl ?_
        refine go_le (L1 := [some (.ref 0), some (.ref 1), some (.ref 47), some (.int (p3 + 9))]) (by repeat (first | exact trivial | refine ⟨rfl, ?_⟩)) ?_
        exact hv
      · have hb : ¬ (r33 = r34) := hb
        replace hv := hv.2 hb
        refine go_steps q_L_law kc_L_law 1 rfl ?_
        obtain ⟨rfl, rfl⟩ := hv
        exact go_retI q_L_law kc_L_law rfl rfl rfl
    by_cases hs17 : ((σ 0 (Int32.toNatClampNeg p3)) &&& 31) = 17
    · replace hv := hv.2.2.2.2.2.2.2.2.2.2.2.2.2.2.2.2.2.1 hs17
      refine go_sw q_L_law kc_L_law rfl (g := 827) (by first | (rw [hs17]; rfl) | (simp only [hs17]; rfl)) ?_
      refine go_steps q_L_law kc_L_law 5 rfl ?_
      obtain ⟨hc86, hv⟩ := hv
      refine go_iaload q_L_law kc_L_law rfl rfl hc86 ?_
      refine go_steps q_L_law kc_L_law 4 rfl ?_
      obtain ⟨hc87, hv⟩ := hv
      refine go_iaload q_L_law kc_L_law rfl rfl hc87 ?_
      obtain ⟨r35, σ35, hg, hv⟩ := hv
      refine go_callV q_L_law kc_L_law rfl q_B_piece am_k80 ⟨rfl, rfl, by decide⟩ rfl rfl (Nat.le_of_ble_eq_true rfl) (Nat.le_of_ble_eq_true rfl) rfl rfl hg ?_
      refine go_steps q_L_law kc_L_law 5 rfl ?_
      obtain ⟨hc88, hv⟩ := hv
      refine go_iaload q_L_law kc_L_law rfl rfl hc88 ?_
      refine go_steps q_L_law kc_L_law 4 rfl ?_
      obtain ⟨hc89, hv⟩ := hv
      refine go_iaload q_L_law kc_L_law rfl rfl hc89 ?_
      obtain ⟨r36, σ36, hg, hv⟩ := hv
      refine go_callV q_L_law kc_L_law rfl q_R_piece am_k145 ⟨rfl, rfl, by decide⟩ rfl rfl (Nat.le_of_ble_eq_true rfl) (Nat.le_of_ble_eq_true rfl) rfl rfl hg ?_
      refine go_steps q_L_law kc_L_law 1 rfl ?_
      refine go_if (fun hb => ?_) (fun hb => ?_)
      · have hb : r35 = r36 := hb
        replace hv := hv.1 hb
        refine go_steps q_L_law kc_L_law 2 rfl ?_
        refine go_le (L1 := [some (.ref 0), some (.ref 1), some (.ref 47), some (.int (p3 + 9))]) (by repeat (first | exact trivial | refine ⟨rfl, ?_⟩)) ?_
        exact hv
      · have hb : ¬ (r35 = r36) := hb
        replace hv := hv.2 hb
        refine go_steps q_L_law kc_L_law 1 rfl ?_
        obtain ⟨rfl, rfl⟩ := hv
        exact go_retI q_L_law kc_L_law rfl rfl rfl
    by_cases hs18 : ((σ 0 (Int32.toNatClampNeg p3)) &&& 31) = 18
    · replace hv := hv.2.2.2.2.2.2.2.2.2.2.2.2.2.2.2.2.2.2.1 hs18
      refine go_sw q_L_law kc_L_law rfl (g := 860) (by first | (rw [hs18]; rfl) | (simp only [hs18]; rfl)) ?_
      refine go_steps q_L_law kc_L_law 5 rfl ?_
      obtain ⟨hc90, hv⟩ := hv
      refine go_iaload q_L_law kc_L_law rfl rfl hc90 ?_
      obtain ⟨r37, σ37, hg, hv⟩ := hv
      refine go_callV q_L_law kc_L_law rfl q_B_trucks am_k85 ⟨rfl, rfl, by decide⟩ rfl rfl (Nat.le_of_ble_eq_true rfl) (Nat.le_of_ble_eq_true rfl) rfl rfl hg ?_
      refine go_steps q_L_law kc_L_law 5 rfl ?_
      obtain ⟨hc91, hv⟩ := hv
      refine go_iaload q_L_law kc_L_law rfl rfl hc91 ?_
      obtain ⟨r38, σ38, hg, hv⟩ := hv
      refine go_callV q_L_law kc_L_law rfl q_R_trucks am_k146 ⟨rfl, rfl, by decide⟩ rfl rfl (Nat.le_of_ble_eq_true rfl) (Nat.le_of_ble_eq_true rfl) rfl rfl hg ?_
      refine go_steps q_L_law kc_L_law 1 rfl ?_
      refine go_if (fun hb => ?_) (fun hb => ?_)
      · have hb : r37 = r38 := hb
        replace hv := hv.1 hb
        refine go_steps q_L_law kc_L_law 2 rfl ?_
        refine go_le (L1 := [some (.ref 0), some (.ref 1), some (.ref 47), some (.int (p3 + 9))]) (by repeat (first | exact trivial | refine ⟨rfl, ?_⟩)) ?_
        exact hv
      · have hb : ¬ (r37 = r38) := hb
        replace hv := hv.2 hb
        refine go_steps q_L_law kc_L_law 1 rfl ?_
        obtain ⟨rfl, rfl⟩ := hv
        exact go_retI q_L_law kc_L_law rfl rfl rfl
    by_cases hs19 : ((σ 0 (Int32.toNatClampNeg p3)) &&& 31) = 19
    · replace hv := hv.2.2.2.2.2.2.2.2.2.2.2.2.2.2.2.2.2.2.2.1 hs19
      refine go_sw q_L_law kc_L_law rfl (g := 883) (by first | (rw [hs19]; rfl) | (simp only [hs19]; rfl)) ?_
      refine go_steps q_L_law kc_L_law 5 rfl ?_
      obtain ⟨hc92, hv⟩ := hv
      refine go_iaload q_L_law kc_L_law rfl rfl hc92 ?_
      obtain ⟨r39, σ39, hg, hv⟩ := hv
      refine go_callV q_L_law kc_L_law rfl q_B_shown am_k94 ⟨rfl, rfl, by decide⟩ rfl rfl (Nat.le_of_ble_eq_true rfl) (Nat.le_of_ble_eq_true rfl) rfl rfl hg ?_
      refine go_steps q_L_law kc_L_law 5 rfl ?_
      obtain ⟨hc93, hv⟩ := hv
      refine go_iaload q_L_law kc_L_law rfl rfl hc93 ?_
      obtain ⟨r40, σ40, hg, hv⟩ := hv
      refine go_callV q_L_law kc_L_law rfl q_R_shown am_k150 ⟨rfl, rfl, by decide⟩ rfl rfl (Nat.le_of_ble_eq_true rfl) (Nat.le_of_ble_eq_true rfl) rfl rfl hg ?_
      refine go_steps q_L_law kc_L_law 1 rfl ?_
      refine go_if (fun hb => ?_) (fun hb => ?_)
      · have hb : r39 = r40 := hb
        replace hv := hv.1 hb
        refine go_steps q_L_law kc_L_law 2 rfl ?_
        refine go_le (L1 := [some (.ref 0), some (.ref 1), some (.ref 47), some (.int (p3 + 9))]) (by repeat (first | exact trivial | refine ⟨rfl, ?_⟩)) ?_
        exact hv
      · have hb : ¬ (r39 = r40) := hb
        replace hv := hv.2 hb
        refine go_steps q_L_law kc_L_law 1 rfl ?_
        obtain ⟨rfl, rfl⟩ := hv
        exact go_retI q_L_law kc_L_law rfl rfl rfl
    by_cases hs20 : ((σ 0 (Int32.toNatClampNeg p3)) &&& 31) = 20
    · replace hv := hv.2.2.2.2.2.2.2.2.2.2.2.2.2.2.2.2.2.2.2.2.1 hs20
      refine go_sw q_L_law kc_L_law rfl (g := 906) (by first | (rw [hs20]; rfl) | (simp only [hs20]; rfl)) ?_
      refine go_steps q_L_law kc_L_law 5 rfl ?_
      obtain ⟨hc94, hv⟩ := hv
      refine go_iaload q_L_law kc_L_law rfl rfl hc94 ?_
      obtain ⟨r41, σ41, hg, hv⟩ := hv
      refine go_callV q_L_law kc_L_law rfl q_B_count am_k95 ⟨rfl, rfl, by decide⟩ rfl rfl (Nat.le_of_ble_eq_true rfl) (Nat.le_of_ble_eq_true rfl) rfl rfl hg ?_
      refine go_steps q_L_law kc_L_law 5 rfl ?_
      obtain ⟨hc95, hv⟩ := hv
      refine go_iaload q_L_law kc_L_law rfl rfl hc95 ?_
      obtain ⟨r42, σ42, hg, hv⟩ := hv
      refine go_callV q_L_law kc_L_law rfl q_R_count am_k151 ⟨rfl, rfl, by decide⟩ rfl rfl (Nat.le_of_ble_eq_true rfl) (Nat.le_of_ble_eq_true rfl) rfl rfl hg ?_
      refine go_steps q_L_law kc_L_law 1 rfl ?_
      refine go_if (fun hb => ?_) (fun hb => ?_)
      · have hb : r41 = r42 := hb
        replace hv := hv.1 hb
        refine go_steps q_L_law kc_L_law 2 rfl ?_
        refine go_le (L1 := [some (.ref 0), some (.ref 1), some (.ref 47), some (.int (p3 + 9))]) (by repeat (first | exact trivial | refine ⟨rfl, ?_⟩)) ?_
        exact hv
      · have hb : ¬ (r41 = r42) := hb
        replace hv := hv.2 hb
        refine go_steps q_L_law kc_L_law 1 rfl ?_
        obtain ⟨rfl, rfl⟩ := hv
        exact go_retI q_L_law kc_L_law rfl rfl rfl
    replace hv := hv.2.2.2.2.2.2.2.2.2.2.2.2.2.2.2.2.2.2.2.2.2 hs0 hs1 hs2 hs3 hs4 hs5 hs6 hs7 hs8 hs9 hs10 hs11 hs12 hs13 hs14 hs15 hs16 hs17 hs18 hs19 hs20
    refine go_sw q_L_law kc_L_law rfl (g := 929) (if_pos (am_sw_out (m := 20) (by decide) (fun j hj => match j, hj with | 0, _ => hs0 | 1, _ => hs1 | 2, _ => hs2 | 3, _ => hs3 | 4, _ => hs4 | 5, _ => hs5 | 6, _ => hs6 | 7, _ => hs7 | 8, _ => hs8 | 9, _ => hs9 | 10, _ => hs10 | 11, _ => hs11 | 12, _ => hs12 | 13, _ => hs13 | 14, _ => hs14 | 15, _ => hs15 | 16, _ => hs16 | 17, _ => hs17 | 18, _ => hs18 | 19, _ => hs19 | 20, _ => hs20 | n + 21, h => absurd h (by omega)))) ?_
    refine go_steps q_L_law kc_L_law 2 rfl ?_
    refine go_le (L1 := [some (.ref 0), some (.ref 1), some (.ref 47), some (.int (p3 + 9))]) (by repeat (first | exact trivial | refine ⟨rfl, ?_⟩)) ?_
    exact hv
