/-! what must hold at each cut point of a method, so that it comes to its return (written by tools/mkvc.py) -/
set_option maxHeartbeats 4000000 in
set_option maxRecDepth 100000 in
theorem v_R_orders_0 {l : Launch} {D : va_G} {DA : Nat → ClassId} {b sz d L : Nat} {cu : Bool} {σ : Nat → Nat → Int32} {r : Option Value} {X' : am_X} (p1 : Int32) (p2 : Int32) (p3 : Int32) (p4 : Int32)
    (hv : ((p2 = 0) → (∃ (r1 : Int32) (σ1 : Nat → Nat → Int32), am_Go l D DA b sz d M_R_lists (0, [some (.ref 47), some (.int p3), some (.int p4), none, none], [], (am_TT cu L, am_RR cu, σ)) (some (.int r1)) (am_TT cu L, am_RR cu, σ1) ∧ ((∃ (r2 : Int32) (σ2 : Nat → Nat → Int32), am_Go l D DA b sz d M_R_farthest (0, [some (.ref 47), none, none], [], (am_TT cu L, am_RR cu, σ1)) (some (.int r2)) (am_TT cu L, am_RR cu, σ2) ∧ ((∃ (σ3 : Nat → Nat → Int32), am_Go l D DA b sz d M_R_unset (0, [some (.ref 47), some (.int p1), none], [], (am_TT cu L, am_RR cu, σ2)) none (am_TT cu L, am_RR cu, σ3) ∧ ((((σ3 47 25) = (-1)) → (r = none ∧ X' = (am_TT cu L, am_RR cu, am_us (am_us (am_us σ3 47 25 r1) 47 26 r2) 47 24 p3))) ∧ (¬ ((σ3 47 25) = (-1)) → (((r1 < (σ3 47 25)) → (r = none ∧ X' = (am_TT cu L, am_RR cu, σ3))) ∧ (¬ (r1 < (σ3 47 25)) → (((r1 = (σ3 47 25)) → (((r2 < (σ3 47 26)) → (r = none ∧ X' = (am_TT cu L, am_RR cu, am_us (am_us (am_us σ3 47 25 r1) 47 26 r2) 47 24 p3))) ∧ (¬ (r2 < (σ3 47 26)) → (r = none ∧ X' = (am_TT cu L, am_RR cu, σ3))))) ∧ (¬ (r1 = (σ3 47 25)) → (r = none ∧ X' = (am_TT cu L, am_RR cu, am_us (am_us (am_us σ3 47 25 r1) 47 26 r2) 47 24 p3)))))))))))))) ∧ (¬ (p2 = 0) → (am_Go l D DA b sz (d + 1) M_R_orders (7, [some (.ref 47), some (.int p1), some (.int p2), some (.int p3), some (.int p4), some (.int 0), none], [], (am_TT cu L, am_RR cu, σ)) r X'))) :
    am_Go l D DA b sz (d + 1) M_R_orders (0, [some (.ref 47), some (.int p1), some (.int p2), some (.int p3), some (.int p4), none, none], [], (am_TT cu L, am_RR cu, σ)) r X' := by
  refine go_steps q_R_orders kc_R_orders 2 rfl ?_
  refine go_if (fun hb => ?_) (fun hb => ?_)
  · have hb : p2 = 0 := hb
    replace hv := hv.1 hb
    refine go_steps q_R_orders kc_R_orders 3 rfl ?_
    obtain ⟨r1, σ1, hg, hv⟩ := hv
    refine go_callV q_R_orders kc_R_orders rfl q_R_lists am_k127 ⟨rfl, rfl, by decide⟩ rfl rfl (Nat.le_of_ble_eq_true rfl) (Nat.le_of_ble_eq_true rfl) rfl rfl hg ?_
    refine go_steps q_R_orders kc_R_orders 2 rfl ?_
    obtain ⟨r2, σ2, hg, hv⟩ := hv
    refine go_callV q_R_orders kc_R_orders rfl q_R_farthest am_k128 ⟨rfl, rfl, by decide⟩ rfl rfl (Nat.le_of_ble_eq_true rfl) (Nat.le_of_ble_eq_true rfl) rfl rfl hg ?_
    refine go_steps q_R_orders kc_R_orders 3 rfl ?_
    obtain ⟨σ3, hg, hv⟩ := hv
    refine go_callV q_R_orders kc_R_orders rfl q_R_unset am_k129 ⟨rfl, rfl, by decide⟩ rfl rfl (Nat.le_of_ble_eq_true rfl) (Nat.le_of_ble_eq_true rfl) rfl rfl hg ?_
    refine go_steps q_R_orders kc_R_orders 4 rfl ?_
    refine go_if (fun hb => ?_) (fun hb => ?_)
    · have hb : (σ3 47 25) = (-1) := hb
      replace hv := hv.1 hb
      refine go_steps q_R_orders kc_R_orders 9 rfl ?_
      obtain ⟨rfl, rfl⟩ := hv
      exact go_retV q_R_orders kc_R_orders rfl rfl
    · have hb : ¬ ((σ3 47 25) = (-1)) := hb
      replace hv := hv.2 hb
      refine go_steps q_R_orders kc_R_orders 4 rfl ?_
      refine go_if (fun hb => ?_) (fun hb => ?_)
      · have hb : r1 < (σ3 47 25) := hb
        replace hv := hv.1 hb
        obtain ⟨rfl, rfl⟩ := hv
        exact go_retV q_R_orders kc_R_orders rfl rfl
      · have hb : ¬ (r1 < (σ3 47 25)) := hb
        replace hv := hv.2 hb
        refine go_steps q_R_orders kc_R_orders 4 rfl ?_
        refine go_if (fun hb => ?_) (fun hb => ?_)
        · have hb : r1 = (σ3 47 25) := hb
          replace hv := hv.1 hb
          refine go_steps q_R_orders kc_R_orders 4 rfl ?_
          refine go_if (fun hb => ?_) (fun hb => ?_)
          · have hb : r2 < (σ3 47 26) := hb
            replace hv := hv.1 hb
            refine go_steps q_R_orders kc_R_orders 9 rfl ?_
            obtain ⟨rfl, rfl⟩ := hv
            exact go_retV q_R_orders kc_R_orders rfl rfl
          · have hb : ¬ (r2 < (σ3 47 26)) := hb
            replace hv := hv.2 hb
            obtain ⟨rfl, rfl⟩ := hv
            exact go_retV q_R_orders kc_R_orders rfl rfl
        · have hb : ¬ (r1 = (σ3 47 25)) := hb
          replace hv := hv.2 hb
          refine go_steps q_R_orders kc_R_orders 9 rfl ?_
          obtain ⟨rfl, rfl⟩ := hv
          exact go_retV q_R_orders kc_R_orders rfl rfl
  · have hb : ¬ (p2 = 0) := hb
    replace hv := hv.2 hb
    refine go_steps q_R_orders kc_R_orders 2 rfl ?_
    refine go_le (L1 := [some (.ref 47), some (.int p1), some (.int p2), some (.int p3), some (.int p4), some (.int 0), none]) (by repeat (first | exact trivial | refine ⟨rfl, ?_⟩)) ?_
    exact hv
set_option maxHeartbeats 4000000 in
set_option maxRecDepth 100000 in
theorem v_R_orders_7 {l : Launch} {D : va_G} {DA : Nat → ClassId} {b sz d L : Nat} {cu : Bool} {σ : Nat → Nat → Int32} {r : Option Value} {X' : am_X} (p1 : Int32) (p2 : Int32) (p3 : Int32) (p4 : Int32) (p5 : Int32)
    (hv : (((σ 47 0) ≤ p5) → (r = none ∧ X' = (am_TT cu L, am_RR cu, σ))) ∧ (¬ ((σ 47 0) ≤ p5) → (((((p2 >>> (p5 &&& 31 : Int32) : Int32) &&& 1) = (1 : Int32)) → (∃ (σ1 : Nat → Nat → Int32), am_Go l D DA b sz d M_R_orders (0, [some (.ref 47), some (.int p1), some (.int (p2 &&& ((1 <<< (p5 &&& 31 : Int32) : Int32) ^^^ (-1)))), some (.int ((32 * p3) + p5)), some (.int p4), none, none], [], (am_TT cu L, am_RR cu, σ)) none (am_TT cu L, am_RR cu, σ1) ∧ (am_Go l D DA b sz (d + 1) M_R_orders (7, [some (.ref 47), some (.int p1), some (.int p2), some (.int p3), some (.int p4), some (.int (p5 + 1)), none], [], (am_TT cu L, am_RR cu, σ1)) r X'))) ∧ (¬ (((p2 >>> (p5 &&& 31 : Int32) : Int32) &&& 1) = (1 : Int32)) → (am_Go l D DA b sz (d + 1) M_R_orders (7, [some (.ref 47), some (.int p1), some (.int p2), some (.int p3), some (.int p4), some (.int (p5 + 1)), none], [], (am_TT cu L, am_RR cu, σ)) r X'))))) :
    am_Go l D DA b sz (d + 1) M_R_orders (7, [some (.ref 47), some (.int p1), some (.int p2), some (.int p3), some (.int p4), some (.int p5), none], [], (am_TT cu L, am_RR cu, σ)) r X' := by
  refine go_steps q_R_orders kc_R_orders 4 rfl ?_
  refine go_if (fun hb => ?_) (fun hb => ?_)
  · have hb : (σ 47 0) ≤ p5 := hb
    replace hv := hv.1 hb
    obtain ⟨rfl, rfl⟩ := hv
    exact go_retV q_R_orders kc_R_orders rfl rfl
  · have hb : ¬ ((σ 47 0) ≤ p5) := hb
    replace hv := hv.2 hb
    refine go_steps q_R_orders kc_R_orders 7 rfl ?_
    refine go_if (fun hb => ?_) (fun hb => ?_)
    · have hb : ((p2 >>> (p5 &&& 31 : Int32) : Int32) &&& 1) = (1 : Int32) := hb
      replace hv := hv.1 hb
      refine go_steps q_R_orders kc_R_orders 15 rfl ?_
      obtain ⟨σ1, hg, hv⟩ := hv
      refine go_callV q_R_orders kc_R_orders rfl q_R_orders am_k126 ⟨rfl, rfl, by decide⟩ rfl rfl (Nat.le_of_ble_eq_true rfl) (Nat.le_of_ble_eq_true rfl) rfl rfl hg ?_
      refine go_steps q_R_orders kc_R_orders 2 rfl ?_
      refine go_le (L1 := [some (.ref 47), some (.int p1), some (.int p2), some (.int p3), some (.int p4), some (.int (p5 + 1)), none]) (by repeat (first | exact trivial | refine ⟨rfl, ?_⟩)) ?_
      exact hv
    · have hb : ¬ (((p2 >>> (p5 &&& 31 : Int32) : Int32) &&& 1) = (1 : Int32)) := hb
      replace hv := hv.2 hb
      refine go_steps q_R_orders kc_R_orders 2 rfl ?_
      refine go_le (L1 := [some (.ref 47), some (.int p1), some (.int p2), some (.int p3), some (.int p4), some (.int (p5 + 1)), none]) (by repeat (first | exact trivial | refine ⟨rfl, ?_⟩)) ?_
      exact hv
set_option maxHeartbeats 4000000 in
set_option maxRecDepth 100000 in
theorem v_R_lists_0 {l : Launch} {D : va_G} {DA : Nat → ClassId} {b sz d L : Nat} {cu : Bool} {σ : Nat → Nat → Int32} {r : Option Value} {X' : am_X} (p1 : Int32) (p2 : Int32)
    (hv : am_Go l D DA b sz (d + 1) M_R_lists (7, [some (.ref 47), some (.int p1), none, some (.int 0), some (.int (p2 - 1))], [], (am_TT cu L, am_RR cu, σ)) r X') :
    am_Go l D DA b sz (d + 1) M_R_lists (0, [some (.ref 47), some (.int p1), some (.int p2), none, none], [], (am_TT cu L, am_RR cu, σ)) r X' := by
  refine go_steps q_R_lists kc_R_lists 6 rfl ?_
  refine go_le (L1 := [some (.ref 47), some (.int p1), none, some (.int 0), some (.int (p2 - 1))]) (by repeat (first | exact trivial | refine ⟨rfl, ?_⟩)) ?_
  exact hv
set_option maxHeartbeats 4000000 in
set_option maxRecDepth 100000 in
theorem v_R_lists_7 {l : Launch} {D : va_G} {DA : Nat → ClassId} {b sz d L : Nat} {cu : Bool} {σ : Nat → Nat → Int32} {r : Option Value} {X' : am_X} (p1 : Int32) (p3 : Int32) (p4 : Int32)
    (hv : ((p4 < 0) → (r = some (.int p3) ∧ X' = (am_TT cu L, am_RR cu, σ))) ∧ (¬ (p4 < 0) → (∃ (r1 : Int32) (σ1 : Nat → Nat → Int32), am_Go l D DA b sz d M_R_sets (0, [some (.ref 47), some (.int ((p1 >>> ((5 * p4) &&& 31 : Int32) : Int32) &&& 31)), none, none, none, none], [], (am_TT cu L, am_RR cu, σ)) (some (.int r1)) (am_TT cu L, am_RR cu, σ1) ∧ (am_Go l D DA b sz (d + 1) M_R_lists (7, [some (.ref 47), some (.int p1), none, some (.int (p3 + (if r1 = 0 then 0 else 1 : Int32))), some (.int (p4 + (-1)))], [], (am_TT cu L, am_RR cu, σ1)) r X')))) :
    am_Go l D DA b sz (d + 1) M_R_lists (7, [some (.ref 47), some (.int p1), none, some (.int p3), some (.int p4)], [], (am_TT cu L, am_RR cu, σ)) r X' := by
  refine go_steps q_R_lists kc_R_lists 2 rfl ?_
  refine go_if (fun hb => ?_) (fun hb => ?_)
  · have hb : p4 < 0 := hb
    replace hv := hv.1 hb
    refine go_steps q_R_lists kc_R_lists 1 rfl ?_
    obtain ⟨rfl, rfl⟩ := hv
    exact go_retI q_R_lists kc_R_lists rfl rfl rfl
  · have hb : ¬ (p4 < 0) := hb
    replace hv := hv.2 hb
    refine go_steps q_R_lists kc_R_lists 9 rfl ?_
    obtain ⟨r1, σ1, hg, hv⟩ := hv
    refine go_callV q_R_lists kc_R_lists rfl q_R_sets am_k120 ⟨rfl, rfl, by decide⟩ rfl rfl (Nat.le_of_ble_eq_true rfl) (Nat.le_of_ble_eq_true rfl) rfl rfl hg ?_
    refine go_steps q_R_lists kc_R_lists 1 rfl ?_
    have key : am_Go l D DA b sz (d + 1) M_R_lists (34, [some (.ref 47), some (.int p1), none, some (.int p3), some (.int p4)], [.int (if r1 = 0 then 0 else 1 : Int32), .int p3], (am_TT cu L, am_RR cu, σ1)) r X' := by
      refine go_steps q_R_lists kc_R_lists 4 rfl ?_
      refine go_le (L1 := [some (.ref 47), some (.int p1), none, some (.int (p3 + (if r1 = 0 then 0 else 1 : Int32))), some (.int (p4 + (-1)))]) (by repeat (first | exact trivial | refine ⟨rfl, ?_⟩)) ?_
      exact hv
    refine go_if (fun hb => ?_) (fun hb => ?_)
    · have hb : r1 = 0 := hb
      rw [show (if r1 = 0 then 0 else 1 : Int32) = 0 from if_pos hb] at key
      refine go_steps q_R_lists kc_R_lists 1 rfl ?_
      exact key
    · have hb : ¬ (r1 = 0) := hb
      rw [show (if r1 = 0 then 0 else 1 : Int32) = 1 from if_neg hb] at key
      refine go_steps q_R_lists kc_R_lists 2 rfl ?_
      exact key
set_option maxHeartbeats 4000000 in
set_option maxRecDepth 100000 in
theorem v_R_farthest_0 {l : Launch} {D : va_G} {DA : Nat → ClassId} {b sz d L : Nat} {cu : Bool} {σ : Nat → Nat → Int32} {r : Option Value} {X' : am_X}
    (hv : am_Go l D DA b sz (d + 1) M_R_farthest (4, [some (.ref 47), some (.int 0), some (.int 0)], [], (am_TT cu L, am_RR cu, σ)) r X') :
    am_Go l D DA b sz (d + 1) M_R_farthest (0, [some (.ref 47), none, none], [], (am_TT cu L, am_RR cu, σ)) r X' := by
  refine go_steps q_R_farthest kc_R_farthest 4 rfl ?_
  refine go_le (L1 := [some (.ref 47), some (.int 0), some (.int 0)]) (by repeat (first | exact trivial | refine ⟨rfl, ?_⟩)) ?_
  exact hv
set_option maxHeartbeats 4000000 in
set_option maxRecDepth 100000 in
theorem v_R_farthest_4 {l : Launch} {D : va_G} {DA : Nat → ClassId} {b sz d L : Nat} {cu : Bool} {σ : Nat → Nat → Int32} {r : Option Value} {X' : am_X} (p1 : Int32) (p2 : Int32)
    (hv : (((σ 47 0) ≤ p2) → (r = some (.int p1) ∧ X' = (am_TT cu L, am_RR cu, σ))) ∧ (¬ ((σ 47 0) ≤ p2) → ((¬ (p2 < 0 ∨ 20 ≤ Int32.toNatClampNeg p2)) ∧ ((((σ 56 (Int32.toNatClampNeg p2)) = 0) → (am_Go l D DA b sz (d + 1) M_R_farthest (4, [some (.ref 47), some (.int p1), some (.int (p2 + 1))], [], (am_TT cu L, am_RR cu, σ)) r X')) ∧ (¬ ((σ 56 (Int32.toNatClampNeg p2)) = 0) → ((¬ (p2 < 0 ∨ 20 ≤ Int32.toNatClampNeg p2)) ∧ (∃ (r1 : Int32) (σ1 : Nat → Nat → Int32), am_Go l D DA b sz d M_R_longOf (0, [some (.ref 47), some (.int p2)], [], (am_TT cu L, am_RR cu, σ)) (some (.int r1)) (am_TT cu L, am_RR cu, σ1) ∧ (((((σ 57 (Int32.toNatClampNeg p2)) + r1) ≤ p1) → (am_Go l D DA b sz (d + 1) M_R_farthest (4, [some (.ref 47), some (.int p1), some (.int (p2 + 1))], [], (am_TT cu L, am_RR cu, σ1)) r X')) ∧ (¬ (((σ 57 (Int32.toNatClampNeg p2)) + r1) ≤ p1) → ((¬ (p2 < 0 ∨ 20 ≤ Int32.toNatClampNeg p2)) ∧ (∃ (r2 : Int32) (σ2 : Nat → Nat → Int32), am_Go l D DA b sz d M_R_longOf (0, [some (.ref 47), some (.int p2)], [], (am_TT cu L, am_RR cu, σ1)) (some (.int r2)) (am_TT cu L, am_RR cu, σ2) ∧ (am_Go l D DA b sz (d + 1) M_R_farthest (4, [some (.ref 47), some (.int ((σ1 57 (Int32.toNatClampNeg p2)) + r2)), some (.int (p2 + 1))], [], (am_TT cu L, am_RR cu, σ2)) r X')))))))))))) :
    am_Go l D DA b sz (d + 1) M_R_farthest (4, [some (.ref 47), some (.int p1), some (.int p2)], [], (am_TT cu L, am_RR cu, σ)) r X' := by
  refine go_steps q_R_farthest kc_R_farthest 4 rfl ?_
  refine go_if (fun hb => ?_) (fun hb => ?_)
  · have hb : (σ 47 0) ≤ p2 := hb
    replace hv := hv.1 hb
    refine go_steps q_R_farthest kc_R_farthest 1 rfl ?_
    obtain ⟨rfl, rfl⟩ := hv
    exact go_retI q_R_farthest kc_R_farthest rfl rfl rfl
  · have hb : ¬ ((σ 47 0) ≤ p2) := hb
    replace hv := hv.2 hb
    refine go_steps q_R_farthest kc_R_farthest 3 rfl ?_
    obtain ⟨hc1, hv⟩ := hv
    refine go_baload q_R_farthest kc_R_farthest rfl rfl hc1 ?_
    refine go_steps q_R_farthest kc_R_farthest 1 rfl ?_
    refine go_if (fun hb => ?_) (fun hb => ?_)
    · have hb : (σ 56 (Int32.toNatClampNeg p2)) = 0 := hb
      replace hv := hv.1 hb
      refine go_steps q_R_farthest kc_R_farthest 4 rfl ?_
      refine go_le (L1 := [some (.ref 47), some (.int p1), some (.int (p2 + 1))]) (by repeat (first | exact trivial | refine ⟨rfl, ?_⟩)) ?_
      exact hv
    · have hb : ¬ ((σ 56 (Int32.toNatClampNeg p2)) = 0) := hb
      replace hv := hv.2 hb
      refine go_steps q_R_farthest kc_R_farthest 3 rfl ?_
      obtain ⟨hc2, hv⟩ := hv
      refine go_iaload q_R_farthest kc_R_farthest rfl rfl hc2 ?_
      refine go_steps q_R_farthest kc_R_farthest 2 rfl ?_
      obtain ⟨r1, σ1, hg, hv⟩ := hv
      refine go_callV q_R_farthest kc_R_farthest rfl q_R_longOf am_k110 ⟨rfl, rfl, by decide⟩ rfl rfl (Nat.le_of_ble_eq_true rfl) (Nat.le_of_ble_eq_true rfl) rfl rfl hg ?_
      refine go_steps q_R_farthest kc_R_farthest 3 rfl ?_
      refine go_if (fun hb => ?_) (fun hb => ?_)
      · have hb : ((σ 57 (Int32.toNatClampNeg p2)) + r1) ≤ p1 := hb
        replace hv := hv.1 hb
        refine go_steps q_R_farthest kc_R_farthest 4 rfl ?_
        refine go_le (L1 := [some (.ref 47), some (.int p1), some (.int (p2 + 1))]) (by repeat (first | exact trivial | refine ⟨rfl, ?_⟩)) ?_
        exact hv
      · have hb : ¬ (((σ 57 (Int32.toNatClampNeg p2)) + r1) ≤ p1) := hb
        replace hv := hv.2 hb
        refine go_steps q_R_farthest kc_R_farthest 3 rfl ?_
        obtain ⟨hc3, hv⟩ := hv
        refine go_iaload q_R_farthest kc_R_farthest rfl rfl hc3 ?_
        refine go_steps q_R_farthest kc_R_farthest 2 rfl ?_
        obtain ⟨r2, σ2, hg, hv⟩ := hv
        refine go_callV q_R_farthest kc_R_farthest rfl q_R_longOf am_k110 ⟨rfl, rfl, by decide⟩ rfl rfl (Nat.le_of_ble_eq_true rfl) (Nat.le_of_ble_eq_true rfl) rfl rfl hg ?_
        refine go_steps q_R_farthest kc_R_farthest 5 rfl ?_
        refine go_le (L1 := [some (.ref 47), some (.int ((σ1 57 (Int32.toNatClampNeg p2)) + r2)), some (.int (p2 + 1))]) (by repeat (first | exact trivial | refine ⟨rfl, ?_⟩)) ?_
        exact hv
set_option maxHeartbeats 4000000 in
set_option maxRecDepth 100000 in
theorem v_R_unset_0 {l : Launch} {D : va_G} {DA : Nat → ClassId} {b sz d L : Nat} {cu : Bool} {σ : Nat → Nat → Int32} {r : Option Value} {X' : am_X} (p1 : Int32)
    (hv : am_Go l D DA b sz d M_R_unset (2, [some (.ref 47), some (.int p1), some (.int 0)], [], (am_TT cu L, am_RR cu, σ)) r X') :
    am_Go l D DA b sz d M_R_unset (0, [some (.ref 47), some (.int p1), none], [], (am_TT cu L, am_RR cu, σ)) r X' := by
  refine go_steps q_R_unset kc_R_unset 2 rfl ?_
  refine go_le (L1 := [some (.ref 47), some (.int p1), some (.int 0)]) (by repeat (first | exact trivial | refine ⟨rfl, ?_⟩)) ?_
  exact hv
set_option maxHeartbeats 4000000 in
set_option maxRecDepth 100000 in
theorem v_R_unset_2 {l : Launch} {D : va_G} {DA : Nat → ClassId} {b sz d L : Nat} {cu : Bool} {σ : Nat → Nat → Int32} {r : Option Value} {X' : am_X} (p1 : Int32) (p2 : Int32)
    (hv : (((σ 47 0) ≤ p2) → (r = none ∧ X' = (am_TT cu L, am_RR cu, σ))) ∧ (¬ ((σ 47 0) ≤ p2) → (((((p1 >>> (p2 &&& 31 : Int32) : Int32) &&& 1) = (1 : Int32)) → ((¬ (p2 < 0 ∨ 20 ≤ Int32.toNatClampNeg p2)) ∧ (am_Go l D DA b sz d M_R_unset (2, [some (.ref 47), some (.int p1), some (.int (p2 + 1))], [], (am_TT cu L, am_RR cu, am_us σ 56 (Int32.toNatClampNeg p2) 0)) r X'))) ∧ (¬ (((p1 >>> (p2 &&& 31 : Int32) : Int32) &&& 1) = (1 : Int32)) → (am_Go l D DA b sz d M_R_unset (2, [some (.ref 47), some (.int p1), some (.int (p2 + 1))], [], (am_TT cu L, am_RR cu, σ)) r X'))))) :
    am_Go l D DA b sz d M_R_unset (2, [some (.ref 47), some (.int p1), some (.int p2)], [], (am_TT cu L, am_RR cu, σ)) r X' := by
  refine go_steps q_R_unset kc_R_unset 4 rfl ?_
  refine go_if (fun hb => ?_) (fun hb => ?_)
  · have hb : (σ 47 0) ≤ p2 := hb
    replace hv := hv.1 hb
    obtain ⟨rfl, rfl⟩ := hv
    exact go_retV q_R_unset kc_R_unset rfl rfl
  · have hb : ¬ ((σ 47 0) ≤ p2) := hb
    replace hv := hv.2 hb
    refine go_steps q_R_unset kc_R_unset 7 rfl ?_
    refine go_if (fun hb => ?_) (fun hb => ?_)
    · have hb : ((p1 >>> (p2 &&& 31 : Int32) : Int32) &&& 1) = (1 : Int32) := hb
      replace hv := hv.1 hb
      refine go_steps q_R_unset kc_R_unset 4 rfl ?_
      obtain ⟨hc, hv⟩ := hv
      refine go_bastore q_R_unset kc_R_unset rfl rfl hc (Or.inl rfl) ?_
      refine go_steps q_R_unset kc_R_unset 2 rfl ?_
      refine go_le (L1 := [some (.ref 47), some (.int p1), some (.int (p2 + 1))]) (by repeat (first | exact trivial | refine ⟨rfl, ?_⟩)) ?_
      exact hv
    · have hb : ¬ (((p1 >>> (p2 &&& 31 : Int32) : Int32) &&& 1) = (1 : Int32)) := hb
      replace hv := hv.2 hb
      refine go_steps q_R_unset kc_R_unset 2 rfl ?_
      refine go_le (L1 := [some (.ref 47), some (.int p1), some (.int (p2 + 1))]) (by repeat (first | exact trivial | refine ⟨rfl, ?_⟩)) ?_
      exact hv
set_option maxHeartbeats 4000000 in
set_option maxRecDepth 100000 in
theorem v_R_about_0 {l : Launch} {D : va_G} {DA : Nat → ClassId} {b sz d L : Nat} {cu : Bool} {σ : Nat → Nat → Int32} {r : Option Value} {X' : am_X} (p1 : Int32) (p2 : Int32)
    (hv : (∃ (r1 : Int32) (σ1 : Nat → Nat → Int32), am_Go l D DA b sz d M_R_isBox (0, [some (.ref 47), some (.int p1)], [], (am_TT cu L, am_RR cu, σ)) (some (.int r1)) (am_TT cu L, am_RR cu, σ1) ∧ (((r1 = 0) → (r = some (.int (-9)) ∧ X' = (am_TT cu L, am_RR cu, σ1))) ∧ (¬ (r1 = 0) → ((p2 = 0 → ((¬ (p1 < 0 ∨ 20 ≤ Int32.toNatClampNeg p1)) ∧ (r = some (.int (σ1 48 (Int32.toNatClampNeg p1))) ∧ X' = (am_TT cu L, am_RR cu, σ1)))) ∧ (p2 = 1 → ((¬ (p1 < 0 ∨ 20 ≤ Int32.toNatClampNeg p1)) ∧ (r = some (.int (σ1 49 (Int32.toNatClampNeg p1))) ∧ X' = (am_TT cu L, am_RR cu, σ1)))) ∧ (p2 = 2 → ((¬ (p1 < 0 ∨ 20 ≤ Int32.toNatClampNeg p1)) ∧ (r = some (.int (σ1 50 (Int32.toNatClampNeg p1))) ∧ X' = (am_TT cu L, am_RR cu, σ1)))) ∧ (p2 = 3 → ((¬ (p1 < 0 ∨ 20 ≤ Int32.toNatClampNeg p1)) ∧ (r = some (.int (σ1 51 (Int32.toNatClampNeg p1))) ∧ X' = (am_TT cu L, am_RR cu, σ1)))) ∧ (p2 = 4 → ((¬ (p1 < 0 ∨ 20 ≤ Int32.toNatClampNeg p1)) ∧ (r = some (.int (σ1 52 (Int32.toNatClampNeg p1))) ∧ X' = (am_TT cu L, am_RR cu, σ1)))) ∧ (p2 = 5 → ((¬ (p1 < 0 ∨ 20 ≤ Int32.toNatClampNeg p1)) ∧ (r = some (.int (σ1 53 (Int32.toNatClampNeg p1))) ∧ X' = (am_TT cu L, am_RR cu, σ1)))) ∧ (p2 = 6 → ((¬ (p1 < 0 ∨ 20 ≤ Int32.toNatClampNeg p1)) ∧ (r = some (.int (if (σ1 54 (Int32.toNatClampNeg p1)) = 0 then 0 else 1 : Int32)) ∧ X' = (am_TT cu L, am_RR cu, σ1)))) ∧ (p2 = 7 → ((¬ (p1 < 0 ∨ 20 ≤ Int32.toNatClampNeg p1)) ∧ (r = some (.int (σ1 55 (Int32.toNatClampNeg p1))) ∧ X' = (am_TT cu L, am_RR cu, σ1)))) ∧ (p2 = 8 → ((¬ (p1 < 0 ∨ 20 ≤ Int32.toNatClampNeg p1)) ∧ (r = some (.int (if (σ1 56 (Int32.toNatClampNeg p1)) = 0 then 0 else 1 : Int32)) ∧ X' = (am_TT cu L, am_RR cu, σ1)))) ∧ (p2 = 9 → ((¬ (p1 < 0 ∨ 20 ≤ Int32.toNatClampNeg p1)) ∧ ((((σ1 56 (Int32.toNatClampNeg p1)) = 0) → (r = some (.int (-1)) ∧ X' = (am_TT cu L, am_RR cu, σ1))) ∧ (¬ ((σ1 56 (Int32.toNatClampNeg p1)) = 0) → ((¬ (p1 < 0 ∨ 20 ≤ Int32.toNatClampNeg p1)) ∧ (r = some (.int (σ1 57 (Int32.toNatClampNeg p1))) ∧ X' = (am_TT cu L, am_RR cu, σ1))))))) ∧ (p2 = 10 → ((¬ (p1 < 0 ∨ 20 ≤ Int32.toNatClampNeg p1)) ∧ ((((σ1 56 (Int32.toNatClampNeg p1)) = 0) → (r = some (.int (-1)) ∧ X' = (am_TT cu L, am_RR cu, σ1))) ∧ (¬ ((σ1 56 (Int32.toNatClampNeg p1)) = 0) → ((¬ (p1 < 0 ∨ 20 ≤ Int32.toNatClampNeg p1)) ∧ (r = some (.int (σ1 58 (Int32.toNatClampNeg p1))) ∧ X' = (am_TT cu L, am_RR cu, σ1))))))) ∧ (p2 = 11 → ((¬ (p1 < 0 ∨ 20 ≤ Int32.toNatClampNeg p1)) ∧ ((((σ1 56 (Int32.toNatClampNeg p1)) = 0) → (r = some (.int (-1)) ∧ X' = (am_TT cu L, am_RR cu, σ1))) ∧ (¬ ((σ1 56 (Int32.toNatClampNeg p1)) = 0) → ((¬ (p1 < 0 ∨ 20 ≤ Int32.toNatClampNeg p1)) ∧ (r = some (.int (σ1 59 (Int32.toNatClampNeg p1))) ∧ X' = (am_TT cu L, am_RR cu, σ1))))))) ∧ (p2 = 12 → ((¬ (p1 < 0 ∨ 20 ≤ Int32.toNatClampNeg p1)) ∧ ((((σ1 56 (Int32.toNatClampNeg p1)) = 0) → (r = some (.int 0) ∧ X' = (am_TT cu L, am_RR cu, σ1))) ∧ (¬ ((σ1 56 (Int32.toNatClampNeg p1)) = 0) → ((¬ (p1 < 0 ∨ 20 ≤ Int32.toNatClampNeg p1)) ∧ (r = some (.int (if (σ1 60 (Int32.toNatClampNeg p1)) = 0 then 0 else 1 : Int32)) ∧ X' = (am_TT cu L, am_RR cu, σ1))))))) ∧ (p2 = 13 → ((¬ (p1 < 0 ∨ 20 ≤ Int32.toNatClampNeg p1)) ∧ ((((σ1 56 (Int32.toNatClampNeg p1)) = 0) → (r = some (.int 0) ∧ X' = (am_TT cu L, am_RR cu, σ1))) ∧ (¬ ((σ1 56 (Int32.toNatClampNeg p1)) = 0) → (∃ (σ2 : Nat → Nat → Int32), am_Go l D DA b sz d M_R_makeLoads (0, [some (.ref 47), none, none, none, none, none, none, none], [], (am_TT cu L, am_RR cu, σ1)) none (am_TT cu L, am_RR cu, σ2) ∧ ((¬ (p1 < 0 ∨ 20 ≤ Int32.toNatClampNeg p1)) ∧ (r = some (.int (σ2 61 (Int32.toNatClampNeg p1))) ∧ X' = (am_TT cu L, am_RR cu, σ2)))))))) ∧ (p2 = 14 → (am_Go l D DA b sz (d + 1) M_R_about (278, [some (.ref 47), some (.int p1), none, some (.int 0), some (.int 0)], [], (am_TT cu L, am_RR cu, σ1)) r X')) ∧ (¬ p2 = 0 → ¬ p2 = 1 → ¬ p2 = 2 → ¬ p2 = 3 → ¬ p2 = 4 → ¬ p2 = 5 → ¬ p2 = 6 → ¬ p2 = 7 → ¬ p2 = 8 → ¬ p2 = 9 → ¬ p2 = 10 → ¬ p2 = 11 → ¬ p2 = 12 → ¬ p2 = 13 → ¬ p2 = 14 → (r = some (.int (-9)) ∧ X' = (am_TT cu L, am_RR cu, σ1)))))))) :
    am_Go l D DA b sz (d + 1) M_R_about (0, [some (.ref 47), some (.int p1), some (.int p2), none, none], [], (am_TT cu L, am_RR cu, σ)) r X' := by
  refine go_steps q_R_about kc_R_about 2 rfl ?_
  obtain ⟨r1, σ1, hg, hv⟩ := hv
  refine go_callV q_R_about kc_R_about rfl q_R_isBox am_k108 ⟨rfl, rfl, by decide⟩ rfl rfl (Nat.le_of_ble_eq_true rfl) (Nat.le_of_ble_eq_true rfl) rfl rfl hg ?_
  refine go_steps q_R_about kc_R_about 1 rfl ?_
  refine go_if (fun hb => ?_) (fun hb => ?_)
  · have hb : r1 = 0 := hb
    replace hv := hv.1 hb
    refine go_steps q_R_about kc_R_about 1 rfl ?_
    obtain ⟨rfl, rfl⟩ := hv
    exact go_retI q_R_about kc_R_about rfl rfl rfl
  · have hb : ¬ (r1 = 0) := hb
    replace hv := hv.2 hb
    refine go_steps q_R_about kc_R_about 1 rfl ?_
    by_cases hs0 : p2 = 0
    · replace hv := hv.1 hs0
      refine go_sw q_R_about kc_R_about rfl (g := 88) (by rw [hs0]; rfl) ?_
      refine go_steps q_R_about kc_R_about 3 rfl ?_
      obtain ⟨hc1, hv⟩ := hv
      refine go_iaload q_R_about kc_R_about rfl rfl hc1 ?_
      obtain ⟨rfl, rfl⟩ := hv
      exact go_retI q_R_about kc_R_about rfl rfl rfl
    by_cases hs1 : p2 = 1
    · replace hv := hv.2.1 hs1
      refine go_sw q_R_about kc_R_about rfl (g := 95) (by rw [hs1]; rfl) ?_
      refine go_steps q_R_about kc_R_about 3 rfl ?_
      obtain ⟨hc2, hv⟩ := hv
      refine go_iaload q_R_about kc_R_about rfl rfl hc2 ?_
      obtain ⟨rfl, rfl⟩ := hv
      exact go_retI q_R_about kc_R_about rfl rfl rfl
    by_cases hs2 : p2 = 2
    · replace hv := hv.2.2.1 hs2
      refine go_sw q_R_about kc_R_about rfl (g := 102) (by rw [hs2]; rfl) ?_
      refine go_steps q_R_about kc_R_about 3 rfl ?_
      obtain ⟨hc3, hv⟩ := hv
      refine go_iaload q_R_about kc_R_about rfl rfl hc3 ?_
      obtain ⟨rfl, rfl⟩ := hv
      exact go_retI q_R_about kc_R_about rfl rfl rfl
    by_cases hs3 : p2 = 3
    · replace hv := hv.2.2.2.1 hs3
      refine go_sw q_R_about kc_R_about rfl (g := 109) (by rw [hs3]; rfl) ?_
      refine go_steps q_R_about kc_R_about 3 rfl ?_
      obtain ⟨hc4, hv⟩ := hv
      refine go_iaload q_R_about kc_R_about rfl rfl hc4 ?_
      obtain ⟨rfl, rfl⟩ := hv
      exact go_retI q_R_about kc_R_about rfl rfl rfl
    by_cases hs4 : p2 = 4
    · replace hv := hv.2.2.2.2.1 hs4
      refine go_sw q_R_about kc_R_about rfl (g := 116) (by rw [hs4]; rfl) ?_
      refine go_steps q_R_about kc_R_about 3 rfl ?_
      obtain ⟨hc5, hv⟩ := hv
      refine go_iaload q_R_about kc_R_about rfl rfl hc5 ?_
      obtain ⟨rfl, rfl⟩ := hv
      exact go_retI q_R_about kc_R_about rfl rfl rfl
    by_cases hs5 : p2 = 5
    · replace hv := hv.2.2.2.2.2.1 hs5
      refine go_sw q_R_about kc_R_about rfl (g := 123) (by rw [hs5]; rfl) ?_
      refine go_steps q_R_about kc_R_about 3 rfl ?_
      obtain ⟨hc6, hv⟩ := hv
      refine go_iaload q_R_about kc_R_about rfl rfl hc6 ?_
      obtain ⟨rfl, rfl⟩ := hv
      exact go_retI q_R_about kc_R_about rfl rfl rfl
    by_cases hs6 : p2 = 6
    · replace hv := hv.2.2.2.2.2.2.1 hs6
      refine go_sw q_R_about kc_R_about rfl (g := 130) (by rw [hs6]; rfl) ?_
      refine go_steps q_R_about kc_R_about 3 rfl ?_
      obtain ⟨hc7, hv⟩ := hv
      refine go_baload q_R_about kc_R_about rfl rfl hc7 ?_
      refine go_steps q_R_about kc_R_about 1 rfl ?_
      have key : am_Go l D DA b sz (d + 1) M_R_about (144, [some (.ref 47), some (.int p1), some (.int p2), none, none], [.int (if (σ1 54 (Int32.toNatClampNeg p1)) = 0 then 0 else 1 : Int32)], (am_TT cu L, am_RR cu, σ1)) r X' := by
        obtain ⟨rfl, rfl⟩ := hv
        exact go_retI q_R_about kc_R_about rfl rfl rfl
      refine go_if (fun hb => ?_) (fun hb => ?_)
      · have hb : (σ1 54 (Int32.toNatClampNeg p1)) = 0 := hb
        rw [show (if (σ1 54 (Int32.toNatClampNeg p1)) = 0 then 0 else 1 : Int32) = 0 from if_pos hb] at key
        refine go_steps q_R_about kc_R_about 1 rfl ?_
        exact key
      · have hb : ¬ ((σ1 54 (Int32.toNatClampNeg p1)) = 0) := hb
        rw [show (if (σ1 54 (Int32.toNatClampNeg p1)) = 0 then 0 else 1 : Int32) = 1 from if_neg hb] at key
        refine go_steps q_R_about kc_R_about 2 rfl ?_
        exact key
    by_cases hs7 : p2 = 7
    · replace hv := hv.2.2.2.2.2.2.2.1 hs7
      refine go_sw q_R_about kc_R_about rfl (g := 145) (by rw [hs7]; rfl) ?_
      refine go_steps q_R_about kc_R_about 3 rfl ?_
      obtain ⟨hc8, hv⟩ := hv
      refine go_iaload q_R_about kc_R_about rfl rfl hc8 ?_
      obtain ⟨rfl, rfl⟩ := hv
      exact go_retI q_R_about kc_R_about rfl rfl rfl
    by_cases hs8 : p2 = 8
    · replace hv := hv.2.2.2.2.2.2.2.2.1 hs8
      refine go_sw q_R_about kc_R_about rfl (g := 152) (by rw [hs8]; rfl) ?_
      refine go_steps q_R_about kc_R_about 3 rfl ?_
      obtain ⟨hc9, hv⟩ := hv
      refine go_baload q_R_about kc_R_about rfl rfl hc9 ?_
      refine go_steps q_R_about kc_R_about 1 rfl ?_
      have key : am_Go l D DA b sz (d + 1) M_R_about (166, [some (.ref 47), some (.int p1), some (.int p2), none, none], [.int (if (σ1 56 (Int32.toNatClampNeg p1)) = 0 then 0 else 1 : Int32)], (am_TT cu L, am_RR cu, σ1)) r X' := by
        obtain ⟨rfl, rfl⟩ := hv
        exact go_retI q_R_about kc_R_about rfl rfl rfl
      refine go_if (fun hb => ?_) (fun hb => ?_)
      · have hb : (σ1 56 (Int32.toNatClampNeg p1)) = 0 := hb
        rw [show (if (σ1 56 (Int32.toNatClampNeg p1)) = 0 then 0 else 1 : Int32) = 0 from if_pos hb] at key
        refine go_steps q_R_about kc_R_about 1 rfl ?_
        exact key
      · have hb : ¬ ((σ1 56 (Int32.toNatClampNeg p1)) = 0) := hb
        rw [show (if (σ1 56 (Int32.toNatClampNeg p1)) = 0 then 0 else 1 : Int32) = 1 from if_neg hb] at key
        refine go_steps q_R_about kc_R_about 2 rfl ?_
        exact key
    by_cases hs9 : p2 = 9
    · replace hv := hv.2.2.2.2.2.2.2.2.2.1 hs9
      refine go_sw q_R_about kc_R_about rfl (g := 167) (by rw [hs9]; rfl) ?_
      refine go_steps q_R_about kc_R_about 3 rfl ?_
      obtain ⟨hc10, hv⟩ := hv
      refine go_baload q_R_about kc_R_about rfl rfl hc10 ?_
      refine go_steps q_R_about kc_R_about 1 rfl ?_
      refine go_if (fun hb => ?_) (fun hb => ?_)
      · have hb : (σ1 56 (Int32.toNatClampNeg p1)) = 0 := hb
        replace hv := hv.1 hb
        refine go_steps q_R_about kc_R_about 1 rfl ?_
        obtain ⟨rfl, rfl⟩ := hv
        exact go_retI q_R_about kc_R_about rfl rfl rfl
      · have hb : ¬ ((σ1 56 (Int32.toNatClampNeg p1)) = 0) := hb
        replace hv := hv.2 hb
        refine go_steps q_R_about kc_R_about 3 rfl ?_
        obtain ⟨hc11, hv⟩ := hv
        refine go_iaload q_R_about kc_R_about rfl rfl hc11 ?_
        refine go_steps q_R_about kc_R_about 1 rfl ?_
        obtain ⟨rfl, rfl⟩ := hv
        exact go_retI q_R_about kc_R_about rfl rfl rfl
    by_cases hs10 : p2 = 10
    · replace hv := hv.2.2.2.2.2.2.2.2.2.2.1 hs10
      refine go_sw q_R_about kc_R_about rfl (g := 187) (by rw [hs10]; rfl) ?_
      refine go_steps q_R_about kc_R_about 3 rfl ?_
      obtain ⟨hc12, hv⟩ := hv
      refine go_baload q_R_about kc_R_about rfl rfl hc12 ?_
      refine go_steps q_R_about kc_R_about 1 rfl ?_
      refine go_if (fun hb => ?_) (fun hb => ?_)
      · have hb : (σ1 56 (Int32.toNatClampNeg p1)) = 0 := hb
        replace hv := hv.1 hb
        refine go_steps q_R_about kc_R_about 1 rfl ?_
        obtain ⟨rfl, rfl⟩ := hv
        exact go_retI q_R_about kc_R_about rfl rfl rfl
      · have hb : ¬ ((σ1 56 (Int32.toNatClampNeg p1)) = 0) := hb
        replace hv := hv.2 hb
        refine go_steps q_R_about kc_R_about 3 rfl ?_
        obtain ⟨hc13, hv⟩ := hv
        refine go_iaload q_R_about kc_R_about rfl rfl hc13 ?_
        refine go_steps q_R_about kc_R_about 1 rfl ?_
        obtain ⟨rfl, rfl⟩ := hv
        exact go_retI q_R_about kc_R_about rfl rfl rfl
    by_cases hs11 : p2 = 11
    · replace hv := hv.2.2.2.2.2.2.2.2.2.2.2.1 hs11
      refine go_sw q_R_about kc_R_about rfl (g := 207) (by rw [hs11]; rfl) ?_
      refine go_steps q_R_about kc_R_about 3 rfl ?_
      obtain ⟨hc14, hv⟩ := hv
      refine go_baload q_R_about kc_R_about rfl rfl hc14 ?_
      refine go_steps q_R_about kc_R_about 1 rfl ?_
      refine go_if (fun hb => ?_) (fun hb => ?_)
      · have hb : (σ1 56 (Int32.toNatClampNeg p1)) = 0 := hb
        replace hv := hv.1 hb
        refine go_steps q_R_about kc_R_about 1 rfl ?_
        obtain ⟨rfl, rfl⟩ := hv
        exact go_retI q_R_about kc_R_about rfl rfl rfl
      · have hb : ¬ ((σ1 56 (Int32.toNatClampNeg p1)) = 0) := hb
        replace hv := hv.2 hb
        refine go_steps q_R_about kc_R_about 3 rfl ?_
        obtain ⟨hc15, hv⟩ := hv
        refine go_iaload q_R_about kc_R_about rfl rfl hc15 ?_
        refine go_steps q_R_about kc_R_about 1 rfl ?_
        obtain ⟨rfl, rfl⟩ := hv
        exact go_retI q_R_about kc_R_about rfl rfl rfl
    by_cases hs12 : p2 = 12
    · replace hv := hv.2.2.2.2.2.2.2.2.2.2.2.2.1 hs12
      refine go_sw q_R_about kc_R_about rfl (g := 227) (by rw [hs12]; rfl) ?_
      refine go_steps q_R_about kc_R_about 3 rfl ?_
      obtain ⟨hc16, hv⟩ := hv
      refine go_baload q_R_about kc_R_about rfl rfl hc16 ?_
      refine go_steps q_R_about kc_R_about 1 rfl ?_
      refine go_if (fun hb => ?_) (fun hb => ?_)
      · have hb : (σ1 56 (Int32.toNatClampNeg p1)) = 0 := hb
        replace hv := hv.1 hb
        refine go_steps q_R_about kc_R_about 1 rfl ?_
        obtain ⟨rfl, rfl⟩ := hv
        exact go_retI q_R_about kc_R_about rfl rfl rfl
      · have hb : ¬ ((σ1 56 (Int32.toNatClampNeg p1)) = 0) := hb
        replace hv := hv.2 hb
        refine go_steps q_R_about kc_R_about 3 rfl ?_
        obtain ⟨hc17, hv⟩ := hv
        refine go_baload q_R_about kc_R_about rfl rfl hc17 ?_
        refine go_steps q_R_about kc_R_about 1 rfl ?_
        have key : am_Go l D DA b sz (d + 1) M_R_about (250, [some (.ref 47), some (.int p1), some (.int p2), none, none], [.int (if (σ1 60 (Int32.toNatClampNeg p1)) = 0 then 0 else 1 : Int32)], (am_TT cu L, am_RR cu, σ1)) r X' := by
          obtain ⟨rfl, rfl⟩ := hv
          exact go_retI q_R_about kc_R_about rfl rfl rfl
        refine go_if (fun hb => ?_) (fun hb => ?_)
        · have hb : (σ1 60 (Int32.toNatClampNeg p1)) = 0 := hb
          rw [show (if (σ1 60 (Int32.toNatClampNeg p1)) = 0 then 0 else 1 : Int32) = 0 from if_pos hb] at key
          refine go_steps q_R_about kc_R_about 1 rfl ?_
          exact key
        · have hb : ¬ ((σ1 60 (Int32.toNatClampNeg p1)) = 0) := hb
          rw [show (if (σ1 60 (Int32.toNatClampNeg p1)) = 0 then 0 else 1 : Int32) = 1 from if_neg hb] at key
          refine go_steps q_R_about kc_R_about 2 rfl ?_
          exact key
    by_cases hs13 : p2 = 13
    · replace hv := hv.2.2.2.2.2.2.2.2.2.2.2.2.2.1 hs13
      refine go_sw q_R_about kc_R_about rfl (g := 251) (by rw [hs13]; rfl) ?_
      refine go_steps q_R_about kc_R_about 3 rfl ?_
      obtain ⟨hc18, hv⟩ := hv
      refine go_baload q_R_about kc_R_about rfl rfl hc18 ?_
      refine go_steps q_R_about kc_R_about 1 rfl ?_
      refine go_if (fun hb => ?_) (fun hb => ?_)
      · have hb : (σ1 56 (Int32.toNatClampNeg p1)) = 0 := hb
        replace hv := hv.1 hb
        refine go_steps q_R_about kc_R_about 1 rfl ?_
        obtain ⟨rfl, rfl⟩ := hv
        exact go_retI q_R_about kc_R_about rfl rfl rfl
      · have hb : ¬ ((σ1 56 (Int32.toNatClampNeg p1)) = 0) := hb
        replace hv := hv.2 hb
        refine go_steps q_R_about kc_R_about 1 rfl ?_
        obtain ⟨σ2, hg, hv⟩ := hv
        refine go_callV q_R_about kc_R_about rfl q_R_makeLoads am_k117 ⟨rfl, rfl, by decide⟩ rfl rfl (Nat.le_of_ble_eq_true rfl) (Nat.le_of_ble_eq_true rfl) rfl rfl hg ?_
        refine go_steps q_R_about kc_R_about 3 rfl ?_
        obtain ⟨hc19, hv⟩ := hv
        refine go_iaload q_R_about kc_R_about rfl rfl hc19 ?_
        obtain ⟨rfl, rfl⟩ := hv
        exact go_retI q_R_about kc_R_about rfl rfl rfl
    by_cases hs14 : p2 = 14
    · replace hv := hv.2.2.2.2.2.2.2.2.2.2.2.2.2.2.1 hs14
      refine go_sw q_R_about kc_R_about rfl (g := 273) (by rw [hs14]; rfl) ?_
      refine go_steps q_R_about kc_R_about 4 rfl ?_
      refine go_le (L1 := [some (.ref 47), some (.int p1), none, some (.int 0), some (.int 0)]) (by repeat (first | exact trivial | refine ⟨rfl, ?_⟩)) ?_
      exact hv
    replace hv := hv.2.2.2.2.2.2.2.2.2.2.2.2.2.2.2 hs0 hs1 hs2 hs3 hs4 hs5 hs6 hs7 hs8 hs9 hs10 hs11 hs12 hs13 hs14
    refine go_sw q_R_about kc_R_about rfl (g := 322) (if_pos (am_sw_out (m := 14) (by decide) (fun j hj => match j, hj with | 0, _ => hs0 | 1, _ => hs1 | 2, _ => hs2 | 3, _ => hs3 | 4, _ => hs4 | 5, _ => hs5 | 6, _ => hs6 | 7, _ => hs7 | 8, _ => hs8 | 9, _ => hs9 | 10, _ => hs10 | 11, _ => hs11 | 12, _ => hs12 | 13, _ => hs13 | 14, _ => hs14 | n + 15, h => absurd h (by omega)))) ?_
    refine go_steps q_R_about kc_R_about 1 rfl ?_
    obtain ⟨rfl, rfl⟩ := hv
    exact go_retI q_R_about kc_R_about rfl rfl rfl
set_option maxHeartbeats 4000000 in
set_option maxRecDepth 100000 in
theorem v_R_about_278 {l : Launch} {D : va_G} {DA : Nat → ClassId} {b sz d L : Nat} {cu : Bool} {σ : Nat → Nat → Int32} {r : Option Value} {X' : am_X} (p1 : Int32) (p3 : Int32) (p4 : Int32)
    (hv : (((σ 47 0) ≤ p4) → (r = some (.int p3) ∧ X' = (am_TT cu L, am_RR cu, σ))) ∧ (¬ ((σ 47 0) ≤ p4) → ((¬ (p1 < 0 ∨ 20 ≤ Int32.toNatClampNeg p1)) ∧ ((((σ 56 (Int32.toNatClampNeg p1)) = 0) → (r = some (.int p3) ∧ X' = (am_TT cu L, am_RR cu, σ))) ∧ (¬ ((σ 56 (Int32.toNatClampNeg p1)) = 0) → (∃ (r1 : Int32) (σ1 : Nat → Nat → Int32), am_Go l D DA b sz d M_R_stands (0, [some (.ref 47), some (.int p1), some (.int p4)], [], (am_TT cu L, am_RR cu, σ)) (some (.int r1)) (am_TT cu L, am_RR cu, σ1) ∧ (am_Go l D DA b sz (d + 1) M_R_about (278, [some (.ref 47), some (.int p1), none, some (.int (p3 + (if r1 ≤ 0 then 0 else 1 : Int32))), some (.int (p4 + 1))], [], (am_TT cu L, am_RR cu, σ1)) r X'))))))) :
    am_Go l D DA b sz (d + 1) M_R_about (278, [some (.ref 47), some (.int p1), none, some (.int p3), some (.int p4)], [], (am_TT cu L, am_RR cu, σ)) r X' := by
  refine go_steps q_R_about kc_R_about 4 rfl ?_
  refine go_if (fun hb => ?_) (fun hb => ?_)
  · have hb : (σ 47 0) ≤ p4 := hb
    replace hv := hv.1 hb
    refine go_steps q_R_about kc_R_about 1 rfl ?_
    obtain ⟨rfl, rfl⟩ := hv
    exact go_retI q_R_about kc_R_about rfl rfl rfl
  · have hb : ¬ ((σ 47 0) ≤ p4) := hb
    replace hv := hv.2 hb
    refine go_steps q_R_about kc_R_about 3 rfl ?_
    obtain ⟨hc1, hv⟩ := hv
    refine go_baload q_R_about kc_R_about rfl rfl hc1 ?_
    refine go_steps q_R_about kc_R_about 1 rfl ?_
    refine go_if (fun hb => ?_) (fun hb => ?_)
    · have hb : (σ 56 (Int32.toNatClampNeg p1)) = 0 := hb
      replace hv := hv.1 hb
      refine go_steps q_R_about kc_R_about 1 rfl ?_
      obtain ⟨rfl, rfl⟩ := hv
      exact go_retI q_R_about kc_R_about rfl rfl rfl
    · have hb : ¬ ((σ 56 (Int32.toNatClampNeg p1)) = 0) := hb
      replace hv := hv.2 hb
      refine go_steps q_R_about kc_R_about 4 rfl ?_
      obtain ⟨r1, σ1, hg, hv⟩ := hv
      refine go_callV q_R_about kc_R_about rfl q_R_stands am_k114 ⟨rfl, rfl, by decide⟩ rfl rfl (Nat.le_of_ble_eq_true rfl) (Nat.le_of_ble_eq_true rfl) rfl rfl hg ?_
      refine go_steps q_R_about kc_R_about 1 rfl ?_
      have key : am_Go l D DA b sz (d + 1) M_R_about (312, [some (.ref 47), some (.int p1), none, some (.int p3), some (.int p4)], [.int (if r1 ≤ 0 then 0 else 1 : Int32), .int p3], (am_TT cu L, am_RR cu, σ1)) r X' := by
        refine go_steps q_R_about kc_R_about 4 rfl ?_
        refine go_le (L1 := [some (.ref 47), some (.int p1), none, some (.int (p3 + (if r1 ≤ 0 then 0 else 1 : Int32))), some (.int (p4 + 1))]) (by repeat (first | exact trivial | refine ⟨rfl, ?_⟩)) ?_
        exact hv
      refine go_if (fun hb => ?_) (fun hb => ?_)
      · have hb : r1 ≤ 0 := hb
        rw [show (if r1 ≤ 0 then 0 else 1 : Int32) = 0 from if_pos hb] at key
        refine go_steps q_R_about kc_R_about 1 rfl ?_
        exact key
      · have hb : ¬ (r1 ≤ 0) := hb
        rw [show (if r1 ≤ 0 then 0 else 1 : Int32) = 1 from if_neg hb] at key
        refine go_steps q_R_about kc_R_about 2 rfl ?_
        exact key
set_option maxHeartbeats 4000000 in
set_option maxRecDepth 100000 in
theorem v_R_at_0 {l : Launch} {D : va_G} {DA : Nat → ClassId} {b sz d L : Nat} {cu : Bool} {σ : Nat → Nat → Int32} {r : Option Value} {X' : am_X} (p1 : Int32) (p2 : Int32) (p3 : Int32)
    (hv : am_Go l D DA b sz (d + 1) M_R_at (3, [some (.ref 47), some (.int p1), some (.int p2), some (.int p3), some (.int 0), none], [], (am_TT cu L, am_RR cu, σ)) r X') :
    am_Go l D DA b sz (d + 1) M_R_at (0, [some (.ref 47), some (.int p1), some (.int p2), some (.int p3), none, none], [], (am_TT cu L, am_RR cu, σ)) r X' := by
  refine go_steps q_R_at kc_R_at 2 rfl ?_
  refine go_le (L1 := [some (.ref 47), some (.int p1), some (.int p2), some (.int p3), some (.int 0), none]) (by repeat (first | exact trivial | refine ⟨rfl, ?_⟩)) ?_
  exact hv
set_option maxHeartbeats 4000000 in
set_option maxRecDepth 100000 in
theorem v_R_at_3 {l : Launch} {D : va_G} {DA : Nat → ClassId} {b sz d L : Nat} {cu : Bool} {σ : Nat → Nat → Int32} {r : Option Value} {X' : am_X} (p1 : Int32) (p2 : Int32) (p3 : Int32) (p4 : Int32)
    (hv : (((σ 47 0) ≤ p4) → (r = some (.int (-1)) ∧ X' = (am_TT cu L, am_RR cu, σ))) ∧ (¬ ((σ 47 0) ≤ p4) → ((¬ (p4 < 0 ∨ 20 ≤ Int32.toNatClampNeg p4)) ∧ ((((σ 56 (Int32.toNatClampNeg p4)) = 0) → (am_Go l D DA b sz (d + 1) M_R_at (3, [some (.ref 47), some (.int p1), some (.int p2), some (.int p3), some (.int (p4 + 1)), none], [], (am_TT cu L, am_RR cu, σ)) r X')) ∧ (¬ ((σ 56 (Int32.toNatClampNeg p4)) = 0) → ((¬ (p4 < 0 ∨ 20 ≤ Int32.toNatClampNeg p4)) ∧ (((p1 < (σ 57 (Int32.toNatClampNeg p4))) → (am_Go l D DA b sz (d + 1) M_R_at (3, [some (.ref 47), some (.int p1), some (.int p2), some (.int p3), some (.int (p4 + 1)), none], [], (am_TT cu L, am_RR cu, σ)) r X')) ∧ (¬ (p1 < (σ 57 (Int32.toNatClampNeg p4))) → ((¬ (p4 < 0 ∨ 20 ≤ Int32.toNatClampNeg p4)) ∧ (((p2 < (σ 58 (Int32.toNatClampNeg p4))) → (am_Go l D DA b sz (d + 1) M_R_at (3, [some (.ref 47), some (.int p1), some (.int p2), some (.int p3), some (.int (p4 + 1)), none], [], (am_TT cu L, am_RR cu, σ)) r X')) ∧ (¬ (p2 < (σ 58 (Int32.toNatClampNeg p4))) → ((¬ (p4 < 0 ∨ 20 ≤ Int32.toNatClampNeg p4)) ∧ ((((if p3 < (σ 59 (Int32.toNatClampNeg p4)) then 0 else 1 : Int32) = 0) → (am_Go l D DA b sz (d + 1) M_R_at (3, [some (.ref 47), some (.int p1), some (.int p2), some (.int p3), some (.int (p4 + 1)), none], [], (am_TT cu L, am_RR cu, σ)) r X')) ∧ (¬ ((if p3 < (σ 59 (Int32.toNatClampNeg p4)) then 0 else 1 : Int32) = 0) → ((¬ (p4 < 0 ∨ 20 ≤ Int32.toNatClampNeg p4)) ∧ (∃ (r1 : Int32) (σ1 : Nat → Nat → Int32), am_Go l D DA b sz d M_R_longOf (0, [some (.ref 47), some (.int p4)], [], (am_TT cu L, am_RR cu, σ)) (some (.int r1)) (am_TT cu L, am_RR cu, σ1) ∧ (((((σ 57 (Int32.toNatClampNeg p4)) + r1) ≤ p1) → (am_Go l D DA b sz (d + 1) M_R_at (3, [some (.ref 47), some (.int p1), some (.int p2), some (.int p3), some (.int (p4 + 1)), none], [], (am_TT cu L, am_RR cu, σ1)) r X')) ∧ (¬ (((σ 57 (Int32.toNatClampNeg p4)) + r1) ≤ p1) → ((¬ (p4 < 0 ∨ 20 ≤ Int32.toNatClampNeg p4)) ∧ (∃ (r2 : Int32) (σ2 : Nat → Nat → Int32), am_Go l D DA b sz d M_R_wideOf (0, [some (.ref 47), some (.int p4)], [], (am_TT cu L, am_RR cu, σ1)) (some (.int r2)) (am_TT cu L, am_RR cu, σ2) ∧ (((((σ1 58 (Int32.toNatClampNeg p4)) + r2) ≤ p2) → (am_Go l D DA b sz (d + 1) M_R_at (3, [some (.ref 47), some (.int p1), some (.int p2), some (.int p3), some (.int (p4 + 1)), none], [], (am_TT cu L, am_RR cu, σ2)) r X')) ∧ (¬ (((σ1 58 (Int32.toNatClampNeg p4)) + r2) ≤ p2) → (∃ (r3 : Int32) (σ3 : Nat → Nat → Int32), am_Go l D DA b sz d M_R_topOf (0, [some (.ref 47), some (.int p4)], [], (am_TT cu L, am_RR cu, σ2)) (some (.int r3)) (am_TT cu L, am_RR cu, σ3) ∧ (((r3 ≤ p3) → (am_Go l D DA b sz (d + 1) M_R_at (3, [some (.ref 47), some (.int p1), some (.int p2), some (.int p3), some (.int (p4 + 1)), none], [], (am_TT cu L, am_RR cu, σ3)) r X')) ∧ (¬ (r3 ≤ p3) → (r = some (.int p4) ∧ X' = (am_TT cu L, am_RR cu, σ3))))))))))))))))))))))))))) :
    am_Go l D DA b sz (d + 1) M_R_at (3, [some (.ref 47), some (.int p1), some (.int p2), some (.int p3), some (.int p4), none], [], (am_TT cu L, am_RR cu, σ)) r X' := by
  refine go_steps q_R_at kc_R_at 4 rfl ?_
  refine go_if (fun hb => ?_) (fun hb => ?_)
  · have hb : (σ 47 0) ≤ p4 := hb
    replace hv := hv.1 hb
    refine go_steps q_R_at kc_R_at 1 rfl ?_
    obtain ⟨rfl, rfl⟩ := hv
    exact go_retI q_R_at kc_R_at rfl rfl rfl
  · have hb : ¬ ((σ 47 0) ≤ p4) := hb
    replace hv := hv.2 hb
    refine go_steps q_R_at kc_R_at 3 rfl ?_
    obtain ⟨hc1, hv⟩ := hv
    refine go_baload q_R_at kc_R_at rfl rfl hc1 ?_
    refine go_steps q_R_at kc_R_at 1 rfl ?_
    refine go_if (fun hb => ?_) (fun hb => ?_)
    · have hb : (σ 56 (Int32.toNatClampNeg p4)) = 0 := hb
      replace hv := hv.1 hb
      refine go_steps q_R_at kc_R_at 6 rfl ?_
      refine go_le (L1 := [some (.ref 47), some (.int p1), some (.int p2), some (.int p3), some (.int (p4 + 1)), none]) (by repeat (first | exact trivial | refine ⟨rfl, ?_⟩)) ?_
      exact hv
    · have hb : ¬ ((σ 56 (Int32.toNatClampNeg p4)) = 0) := hb
      replace hv := hv.2 hb
      refine go_steps q_R_at kc_R_at 4 rfl ?_
      obtain ⟨hc2, hv⟩ := hv
      refine go_iaload q_R_at kc_R_at rfl rfl hc2 ?_
      refine go_steps q_R_at kc_R_at 1 rfl ?_
      refine go_if (fun hb => ?_) (fun hb => ?_)
      · have hb : p1 < (σ 57 (Int32.toNatClampNeg p4)) := hb
        replace hv := hv.1 hb
        refine go_steps q_R_at kc_R_at 6 rfl ?_
        refine go_le (L1 := [some (.ref 47), some (.int p1), some (.int p2), some (.int p3), some (.int (p4 + 1)), none]) (by repeat (first | exact trivial | refine ⟨rfl, ?_⟩)) ?_
        exact hv
      · have hb : ¬ (p1 < (σ 57 (Int32.toNatClampNeg p4))) := hb
        replace hv := hv.2 hb
        refine go_steps q_R_at kc_R_at 4 rfl ?_
        obtain ⟨hc3, hv⟩ := hv
        refine go_iaload q_R_at kc_R_at rfl rfl hc3 ?_
        refine go_steps q_R_at kc_R_at 1 rfl ?_
        refine go_if (fun hb => ?_) (fun hb => ?_)
        · have hb : p2 < (σ 58 (Int32.toNatClampNeg p4)) := hb
          replace hv := hv.1 hb
          refine go_steps q_R_at kc_R_at 6 rfl ?_
          refine go_le (L1 := [some (.ref 47), some (.int p1), some (.int p2), some (.int p3), some (.int (p4 + 1)), none]) (by repeat (first | exact trivial | refine ⟨rfl, ?_⟩)) ?_
          exact hv
        · have hb : ¬ (p2 < (σ 58 (Int32.toNatClampNeg p4))) := hb
          replace hv := hv.2 hb
          refine go_steps q_R_at kc_R_at 4 rfl ?_
          obtain ⟨hc4, hv⟩ := hv
          refine go_iaload q_R_at kc_R_at rfl rfl hc4 ?_
          refine go_steps q_R_at kc_R_at 1 rfl ?_
          have key : am_Go l D DA b sz (d + 1) M_R_at (60, [some (.ref 47), some (.int p1), some (.int p2), some (.int p3), some (.int p4), none], [.int (if p3 < (σ 59 (Int32.toNatClampNeg p4)) then 0 else 1 : Int32)], (am_TT cu L, am_RR cu, σ)) r X' := by
            refine go_steps q_R_at kc_R_at 3 rfl ?_
            refine go_if (fun hb => ?_) (fun hb => ?_)
            · have hb : (if p3 < (σ 59 (Int32.toNatClampNeg p4)) then 0 else 1 : Int32) = 0 := hb
              replace hv := hv.1 hb
              refine go_steps q_R_at kc_R_at 2 rfl ?_
              refine go_le (L1 := [some (.ref 47), some (.int p1), some (.int p2), some (.int p3), some (.int (p4 + 1)), none]) (by repeat (first | exact trivial | refine ⟨rfl, ?_⟩)) ?_
              exact hv
            · have hb : ¬ ((if p3 < (σ 59 (Int32.toNatClampNeg p4)) then 0 else 1 : Int32) = 0) := hb
              replace hv := hv.2 hb
              refine go_steps q_R_at kc_R_at 4 rfl ?_
              obtain ⟨hc5, hv⟩ := hv
              refine go_iaload q_R_at kc_R_at rfl rfl hc5 ?_
              refine go_steps q_R_at kc_R_at 2 rfl ?_
              obtain ⟨r1, σ1, hg, hv⟩ := hv
              refine go_callV q_R_at kc_R_at rfl q_R_longOf am_k110 ⟨rfl, rfl, by decide⟩ rfl rfl (Nat.le_of_ble_eq_true rfl) (Nat.le_of_ble_eq_true rfl) rfl rfl hg ?_
              refine go_steps q_R_at kc_R_at 2 rfl ?_
              refine go_if (fun hb => ?_) (fun hb => ?_)
              · have hb : ((σ 57 (Int32.toNatClampNeg p4)) + r1) ≤ p1 := hb
                replace hv := hv.1 hb
                refine go_steps q_R_at kc_R_at 2 rfl ?_
                refine go_le (L1 := [some (.ref 47), some (.int p1), some (.int p2), some (.int p3), some (.int (p4 + 1)), none]) (by repeat (first | exact trivial | refine ⟨rfl, ?_⟩)) ?_
                exact hv
              · have hb : ¬ (((σ 57 (Int32.toNatClampNeg p4)) + r1) ≤ p1) := hb
                replace hv := hv.2 hb
                refine go_steps q_R_at kc_R_at 4 rfl ?_
                obtain ⟨hc6, hv⟩ := hv
                refine go_iaload q_R_at kc_R_at rfl rfl hc6 ?_
                refine go_steps q_R_at kc_R_at 2 rfl ?_
                obtain ⟨r2, σ2, hg, hv⟩ := hv
                refine go_callV q_R_at kc_R_at rfl q_R_wideOf am_k111 ⟨rfl, rfl, by decide⟩ rfl rfl (Nat.le_of_ble_eq_true rfl) (Nat.le_of_ble_eq_true rfl) rfl rfl hg ?_
                refine go_steps q_R_at kc_R_at 2 rfl ?_
                refine go_if (fun hb => ?_) (fun hb => ?_)
                · have hb : ((σ1 58 (Int32.toNatClampNeg p4)) + r2) ≤ p2 := hb
                  replace hv := hv.1 hb
                  refine go_steps q_R_at kc_R_at 2 rfl ?_
                  refine go_le (L1 := [some (.ref 47), some (.int p1), some (.int p2), some (.int p3), some (.int (p4 + 1)), none]) (by repeat (first | exact trivial | refine ⟨rfl, ?_⟩)) ?_
                  exact hv
                · have hb : ¬ (((σ1 58 (Int32.toNatClampNeg p4)) + r2) ≤ p2) := hb
                  replace hv := hv.2 hb
                  refine go_steps q_R_at kc_R_at 3 rfl ?_
                  obtain ⟨r3, σ3, hg, hv⟩ := hv
                  refine go_callV q_R_at kc_R_at rfl q_R_topOf am_k115 ⟨rfl, rfl, by decide⟩ rfl rfl (Nat.le_of_ble_eq_true rfl) (Nat.le_of_ble_eq_true rfl) rfl rfl hg ?_
                  refine go_steps q_R_at kc_R_at 1 rfl ?_
                  refine go_if (fun hb => ?_) (fun hb => ?_)
                  · have hb : r3 ≤ p3 := hb
                    replace hv := hv.1 hb
                    refine go_steps q_R_at kc_R_at 2 rfl ?_
                    refine go_le (L1 := [some (.ref 47), some (.int p1), some (.int p2), some (.int p3), some (.int (p4 + 1)), none]) (by repeat (first | exact trivial | refine ⟨rfl, ?_⟩)) ?_
                    exact hv
                  · have hb : ¬ (r3 ≤ p3) := hb
                    replace hv := hv.2 hb
                    refine go_steps q_R_at kc_R_at 1 rfl ?_
                    obtain ⟨rfl, rfl⟩ := hv
                    exact go_retI q_R_at kc_R_at rfl rfl rfl
          refine go_if (fun hb => ?_) (fun hb => ?_)
          · have hb : p3 < (σ 59 (Int32.toNatClampNeg p4)) := hb
            rw [show (if p3 < (σ 59 (Int32.toNatClampNeg p4)) then 0 else 1 : Int32) = 0 from if_pos hb] at key
            refine go_steps q_R_at kc_R_at 1 rfl ?_
            exact key
          · have hb : ¬ (p3 < (σ 59 (Int32.toNatClampNeg p4))) := hb
            rw [show (if p3 < (σ 59 (Int32.toNatClampNeg p4)) then 0 else 1 : Int32) = 1 from if_neg hb] at key
            refine go_steps q_R_at kc_R_at 2 rfl ?_
            exact key
set_option maxHeartbeats 4000000 in
set_option maxRecDepth 100000 in
theorem v_R_axle_0 {l : Launch} {D : va_G} {DA : Nat → ClassId} {b sz d L : Nat} {cu : Bool} {σ : Nat → Nat → Int32} {r : Option Value} {X' : am_X} (p1 : Int32) (p2 : Int32) (p3 : Int32)
    (hv : (∃ (r1 : Int32) (σ1 : Nat → Nat → Int32), am_Go l D DA b sz d M_R_in (0, [some (.int p1), some (.int 0), some (.int 1)], [], (am_TT cu L, am_RR cu, σ)) (some (.int r1)) (am_TT cu L, am_RR cu, σ1) ∧ (((r1 = 0) → (r = some (.int (-2000000000)) ∧ X' = (am_TT cu L, am_RR cu, σ1))) ∧ (¬ (r1 = 0) → (∃ (r2 : Int32) (σ2 : Nat → Nat → Int32), am_Go l D DA b sz d M_R_in (0, [some (.int p2), some (.int 0), some (.int 6)], [], (am_TT cu L, am_RR cu, σ1)) (some (.int r2)) (am_TT cu L, am_RR cu, σ2) ∧ (((r2 = 0) → (r = some (.int (-2000000000)) ∧ X' = (am_TT cu L, am_RR cu, σ2))) ∧ (¬ (r2 = 0) → (∃ (r3 : Int32) (σ3 : Nat → Nat → Int32), am_Go l D DA b sz d M_R_in (0, [some (.int p3), some (.int 0), some (.int 1)], [], (am_TT cu L, am_RR cu, σ2)) (some (.int r3)) (am_TT cu L, am_RR cu, σ3) ∧ (((r3 = 0) → (r = some (.int (-2000000000)) ∧ X' = (am_TT cu L, am_RR cu, σ3))) ∧ (¬ (r3 = 0) → (∃ (r4 : Int32) (σ4 : Nat → Nat → Int32), am_Go l D DA b sz d M_R_axleOf (0, [some (.ref 47), some (.int p1), some (.int p2), none, none], [], (am_TT cu L, am_RR cu, σ3)) (some (.int r4)) (am_TT cu L, am_RR cu, σ4) ∧ (am_Go l D DA b sz (d + 1) M_R_axle (71, [none, none, none, some (.int p3), some (.int r4), some (.int (2 * ((σ4 47 19) - (σ4 47 18)))), some (.int (if 0 ≤ r4 then r4 else -r4 : Int32)), some (.int (2 * ((σ4 47 19) - (σ4 47 18)))), none], [], (am_TT cu L, am_RR cu, σ4)) r X')))))))))))) :
    am_Go l D DA b sz (d + 1) M_R_axle (0, [some (.ref 47), some (.int p1), some (.int p2), some (.int p3), none, none, none, none, none], [], (am_TT cu L, am_RR cu, σ)) r X' := by
  refine go_steps q_R_axle kc_R_axle 3 rfl ?_
  obtain ⟨r1, σ1, hg, hv⟩ := hv
  refine go_callS q_R_axle kc_R_axle rfl q_R_in am_k100 rfl rfl rfl (Nat.le_of_ble_eq_true rfl) (Nat.le_of_ble_eq_true rfl) hg ?_
  refine go_steps q_R_axle kc_R_axle 1 rfl ?_
  refine go_if (fun hb => ?_) (fun hb => ?_)
  · have hb : r1 = 0 := hb
    replace hv := hv.1 hb
    refine go_steps q_R_axle kc_R_axle 1 rfl ?_
    obtain ⟨rfl, rfl⟩ := hv
    exact go_retI q_R_axle kc_R_axle rfl rfl rfl
  · have hb : ¬ (r1 = 0) := hb
    replace hv := hv.2 hb
    refine go_steps q_R_axle kc_R_axle 3 rfl ?_
    obtain ⟨r2, σ2, hg, hv⟩ := hv
    refine go_callS q_R_axle kc_R_axle rfl q_R_in am_k100 rfl rfl rfl (Nat.le_of_ble_eq_true rfl) (Nat.le_of_ble_eq_true rfl) hg ?_
    refine go_steps q_R_axle kc_R_axle 1 rfl ?_
    refine go_if (fun hb => ?_) (fun hb => ?_)
    · have hb : r2 = 0 := hb
      replace hv := hv.1 hb
      refine go_steps q_R_axle kc_R_axle 1 rfl ?_
      obtain ⟨rfl, rfl⟩ := hv
      exact go_retI q_R_axle kc_R_axle rfl rfl rfl
    · have hb : ¬ (r2 = 0) := hb
      replace hv := hv.2 hb
      refine go_steps q_R_axle kc_R_axle 3 rfl ?_
      obtain ⟨r3, σ3, hg, hv⟩ := hv
      refine go_callS q_R_axle kc_R_axle rfl q_R_in am_k100 rfl rfl rfl (Nat.le_of_ble_eq_true rfl) (Nat.le_of_ble_eq_true rfl) hg ?_
      refine go_steps q_R_axle kc_R_axle 1 rfl ?_
      refine go_if (fun hb => ?_) (fun hb => ?_)
      · have hb : r3 = 0 := hb
        replace hv := hv.1 hb
        refine go_steps q_R_axle kc_R_axle 1 rfl ?_
        obtain ⟨rfl, rfl⟩ := hv
        exact go_retI q_R_axle kc_R_axle rfl rfl rfl
      · have hb : ¬ (r3 = 0) := hb
        replace hv := hv.2 hb
        refine go_steps q_R_axle kc_R_axle 3 rfl ?_
        obtain ⟨r4, σ4, hg, hv⟩ := hv
        refine go_callV q_R_axle kc_R_axle rfl q_R_axleOf am_k133 ⟨rfl, rfl, by decide⟩ rfl rfl (Nat.le_of_ble_eq_true rfl) (Nat.le_of_ble_eq_true rfl) rfl rfl hg ?_
        refine go_steps q_R_axle kc_R_axle 11 rfl ?_
        have key : am_Go l D DA b sz (d + 1) M_R_axle (65, [some (.ref 47), some (.int p1), some (.int p2), some (.int p3), some (.int r4), some (.int (2 * ((σ4 47 19) - (σ4 47 18)))), none, none, none], [.int (if 0 ≤ r4 then r4 else -r4 : Int32)], (am_TT cu L, am_RR cu, σ4)) r X' := by
          refine go_steps q_R_axle kc_R_axle 3 rfl ?_
          refine go_le (L1 := [none, none, none, some (.int p3), some (.int r4), some (.int (2 * ((σ4 47 19) - (σ4 47 18)))), some (.int (if 0 ≤ r4 then r4 else -r4 : Int32)), some (.int (2 * ((σ4 47 19) - (σ4 47 18)))), none]) (by repeat (first | exact trivial | refine ⟨rfl, ?_⟩)) ?_
          exact hv
        refine go_if (fun hb => ?_) (fun hb => ?_)
        · have hb : 0 ≤ r4 := hb
          rw [show (if 0 ≤ r4 then r4 else -r4 : Int32) = r4 from if_pos hb] at key
          refine go_steps q_R_axle kc_R_axle 1 rfl ?_
          exact key
        · have hb : ¬ (0 ≤ r4) := hb
          rw [show (if 0 ≤ r4 then r4 else -r4 : Int32) = (-r4) from if_neg hb] at key
          refine go_steps q_R_axle kc_R_axle 3 rfl ?_
          exact key
set_option maxHeartbeats 4000000 in
set_option maxRecDepth 100000 in
theorem v_R_axle_71 {l : Launch} {D : va_G} {DA : Nat → ClassId} {b sz d L : Nat} {cu : Bool} {σ : Nat → Nat → Int32} {r : Option Value} {X' : am_X} (p3 : Int32) (p4 : Int32) (p5 : Int32) (p6 : Int32) (p7 : Int32)
    (hv : ((p7 = 0) → (((p3 = 0) → ((¬ p6 = 0) ∧ (r = some (.int (p4 / p6)) ∧ X' = (am_TT cu L, am_RR cu, σ)))) ∧ (¬ (p3 = 0) → ((¬ p6 = 0) ∧ (r = some (.int (p5 / p6)) ∧ X' = (am_TT cu L, am_RR cu, σ)))))) ∧ (¬ (p7 = 0) → ((¬ p7 = 0) ∧ (am_Go l D DA b sz (d + 1) M_R_axle (71, [none, none, none, some (.int p3), some (.int p4), some (.int p5), some (.int p7), some (.int (p6 - p6 / p7 * p7)), none], [], (am_TT cu L, am_RR cu, σ)) r X')))) :
    am_Go l D DA b sz (d + 1) M_R_axle (71, [none, none, none, some (.int p3), some (.int p4), some (.int p5), some (.int p6), some (.int p7), none], [], (am_TT cu L, am_RR cu, σ)) r X' := by
  refine go_steps q_R_axle kc_R_axle 2 rfl ?_
  refine go_if (fun hb => ?_) (fun hb => ?_)
  · have hb : p7 = 0 := hb
    replace hv := hv.1 hb
    refine go_steps q_R_axle kc_R_axle 2 rfl ?_
    refine go_if (fun hb => ?_) (fun hb => ?_)
    · have hb : p3 = 0 := hb
      replace hv := hv.1 hb
      refine go_steps q_R_axle kc_R_axle 2 rfl ?_
      obtain ⟨hc, hv⟩ := hv
      refine go_idiv q_R_axle kc_R_axle rfl hc ?_
      refine go_steps q_R_axle kc_R_axle 1 rfl ?_
      obtain ⟨rfl, rfl⟩ := hv
      exact go_retI q_R_axle kc_R_axle rfl rfl rfl
    · have hb : ¬ (p3 = 0) := hb
      replace hv := hv.2 hb
      refine go_steps q_R_axle kc_R_axle 2 rfl ?_
      obtain ⟨hc, hv⟩ := hv
      refine go_idiv q_R_axle kc_R_axle rfl hc ?_
      obtain ⟨rfl, rfl⟩ := hv
      exact go_retI q_R_axle kc_R_axle rfl rfl rfl
  · have hb : ¬ (p7 = 0) := hb
    replace hv := hv.2 hb
    refine go_steps q_R_axle kc_R_axle 2 rfl ?_
    obtain ⟨hc, hv⟩ := hv
    refine go_irem q_R_axle kc_R_axle rfl hc ?_
    refine go_steps q_R_axle kc_R_axle 6 rfl ?_
    refine go_le (L1 := [none, none, none, some (.int p3), some (.int p4), some (.int p5), some (.int p7), some (.int (p6 - p6 / p7 * p7)), none]) (by repeat (first | exact trivial | refine ⟨rfl, ?_⟩)) ?_
    exact hv
set_option maxHeartbeats 4000000 in
set_option maxRecDepth 100000 in
theorem v_R_axleOf_0 {l : Launch} {D : va_G} {DA : Nat → ClassId} {b sz d L : Nat} {cu : Bool} {σ : Nat → Nat → Int32} {r : Option Value} {X' : am_X} (p1 : Int32) (p2 : Int32)
    (hv : am_Go l D DA b sz (d + 1) M_R_axleOf (5, [some (.ref 47), some (.int p1), some (.int p2), some (.int 0), some (.int 0)], [], (am_TT cu L, am_RR cu, σ)) r X') :
    am_Go l D DA b sz (d + 1) M_R_axleOf (0, [some (.ref 47), some (.int p1), some (.int p2), none, none], [], (am_TT cu L, am_RR cu, σ)) r X' := by
  refine go_steps q_R_axleOf kc_R_axleOf 4 rfl ?_
  refine go_le (L1 := [some (.ref 47), some (.int p1), some (.int p2), some (.int 0), some (.int 0)]) (by repeat (first | exact trivial | refine ⟨rfl, ?_⟩)) ?_
  exact hv
set_option maxHeartbeats 4000000 in
set_option maxRecDepth 100000 in
theorem v_R_axleOf_5 {l : Launch} {D : va_G} {DA : Nat → ClassId} {b sz d L : Nat} {cu : Bool} {σ : Nat → Nat → Int32} {r : Option Value} {X' : am_X} (p1 : Int32) (p2 : Int32) (p3 : Int32) (p4 : Int32)
    (hv : (((σ 47 0) ≤ p4) → (((p1 = 1) → (r = some (.int p3) ∧ X' = (am_TT cu L, am_RR cu, σ))) ∧ (¬ (p1 = 1) → (∃ (r1 : Int32) (σ1 : Nat → Nat → Int32), am_Go l D DA b sz d M_R_weights (0, [some (.ref 47), some (.int p2), none, none], [], (am_TT cu L, am_RR cu, σ)) (some (.int r1)) (am_TT cu L, am_RR cu, σ1) ∧ (r = some (.int (((r1 * 2) * ((σ1 47 19) - (σ1 47 18))) - p3)) ∧ X' = (am_TT cu L, am_RR cu, σ1)))))) ∧ (¬ ((σ 47 0) ≤ p4) → (∃ (r2 : Int32) (σ2 : Nat → Nat → Int32), am_Go l D DA b sz d M_R_isLeft (0, [some (.ref 47), some (.int p4), some (.int p2)], [], (am_TT cu L, am_RR cu, σ)) (some (.int r2)) (am_TT cu L, am_RR cu, σ2) ∧ (((r2 = 0) → (am_Go l D DA b sz (d + 1) M_R_axleOf (5, [some (.ref 47), some (.int p1), some (.int p2), some (.int (p3 + 0)), some (.int (p4 + 1))], [], (am_TT cu L, am_RR cu, σ2)) r X')) ∧ (¬ (r2 = 0) → ((¬ (p4 < 0 ∨ 20 ≤ Int32.toNatClampNeg p4)) ∧ ((¬ (p4 < 0 ∨ 20 ≤ Int32.toNatClampNeg p4)) ∧ (∃ (r3 : Int32) (σ3 : Nat → Nat → Int32), am_Go l D DA b sz d M_R_longOf (0, [some (.ref 47), some (.int p4)], [], (am_TT cu L, am_RR cu, σ2)) (some (.int r3)) (am_TT cu L, am_RR cu, σ3) ∧ (am_Go l D DA b sz (d + 1) M_R_axleOf (5, [some (.ref 47), some (.int p1), some (.int p2), some (.int (p3 + ((σ2 51 (Int32.toNatClampNeg p4)) * (((2 * (σ2 57 (Int32.toNatClampNeg p4))) + r3) - (2 * (σ3 47 18)))))), some (.int (p4 + 1))], [], (am_TT cu L, am_RR cu, σ3)) r X'))))))))) :
    am_Go l D DA b sz (d + 1) M_R_axleOf (5, [some (.ref 47), some (.int p1), some (.int p2), some (.int p3), some (.int p4)], [], (am_TT cu L, am_RR cu, σ)) r X' := by
  refine go_steps q_R_axleOf kc_R_axleOf 4 rfl ?_
  refine go_if (fun hb => ?_) (fun hb => ?_)
  · have hb : (σ 47 0) ≤ p4 := hb
    replace hv := hv.1 hb
    refine go_steps q_R_axleOf kc_R_axleOf 3 rfl ?_
    refine go_if (fun hb => ?_) (fun hb => ?_)
    · have hb : p1 = 1 := hb
      replace hv := hv.1 hb
      refine go_steps q_R_axleOf kc_R_axleOf 2 rfl ?_
      obtain ⟨rfl, rfl⟩ := hv
      exact go_retI q_R_axleOf kc_R_axleOf rfl rfl rfl
    · have hb : ¬ (p1 = 1) := hb
      replace hv := hv.2 hb
      refine go_steps q_R_axleOf kc_R_axleOf 2 rfl ?_
      obtain ⟨r1, σ1, hg, hv⟩ := hv
      refine go_callV q_R_axleOf kc_R_axleOf rfl q_R_weights am_k135 ⟨rfl, rfl, by decide⟩ rfl rfl (Nat.le_of_ble_eq_true rfl) (Nat.le_of_ble_eq_true rfl) rfl rfl hg ?_
      refine go_steps q_R_axleOf kc_R_axleOf 10 rfl ?_
      obtain ⟨rfl, rfl⟩ := hv
      exact go_retI q_R_axleOf kc_R_axleOf rfl rfl rfl
  · have hb : ¬ ((σ 47 0) ≤ p4) := hb
    replace hv := hv.2 hb
    refine go_steps q_R_axleOf kc_R_axleOf 4 rfl ?_
    obtain ⟨r2, σ2, hg, hv⟩ := hv
    refine go_callV q_R_axleOf kc_R_axleOf rfl q_R_isLeft am_k134 ⟨rfl, rfl, by decide⟩ rfl rfl (Nat.le_of_ble_eq_true rfl) (Nat.le_of_ble_eq_true rfl) rfl rfl hg ?_
    refine go_steps q_R_axleOf kc_R_axleOf 1 rfl ?_
    refine go_if (fun hb => ?_) (fun hb => ?_)
    · have hb : r2 = 0 := hb
      replace hv := hv.1 hb
      refine go_steps q_R_axleOf kc_R_axleOf 5 rfl ?_
      refine go_le (L1 := [some (.ref 47), some (.int p1), some (.int p2), some (.int (p3 + 0)), some (.int (p4 + 1))]) (by repeat (first | exact trivial | refine ⟨rfl, ?_⟩)) ?_
      exact hv
    · have hb : ¬ (r2 = 0) := hb
      replace hv := hv.2 hb
      refine go_steps q_R_axleOf kc_R_axleOf 3 rfl ?_
      obtain ⟨hc1, hv⟩ := hv
      refine go_iaload q_R_axleOf kc_R_axleOf rfl rfl hc1 ?_
      refine go_steps q_R_axleOf kc_R_axleOf 4 rfl ?_
      obtain ⟨hc2, hv⟩ := hv
      refine go_iaload q_R_axleOf kc_R_axleOf rfl rfl hc2 ?_
      refine go_steps q_R_axleOf kc_R_axleOf 3 rfl ?_
      obtain ⟨r3, σ3, hg, hv⟩ := hv
      refine go_callV q_R_axleOf kc_R_axleOf rfl q_R_longOf am_k110 ⟨rfl, rfl, by decide⟩ rfl rfl (Nat.le_of_ble_eq_true rfl) (Nat.le_of_ble_eq_true rfl) rfl rfl hg ?_
      refine go_steps q_R_axleOf kc_R_axleOf 12 rfl ?_
      refine go_le (L1 := [some (.ref 47), some (.int p1), some (.int p2), some (.int (p3 + ((σ2 51 (Int32.toNatClampNeg p4)) * (((2 * (σ2 57 (Int32.toNatClampNeg p4))) + r3) - (2 * (σ3 47 18)))))), some (.int (p4 + 1))]) (by repeat (first | exact trivial | refine ⟨rfl, ?_⟩)) ?_
      exact hv
set_option maxHeartbeats 4000000 in
set_option maxRecDepth 100000 in
theorem v_R_isLeft_0 {l : Launch} {D : va_G} {DA : Nat → ClassId} {b sz d L : Nat} {cu : Bool} {σ : Nat → Nat → Int32} {r : Option Value} {X' : am_X} (p1 : Int32) (p2 : Int32)
    (hv : (¬ (p1 < 0 ∨ 20 ≤ Int32.toNatClampNeg p1)) ∧ ((((σ 56 (Int32.toNatClampNeg p1)) = 0) → (r = some (.int 0) ∧ X' = (am_TT cu L, am_RR cu, σ))) ∧ (¬ ((σ 56 (Int32.toNatClampNeg p1)) = 0) → ((¬ (p1 < 0 ∨ 20 ≤ Int32.toNatClampNeg p1)) ∧ (((if (σ 53 (Int32.toNatClampNeg p1)) < p2 then 0 else 1 : Int32) = 0 ∨ (if (σ 53 (Int32.toNatClampNeg p1)) < p2 then 0 else 1 : Int32) = 1) ∧ (r = some (.int (if (σ 53 (Int32.toNatClampNeg p1)) < p2 then 0 else 1 : Int32)) ∧ X' = (am_TT cu L, am_RR cu, σ))))))) :
    am_Go l D DA b sz d M_R_isLeft (0, [some (.ref 47), some (.int p1), some (.int p2)], [], (am_TT cu L, am_RR cu, σ)) r X' := by
  refine go_steps q_R_isLeft kc_R_isLeft 3 rfl ?_
  obtain ⟨hc1, hv⟩ := hv
  refine go_baload q_R_isLeft kc_R_isLeft rfl rfl hc1 ?_
  refine go_steps q_R_isLeft kc_R_isLeft 1 rfl ?_
  refine go_if (fun hb => ?_) (fun hb => ?_)
  · have hb : (σ 56 (Int32.toNatClampNeg p1)) = 0 := hb
    replace hv := hv.1 hb
    refine go_steps q_R_isLeft kc_R_isLeft 1 rfl ?_
    obtain ⟨rfl, rfl⟩ := hv
    exact go_retI q_R_isLeft kc_R_isLeft rfl rfl rfl
  · have hb : ¬ ((σ 56 (Int32.toNatClampNeg p1)) = 0) := hb
    replace hv := hv.2 hb
    refine go_steps q_R_isLeft kc_R_isLeft 3 rfl ?_
    obtain ⟨hc2, hv⟩ := hv
    refine go_iaload q_R_isLeft kc_R_isLeft rfl rfl hc2 ?_
    refine go_steps q_R_isLeft kc_R_isLeft 2 rfl ?_
    have key : am_Go l D DA b sz d M_R_isLeft (24, [some (.ref 47), some (.int p1), some (.int p2)], [.int (if (σ 53 (Int32.toNatClampNeg p1)) < p2 then 0 else 1 : Int32)], (am_TT cu L, am_RR cu, σ)) r X' := by
      obtain ⟨hc, rfl, rfl⟩ := hv
      exact go_retI q_R_isLeft kc_R_isLeft rfl rfl (am_nar hc)
    refine go_if (fun hb => ?_) (fun hb => ?_)
    · have hb : (σ 53 (Int32.toNatClampNeg p1)) < p2 := hb
      rw [show (if (σ 53 (Int32.toNatClampNeg p1)) < p2 then 0 else 1 : Int32) = 0 from if_pos hb] at key
      refine go_steps q_R_isLeft kc_R_isLeft 1 rfl ?_
      exact key
    · have hb : ¬ ((σ 53 (Int32.toNatClampNeg p1)) < p2) := hb
      rw [show (if (σ 53 (Int32.toNatClampNeg p1)) < p2 then 0 else 1 : Int32) = 1 from if_neg hb] at key
      refine go_steps q_R_isLeft kc_R_isLeft 2 rfl ?_
      exact key
set_option maxHeartbeats 4000000 in
set_option maxRecDepth 100000 in
theorem v_R_weights_0 {l : Launch} {D : va_G} {DA : Nat → ClassId} {b sz d L : Nat} {cu : Bool} {σ : Nat → Nat → Int32} {r : Option Value} {X' : am_X} (p1 : Int32)
    (hv : am_Go l D DA b sz (d + 1) M_R_weights (4, [some (.ref 47), some (.int p1), some (.int 0), some (.int 0)], [], (am_TT cu L, am_RR cu, σ)) r X') :
    am_Go l D DA b sz (d + 1) M_R_weights (0, [some (.ref 47), some (.int p1), none, none], [], (am_TT cu L, am_RR cu, σ)) r X' := by
  refine go_steps q_R_weights kc_R_weights 4 rfl ?_
  refine go_le (L1 := [some (.ref 47), some (.int p1), some (.int 0), some (.int 0)]) (by repeat (first | exact trivial | refine ⟨rfl, ?_⟩)) ?_
  exact hv
set_option maxHeartbeats 4000000 in
set_option maxRecDepth 100000 in
theorem v_R_weights_4 {l : Launch} {D : va_G} {DA : Nat → ClassId} {b sz d L : Nat} {cu : Bool} {σ : Nat → Nat → Int32} {r : Option Value} {X' : am_X} (p1 : Int32) (p2 : Int32) (p3 : Int32)
    (hv : (((σ 47 0) ≤ p3) → (r = some (.int p2) ∧ X' = (am_TT cu L, am_RR cu, σ))) ∧ (¬ ((σ 47 0) ≤ p3) → (∃ (r1 : Int32) (σ1 : Nat → Nat → Int32), am_Go l D DA b sz d M_R_isLeft (0, [some (.ref 47), some (.int p3), some (.int p1)], [], (am_TT cu L, am_RR cu, σ)) (some (.int r1)) (am_TT cu L, am_RR cu, σ1) ∧ (((r1 = 0) → (am_Go l D DA b sz (d + 1) M_R_weights (4, [some (.ref 47), some (.int p1), some (.int (p2 + 0)), some (.int (p3 + 1))], [], (am_TT cu L, am_RR cu, σ1)) r X')) ∧ (¬ (r1 = 0) → ((¬ (p3 < 0 ∨ 20 ≤ Int32.toNatClampNeg p3)) ∧ (am_Go l D DA b sz (d + 1) M_R_weights (4, [some (.ref 47), some (.int p1), some (.int (p2 + (σ1 51 (Int32.toNatClampNeg p3)))), some (.int (p3 + 1))], [], (am_TT cu L, am_RR cu, σ1)) r X'))))))) :
    am_Go l D DA b sz (d + 1) M_R_weights (4, [some (.ref 47), some (.int p1), some (.int p2), some (.int p3)], [], (am_TT cu L, am_RR cu, σ)) r X' := by
  refine go_steps q_R_weights kc_R_weights 4 rfl ?_
  refine go_if (fun hb => ?_) (fun hb => ?_)
  · have hb : (σ 47 0) ≤ p3 := hb
    replace hv := hv.1 hb
    refine go_steps q_R_weights kc_R_weights 1 rfl ?_
    obtain ⟨rfl, rfl⟩ := hv
    exact go_retI q_R_weights kc_R_weights rfl rfl rfl
  · have hb : ¬ ((σ 47 0) ≤ p3) := hb
    replace hv := hv.2 hb
    refine go_steps q_R_weights kc_R_weights 4 rfl ?_
    obtain ⟨r1, σ1, hg, hv⟩ := hv
    refine go_callV q_R_weights kc_R_weights rfl q_R_isLeft am_k134 ⟨rfl, rfl, by decide⟩ rfl rfl (Nat.le_of_ble_eq_true rfl) (Nat.le_of_ble_eq_true rfl) rfl rfl hg ?_
    refine go_steps q_R_weights kc_R_weights 1 rfl ?_
    refine go_if (fun hb => ?_) (fun hb => ?_)
    · have hb : r1 = 0 := hb
      replace hv := hv.1 hb
      refine go_steps q_R_weights kc_R_weights 5 rfl ?_
      refine go_le (L1 := [some (.ref 47), some (.int p1), some (.int (p2 + 0)), some (.int (p3 + 1))]) (by repeat (first | exact trivial | refine ⟨rfl, ?_⟩)) ?_
      exact hv
    · have hb : ¬ (r1 = 0) := hb
      replace hv := hv.2 hb
      refine go_steps q_R_weights kc_R_weights 3 rfl ?_
      obtain ⟨hc1, hv⟩ := hv
      refine go_iaload q_R_weights kc_R_weights rfl rfl hc1 ?_
      refine go_steps q_R_weights kc_R_weights 5 rfl ?_
      refine go_le (L1 := [some (.ref 47), some (.int p1), some (.int (p2 + (σ1 51 (Int32.toNatClampNeg p3)))), some (.int (p3 + 1))]) (by repeat (first | exact trivial | refine ⟨rfl, ?_⟩)) ?_
      exact hv
set_option maxHeartbeats 4000000 in
set_option maxRecDepth 100000 in
theorem v_R_over_0 {l : Launch} {D : va_G} {DA : Nat → ClassId} {b sz d L : Nat} {cu : Bool} {σ : Nat → Nat → Int32} {r : Option Value} {X' : am_X} (p1 : Int32)
    (hv : (∃ (r1 : Int32) (σ1 : Nat → Nat → Int32), am_Go l D DA b sz d M_R_in (0, [some (.int p1), some (.int 0), some (.int 6)], [], (am_TT cu L, am_RR cu, σ)) (some (.int r1)) (am_TT cu L, am_RR cu, σ1) ∧ (((r1 = 0) → (r = some (.int (-2)) ∧ X' = (am_TT cu L, am_RR cu, σ1))) ∧ (¬ (r1 = 0) → (∃ (r2 : Int32) (σ2 : Nat → Nat → Int32), am_Go l D DA b sz d M_R_overAt (0, [some (.ref 47), some (.int p1), none, none, none, none, none, none, none], [], (am_TT cu L, am_RR cu, σ1)) (some (.int r2)) (am_TT cu L, am_RR cu, σ2) ∧ (r = some (.int r2) ∧ X' = (am_TT cu L, am_RR cu, σ2))))))) :
    am_Go l D DA b sz (d + 1) M_R_over (0, [some (.ref 47), some (.int p1)], [], (am_TT cu L, am_RR cu, σ)) r X' := by
  refine go_steps q_R_over kc_R_over 3 rfl ?_
  obtain ⟨r1, σ1, hg, hv⟩ := hv
  refine go_callS q_R_over kc_R_over rfl q_R_in am_k100 rfl rfl rfl (Nat.le_of_ble_eq_true rfl) (Nat.le_of_ble_eq_true rfl) hg ?_
  refine go_steps q_R_over kc_R_over 1 rfl ?_
  refine go_if (fun hb => ?_) (fun hb => ?_)
  · have hb : r1 = 0 := hb
    replace hv := hv.1 hb
    refine go_steps q_R_over kc_R_over 1 rfl ?_
    obtain ⟨rfl, rfl⟩ := hv
    exact go_retI q_R_over kc_R_over rfl rfl rfl
  · have hb : ¬ (r1 = 0) := hb
    replace hv := hv.2 hb
    refine go_steps q_R_over kc_R_over 2 rfl ?_
    obtain ⟨r2, σ2, hg, hv⟩ := hv
    refine go_callV q_R_over kc_R_over rfl q_R_overAt am_k137 ⟨rfl, rfl, by decide⟩ rfl rfl (Nat.le_of_ble_eq_true rfl) (Nat.le_of_ble_eq_true rfl) rfl rfl hg ?_
    refine go_steps q_R_over kc_R_over 1 rfl ?_
    obtain ⟨rfl, rfl⟩ := hv
    exact go_retI q_R_over kc_R_over rfl rfl rfl
set_option maxHeartbeats 4000000 in
set_option maxRecDepth 100000 in
theorem v_R_overAt_0 {l : Launch} {D : va_G} {DA : Nat → ClassId} {b sz d L : Nat} {cu : Bool} {σ : Nat → Nat → Int32} {r : Option Value} {X' : am_X} (p1 : Int32)
    (hv : (∃ (r1 : Int32) (σ1 : Nat → Nat → Int32), am_Go l D DA b sz d M_R_weights (0, [some (.ref 47), some (.int p1), none, none], [], (am_TT cu L, am_RR cu, σ)) (some (.int r1)) (am_TT cu L, am_RR cu, σ1) ∧ (((r1 = 0) → (r = some (.int 0) ∧ X' = (am_TT cu L, am_RR cu, σ1))) ∧ (¬ (r1 = 0) → (∃ (r2 : Int32) (σ2 : Nat → Nat → Int32), am_Go l D DA b sz d M_R_axleOf (0, [some (.ref 47), some (.int 0), some (.int p1), none, none], [], (am_TT cu L, am_RR cu, σ1)) (some (.int r2)) (am_TT cu L, am_RR cu, σ2) ∧ ((∃ (r3 : Int32) (σ3 : Nat → Nat → Int32), am_Go l D DA b sz d M_R_axleOf (0, [some (.ref 47), some (.int 1), some (.int p1), none, none], [], (am_TT cu L, am_RR cu, σ2)) (some (.int r3)) (am_TT cu L, am_RR cu, σ3) ∧ (((r2 < 0) → (((r3 < 0) → (am_Go l D DA b sz (d + 1) M_R_overAt (105, [some (.ref 47), some (.int p1), some (.int r1), none, none, none, some (.int (1 ||| 2)), some (.int ((-(σ3 47 15)) * r1)), some (.int 0)], [], (am_TT cu L, am_RR cu, σ3)) r X')) ∧ (¬ (r3 < 0) → ((((lg_cmp (Int32.toInt64 r3) ((Int32.toInt64 (σ3 47 21)) * (Int32.toInt64 (2 * ((σ1 47 19) - (σ1 47 18)))))) ≤ 0) → (am_Go l D DA b sz (d + 1) M_R_overAt (105, [some (.ref 47), some (.int p1), some (.int r1), none, none, none, some (.int 1), some (.int ((-(σ3 47 15)) * r1)), some (.int 0)], [], (am_TT cu L, am_RR cu, σ3)) r X')) ∧ (¬ ((lg_cmp (Int32.toInt64 r3) ((Int32.toInt64 (σ3 47 21)) * (Int32.toInt64 (2 * ((σ1 47 19) - (σ1 47 18)))))) ≤ 0) → (am_Go l D DA b sz (d + 1) M_R_overAt (105, [some (.ref 47), some (.int p1), some (.int r1), none, none, none, some (.int (1 ||| 2)), some (.int ((-(σ3 47 15)) * r1)), some (.int 0)], [], (am_TT cu L, am_RR cu, σ3)) r X')))))) ∧ (¬ (r2 < 0) → (((r3 < 0) → (am_Go l D DA b sz (d + 1) M_R_overAt (105, [some (.ref 47), some (.int p1), some (.int r1), none, none, none, some (.int ((if (lg_cmp (Int32.toInt64 r2) ((Int32.toInt64 (σ3 47 20)) * (Int32.toInt64 (2 * ((σ1 47 19) - (σ1 47 18)))))) ≤ 0 then 0 else 1 : Int32) ||| 2)), some (.int ((-(σ3 47 15)) * r1)), some (.int 0)], [], (am_TT cu L, am_RR cu, σ3)) r X')) ∧ (¬ (r3 < 0) → ((((lg_cmp (Int32.toInt64 r3) ((Int32.toInt64 (σ3 47 21)) * (Int32.toInt64 (2 * ((σ1 47 19) - (σ1 47 18)))))) ≤ 0) → (am_Go l D DA b sz (d + 1) M_R_overAt (105, [some (.ref 47), some (.int p1), some (.int r1), none, none, none, some (.int (if (lg_cmp (Int32.toInt64 r2) ((Int32.toInt64 (σ3 47 20)) * (Int32.toInt64 (2 * ((σ1 47 19) - (σ1 47 18)))))) ≤ 0 then 0 else 1 : Int32)), some (.int ((-(σ3 47 15)) * r1)), some (.int 0)], [], (am_TT cu L, am_RR cu, σ3)) r X')) ∧ (¬ ((lg_cmp (Int32.toInt64 r3) ((Int32.toInt64 (σ3 47 21)) * (Int32.toInt64 (2 * ((σ1 47 19) - (σ1 47 18)))))) ≤ 0) → (am_Go l D DA b sz (d + 1) M_R_overAt (105, [some (.ref 47), some (.int p1), some (.int r1), none, none, none, some (.int ((if (lg_cmp (Int32.toInt64 r2) ((Int32.toInt64 (σ3 47 20)) * (Int32.toInt64 (2 * ((σ1 47 19) - (σ1 47 18)))))) ≤ 0 then 0 else 1 : Int32) ||| 2)), some (.int ((-(σ3 47 15)) * r1)), some (.int 0)], [], (am_TT cu L, am_RR cu, σ3)) r X')))))))))))))) :
    am_Go l D DA b sz (d + 1) M_R_overAt (0, [some (.ref 47), some (.int p1), none, none, none, none, none, none, none], [], (am_TT cu L, am_RR cu, σ)) r X' := by
  refine go_steps q_R_overAt kc_R_overAt 2 rfl ?_
  obtain ⟨r1, σ1, hg, hv⟩ := hv
  refine go_callV q_R_overAt kc_R_overAt rfl q_R_weights am_k135 ⟨rfl, rfl, by decide⟩ rfl rfl (Nat.le_of_ble_eq_true rfl) (Nat.le_of_ble_eq_true rfl) rfl rfl hg ?_
  refine go_steps q_R_overAt kc_R_overAt 3 rfl ?_
  refine go_if (fun hb => ?_) (fun hb => ?_)
  · have hb : r1 = 0 := hb
    replace hv := hv.1 hb
    refine go_steps q_R_overAt kc_R_overAt 1 rfl ?_
    obtain ⟨rfl, rfl⟩ := hv
    exact go_retI q_R_overAt kc_R_overAt rfl rfl rfl
  · have hb : ¬ (r1 = 0) := hb
    replace hv := hv.2 hb
    refine go_steps q_R_overAt kc_R_overAt 11 rfl ?_
    obtain ⟨r2, σ2, hg, hv⟩ := hv
    refine go_callV q_R_overAt kc_R_overAt rfl q_R_axleOf am_k133 ⟨rfl, rfl, by decide⟩ rfl rfl (Nat.le_of_ble_eq_true rfl) (Nat.le_of_ble_eq_true rfl) rfl rfl hg ?_
    refine go_steps q_R_overAt kc_R_overAt 4 rfl ?_
    obtain ⟨r3, σ3, hg, hv⟩ := hv
    refine go_callV q_R_overAt kc_R_overAt rfl q_R_axleOf am_k133 ⟨rfl, rfl, by decide⟩ rfl rfl (Nat.le_of_ble_eq_true rfl) (Nat.le_of_ble_eq_true rfl) rfl rfl hg ?_
    refine go_steps q_R_overAt kc_R_overAt 3 rfl ?_
    refine go_if (fun hb => ?_) (fun hb => ?_)
    · have hb : r2 < 0 := hb
      replace hv := hv.1 hb
      refine go_steps q_R_overAt kc_R_overAt 5 rfl ?_
      refine go_if (fun hb => ?_) (fun hb => ?_)
      · have hb : r3 < 0 := hb
        replace hv := hv.1 hb
        refine go_steps q_R_overAt kc_R_overAt 12 rfl ?_
        refine go_le (L1 := [some (.ref 47), some (.int p1), some (.int r1), none, none, none, some (.int (1 ||| 2)), some (.int ((-(σ3 47 15)) * r1)), some (.int 0)]) (by repeat (first | exact trivial | refine ⟨rfl, ?_⟩)) ?_
        exact hv
      · have hb : ¬ (r3 < 0) := hb
        replace hv := hv.2 hb
        refine go_steps q_R_overAt kc_R_overAt 10 rfl ?_
        refine go_if (fun hb => ?_) (fun hb => ?_)
        · have hb : (lg_cmp (Int32.toInt64 r3) ((Int32.toInt64 (σ3 47 21)) * (Int32.toInt64 (2 * ((σ1 47 19) - (σ1 47 18)))))) ≤ 0 := hb
          replace hv := hv.1 hb
          refine go_steps q_R_overAt kc_R_overAt 8 rfl ?_
          refine go_le (L1 := [some (.ref 47), some (.int p1), some (.int r1), none, none, none, some (.int 1), some (.int ((-(σ3 47 15)) * r1)), some (.int 0)]) (by repeat (first | exact trivial | refine ⟨rfl, ?_⟩)) ?_
          exact hv
        · have hb : ¬ ((lg_cmp (Int32.toInt64 r3) ((Int32.toInt64 (σ3 47 21)) * (Int32.toInt64 (2 * ((σ1 47 19) - (σ1 47 18)))))) ≤ 0) := hb
          replace hv := hv.2 hb
          refine go_steps q_R_overAt kc_R_overAt 12 rfl ?_
          refine go_le (L1 := [some (.ref 47), some (.int p1), some (.int r1), none, none, none, some (.int (1 ||| 2)), some (.int ((-(σ3 47 15)) * r1)), some (.int 0)]) (by repeat (first | exact trivial | refine ⟨rfl, ?_⟩)) ?_
          exact hv
    · have hb : ¬ (r2 < 0) := hb
      replace hv := hv.2 hb
      refine go_steps q_R_overAt kc_R_overAt 10 rfl ?_
      have key : am_Go l D DA b sz (d + 1) M_R_overAt (65, [some (.ref 47), some (.int p1), some (.int r1), some (.int (2 * ((σ1 47 19) - (σ1 47 18)))), some (.int r2), some (.int r3), none, none, none], [.int (if (lg_cmp (Int32.toInt64 r2) ((Int32.toInt64 (σ3 47 20)) * (Int32.toInt64 (2 * ((σ1 47 19) - (σ1 47 18)))))) ≤ 0 then 0 else 1 : Int32)], (am_TT cu L, am_RR cu, σ3)) r X' := by
        refine go_steps q_R_overAt kc_R_overAt 3 rfl ?_
        refine go_if (fun hb => ?_) (fun hb => ?_)
        · have hb : r3 < 0 := hb
          replace hv := hv.1 hb
          refine go_steps q_R_overAt kc_R_overAt 12 rfl ?_
          refine go_le (L1 := [some (.ref 47), some (.int p1), some (.int r1), none, none, none, some (.int ((if (lg_cmp (Int32.toInt64 r2) ((Int32.toInt64 (σ3 47 20)) * (Int32.toInt64 (2 * ((σ1 47 19) - (σ1 47 18)))))) ≤ 0 then 0 else 1 : Int32) ||| 2)), some (.int ((-(σ3 47 15)) * r1)), some (.int 0)]) (by repeat (first | exact trivial | refine ⟨rfl, ?_⟩)) ?_
          exact hv
        · have hb : ¬ (r3 < 0) := hb
          replace hv := hv.2 hb
          refine go_steps q_R_overAt kc_R_overAt 10 rfl ?_
          refine go_if (fun hb => ?_) (fun hb => ?_)
          · have hb : (lg_cmp (Int32.toInt64 r3) ((Int32.toInt64 (σ3 47 21)) * (Int32.toInt64 (2 * ((σ1 47 19) - (σ1 47 18)))))) ≤ 0 := hb
            replace hv := hv.1 hb
            refine go_steps q_R_overAt kc_R_overAt 8 rfl ?_
            refine go_le (L1 := [some (.ref 47), some (.int p1), some (.int r1), none, none, none, some (.int (if (lg_cmp (Int32.toInt64 r2) ((Int32.toInt64 (σ3 47 20)) * (Int32.toInt64 (2 * ((σ1 47 19) - (σ1 47 18)))))) ≤ 0 then 0 else 1 : Int32)), some (.int ((-(σ3 47 15)) * r1)), some (.int 0)]) (by repeat (first | exact trivial | refine ⟨rfl, ?_⟩)) ?_
            exact hv
          · have hb : ¬ ((lg_cmp (Int32.toInt64 r3) ((Int32.toInt64 (σ3 47 21)) * (Int32.toInt64 (2 * ((σ1 47 19) - (σ1 47 18)))))) ≤ 0) := hb
            replace hv := hv.2 hb
            refine go_steps q_R_overAt kc_R_overAt 12 rfl ?_
            refine go_le (L1 := [some (.ref 47), some (.int p1), some (.int r1), none, none, none, some (.int ((if (lg_cmp (Int32.toInt64 r2) ((Int32.toInt64 (σ3 47 20)) * (Int32.toInt64 (2 * ((σ1 47 19) - (σ1 47 18)))))) ≤ 0 then 0 else 1 : Int32) ||| 2)), some (.int ((-(σ3 47 15)) * r1)), some (.int 0)]) (by repeat (first | exact trivial | refine ⟨rfl, ?_⟩)) ?_
            exact hv
      refine go_if (fun hb => ?_) (fun hb => ?_)
      · have hb : (lg_cmp (Int32.toInt64 r2) ((Int32.toInt64 (σ3 47 20)) * (Int32.toInt64 (2 * ((σ1 47 19) - (σ1 47 18)))))) ≤ 0 := hb
        rw [show (if (lg_cmp (Int32.toInt64 r2) ((Int32.toInt64 (σ3 47 20)) * (Int32.toInt64 (2 * ((σ1 47 19) - (σ1 47 18)))))) ≤ 0 then 0 else 1 : Int32) = 0 from if_pos hb] at key
        refine go_steps q_R_overAt kc_R_overAt 1 rfl ?_
        exact key
      · have hb : ¬ ((lg_cmp (Int32.toInt64 r2) ((Int32.toInt64 (σ3 47 20)) * (Int32.toInt64 (2 * ((σ1 47 19) - (σ1 47 18)))))) ≤ 0) := hb
        rw [show (if (lg_cmp (Int32.toInt64 r2) ((Int32.toInt64 (σ3 47 20)) * (Int32.toInt64 (2 * ((σ1 47 19) - (σ1 47 18)))))) ≤ 0 then 0 else 1 : Int32) = 1 from if_neg hb] at key
        refine go_steps q_R_overAt kc_R_overAt 2 rfl ?_
        exact key
set_option maxHeartbeats 4000000 in
set_option maxRecDepth 100000 in
theorem v_R_overAt_105 {l : Launch} {D : va_G} {DA : Nat → ClassId} {b sz d L : Nat} {cu : Bool} {σ : Nat → Nat → Int32} {r : Option Value} {X' : am_X} (p1 : Int32) (p2 : Int32) (p6 : Int32) (p7 : Int32) (p8 : Int32)
    (hv : (((σ 47 0) ≤ p8) → ((((lg_cmp ((Int64.ofNat 100) * (Int32.toInt64 (if 0 ≤ p7 then p7 else -p7 : Int32))) (((Int32.toInt64 (σ 47 22)) * (Int32.toInt64 (σ 47 15))) * (Int32.toInt64 p2))) ≤ 0) → (r = some (.int p6) ∧ X' = (am_TT cu L, am_RR cu, σ))) ∧ (¬ ((lg_cmp ((Int64.ofNat 100) * (Int32.toInt64 (if 0 ≤ p7 then p7 else -p7 : Int32))) (((Int32.toInt64 (σ 47 22)) * (Int32.toInt64 (σ 47 15))) * (Int32.toInt64 p2))) ≤ 0) → (r = some (.int (p6 ||| 4)) ∧ X' = (am_TT cu L, am_RR cu, σ))))) ∧ (¬ ((σ 47 0) ≤ p8) → (∃ (r1 : Int32) (σ1 : Nat → Nat → Int32), am_Go l D DA b sz d M_R_isLeft (0, [some (.ref 47), some (.int p8), some (.int p1)], [], (am_TT cu L, am_RR cu, σ)) (some (.int r1)) (am_TT cu L, am_RR cu, σ1) ∧ (((r1 = 0) → (am_Go l D DA b sz (d + 1) M_R_overAt (105, [some (.ref 47), some (.int p1), some (.int p2), none, none, none, some (.int p6), some (.int (p7 + 0)), some (.int (p8 + 1))], [], (am_TT cu L, am_RR cu, σ1)) r X')) ∧ (¬ (r1 = 0) → ((¬ (p8 < 0 ∨ 20 ≤ Int32.toNatClampNeg p8)) ∧ ((¬ (p8 < 0 ∨ 20 ≤ Int32.toNatClampNeg p8)) ∧ (∃ (r2 : Int32) (σ2 : Nat → Nat → Int32), am_Go l D DA b sz d M_R_wideOf (0, [some (.ref 47), some (.int p8)], [], (am_TT cu L, am_RR cu, σ1)) (some (.int r2)) (am_TT cu L, am_RR cu, σ2) ∧ (am_Go l D DA b sz (d + 1) M_R_overAt (105, [some (.ref 47), some (.int p1), some (.int p2), none, none, none, some (.int p6), some (.int (p7 + ((σ1 51 (Int32.toNatClampNeg p8)) * ((2 * (σ1 58 (Int32.toNatClampNeg p8))) + r2)))), some (.int (p8 + 1))], [], (am_TT cu L, am_RR cu, σ2)) r X'))))))))) :
    am_Go l D DA b sz (d + 1) M_R_overAt (105, [some (.ref 47), some (.int p1), some (.int p2), none, none, none, some (.int p6), some (.int p7), some (.int p8)], [], (am_TT cu L, am_RR cu, σ)) r X' := by
  refine go_steps q_R_overAt kc_R_overAt 4 rfl ?_
  refine go_if (fun hb => ?_) (fun hb => ?_)
  · have hb : (σ 47 0) ≤ p8 := hb
    replace hv := hv.1 hb
    refine go_steps q_R_overAt kc_R_overAt 2 rfl ?_
    have key : am_Go l D DA b sz (d + 1) M_R_overAt (176, [some (.ref 47), some (.int p1), some (.int p2), none, none, none, some (.int p6), some (.int p7), some (.int p8)], [.int (if 0 ≤ p7 then p7 else -p7 : Int32)], (am_TT cu L, am_RR cu, σ)) r X' := by
      refine go_steps q_R_overAt kc_R_overAt 17 rfl ?_
      refine go_if (fun hb => ?_) (fun hb => ?_)
      · have hb : (lg_cmp ((Int64.ofNat 100) * (Int32.toInt64 (if 0 ≤ p7 then p7 else -p7 : Int32))) (((Int32.toInt64 (σ 47 22)) * (Int32.toInt64 (σ 47 15))) * (Int32.toInt64 p2))) ≤ 0 := hb
        replace hv := hv.1 hb
        refine go_steps q_R_overAt kc_R_overAt 1 rfl ?_
        obtain ⟨rfl, rfl⟩ := hv
        exact go_retI q_R_overAt kc_R_overAt rfl rfl rfl
      · have hb : ¬ ((lg_cmp ((Int64.ofNat 100) * (Int32.toInt64 (if 0 ≤ p7 then p7 else -p7 : Int32))) (((Int32.toInt64 (σ 47 22)) * (Int32.toInt64 (σ 47 15))) * (Int32.toInt64 p2))) ≤ 0) := hb
        replace hv := hv.2 hb
        refine go_steps q_R_overAt kc_R_overAt 5 rfl ?_
        obtain ⟨rfl, rfl⟩ := hv
        exact go_retI q_R_overAt kc_R_overAt rfl rfl rfl
    refine go_if (fun hb => ?_) (fun hb => ?_)
    · have hb : 0 ≤ p7 := hb
      rw [show (if 0 ≤ p7 then p7 else -p7 : Int32) = p7 from if_pos hb] at key
      refine go_steps q_R_overAt kc_R_overAt 1 rfl ?_
      exact key
    · have hb : ¬ (0 ≤ p7) := hb
      rw [show (if 0 ≤ p7 then p7 else -p7 : Int32) = (-p7) from if_neg hb] at key
      refine go_steps q_R_overAt kc_R_overAt 3 rfl ?_
      exact key
  · have hb : ¬ ((σ 47 0) ≤ p8) := hb
    replace hv := hv.2 hb
    refine go_steps q_R_overAt kc_R_overAt 4 rfl ?_
    obtain ⟨r1, σ1, hg, hv⟩ := hv
    refine go_callV q_R_overAt kc_R_overAt rfl q_R_isLeft am_k134 ⟨rfl, rfl, by decide⟩ rfl rfl (Nat.le_of_ble_eq_true rfl) (Nat.le_of_ble_eq_true rfl) rfl rfl hg ?_
    refine go_steps q_R_overAt kc_R_overAt 1 rfl ?_
    refine go_if (fun hb => ?_) (fun hb => ?_)
    · have hb : r1 = 0 := hb
      replace hv := hv.1 hb
      refine go_steps q_R_overAt kc_R_overAt 5 rfl ?_
      refine go_le (L1 := [some (.ref 47), some (.int p1), some (.int p2), none, none, none, some (.int p6), some (.int (p7 + 0)), some (.int (p8 + 1))]) (by repeat (first | exact trivial | refine ⟨rfl, ?_⟩)) ?_
      exact hv
    · have hb : ¬ (r1 = 0) := hb
      replace hv := hv.2 hb
      refine go_steps q_R_overAt kc_R_overAt 3 rfl ?_
      obtain ⟨hc1, hv⟩ := hv
      refine go_iaload q_R_overAt kc_R_overAt rfl rfl hc1 ?_
      refine go_steps q_R_overAt kc_R_overAt 4 rfl ?_
      obtain ⟨hc2, hv⟩ := hv
      refine go_iaload q_R_overAt kc_R_overAt rfl rfl hc2 ?_
      refine go_steps q_R_overAt kc_R_overAt 3 rfl ?_
      obtain ⟨r2, σ2, hg, hv⟩ := hv
      refine go_callV q_R_overAt kc_R_overAt rfl q_R_wideOf am_k111 ⟨rfl, rfl, by decide⟩ rfl rfl (Nat.le_of_ble_eq_true rfl) (Nat.le_of_ble_eq_true rfl) rfl rfl hg ?_
      refine go_steps q_R_overAt kc_R_overAt 7 rfl ?_
      refine go_le (L1 := [some (.ref 47), some (.int p1), some (.int p2), none, none, none, some (.int p6), some (.int (p7 + ((σ1 51 (Int32.toNatClampNeg p8)) * ((2 * (σ1 58 (Int32.toNatClampNeg p8))) + r2)))), some (.int (p8 + 1))]) (by repeat (first | exact trivial | refine ⟨rfl, ?_⟩)) ?_
      exact hv
set_option maxHeartbeats 4000000 in
set_option maxRecDepth 100000 in
theorem v_R_fit_0 {l : Launch} {D : va_G} {DA : Nat → ClassId} {b sz d L : Nat} {cu : Bool} {σ : Nat → Nat → Int32} {r : Option Value} {X' : am_X}
    (hv : am_Go l D DA b sz (d + 1) M_R_fit (2, [some (.ref 47), some (.int 0)], [], (am_TT cu L, am_RR cu, σ)) r X') :
    am_Go l D DA b sz (d + 1) M_R_fit (0, [some (.ref 47), none], [], (am_TT cu L, am_RR cu, σ)) r X' := by
  refine go_steps q_R_fit kc_R_fit 2 rfl ?_
  refine go_le (L1 := [some (.ref 47), some (.int 0)]) (by repeat (first | exact trivial | refine ⟨rfl, ?_⟩)) ?_
  exact hv
set_option maxHeartbeats 4000000 in
set_option maxRecDepth 100000 in
theorem v_R_fit_2 {l : Launch} {D : va_G} {DA : Nat → ClassId} {b sz d L : Nat} {cu : Bool} {σ : Nat → Nat → Int32} {r : Option Value} {X' : am_X} (p1 : Int32)
    (hv : ((7 ≤ p1) → (r = some (.int (-1)) ∧ X' = (am_TT cu L, am_RR cu, σ))) ∧ (¬ (7 ≤ p1) → (∃ (r1 : Int32) (σ1 : Nat → Nat → Int32), am_Go l D DA b sz d M_R_overAt (0, [some (.ref 47), some (.int p1), none, none, none, none, none, none, none], [], (am_TT cu L, am_RR cu, σ)) (some (.int r1)) (am_TT cu L, am_RR cu, σ1) ∧ (((r1 = 0) → (am_Go l D DA b sz (d + 1) M_R_fit (2, [some (.ref 47), some (.int (p1 + 1))], [], (am_TT cu L, am_RR cu, σ1)) r X')) ∧ (¬ (r1 = 0) → (r = some (.int p1) ∧ X' = (am_TT cu L, am_RR cu, σ1))))))) :
    am_Go l D DA b sz (d + 1) M_R_fit (2, [some (.ref 47), some (.int p1)], [], (am_TT cu L, am_RR cu, σ)) r X' := by
  refine go_steps q_R_fit kc_R_fit 3 rfl ?_
  refine go_if (fun hb => ?_) (fun hb => ?_)
  · have hb : 7 ≤ p1 := hb
    replace hv := hv.1 hb
    refine go_steps q_R_fit kc_R_fit 1 rfl ?_
    obtain ⟨rfl, rfl⟩ := hv
    exact go_retI q_R_fit kc_R_fit rfl rfl rfl
  · have hb : ¬ (7 ≤ p1) := hb
    replace hv := hv.2 hb
    refine go_steps q_R_fit kc_R_fit 2 rfl ?_
    obtain ⟨r1, σ1, hg, hv⟩ := hv
    refine go_callV q_R_fit kc_R_fit rfl q_R_overAt am_k137 ⟨rfl, rfl, by decide⟩ rfl rfl (Nat.le_of_ble_eq_true rfl) (Nat.le_of_ble_eq_true rfl) rfl rfl hg ?_
    refine go_steps q_R_fit kc_R_fit 1 rfl ?_
    refine go_if (fun hb => ?_) (fun hb => ?_)
    · have hb : r1 = 0 := hb
      replace hv := hv.1 hb
      refine go_steps q_R_fit kc_R_fit 2 rfl ?_
      refine go_le (L1 := [some (.ref 47), some (.int (p1 + 1))]) (by repeat (first | exact trivial | refine ⟨rfl, ?_⟩)) ?_
      exact hv
    · have hb : ¬ (r1 = 0) := hb
      replace hv := hv.2 hb
      refine go_steps q_R_fit kc_R_fit 1 rfl ?_
      obtain ⟨rfl, rfl⟩ := hv
      exact go_retI q_R_fit kc_R_fit rfl rfl rfl
set_option maxHeartbeats 4000000 in
set_option maxRecDepth 100000 in
theorem v_R_cut_0 {l : Launch} {D : va_G} {DA : Nat → ClassId} {b sz d L : Nat} {cu : Bool} {σ : Nat → Nat → Int32} {r : Option Value} {X' : am_X} (p1 : Int32) (p2 : Int32) (p3 : Int32)
    (hv : (∃ (r1 : Int32) (σ1 : Nat → Nat → Int32), am_Go l D DA b sz d M_R_in (0, [some (.int p1), some (.int 1), some (.int 16)], [], (am_TT cu L, am_RR cu, σ)) (some (.int r1)) (am_TT cu L, am_RR cu, σ1) ∧ (((r1 = 0) → (r = some (.int (-2)) ∧ X' = (am_TT cu L, am_RR cu, σ1))) ∧ (¬ (r1 = 0) → (∃ (r2 : Int32) (σ2 : Nat → Nat → Int32), am_Go l D DA b sz d M_R_in (0, [some (.int p2), some (.int 1), some (.int 16)], [], (am_TT cu L, am_RR cu, σ1)) (some (.int r2)) (am_TT cu L, am_RR cu, σ2) ∧ (((r2 = 0) → (r = some (.int (-2)) ∧ X' = (am_TT cu L, am_RR cu, σ2))) ∧ (¬ (r2 = 0) → (∃ (r3 : Int32) (σ3 : Nat → Nat → Int32), am_Go l D DA b sz d M_R_in (0, [some (.int p3), some (.int 1), some (.int 16)], [], (am_TT cu L, am_RR cu, σ2)) (some (.int r3)) (am_TT cu L, am_RR cu, σ3) ∧ (((r3 = 0) → (r = some (.int (-2)) ∧ X' = (am_TT cu L, am_RR cu, σ3))) ∧ (¬ (r3 = 0) → (∃ (σ4 : Nat → Nat → Int32), am_Go l D DA b sz d M_R_makeMost (0, [some (.ref 47), some (.int p1), some (.int p2), some (.int p3), none, none, none, none, none], [], (am_TT cu L, am_RR cu, σ3)) none (am_TT cu L, am_RR cu, σ4) ∧ ((∃ (σ5 : Nat → Nat → Int32), am_Go l D DA b sz d M_R_pattern (0, [some (.ref 47), some (.int 0), some (.int 0), some (.int 0), some (.int p1), some (.int p2), some (.int p3), none, none, none], [], (am_TT cu L, am_RR cu, am_us σ4 47 28 0)) none (am_TT cu L, am_RR cu, σ5) ∧ ((∃ (r6 : Int32) (σ6 : Nat → Nat → Int32), am_Go l D DA b sz d M_R_block (0, [some (.int p1), some (.int p2), some (.int p3)], [], (am_TT cu L, am_RR cu, σ5)) (some (.int r6)) (am_TT cu L, am_RR cu, σ6) ∧ ((¬ (r6 < 0 ∨ 4913 ≤ Int32.toNatClampNeg r6)) ∧ (r = some (.int (σ6 62 (Int32.toNatClampNeg r6))) ∧ X' = (am_TT cu L, am_RR cu, σ6)))))))))))))))))) :
    am_Go l D DA b sz (d + 1) M_R_cut (0, [some (.ref 47), some (.int p1), some (.int p2), some (.int p3)], [], (am_TT cu L, am_RR cu, σ)) r X' := by
  refine go_steps q_R_cut kc_R_cut 3 rfl ?_
  obtain ⟨r1, σ1, hg, hv⟩ := hv
  refine go_callS q_R_cut kc_R_cut rfl q_R_in am_k100 rfl rfl rfl (Nat.le_of_ble_eq_true rfl) (Nat.le_of_ble_eq_true rfl) hg ?_
  refine go_steps q_R_cut kc_R_cut 1 rfl ?_
  refine go_if (fun hb => ?_) (fun hb => ?_)
  · have hb : r1 = 0 := hb
    replace hv := hv.1 hb
    refine go_steps q_R_cut kc_R_cut 1 rfl ?_
    obtain ⟨rfl, rfl⟩ := hv
    exact go_retI q_R_cut kc_R_cut rfl rfl rfl
  · have hb : ¬ (r1 = 0) := hb
    replace hv := hv.2 hb
    refine go_steps q_R_cut kc_R_cut 3 rfl ?_
    obtain ⟨r2, σ2, hg, hv⟩ := hv
    refine go_callS q_R_cut kc_R_cut rfl q_R_in am_k100 rfl rfl rfl (Nat.le_of_ble_eq_true rfl) (Nat.le_of_ble_eq_true rfl) hg ?_
    refine go_steps q_R_cut kc_R_cut 1 rfl ?_
    refine go_if (fun hb => ?_) (fun hb => ?_)
    · have hb : r2 = 0 := hb
      replace hv := hv.1 hb
      refine go_steps q_R_cut kc_R_cut 1 rfl ?_
      obtain ⟨rfl, rfl⟩ := hv
      exact go_retI q_R_cut kc_R_cut rfl rfl rfl
    · have hb : ¬ (r2 = 0) := hb
      replace hv := hv.2 hb
      refine go_steps q_R_cut kc_R_cut 3 rfl ?_
      obtain ⟨r3, σ3, hg, hv⟩ := hv
      refine go_callS q_R_cut kc_R_cut rfl q_R_in am_k100 rfl rfl rfl (Nat.le_of_ble_eq_true rfl) (Nat.le_of_ble_eq_true rfl) hg ?_
      refine go_steps q_R_cut kc_R_cut 1 rfl ?_
      refine go_if (fun hb => ?_) (fun hb => ?_)
      · have hb : r3 = 0 := hb
        replace hv := hv.1 hb
        refine go_steps q_R_cut kc_R_cut 1 rfl ?_
        obtain ⟨rfl, rfl⟩ := hv
        exact go_retI q_R_cut kc_R_cut rfl rfl rfl
      · have hb : ¬ (r3 = 0) := hb
        replace hv := hv.2 hb
        refine go_steps q_R_cut kc_R_cut 4 rfl ?_
        obtain ⟨σ4, hg, hv⟩ := hv
        refine go_callV q_R_cut kc_R_cut rfl q_R_makeMost am_k140 ⟨rfl, rfl, by decide⟩ rfl rfl (Nat.le_of_ble_eq_true rfl) (Nat.le_of_ble_eq_true rfl) rfl rfl hg ?_
        refine go_steps q_R_cut kc_R_cut 10 rfl ?_
        obtain ⟨σ5, hg, hv⟩ := hv
        refine go_callV q_R_cut kc_R_cut rfl q_R_pattern am_k144 ⟨rfl, rfl, by decide⟩ rfl rfl (Nat.le_of_ble_eq_true rfl) (Nat.le_of_ble_eq_true rfl) rfl rfl hg ?_
        refine go_steps q_R_cut kc_R_cut 5 rfl ?_
        obtain ⟨r6, σ6, hg, hv⟩ := hv
        refine go_callS q_R_cut kc_R_cut rfl q_R_block am_k142 rfl rfl rfl (Nat.le_of_ble_eq_true rfl) (Nat.le_of_ble_eq_true rfl) hg ?_
        obtain ⟨hc1, hv⟩ := hv
        refine go_iaload q_R_cut kc_R_cut rfl rfl hc1 ?_
        obtain ⟨rfl, rfl⟩ := hv
        exact go_retI q_R_cut kc_R_cut rfl rfl rfl
set_option maxHeartbeats 4000000 in
set_option maxRecDepth 100000 in
theorem v_R_makeMost_0 {l : Launch} {D : va_G} {DA : Nat → ClassId} {b sz d L : Nat} {cu : Bool} {σ : Nat → Nat → Int32} {r : Option Value} {X' : am_X} (p1 : Int32) (p2 : Int32) (p3 : Int32)
    (hv : am_Go l D DA b sz (d + 1) M_R_makeMost (3, [some (.ref 47), some (.int p1), some (.int p2), some (.int p3), some (.int 1), none, none, none, none], [], (am_TT cu L, am_RR cu, σ)) r X') :
    am_Go l D DA b sz (d + 1) M_R_makeMost (0, [some (.ref 47), some (.int p1), some (.int p2), some (.int p3), none, none, none, none, none], [], (am_TT cu L, am_RR cu, σ)) r X' := by
  refine go_steps q_R_makeMost kc_R_makeMost 2 rfl ?_
  refine go_le (L1 := [some (.ref 47), some (.int p1), some (.int p2), some (.int p3), some (.int 1), none, none, none, none]) (by repeat (first | exact trivial | refine ⟨rfl, ?_⟩)) ?_
  exact hv
set_option maxHeartbeats 4000000 in
set_option maxRecDepth 100000 in
theorem v_R_makeMost_3 {l : Launch} {D : va_G} {DA : Nat → ClassId} {b sz d L : Nat} {cu : Bool} {σ : Nat → Nat → Int32} {r : Option Value} {X' : am_X} (p1 : Int32) (p2 : Int32) (p3 : Int32) (p4 : Int32)
    (hv : ((p1 < p4) → (r = none ∧ X' = (am_TT cu L, am_RR cu, σ))) ∧ (¬ (p1 < p4) → (am_Go l D DA b sz (d + 1) M_R_makeMost (12, [some (.ref 47), some (.int p1), some (.int p2), some (.int p3), some (.int p4), some (.int 1), none, none, none], [], (am_TT cu L, am_RR cu, σ)) r X'))) :
    am_Go l D DA b sz (d + 1) M_R_makeMost (3, [some (.ref 47), some (.int p1), some (.int p2), some (.int p3), some (.int p4), none, none, none, none], [], (am_TT cu L, am_RR cu, σ)) r X' := by
  refine go_steps q_R_makeMost kc_R_makeMost 3 rfl ?_
  refine go_if (fun hb => ?_) (fun hb => ?_)
  · have hb : p1 < p4 := hb
    replace hv := hv.1 hb
    obtain ⟨rfl, rfl⟩ := hv
    exact go_retV q_R_makeMost kc_R_makeMost rfl rfl
  · have hb : ¬ (p1 < p4) := hb
    replace hv := hv.2 hb
    refine go_steps q_R_makeMost kc_R_makeMost 2 rfl ?_
    refine go_le (L1 := [some (.ref 47), some (.int p1), some (.int p2), some (.int p3), some (.int p4), some (.int 1), none, none, none]) (by repeat (first | exact trivial | refine ⟨rfl, ?_⟩)) ?_
    exact hv
set_option maxHeartbeats 4000000 in
set_option maxRecDepth 100000 in
theorem v_R_makeMost_12 {l : Launch} {D : va_G} {DA : Nat → ClassId} {b sz d L : Nat} {cu : Bool} {σ : Nat → Nat → Int32} {r : Option Value} {X' : am_X} (p1 : Int32) (p2 : Int32) (p3 : Int32) (p4 : Int32) (p5 : Int32)
    (hv : ((p2 < p5) → (am_Go l D DA b sz (d + 1) M_R_makeMost (3, [some (.ref 47), some (.int p1), some (.int p2), some (.int p3), some (.int (p4 + 1)), none, none, none, none], [], (am_TT cu L, am_RR cu, σ)) r X')) ∧ (¬ (p2 < p5) → (am_Go l D DA b sz (d + 1) M_R_makeMost (21, [some (.ref 47), some (.int p1), some (.int p2), some (.int p3), some (.int p4), some (.int p5), some (.int 1), none, none], [], (am_TT cu L, am_RR cu, σ)) r X'))) :
    am_Go l D DA b sz (d + 1) M_R_makeMost (12, [some (.ref 47), some (.int p1), some (.int p2), some (.int p3), some (.int p4), some (.int p5), none, none, none], [], (am_TT cu L, am_RR cu, σ)) r X' := by
  refine go_steps q_R_makeMost kc_R_makeMost 3 rfl ?_
  refine go_if (fun hb => ?_) (fun hb => ?_)
  · have hb : p2 < p5 := hb
    replace hv := hv.1 hb
    refine go_steps q_R_makeMost kc_R_makeMost 2 rfl ?_
    refine go_le (L1 := [some (.ref 47), some (.int p1), some (.int p2), some (.int p3), some (.int (p4 + 1)), none, none, none, none]) (by repeat (first | exact trivial | refine ⟨rfl, ?_⟩)) ?_
    exact hv
  · have hb : ¬ (p2 < p5) := hb
    replace hv := hv.2 hb
    refine go_steps q_R_makeMost kc_R_makeMost 2 rfl ?_
    refine go_le (L1 := [some (.ref 47), some (.int p1), some (.int p2), some (.int p3), some (.int p4), some (.int p5), some (.int 1), none, none]) (by repeat (first | exact trivial | refine ⟨rfl, ?_⟩)) ?_
    exact hv
set_option maxHeartbeats 4000000 in
set_option maxRecDepth 100000 in
theorem v_R_makeMost_21 {l : Launch} {D : va_G} {DA : Nat → ClassId} {b sz d L : Nat} {cu : Bool} {σ : Nat → Nat → Int32} {r : Option Value} {X' : am_X} (p1 : Int32) (p2 : Int32) (p3 : Int32) (p4 : Int32) (p5 : Int32) (p6 : Int32)
    (hv : ((p3 < p6) → (am_Go l D DA b sz (d + 1) M_R_makeMost (12, [some (.ref 47), some (.int p1), some (.int p2), some (.int p3), some (.int p4), some (.int (p5 + 1)), none, none, none], [], (am_TT cu L, am_RR cu, σ)) r X')) ∧ (¬ (p3 < p6) → (am_Go l D DA b sz (d + 1) M_R_makeMost (33, [some (.ref 47), some (.int p1), some (.int p2), some (.int p3), some (.int p4), some (.int p5), some (.int p6), some (.int 0), some (.int 0)], [], (am_TT cu L, am_RR cu, σ)) r X'))) :
    am_Go l D DA b sz (d + 1) M_R_makeMost (21, [some (.ref 47), some (.int p1), some (.int p2), some (.int p3), some (.int p4), some (.int p5), some (.int p6), none, none], [], (am_TT cu L, am_RR cu, σ)) r X' := by
  refine go_steps q_R_makeMost kc_R_makeMost 3 rfl ?_
  refine go_if (fun hb => ?_) (fun hb => ?_)
  · have hb : p3 < p6 := hb
    replace hv := hv.1 hb
    refine go_steps q_R_makeMost kc_R_makeMost 2 rfl ?_
    refine go_le (L1 := [some (.ref 47), some (.int p1), some (.int p2), some (.int p3), some (.int p4), some (.int (p5 + 1)), none, none, none]) (by repeat (first | exact trivial | refine ⟨rfl, ?_⟩)) ?_
    exact hv
  · have hb : ¬ (p3 < p6) := hb
    replace hv := hv.2 hb
    refine go_steps q_R_makeMost kc_R_makeMost 4 rfl ?_
    refine go_le (L1 := [some (.ref 47), some (.int p1), some (.int p2), some (.int p3), some (.int p4), some (.int p5), some (.int p6), some (.int 0), some (.int 0)]) (by repeat (first | exact trivial | refine ⟨rfl, ?_⟩)) ?_
    exact hv
set_option maxHeartbeats 4000000 in
set_option maxRecDepth 100000 in
theorem v_R_makeMost_33 {l : Launch} {D : va_G} {DA : Nat → ClassId} {b sz d L : Nat} {cu : Bool} {σ : Nat → Nat → Int32} {r : Option Value} {X' : am_X} (p1 : Int32) (p2 : Int32) (p3 : Int32) (p4 : Int32) (p5 : Int32) (p6 : Int32) (p7 : Int32) (p8 : Int32)
    (hv : (((σ 47 0) ≤ p8) → (am_Go l D DA b sz (d + 1) M_R_makeMost (104, [some (.ref 47), some (.int p1), some (.int p2), some (.int p3), some (.int p4), some (.int p5), some (.int p6), some (.int p7), some (.int 1)], [], (am_TT cu L, am_RR cu, σ)) r X')) ∧ (¬ ((σ 47 0) ≤ p8) → ((¬ (p8 < 0 ∨ 20 ≤ Int32.toNatClampNeg p8)) ∧ ((((σ 55 (Int32.toNatClampNeg p8)) ≤ p7) → (am_Go l D DA b sz (d + 1) M_R_makeMost (33, [some (.ref 47), some (.int p1), some (.int p2), some (.int p3), some (.int p4), some (.int p5), some (.int p6), some (.int p7), some (.int (p8 + 1))], [], (am_TT cu L, am_RR cu, σ)) r X')) ∧ (¬ ((σ 55 (Int32.toNatClampNeg p8)) ≤ p7) → (∃ (r1 : Int32) (σ1 : Nat → Nat → Int32), am_Go l D DA b sz d M_R_isPiece (0, [some (.ref 47), some (.int p8), some (.int p4), some (.int p5), some (.int p6), some (.int 0)], [], (am_TT cu L, am_RR cu, σ)) (some (.int r1)) (am_TT cu L, am_RR cu, σ1) ∧ (((r1 = 0) → (∃ (r2 : Int32) (σ2 : Nat → Nat → Int32), am_Go l D DA b sz d M_R_isPiece (0, [some (.ref 47), some (.int p8), some (.int p4), some (.int p5), some (.int p6), some (.int 1)], [], (am_TT cu L, am_RR cu, σ1)) (some (.int r2)) (am_TT cu L, am_RR cu, σ2) ∧ (((r2 = 0) → (am_Go l D DA b sz (d + 1) M_R_makeMost (33, [some (.ref 47), some (.int p1), some (.int p2), some (.int p3), some (.int p4), some (.int p5), some (.int p6), some (.int p7), some (.int (p8 + 1))], [], (am_TT cu L, am_RR cu, σ2)) r X')) ∧ (¬ (r2 = 0) → ((¬ (p8 < 0 ∨ 20 ≤ Int32.toNatClampNeg p8)) ∧ (am_Go l D DA b sz (d + 1) M_R_makeMost (33, [some (.ref 47), some (.int p1), some (.int p2), some (.int p3), some (.int p4), some (.int p5), some (.int p6), some (.int (σ2 55 (Int32.toNatClampNeg p8))), some (.int (p8 + 1))], [], (am_TT cu L, am_RR cu, σ2)) r X')))))) ∧ (¬ (r1 = 0) → ((¬ (p8 < 0 ∨ 20 ≤ Int32.toNatClampNeg p8)) ∧ (am_Go l D DA b sz (d + 1) M_R_makeMost (33, [some (.ref 47), some (.int p1), some (.int p2), some (.int p3), some (.int p4), some (.int p5), some (.int p6), some (.int (σ1 55 (Int32.toNatClampNeg p8))), some (.int (p8 + 1))], [], (am_TT cu L, am_RR cu, σ1)) r X')))))))))) :
    am_Go l D DA b sz (d + 1) M_R_makeMost (33, [some (.ref 47), some (.int p1), some (.int p2), some (.int p3), some (.int p4), some (.int p5), some (.int p6), some (.int p7), some (.int p8)], [], (am_TT cu L, am_RR cu, σ)) r X' := by
  refine go_steps q_R_makeMost kc_R_makeMost 4 rfl ?_
  refine go_if (fun hb => ?_) (fun hb => ?_)
  · have hb : (σ 47 0) ≤ p8 := hb
    replace hv := hv.1 hb
    refine go_steps q_R_makeMost kc_R_makeMost 2 rfl ?_
    refine go_le (L1 := [some (.ref 47), some (.int p1), some (.int p2), some (.int p3), some (.int p4), some (.int p5), some (.int p6), some (.int p7), some (.int 1)]) (by repeat (first | exact trivial | refine ⟨rfl, ?_⟩)) ?_
    exact hv
  · have hb : ¬ ((σ 47 0) ≤ p8) := hb
    replace hv := hv.2 hb
    refine go_steps q_R_makeMost kc_R_makeMost 3 rfl ?_
    obtain ⟨hc1, hv⟩ := hv
    refine go_iaload q_R_makeMost kc_R_makeMost rfl rfl hc1 ?_
    refine go_steps q_R_makeMost kc_R_makeMost 2 rfl ?_
    refine go_if (fun hb => ?_) (fun hb => ?_)
    · have hb : (σ 55 (Int32.toNatClampNeg p8)) ≤ p7 := hb
      replace hv := hv.1 hb
      refine go_steps q_R_makeMost kc_R_makeMost 2 rfl ?_
      refine go_le (L1 := [some (.ref 47), some (.int p1), some (.int p2), some (.int p3), some (.int p4), some (.int p5), some (.int p6), some (.int p7), some (.int (p8 + 1))]) (by repeat (first | exact trivial | refine ⟨rfl, ?_⟩)) ?_
      exact hv
    · have hb : ¬ ((σ 55 (Int32.toNatClampNeg p8)) ≤ p7) := hb
      replace hv := hv.2 hb
      refine go_steps q_R_makeMost kc_R_makeMost 6 rfl ?_
      obtain ⟨r1, σ1, hg, hv⟩ := hv
      refine go_callV q_R_makeMost kc_R_makeMost rfl q_R_isPiece am_k141 ⟨rfl, rfl, by decide⟩ rfl rfl (Nat.le_of_ble_eq_true rfl) (Nat.le_of_ble_eq_true rfl) rfl rfl hg ?_
      refine go_steps q_R_makeMost kc_R_makeMost 1 rfl ?_
      refine go_if (fun hb => ?_) (fun hb => ?_)
      · have hb : r1 = 0 := hb
        replace hv := hv.1 hb
        refine go_steps q_R_makeMost kc_R_makeMost 6 rfl ?_
        obtain ⟨r2, σ2, hg, hv⟩ := hv
        refine go_callV q_R_makeMost kc_R_makeMost rfl q_R_isPiece am_k141 ⟨rfl, rfl, by decide⟩ rfl rfl (Nat.le_of_ble_eq_true rfl) (Nat.le_of_ble_eq_true rfl) rfl rfl hg ?_
        refine go_steps q_R_makeMost kc_R_makeMost 1 rfl ?_
        refine go_if (fun hb => ?_) (fun hb => ?_)
        · have hb : r2 = 0 := hb
          replace hv := hv.1 hb
          refine go_steps q_R_makeMost kc_R_makeMost 2 rfl ?_
          refine go_le (L1 := [some (.ref 47), some (.int p1), some (.int p2), some (.int p3), some (.int p4), some (.int p5), some (.int p6), some (.int p7), some (.int (p8 + 1))]) (by repeat (first | exact trivial | refine ⟨rfl, ?_⟩)) ?_
          exact hv
        · have hb : ¬ (r2 = 0) := hb
          replace hv := hv.2 hb
          refine go_steps q_R_makeMost kc_R_makeMost 3 rfl ?_
          obtain ⟨hc2, hv⟩ := hv
          refine go_iaload q_R_makeMost kc_R_makeMost rfl rfl hc2 ?_
          refine go_steps q_R_makeMost kc_R_makeMost 3 rfl ?_
          refine go_le (L1 := [some (.ref 47), some (.int p1), some (.int p2), some (.int p3), some (.int p4), some (.int p5), some (.int p6), some (.int (σ2 55 (Int32.toNatClampNeg p8))), some (.int (p8 + 1))]) (by repeat (first | exact trivial | refine ⟨rfl, ?_⟩)) ?_
          exact hv
      · have hb : ¬ (r1 = 0) := hb
        replace hv := hv.2 hb
        refine go_steps q_R_makeMost kc_R_makeMost 3 rfl ?_
        obtain ⟨hc3, hv⟩ := hv
        refine go_iaload q_R_makeMost kc_R_makeMost rfl rfl hc3 ?_
        refine go_steps q_R_makeMost kc_R_makeMost 3 rfl ?_
        refine go_le (L1 := [some (.ref 47), some (.int p1), some (.int p2), some (.int p3), some (.int p4), some (.int p5), some (.int p6), some (.int (σ1 55 (Int32.toNatClampNeg p8))), some (.int (p8 + 1))]) (by repeat (first | exact trivial | refine ⟨rfl, ?_⟩)) ?_
        exact hv
set_option maxHeartbeats 4000000 in
set_option maxRecDepth 100000 in
theorem v_R_makeMost_104 {l : Launch} {D : va_G} {DA : Nat → ClassId} {b sz d L : Nat} {cu : Bool} {σ : Nat → Nat → Int32} {r : Option Value} {X' : am_X} (p1 : Int32) (p2 : Int32) (p3 : Int32) (p4 : Int32) (p5 : Int32) (p6 : Int32) (p7 : Int32) (p8 : Int32)
    (hv : ((p4 ≤ p8) → (am_Go l D DA b sz (d + 1) M_R_makeMost (159, [some (.ref 47), some (.int p1), some (.int p2), some (.int p3), some (.int p4), some (.int p5), some (.int p6), some (.int p7), some (.int 1)], [], (am_TT cu L, am_RR cu, σ)) r X')) ∧ (¬ (p4 ≤ p8) → (∃ (r1 : Int32) (σ1 : Nat → Nat → Int32), am_Go l D DA b sz d M_R_block (0, [some (.int p8), some (.int p5), some (.int p6)], [], (am_TT cu L, am_RR cu, σ)) (some (.int r1)) (am_TT cu L, am_RR cu, σ1) ∧ ((¬ (r1 < 0 ∨ 4913 ≤ Int32.toNatClampNeg r1)) ∧ (∃ (r2 : Int32) (σ2 : Nat → Nat → Int32), am_Go l D DA b sz d M_R_block (0, [some (.int (p4 - p8)), some (.int p5), some (.int p6)], [], (am_TT cu L, am_RR cu, σ1)) (some (.int r2)) (am_TT cu L, am_RR cu, σ2) ∧ ((¬ (r2 < 0 ∨ 4913 ≤ Int32.toNatClampNeg r2)) ∧ (∃ (r3 : Int32) (σ3 : Nat → Nat → Int32), am_Go l D DA b sz d M_R_greater (0, [some (.int p7), some (.int ((σ1 62 (Int32.toNatClampNeg r1)) + (σ2 62 (Int32.toNatClampNeg r2))))], [], (am_TT cu L, am_RR cu, σ2)) (some (.int r3)) (am_TT cu L, am_RR cu, σ3) ∧ (am_Go l D DA b sz (d + 1) M_R_makeMost (104, [some (.ref 47), some (.int p1), some (.int p2), some (.int p3), some (.int p4), some (.int p5), some (.int p6), some (.int r3), some (.int (p8 + 1))], [], (am_TT cu L, am_RR cu, σ3)) r X')))))))) :
    am_Go l D DA b sz (d + 1) M_R_makeMost (104, [some (.ref 47), some (.int p1), some (.int p2), some (.int p3), some (.int p4), some (.int p5), some (.int p6), some (.int p7), some (.int p8)], [], (am_TT cu L, am_RR cu, σ)) r X' := by
  refine go_steps q_R_makeMost kc_R_makeMost 3 rfl ?_
  refine go_if (fun hb => ?_) (fun hb => ?_)
  · have hb : p4 ≤ p8 := hb
    replace hv := hv.1 hb
    refine go_steps q_R_makeMost kc_R_makeMost 2 rfl ?_
    refine go_le (L1 := [some (.ref 47), some (.int p1), some (.int p2), some (.int p3), some (.int p4), some (.int p5), some (.int p6), some (.int p7), some (.int 1)]) (by repeat (first | exact trivial | refine ⟨rfl, ?_⟩)) ?_
    exact hv
  · have hb : ¬ (p4 ≤ p8) := hb
    replace hv := hv.2 hb
    refine go_steps q_R_makeMost kc_R_makeMost 6 rfl ?_
    obtain ⟨r1, σ1, hg, hv⟩ := hv
    refine go_callS q_R_makeMost kc_R_makeMost rfl q_R_block am_k142 rfl rfl rfl (Nat.le_of_ble_eq_true rfl) (Nat.le_of_ble_eq_true rfl) hg ?_
    obtain ⟨hc1, hv⟩ := hv
    refine go_iaload q_R_makeMost kc_R_makeMost rfl rfl hc1 ?_
    refine go_steps q_R_makeMost kc_R_makeMost 7 rfl ?_
    obtain ⟨r2, σ2, hg, hv⟩ := hv
    refine go_callS q_R_makeMost kc_R_makeMost rfl q_R_block am_k142 rfl rfl rfl (Nat.le_of_ble_eq_true rfl) (Nat.le_of_ble_eq_true rfl) hg ?_
    obtain ⟨hc2, hv⟩ := hv
    refine go_iaload q_R_makeMost kc_R_makeMost rfl rfl hc2 ?_
    refine go_steps q_R_makeMost kc_R_makeMost 1 rfl ?_
    obtain ⟨r3, σ3, hg, hv⟩ := hv
    refine go_callS q_R_makeMost kc_R_makeMost rfl q_R_greater am_k143 rfl rfl rfl (Nat.le_of_ble_eq_true rfl) (Nat.le_of_ble_eq_true rfl) hg ?_
    refine go_steps q_R_makeMost kc_R_makeMost 3 rfl ?_
    refine go_le (L1 := [some (.ref 47), some (.int p1), some (.int p2), some (.int p3), some (.int p4), some (.int p5), some (.int p6), some (.int r3), some (.int (p8 + 1))]) (by repeat (first | exact trivial | refine ⟨rfl, ?_⟩)) ?_
    exact hv
set_option maxHeartbeats 4000000 in
set_option maxRecDepth 100000 in
theorem v_R_makeMost_159 {l : Launch} {D : va_G} {DA : Nat → ClassId} {b sz d L : Nat} {cu : Bool} {σ : Nat → Nat → Int32} {r : Option Value} {X' : am_X} (p1 : Int32) (p2 : Int32) (p3 : Int32) (p4 : Int32) (p5 : Int32) (p6 : Int32) (p7 : Int32) (p8 : Int32)
    (hv : ((p5 ≤ p8) → (am_Go l D DA b sz (d + 1) M_R_makeMost (214, [some (.ref 47), some (.int p1), some (.int p2), some (.int p3), some (.int p4), some (.int p5), some (.int p6), some (.int p7), some (.int 1)], [], (am_TT cu L, am_RR cu, σ)) r X')) ∧ (¬ (p5 ≤ p8) → (∃ (r1 : Int32) (σ1 : Nat → Nat → Int32), am_Go l D DA b sz d M_R_block (0, [some (.int p4), some (.int p8), some (.int p6)], [], (am_TT cu L, am_RR cu, σ)) (some (.int r1)) (am_TT cu L, am_RR cu, σ1) ∧ ((¬ (r1 < 0 ∨ 4913 ≤ Int32.toNatClampNeg r1)) ∧ (∃ (r2 : Int32) (σ2 : Nat → Nat → Int32), am_Go l D DA b sz d M_R_block (0, [some (.int p4), some (.int (p5 - p8)), some (.int p6)], [], (am_TT cu L, am_RR cu, σ1)) (some (.int r2)) (am_TT cu L, am_RR cu, σ2) ∧ ((¬ (r2 < 0 ∨ 4913 ≤ Int32.toNatClampNeg r2)) ∧ (∃ (r3 : Int32) (σ3 : Nat → Nat → Int32), am_Go l D DA b sz d M_R_greater (0, [some (.int p7), some (.int ((σ1 62 (Int32.toNatClampNeg r1)) + (σ2 62 (Int32.toNatClampNeg r2))))], [], (am_TT cu L, am_RR cu, σ2)) (some (.int r3)) (am_TT cu L, am_RR cu, σ3) ∧ (am_Go l D DA b sz (d + 1) M_R_makeMost (159, [some (.ref 47), some (.int p1), some (.int p2), some (.int p3), some (.int p4), some (.int p5), some (.int p6), some (.int r3), some (.int (p8 + 1))], [], (am_TT cu L, am_RR cu, σ3)) r X')))))))) :
    am_Go l D DA b sz (d + 1) M_R_makeMost (159, [some (.ref 47), some (.int p1), some (.int p2), some (.int p3), some (.int p4), some (.int p5), some (.int p6), some (.int p7), some (.int p8)], [], (am_TT cu L, am_RR cu, σ)) r X' := by
  refine go_steps q_R_makeMost kc_R_makeMost 3 rfl ?_
  refine go_if (fun hb => ?_) (fun hb => ?_)
  · have hb : p5 ≤ p8 := hb
    replace hv := hv.1 hb
    refine go_steps q_R_makeMost kc_R_makeMost 2 rfl ?_
    refine go_le (L1 := [some (.ref 47), some (.int p1), some (.int p2), some (.int p3), some (.int p4), some (.int p5), some (.int p6), some (.int p7), some (.int 1)]) (by repeat (first | exact trivial | refine ⟨rfl, ?_⟩)) ?_
    exact hv
  · have hb : ¬ (p5 ≤ p8) := hb
    replace hv := hv.2 hb
    refine go_steps q_R_makeMost kc_R_makeMost 6 rfl ?_
    obtain ⟨r1, σ1, hg, hv⟩ := hv
    refine go_callS q_R_makeMost kc_R_makeMost rfl q_R_block am_k142 rfl rfl rfl (Nat.le_of_ble_eq_true rfl) (Nat.le_of_ble_eq_true rfl) hg ?_
    obtain ⟨hc1, hv⟩ := hv
    refine go_iaload q_R_makeMost kc_R_makeMost rfl rfl hc1 ?_
    refine go_steps q_R_makeMost kc_R_makeMost 7 rfl ?_
    obtain ⟨r2, σ2, hg, hv⟩ := hv
    refine go_callS q_R_makeMost kc_R_makeMost rfl q_R_block am_k142 rfl rfl rfl (Nat.le_of_ble_eq_true rfl) (Nat.le_of_ble_eq_true rfl) hg ?_
    obtain ⟨hc2, hv⟩ := hv
    refine go_iaload q_R_makeMost kc_R_makeMost rfl rfl hc2 ?_
    refine go_steps q_R_makeMost kc_R_makeMost 1 rfl ?_
    obtain ⟨r3, σ3, hg, hv⟩ := hv
    refine go_callS q_R_makeMost kc_R_makeMost rfl q_R_greater am_k143 rfl rfl rfl (Nat.le_of_ble_eq_true rfl) (Nat.le_of_ble_eq_true rfl) hg ?_
    refine go_steps q_R_makeMost kc_R_makeMost 3 rfl ?_
    refine go_le (L1 := [some (.ref 47), some (.int p1), some (.int p2), some (.int p3), some (.int p4), some (.int p5), some (.int p6), some (.int r3), some (.int (p8 + 1))]) (by repeat (first | exact trivial | refine ⟨rfl, ?_⟩)) ?_
    exact hv
set_option maxHeartbeats 4000000 in
set_option maxRecDepth 100000 in
theorem v_R_makeMost_214 {l : Launch} {D : va_G} {DA : Nat → ClassId} {b sz d L : Nat} {cu : Bool} {σ : Nat → Nat → Int32} {r : Option Value} {X' : am_X} (p1 : Int32) (p2 : Int32) (p3 : Int32) (p4 : Int32) (p5 : Int32) (p6 : Int32) (p7 : Int32) (p8 : Int32)
    (hv : ((p6 ≤ p8) → (∃ (r1 : Int32) (σ1 : Nat → Nat → Int32), am_Go l D DA b sz d M_R_block (0, [some (.int p4), some (.int p5), some (.int p6)], [], (am_TT cu L, am_RR cu, σ)) (some (.int r1)) (am_TT cu L, am_RR cu, σ1) ∧ ((¬ (r1 < 0 ∨ 4913 ≤ Int32.toNatClampNeg r1)) ∧ (am_Go l D DA b sz (d + 1) M_R_makeMost (21, [some (.ref 47), some (.int p1), some (.int p2), some (.int p3), some (.int p4), some (.int p5), some (.int (p6 + 1)), none, none], [], (am_TT cu L, am_RR cu, am_us σ1 62 (Int32.toNatClampNeg r1) p7)) r X')))) ∧ (¬ (p6 ≤ p8) → (∃ (r2 : Int32) (σ2 : Nat → Nat → Int32), am_Go l D DA b sz d M_R_block (0, [some (.int p4), some (.int p5), some (.int p8)], [], (am_TT cu L, am_RR cu, σ)) (some (.int r2)) (am_TT cu L, am_RR cu, σ2) ∧ ((¬ (r2 < 0 ∨ 4913 ≤ Int32.toNatClampNeg r2)) ∧ (∃ (r3 : Int32) (σ3 : Nat → Nat → Int32), am_Go l D DA b sz d M_R_block (0, [some (.int p4), some (.int p5), some (.int (p6 - p8))], [], (am_TT cu L, am_RR cu, σ2)) (some (.int r3)) (am_TT cu L, am_RR cu, σ3) ∧ ((¬ (r3 < 0 ∨ 4913 ≤ Int32.toNatClampNeg r3)) ∧ (∃ (r4 : Int32) (σ4 : Nat → Nat → Int32), am_Go l D DA b sz d M_R_greater (0, [some (.int p7), some (.int ((σ2 62 (Int32.toNatClampNeg r2)) + (σ3 62 (Int32.toNatClampNeg r3))))], [], (am_TT cu L, am_RR cu, σ3)) (some (.int r4)) (am_TT cu L, am_RR cu, σ4) ∧ (am_Go l D DA b sz (d + 1) M_R_makeMost (214, [some (.ref 47), some (.int p1), some (.int p2), some (.int p3), some (.int p4), some (.int p5), some (.int p6), some (.int r4), some (.int (p8 + 1))], [], (am_TT cu L, am_RR cu, σ4)) r X')))))))) :
    am_Go l D DA b sz (d + 1) M_R_makeMost (214, [some (.ref 47), some (.int p1), some (.int p2), some (.int p3), some (.int p4), some (.int p5), some (.int p6), some (.int p7), some (.int p8)], [], (am_TT cu L, am_RR cu, σ)) r X' := by
  refine go_steps q_R_makeMost kc_R_makeMost 3 rfl ?_
  refine go_if (fun hb => ?_) (fun hb => ?_)
  · have hb : p6 ≤ p8 := hb
    replace hv := hv.1 hb
    refine go_steps q_R_makeMost kc_R_makeMost 5 rfl ?_
    obtain ⟨r1, σ1, hg, hv⟩ := hv
    refine go_callS q_R_makeMost kc_R_makeMost rfl q_R_block am_k142 rfl rfl rfl (Nat.le_of_ble_eq_true rfl) (Nat.le_of_ble_eq_true rfl) hg ?_
    refine go_steps q_R_makeMost kc_R_makeMost 1 rfl ?_
    obtain ⟨hc, hv⟩ := hv
    refine go_iastore q_R_makeMost kc_R_makeMost rfl rfl hc ?_
    refine go_steps q_R_makeMost kc_R_makeMost 2 rfl ?_
    refine go_le (L1 := [some (.ref 47), some (.int p1), some (.int p2), some (.int p3), some (.int p4), some (.int p5), some (.int (p6 + 1)), none, none]) (by repeat (first | exact trivial | refine ⟨rfl, ?_⟩)) ?_
    exact hv
  · have hb : ¬ (p6 ≤ p8) := hb
    replace hv := hv.2 hb
    refine go_steps q_R_makeMost kc_R_makeMost 6 rfl ?_
    obtain ⟨r2, σ2, hg, hv⟩ := hv
    refine go_callS q_R_makeMost kc_R_makeMost rfl q_R_block am_k142 rfl rfl rfl (Nat.le_of_ble_eq_true rfl) (Nat.le_of_ble_eq_true rfl) hg ?_
    obtain ⟨hc1, hv⟩ := hv
    refine go_iaload q_R_makeMost kc_R_makeMost rfl rfl hc1 ?_
    refine go_steps q_R_makeMost kc_R_makeMost 7 rfl ?_
    obtain ⟨r3, σ3, hg, hv⟩ := hv
    refine go_callS q_R_makeMost kc_R_makeMost rfl q_R_block am_k142 rfl rfl rfl (Nat.le_of_ble_eq_true rfl) (Nat.le_of_ble_eq_true rfl) hg ?_
    obtain ⟨hc2, hv⟩ := hv
    refine go_iaload q_R_makeMost kc_R_makeMost rfl rfl hc2 ?_
    refine go_steps q_R_makeMost kc_R_makeMost 1 rfl ?_
    obtain ⟨r4, σ4, hg, hv⟩ := hv
    refine go_callS q_R_makeMost kc_R_makeMost rfl q_R_greater am_k143 rfl rfl rfl (Nat.le_of_ble_eq_true rfl) (Nat.le_of_ble_eq_true rfl) hg ?_
    refine go_steps q_R_makeMost kc_R_makeMost 3 rfl ?_
    refine go_le (L1 := [some (.ref 47), some (.int p1), some (.int p2), some (.int p3), some (.int p4), some (.int p5), some (.int p6), some (.int r4), some (.int (p8 + 1))]) (by repeat (first | exact trivial | refine ⟨rfl, ?_⟩)) ?_
    exact hv
set_option maxHeartbeats 4000000 in
set_option maxRecDepth 100000 in
theorem v_R_isPiece_0 {l : Launch} {D : va_G} {DA : Nat → ClassId} {b sz d L : Nat} {cu : Bool} {σ : Nat → Nat → Int32} {r : Option Value} {X' : am_X} (p1 : Int32) (p2 : Int32) (p3 : Int32) (p4 : Int32) (p5 : Int32)
    (hv : (¬ (p1 < 0 ∨ 20 ≤ Int32.toNatClampNeg p1)) ∧ ((((σ 50 (Int32.toNatClampNeg p1)) = p4) → (((p5 = 0) → ((¬ (p1 < 0 ∨ 20 ≤ Int32.toNatClampNeg p1)) ∧ ((((σ 48 (Int32.toNatClampNeg p1)) = p2) → ((¬ (p1 < 0 ∨ 20 ≤ Int32.toNatClampNeg p1)) ∧ (((if (σ 49 (Int32.toNatClampNeg p1)) = p3 then 1 else 0 : Int32) = 0 ∨ (if (σ 49 (Int32.toNatClampNeg p1)) = p3 then 1 else 0 : Int32) = 1) ∧ (r = some (.int (if (σ 49 (Int32.toNatClampNeg p1)) = p3 then 1 else 0 : Int32)) ∧ X' = (am_TT cu L, am_RR cu, σ))))) ∧ (¬ ((σ 48 (Int32.toNatClampNeg p1)) = p2) → (r = some (.int 0) ∧ X' = (am_TT cu L, am_RR cu, σ)))))) ∧ (¬ (p5 = 0) → ((¬ (p1 < 0 ∨ 20 ≤ Int32.toNatClampNeg p1)) ∧ ((((σ 54 (Int32.toNatClampNeg p1)) = 0) → (r = some (.int 0) ∧ X' = (am_TT cu L, am_RR cu, σ))) ∧ (¬ ((σ 54 (Int32.toNatClampNeg p1)) = 0) → ((¬ (p1 < 0 ∨ 20 ≤ Int32.toNatClampNeg p1)) ∧ ((((σ 49 (Int32.toNatClampNeg p1)) = p2) → ((¬ (p1 < 0 ∨ 20 ≤ Int32.toNatClampNeg p1)) ∧ (((if (σ 48 (Int32.toNatClampNeg p1)) = p3 then 1 else 0 : Int32) = 0 ∨ (if (σ 48 (Int32.toNatClampNeg p1)) = p3 then 1 else 0 : Int32) = 1) ∧ (r = some (.int (if (σ 48 (Int32.toNatClampNeg p1)) = p3 then 1 else 0 : Int32)) ∧ X' = (am_TT cu L, am_RR cu, σ))))) ∧ (¬ ((σ 49 (Int32.toNatClampNeg p1)) = p2) → (r = some (.int 0) ∧ X' = (am_TT cu L, am_RR cu, σ))))))))))) ∧ (¬ ((σ 50 (Int32.toNatClampNeg p1)) = p4) → (r = some (.int 0) ∧ X' = (am_TT cu L, am_RR cu, σ))))) :
    am_Go l D DA b sz d M_R_isPiece (0, [some (.ref 47), some (.int p1), some (.int p2), some (.int p3), some (.int p4), some (.int p5)], [], (am_TT cu L, am_RR cu, σ)) r X' := by
  refine go_steps q_R_isPiece kc_R_isPiece 3 rfl ?_
  obtain ⟨hc1, hv⟩ := hv
  refine go_iaload q_R_isPiece kc_R_isPiece rfl rfl hc1 ?_
  refine go_steps q_R_isPiece kc_R_isPiece 2 rfl ?_
  refine go_if (fun hb => ?_) (fun hb => ?_)
  · have hb : (σ 50 (Int32.toNatClampNeg p1)) = p4 := hb
    replace hv := hv.1 hb
    refine go_steps q_R_isPiece kc_R_isPiece 2 rfl ?_
    refine go_if (fun hb => ?_) (fun hb => ?_)
    · have hb : p5 = 0 := hb
      replace hv := hv.1 hb
      refine go_steps q_R_isPiece kc_R_isPiece 3 rfl ?_
      obtain ⟨hc2, hv⟩ := hv
      refine go_iaload q_R_isPiece kc_R_isPiece rfl rfl hc2 ?_
      refine go_steps q_R_isPiece kc_R_isPiece 2 rfl ?_
      refine go_if (fun hb => ?_) (fun hb => ?_)
      · have hb : (σ 48 (Int32.toNatClampNeg p1)) = p2 := hb
        replace hv := hv.1 hb
        refine go_steps q_R_isPiece kc_R_isPiece 3 rfl ?_
        obtain ⟨hc3, hv⟩ := hv
        refine go_iaload q_R_isPiece kc_R_isPiece rfl rfl hc3 ?_
        refine go_steps q_R_isPiece kc_R_isPiece 2 rfl ?_
        have key : am_Go l D DA b sz d M_R_isPiece (73, [some (.ref 47), some (.int p1), some (.int p2), some (.int p3), some (.int p4), some (.int p5)], [.int (if (σ 49 (Int32.toNatClampNeg p1)) = p3 then 1 else 0 : Int32)], (am_TT cu L, am_RR cu, σ)) r X' := by
          obtain ⟨hc, rfl, rfl⟩ := hv
          exact go_retI q_R_isPiece kc_R_isPiece rfl rfl (am_nar hc)
        refine go_if (fun hb => ?_) (fun hb => ?_)
        · have hb : (σ 49 (Int32.toNatClampNeg p1)) = p3 := hb
          rw [show (if (σ 49 (Int32.toNatClampNeg p1)) = p3 then 1 else 0 : Int32) = 1 from if_pos hb] at key
          refine go_steps q_R_isPiece kc_R_isPiece 2 rfl ?_
          exact key
        · have hb : ¬ ((σ 49 (Int32.toNatClampNeg p1)) = p3) := hb
          rw [show (if (σ 49 (Int32.toNatClampNeg p1)) = p3 then 1 else 0 : Int32) = 0 from if_neg hb] at key
          refine go_steps q_R_isPiece kc_R_isPiece 1 rfl ?_
          exact key
      · have hb : ¬ ((σ 48 (Int32.toNatClampNeg p1)) = p2) := hb
        replace hv := hv.2 hb
        refine go_steps q_R_isPiece kc_R_isPiece 1 rfl ?_
        obtain ⟨rfl, rfl⟩ := hv
        exact go_retI q_R_isPiece kc_R_isPiece rfl rfl rfl
    · have hb : ¬ (p5 = 0) := hb
      replace hv := hv.2 hb
      refine go_steps q_R_isPiece kc_R_isPiece 3 rfl ?_
      obtain ⟨hc4, hv⟩ := hv
      refine go_baload q_R_isPiece kc_R_isPiece rfl rfl hc4 ?_
      refine go_steps q_R_isPiece kc_R_isPiece 1 rfl ?_
      refine go_if (fun hb => ?_) (fun hb => ?_)
      · have hb : (σ 54 (Int32.toNatClampNeg p1)) = 0 := hb
        replace hv := hv.1 hb
        refine go_steps q_R_isPiece kc_R_isPiece 1 rfl ?_
        obtain ⟨rfl, rfl⟩ := hv
        exact go_retI q_R_isPiece kc_R_isPiece rfl rfl rfl
      · have hb : ¬ ((σ 54 (Int32.toNatClampNeg p1)) = 0) := hb
        replace hv := hv.2 hb
        refine go_steps q_R_isPiece kc_R_isPiece 3 rfl ?_
        obtain ⟨hc5, hv⟩ := hv
        refine go_iaload q_R_isPiece kc_R_isPiece rfl rfl hc5 ?_
        refine go_steps q_R_isPiece kc_R_isPiece 2 rfl ?_
        refine go_if (fun hb => ?_) (fun hb => ?_)
        · have hb : (σ 49 (Int32.toNatClampNeg p1)) = p2 := hb
          replace hv := hv.1 hb
          refine go_steps q_R_isPiece kc_R_isPiece 3 rfl ?_
          obtain ⟨hc6, hv⟩ := hv
          refine go_iaload q_R_isPiece kc_R_isPiece rfl rfl hc6 ?_
          refine go_steps q_R_isPiece kc_R_isPiece 2 rfl ?_
          have key : am_Go l D DA b sz d M_R_isPiece (73, [some (.ref 47), some (.int p1), some (.int p2), some (.int p3), some (.int p4), some (.int p5)], [.int (if (σ 48 (Int32.toNatClampNeg p1)) = p3 then 1 else 0 : Int32)], (am_TT cu L, am_RR cu, σ)) r X' := by
            obtain ⟨hc, rfl, rfl⟩ := hv
            exact go_retI q_R_isPiece kc_R_isPiece rfl rfl (am_nar hc)
          refine go_if (fun hb => ?_) (fun hb => ?_)
          · have hb : (σ 48 (Int32.toNatClampNeg p1)) = p3 := hb
            rw [show (if (σ 48 (Int32.toNatClampNeg p1)) = p3 then 1 else 0 : Int32) = 1 from if_pos hb] at key
            refine go_steps q_R_isPiece kc_R_isPiece 3 rfl ?_
            exact key
          · have hb : ¬ ((σ 48 (Int32.toNatClampNeg p1)) = p3) := hb
            rw [show (if (σ 48 (Int32.toNatClampNeg p1)) = p3 then 1 else 0 : Int32) = 0 from if_neg hb] at key
            refine go_steps q_R_isPiece kc_R_isPiece 1 rfl ?_
            exact key
        · have hb : ¬ ((σ 49 (Int32.toNatClampNeg p1)) = p2) := hb
          replace hv := hv.2 hb
          refine go_steps q_R_isPiece kc_R_isPiece 1 rfl ?_
          obtain ⟨rfl, rfl⟩ := hv
          exact go_retI q_R_isPiece kc_R_isPiece rfl rfl rfl
  · have hb : ¬ ((σ 50 (Int32.toNatClampNeg p1)) = p4) := hb
    replace hv := hv.2 hb
    refine go_steps q_R_isPiece kc_R_isPiece 1 rfl ?_
    obtain ⟨rfl, rfl⟩ := hv
    exact go_retI q_R_isPiece kc_R_isPiece rfl rfl rfl
set_option maxHeartbeats 4000000 in
set_option maxRecDepth 100000 in
theorem v_R_block_0 {l : Launch} {D : va_G} {DA : Nat → ClassId} {b sz d L : Nat} {cu : Bool} {σ : Nat → Nat → Int32} {r : Option Value} {X' : am_X} (p0 : Int32) (p1 : Int32) (p2 : Int32)
    (hv : r = some (.int ((17 * ((17 * p0) + p1)) + p2)) ∧ X' = (am_TT cu L, am_RR cu, σ)) :
    am_Go l D DA b sz d M_R_block (0, [some (.int p0), some (.int p1), some (.int p2)], [], (am_TT cu L, am_RR cu, σ)) r X' := by
  refine go_steps q_R_block kc_R_block 9 rfl ?_
  obtain ⟨rfl, rfl⟩ := hv
  exact go_retI q_R_block kc_R_block rfl rfl rfl
set_option maxHeartbeats 4000000 in
set_option maxRecDepth 100000 in
theorem v_R_greater_0 {l : Launch} {D : va_G} {DA : Nat → ClassId} {b sz d L : Nat} {cu : Bool} {σ : Nat → Nat → Int32} {r : Option Value} {X' : am_X} (p0 : Int32) (p1 : Int32)
    (hv : r = some (.int (if p0 ≤ p1 then p1 else p0 : Int32)) ∧ X' = (am_TT cu L, am_RR cu, σ)) :
    am_Go l D DA b sz d M_R_greater (0, [some (.int p0), some (.int p1)], [], (am_TT cu L, am_RR cu, σ)) r X' := by
  refine go_steps q_R_greater kc_R_greater 3 rfl ?_
  have key : am_Go l D DA b sz d M_R_greater (10, [some (.int p0), some (.int p1)], [.int (if p0 ≤ p1 then p1 else p0 : Int32)], (am_TT cu L, am_RR cu, σ)) r X' := by
    obtain ⟨rfl, rfl⟩ := hv
    exact go_retI q_R_greater kc_R_greater rfl rfl rfl
  refine go_if (fun hb => ?_) (fun hb => ?_)
  · have hb : p0 ≤ p1 := hb
    rw [show (if p0 ≤ p1 then p1 else p0 : Int32) = p1 from if_pos hb] at key
    refine go_steps q_R_greater kc_R_greater 1 rfl ?_
    exact key
  · have hb : ¬ (p0 ≤ p1) := hb
    rw [show (if p0 ≤ p1 then p1 else p0 : Int32) = p0 from if_neg hb] at key
    refine go_steps q_R_greater kc_R_greater 2 rfl ?_
    exact key
set_option maxHeartbeats 4000000 in
set_option maxRecDepth 100000 in
theorem v_R_pattern_0 {l : Launch} {D : va_G} {DA : Nat → ClassId} {b sz d L : Nat} {cu : Bool} {σ : Nat → Nat → Int32} {r : Option Value} {X' : am_X} (p1 : Int32) (p2 : Int32) (p3 : Int32) (p4 : Int32) (p5 : Int32) (p6 : Int32)
    (hv : (∃ (r1 : Int32) (σ1 : Nat → Nat → Int32), am_Go l D DA b sz d M_R_block (0, [some (.int p4), some (.int p5), some (.int p6)], [], (am_TT cu L, am_RR cu, σ)) (some (.int r1)) (am_TT cu L, am_RR cu, σ1) ∧ ((¬ (r1 < 0 ∨ 4913 ≤ Int32.toNatClampNeg r1)) ∧ ((((σ1 62 (Int32.toNatClampNeg r1)) = 0) → (r = none ∧ X' = (am_TT cu L, am_RR cu, σ1))) ∧ (¬ ((σ1 62 (Int32.toNatClampNeg r1)) = 0) → (am_Go l D DA b sz (d + 1) M_R_pattern (25, [some (.ref 47), some (.int p1), some (.int p2), some (.int p3), some (.int p4), some (.int p5), some (.int p6), some (.int (σ1 62 (Int32.toNatClampNeg r1))), some (.int 0), none], [], (am_TT cu L, am_RR cu, σ1)) r X')))))) :
    am_Go l D DA b sz (d + 1) M_R_pattern (0, [some (.ref 47), some (.int p1), some (.int p2), some (.int p3), some (.int p4), some (.int p5), some (.int p6), none, none, none], [], (am_TT cu L, am_RR cu, σ)) r X' := by
  refine go_steps q_R_pattern kc_R_pattern 5 rfl ?_
  obtain ⟨r1, σ1, hg, hv⟩ := hv
  refine go_callS q_R_pattern kc_R_pattern rfl q_R_block am_k142 rfl rfl rfl (Nat.le_of_ble_eq_true rfl) (Nat.le_of_ble_eq_true rfl) hg ?_
  obtain ⟨hc1, hv⟩ := hv
  refine go_iaload q_R_pattern kc_R_pattern rfl rfl hc1 ?_
  refine go_steps q_R_pattern kc_R_pattern 3 rfl ?_
  refine go_if (fun hb => ?_) (fun hb => ?_)
  · have hb : (σ1 62 (Int32.toNatClampNeg r1)) = 0 := hb
    replace hv := hv.1 hb
    obtain ⟨rfl, rfl⟩ := hv
    exact go_retV q_R_pattern kc_R_pattern rfl rfl
  · have hb : ¬ ((σ1 62 (Int32.toNatClampNeg r1)) = 0) := hb
    replace hv := hv.2 hb
    refine go_steps q_R_pattern kc_R_pattern 2 rfl ?_
    refine go_le (L1 := [some (.ref 47), some (.int p1), some (.int p2), some (.int p3), some (.int p4), some (.int p5), some (.int p6), some (.int (σ1 62 (Int32.toNatClampNeg r1))), some (.int 0), none]) (by repeat (first | exact trivial | refine ⟨rfl, ?_⟩)) ?_
    exact hv
set_option maxHeartbeats 4000000 in
set_option maxRecDepth 100000 in
theorem v_R_pattern_25 {l : Launch} {D : va_G} {DA : Nat → ClassId} {b sz d L : Nat} {cu : Bool} {σ : Nat → Nat → Int32} {r : Option Value} {X' : am_X} (p1 : Int32) (p2 : Int32) (p3 : Int32) (p4 : Int32) (p5 : Int32) (p6 : Int32) (p7 : Int32) (p8 : Int32)
    (hv : (((σ 47 0) ≤ p8) → (am_Go l D DA b sz (d + 1) M_R_pattern (165, [some (.ref 47), some (.int p1), some (.int p2), some (.int p3), some (.int p4), some (.int p5), some (.int p6), some (.int p7), some (.int 1), none], [], (am_TT cu L, am_RR cu, σ)) r X')) ∧ (¬ ((σ 47 0) ≤ p8) → (∃ (r1 : Int32) (σ1 : Nat → Nat → Int32), am_Go l D DA b sz d M_R_isPiece (0, [some (.ref 47), some (.int p8), some (.int p4), some (.int p5), some (.int p6), some (.int 0)], [], (am_TT cu L, am_RR cu, σ)) (some (.int r1)) (am_TT cu L, am_RR cu, σ1) ∧ ((¬ (p8 < 0 ∨ 20 ≤ Int32.toNatClampNeg p8)) ∧ ((((σ1 55 (Int32.toNatClampNeg p8)) = p7) → (((r1 = 0) → (∃ (r2 : Int32) (σ2 : Nat → Nat → Int32), am_Go l D DA b sz d M_R_isPiece (0, [some (.ref 47), some (.int p8), some (.int p4), some (.int p5), some (.int p6), some (.int 1)], [], (am_TT cu L, am_RR cu, σ1)) (some (.int r2)) (am_TT cu L, am_RR cu, σ2) ∧ (((r2 = 0) → (am_Go l D DA b sz (d + 1) M_R_pattern (25, [some (.ref 47), some (.int p1), some (.int p2), some (.int p3), some (.int p4), some (.int p5), some (.int p6), some (.int p7), some (.int (p8 + 1)), none], [], (am_TT cu L, am_RR cu, σ2)) r X')) ∧ (¬ (r2 = 0) → ((¬ ((σ2 47 28) < 0 ∨ 4096 ≤ Int32.toNatClampNeg (σ2 47 28))) ∧ ((¬ ((σ2 47 28) < 0 ∨ 4096 ≤ Int32.toNatClampNeg (σ2 47 28))) ∧ ((¬ ((σ2 47 28) < 0 ∨ 4096 ≤ Int32.toNatClampNeg (σ2 47 28))) ∧ ((¬ ((σ2 47 28) < 0 ∨ 4096 ≤ Int32.toNatClampNeg (σ2 47 28))) ∧ ((¬ ((σ2 47 28) < 0 ∨ 4096 ≤ Int32.toNatClampNeg (σ2 47 28))) ∧ (((if r1 = 0 then 1 else 0 : Int32) = 0 ∨ (if r1 = 0 then 1 else 0 : Int32) = 1) ∧ (r = none ∧ X' = (am_TT cu L, am_RR cu, am_us (am_us (am_us (am_us (am_us (am_us σ2 63 (Int32.toNatClampNeg (σ2 47 28)) p8) 64 (Int32.toNatClampNeg (σ2 47 28)) p1) 65 (Int32.toNatClampNeg (σ2 47 28)) p2) 66 (Int32.toNatClampNeg (σ2 47 28)) p3) 67 (Int32.toNatClampNeg (σ2 47 28)) (if r1 = 0 then 1 else 0 : Int32)) 47 28 ((σ2 47 28) + 1))))))))))))) ∧ (¬ (r1 = 0) → ((¬ ((σ1 47 28) < 0 ∨ 4096 ≤ Int32.toNatClampNeg (σ1 47 28))) ∧ ((¬ ((σ1 47 28) < 0 ∨ 4096 ≤ Int32.toNatClampNeg (σ1 47 28))) ∧ ((¬ ((σ1 47 28) < 0 ∨ 4096 ≤ Int32.toNatClampNeg (σ1 47 28))) ∧ ((¬ ((σ1 47 28) < 0 ∨ 4096 ≤ Int32.toNatClampNeg (σ1 47 28))) ∧ ((¬ ((σ1 47 28) < 0 ∨ 4096 ≤ Int32.toNatClampNeg (σ1 47 28))) ∧ (((if r1 = 0 then 1 else 0 : Int32) = 0 ∨ (if r1 = 0 then 1 else 0 : Int32) = 1) ∧ (r = none ∧ X' = (am_TT cu L, am_RR cu, am_us (am_us (am_us (am_us (am_us (am_us σ1 63 (Int32.toNatClampNeg (σ1 47 28)) p8) 64 (Int32.toNatClampNeg (σ1 47 28)) p1) 65 (Int32.toNatClampNeg (σ1 47 28)) p2) 66 (Int32.toNatClampNeg (σ1 47 28)) p3) 67 (Int32.toNatClampNeg (σ1 47 28)) (if r1 = 0 then 1 else 0 : Int32)) 47 28 ((σ1 47 28) + 1)))))))))))) ∧ (¬ ((σ1 55 (Int32.toNatClampNeg p8)) = p7) → (am_Go l D DA b sz (d + 1) M_R_pattern (25, [some (.ref 47), some (.int p1), some (.int p2), some (.int p3), some (.int p4), some (.int p5), some (.int p6), some (.int p7), some (.int (p8 + 1)), none], [], (am_TT cu L, am_RR cu, σ1)) r X'))))))) :
    am_Go l D DA b sz (d + 1) M_R_pattern (25, [some (.ref 47), some (.int p1), some (.int p2), some (.int p3), some (.int p4), some (.int p5), some (.int p6), some (.int p7), some (.int p8), none], [], (am_TT cu L, am_RR cu, σ)) r X' := by
  refine go_steps q_R_pattern kc_R_pattern 4 rfl ?_
  refine go_if (fun hb => ?_) (fun hb => ?_)
  · have hb : (σ 47 0) ≤ p8 := hb
    replace hv := hv.1 hb
    refine go_steps q_R_pattern kc_R_pattern 2 rfl ?_
    refine go_le (L1 := [some (.ref 47), some (.int p1), some (.int p2), some (.int p3), some (.int p4), some (.int p5), some (.int p6), some (.int p7), some (.int 1), none]) (by repeat (first | exact trivial | refine ⟨rfl, ?_⟩)) ?_
    exact hv
  · have hb : ¬ ((σ 47 0) ≤ p8) := hb
    replace hv := hv.2 hb
    refine go_steps q_R_pattern kc_R_pattern 6 rfl ?_
    obtain ⟨r1, σ1, hg, hv⟩ := hv
    refine go_callV q_R_pattern kc_R_pattern rfl q_R_isPiece am_k141 ⟨rfl, rfl, by decide⟩ rfl rfl (Nat.le_of_ble_eq_true rfl) (Nat.le_of_ble_eq_true rfl) rfl rfl hg ?_
    refine go_steps q_R_pattern kc_R_pattern 4 rfl ?_
    obtain ⟨hc1, hv⟩ := hv
    refine go_iaload q_R_pattern kc_R_pattern rfl rfl hc1 ?_
    refine go_steps q_R_pattern kc_R_pattern 2 rfl ?_
    refine go_if (fun hb => ?_) (fun hb => ?_)
    · have hb : (σ1 55 (Int32.toNatClampNeg p8)) = p7 := hb
      replace hv := hv.1 hb
      refine go_steps q_R_pattern kc_R_pattern 2 rfl ?_
      refine go_if (fun hb => ?_) (fun hb => ?_)
      · have hb : r1 = 0 := hb
        replace hv := hv.1 hb
        refine go_steps q_R_pattern kc_R_pattern 6 rfl ?_
        obtain ⟨r2, σ2, hg, hv⟩ := hv
        refine go_callV q_R_pattern kc_R_pattern rfl q_R_isPiece am_k141 ⟨rfl, rfl, by decide⟩ rfl rfl (Nat.le_of_ble_eq_true rfl) (Nat.le_of_ble_eq_true rfl) rfl rfl hg ?_
        refine go_steps q_R_pattern kc_R_pattern 1 rfl ?_
        refine go_if (fun hb => ?_) (fun hb => ?_)
        · have hb : r2 = 0 := hb
          replace hv := hv.1 hb
          refine go_steps q_R_pattern kc_R_pattern 3 rfl ?_
          refine go_le (L1 := [some (.ref 47), some (.int p1), some (.int p2), some (.int p3), some (.int p4), some (.int p5), some (.int p6), some (.int p7), some (.int (p8 + 1)), none]) (by repeat (first | exact trivial | refine ⟨rfl, ?_⟩)) ?_
          exact hv
        · have hb : ¬ (r2 = 0) := hb
          replace hv := hv.2 hb
          refine go_steps q_R_pattern kc_R_pattern 5 rfl ?_
          obtain ⟨hc, hv⟩ := hv
          refine go_iastore q_R_pattern kc_R_pattern rfl rfl hc ?_
          refine go_steps q_R_pattern kc_R_pattern 5 rfl ?_
          obtain ⟨hc, hv⟩ := hv
          refine go_iastore q_R_pattern kc_R_pattern rfl rfl hc ?_
          refine go_steps q_R_pattern kc_R_pattern 5 rfl ?_
          obtain ⟨hc, hv⟩ := hv
          refine go_iastore q_R_pattern kc_R_pattern rfl rfl hc ?_
          refine go_steps q_R_pattern kc_R_pattern 5 rfl ?_
          obtain ⟨hc, hv⟩ := hv
          refine go_iastore q_R_pattern kc_R_pattern rfl rfl hc ?_
          refine go_steps q_R_pattern kc_R_pattern 6 rfl ?_
          have key : am_Go l D DA b sz (d + 1) M_R_pattern (144, [some (.ref 47), some (.int p1), some (.int p2), some (.int p3), some (.int p4), some (.int p5), some (.int p6), some (.int p7), some (.int p8), some (.int r1)], [.int (if r1 = 0 then 1 else 0 : Int32), .int (σ2 47 28), .ref 67], (am_TT cu L, am_RR cu, am_us (am_us (am_us (am_us σ2 63 (Int32.toNatClampNeg (σ2 47 28)) p8) 64 (Int32.toNatClampNeg (σ2 47 28)) p1) 65 (Int32.toNatClampNeg (σ2 47 28)) p2) 66 (Int32.toNatClampNeg (σ2 47 28)) p3)) r X' := by
            obtain ⟨hc, hv⟩ := hv
            obtain ⟨hd, hv⟩ := hv
            refine go_bastore q_R_pattern kc_R_pattern rfl rfl hc hd ?_
            refine go_steps q_R_pattern kc_R_pattern 6 rfl ?_
            obtain ⟨rfl, rfl⟩ := hv
            exact go_retV q_R_pattern kc_R_pattern rfl rfl
          refine go_if (fun hb => ?_) (fun hb => ?_)
          · have hb : r1 = 0 := hb
            rw [show (if r1 = 0 then 1 else 0 : Int32) = 1 from if_pos hb] at key
            refine go_steps q_R_pattern kc_R_pattern 2 rfl ?_
            exact key
          · have hb : ¬ (r1 = 0) := hb
            rw [show (if r1 = 0 then 1 else 0 : Int32) = 0 from if_neg hb] at key
            refine go_steps q_R_pattern kc_R_pattern 1 rfl ?_
            exact key
      · have hb : ¬ (r1 = 0) := hb
        replace hv := hv.2 hb
        refine go_steps q_R_pattern kc_R_pattern 5 rfl ?_
        obtain ⟨hc, hv⟩ := hv
        refine go_iastore q_R_pattern kc_R_pattern rfl rfl hc ?_
        refine go_steps q_R_pattern kc_R_pattern 5 rfl ?_
        obtain ⟨hc, hv⟩ := hv
        refine go_iastore q_R_pattern kc_R_pattern rfl rfl hc ?_
        refine go_steps q_R_pattern kc_R_pattern 5 rfl ?_
        obtain ⟨hc, hv⟩ := hv
        refine go_iastore q_R_pattern kc_R_pattern rfl rfl hc ?_
        refine go_steps q_R_pattern kc_R_pattern 5 rfl ?_
        obtain ⟨hc, hv⟩ := hv
        refine go_iastore q_R_pattern kc_R_pattern rfl rfl hc ?_
        refine go_steps q_R_pattern kc_R_pattern 6 rfl ?_
        have key : am_Go l D DA b sz (d + 1) M_R_pattern (144, [some (.ref 47), some (.int p1), some (.int p2), some (.int p3), some (.int p4), some (.int p5), some (.int p6), some (.int p7), some (.int p8), some (.int r1)], [.int (if r1 = 0 then 1 else 0 : Int32), .int (σ1 47 28), .ref 67], (am_TT cu L, am_RR cu, am_us (am_us (am_us (am_us σ1 63 (Int32.toNatClampNeg (σ1 47 28)) p8) 64 (Int32.toNatClampNeg (σ1 47 28)) p1) 65 (Int32.toNatClampNeg (σ1 47 28)) p2) 66 (Int32.toNatClampNeg (σ1 47 28)) p3)) r X' := by
          obtain ⟨hc, hv⟩ := hv
          obtain ⟨hd, hv⟩ := hv
          refine go_bastore q_R_pattern kc_R_pattern rfl rfl hc hd ?_
          refine go_steps q_R_pattern kc_R_pattern 6 rfl ?_
          obtain ⟨rfl, rfl⟩ := hv
          exact go_retV q_R_pattern kc_R_pattern rfl rfl
        refine go_if (fun hb => ?_) (fun hb => ?_)
        · have hb : r1 = 0 := hb
          rw [show (if r1 = 0 then 1 else 0 : Int32) = 1 from if_pos hb] at key
          refine go_steps q_R_pattern kc_R_pattern 2 rfl ?_
          exact key
        · have hb : ¬ (r1 = 0) := hb
          rw [show (if r1 = 0 then 1 else 0 : Int32) = 0 from if_neg hb] at key
          refine go_steps q_R_pattern kc_R_pattern 1 rfl ?_
          exact key
    · have hb : ¬ ((σ1 55 (Int32.toNatClampNeg p8)) = p7) := hb
      replace hv := hv.2 hb
      refine go_steps q_R_pattern kc_R_pattern 2 rfl ?_
      refine go_le (L1 := [some (.ref 47), some (.int p1), some (.int p2), some (.int p3), some (.int p4), some (.int p5), some (.int p6), some (.int p7), some (.int (p8 + 1)), none]) (by repeat (first | exact trivial | refine ⟨rfl, ?_⟩)) ?_
      exact hv
set_option maxHeartbeats 4000000 in
set_option maxRecDepth 100000 in
theorem v_R_pattern_165 {l : Launch} {D : va_G} {DA : Nat → ClassId} {b sz d L : Nat} {cu : Bool} {σ : Nat → Nat → Int32} {r : Option Value} {X' : am_X} (p1 : Int32) (p2 : Int32) (p3 : Int32) (p4 : Int32) (p5 : Int32) (p6 : Int32) (p7 : Int32) (p8 : Int32)
    (hv : ((p4 ≤ p8) → (am_Go l D DA b sz (d + 1) M_R_pattern (254, [some (.ref 47), some (.int p1), some (.int p2), some (.int p3), some (.int p4), some (.int p5), some (.int p6), some (.int p7), some (.int 1), none], [], (am_TT cu L, am_RR cu, σ)) r X')) ∧ (¬ (p4 ≤ p8) → (∃ (r1 : Int32) (σ1 : Nat → Nat → Int32), am_Go l D DA b sz d M_R_block (0, [some (.int p8), some (.int p5), some (.int p6)], [], (am_TT cu L, am_RR cu, σ)) (some (.int r1)) (am_TT cu L, am_RR cu, σ1) ∧ ((¬ (r1 < 0 ∨ 4913 ≤ Int32.toNatClampNeg r1)) ∧ (∃ (r2 : Int32) (σ2 : Nat → Nat → Int32), am_Go l D DA b sz d M_R_block (0, [some (.int (p4 - p8)), some (.int p5), some (.int p6)], [], (am_TT cu L, am_RR cu, σ1)) (some (.int r2)) (am_TT cu L, am_RR cu, σ2) ∧ ((¬ (r2 < 0 ∨ 4913 ≤ Int32.toNatClampNeg r2)) ∧ (((((σ1 62 (Int32.toNatClampNeg r1)) + (σ2 62 (Int32.toNatClampNeg r2))) = p7) → (∃ (σ3 : Nat → Nat → Int32), am_Go l D DA b sz d M_R_pattern (0, [some (.ref 47), some (.int p1), some (.int p2), some (.int p3), some (.int p8), some (.int p5), some (.int p6), none, none, none], [], (am_TT cu L, am_RR cu, σ2)) none (am_TT cu L, am_RR cu, σ3) ∧ ((∃ (σ4 : Nat → Nat → Int32), am_Go l D DA b sz d M_R_pattern (0, [some (.ref 47), some (.int (p1 + p8)), some (.int p2), some (.int p3), some (.int (p4 - p8)), some (.int p5), some (.int p6), none, none, none], [], (am_TT cu L, am_RR cu, σ3)) none (am_TT cu L, am_RR cu, σ4) ∧ (r = none ∧ X' = (am_TT cu L, am_RR cu, σ4)))))) ∧ (¬ (((σ1 62 (Int32.toNatClampNeg r1)) + (σ2 62 (Int32.toNatClampNeg r2))) = p7) → (am_Go l D DA b sz (d + 1) M_R_pattern (165, [some (.ref 47), some (.int p1), some (.int p2), some (.int p3), some (.int p4), some (.int p5), some (.int p6), some (.int p7), some (.int (p8 + 1)), none], [], (am_TT cu L, am_RR cu, σ2)) r X'))))))))) :
    am_Go l D DA b sz (d + 1) M_R_pattern (165, [some (.ref 47), some (.int p1), some (.int p2), some (.int p3), some (.int p4), some (.int p5), some (.int p6), some (.int p7), some (.int p8), none], [], (am_TT cu L, am_RR cu, σ)) r X' := by
  refine go_steps q_R_pattern kc_R_pattern 3 rfl ?_
  refine go_if (fun hb => ?_) (fun hb => ?_)
  · have hb : p4 ≤ p8 := hb
    replace hv := hv.1 hb
    refine go_steps q_R_pattern kc_R_pattern 2 rfl ?_
    refine go_le (L1 := [some (.ref 47), some (.int p1), some (.int p2), some (.int p3), some (.int p4), some (.int p5), some (.int p6), some (.int p7), some (.int 1), none]) (by repeat (first | exact trivial | refine ⟨rfl, ?_⟩)) ?_
    exact hv
  · have hb : ¬ (p4 ≤ p8) := hb
    replace hv := hv.2 hb
    refine go_steps q_R_pattern kc_R_pattern 5 rfl ?_
    obtain ⟨r1, σ1, hg, hv⟩ := hv
    refine go_callS q_R_pattern kc_R_pattern rfl q_R_block am_k142 rfl rfl rfl (Nat.le_of_ble_eq_true rfl) (Nat.le_of_ble_eq_true rfl) hg ?_
    obtain ⟨hc1, hv⟩ := hv
    refine go_iaload q_R_pattern kc_R_pattern rfl rfl hc1 ?_
    refine go_steps q_R_pattern kc_R_pattern 7 rfl ?_
    obtain ⟨r2, σ2, hg, hv⟩ := hv
    refine go_callS q_R_pattern kc_R_pattern rfl q_R_block am_k142 rfl rfl rfl (Nat.le_of_ble_eq_true rfl) (Nat.le_of_ble_eq_true rfl) hg ?_
    obtain ⟨hc2, hv⟩ := hv
    refine go_iaload q_R_pattern kc_R_pattern rfl rfl hc2 ?_
    refine go_steps q_R_pattern kc_R_pattern 3 rfl ?_
    refine go_if (fun hb => ?_) (fun hb => ?_)
    · have hb : ((σ1 62 (Int32.toNatClampNeg r1)) + (σ2 62 (Int32.toNatClampNeg r2))) = p7 := hb
      replace hv := hv.1 hb
      refine go_steps q_R_pattern kc_R_pattern 7 rfl ?_
      obtain ⟨σ3, hg, hv⟩ := hv
      refine go_callV q_R_pattern kc_R_pattern rfl q_R_pattern am_k144 ⟨rfl, rfl, by decide⟩ rfl rfl (Nat.le_of_ble_eq_true rfl) (Nat.le_of_ble_eq_true rfl) rfl rfl hg ?_
      refine go_steps q_R_pattern kc_R_pattern 11 rfl ?_
      obtain ⟨σ4, hg, hv⟩ := hv
      refine go_callV q_R_pattern kc_R_pattern rfl q_R_pattern am_k144 ⟨rfl, rfl, by decide⟩ rfl rfl (Nat.le_of_ble_eq_true rfl) (Nat.le_of_ble_eq_true rfl) rfl rfl hg ?_
      obtain ⟨rfl, rfl⟩ := hv
      exact go_retV q_R_pattern kc_R_pattern rfl rfl
    · have hb : ¬ (((σ1 62 (Int32.toNatClampNeg r1)) + (σ2 62 (Int32.toNatClampNeg r2))) = p7) := hb
      replace hv := hv.2 hb
      refine go_steps q_R_pattern kc_R_pattern 3 rfl ?_
      refine go_le (L1 := [some (.ref 47), some (.int p1), some (.int p2), some (.int p3), some (.int p4), some (.int p5), some (.int p6), some (.int p7), some (.int (p8 + 1)), none]) (by repeat (first | exact trivial | refine ⟨rfl, ?_⟩)) ?_
      exact hv
set_option maxHeartbeats 4000000 in
set_option maxRecDepth 100000 in
theorem v_R_pattern_254 {l : Launch} {D : va_G} {DA : Nat → ClassId} {b sz d L : Nat} {cu : Bool} {σ : Nat → Nat → Int32} {r : Option Value} {X' : am_X} (p1 : Int32) (p2 : Int32) (p3 : Int32) (p4 : Int32) (p5 : Int32) (p6 : Int32) (p7 : Int32) (p8 : Int32)
    (hv : ((p5 ≤ p8) → (am_Go l D DA b sz (d + 1) M_R_pattern (343, [some (.ref 47), some (.int p1), some (.int p2), some (.int p3), some (.int p4), some (.int p5), some (.int p6), some (.int p7), some (.int 1), none], [], (am_TT cu L, am_RR cu, σ)) r X')) ∧ (¬ (p5 ≤ p8) → (∃ (r1 : Int32) (σ1 : Nat → Nat → Int32), am_Go l D DA b sz d M_R_block (0, [some (.int p4), some (.int p8), some (.int p6)], [], (am_TT cu L, am_RR cu, σ)) (some (.int r1)) (am_TT cu L, am_RR cu, σ1) ∧ ((¬ (r1 < 0 ∨ 4913 ≤ Int32.toNatClampNeg r1)) ∧ (∃ (r2 : Int32) (σ2 : Nat → Nat → Int32), am_Go l D DA b sz d M_R_block (0, [some (.int p4), some (.int (p5 - p8)), some (.int p6)], [], (am_TT cu L, am_RR cu, σ1)) (some (.int r2)) (am_TT cu L, am_RR cu, σ2) ∧ ((¬ (r2 < 0 ∨ 4913 ≤ Int32.toNatClampNeg r2)) ∧ (((((σ1 62 (Int32.toNatClampNeg r1)) + (σ2 62 (Int32.toNatClampNeg r2))) = p7) → (∃ (σ3 : Nat → Nat → Int32), am_Go l D DA b sz d M_R_pattern (0, [some (.ref 47), some (.int p1), some (.int p2), some (.int p3), some (.int p4), some (.int p8), some (.int p6), none, none, none], [], (am_TT cu L, am_RR cu, σ2)) none (am_TT cu L, am_RR cu, σ3) ∧ ((∃ (σ4 : Nat → Nat → Int32), am_Go l D DA b sz d M_R_pattern (0, [some (.ref 47), some (.int p1), some (.int (p2 + p8)), some (.int p3), some (.int p4), some (.int (p5 - p8)), some (.int p6), none, none, none], [], (am_TT cu L, am_RR cu, σ3)) none (am_TT cu L, am_RR cu, σ4) ∧ (r = none ∧ X' = (am_TT cu L, am_RR cu, σ4)))))) ∧ (¬ (((σ1 62 (Int32.toNatClampNeg r1)) + (σ2 62 (Int32.toNatClampNeg r2))) = p7) → (am_Go l D DA b sz (d + 1) M_R_pattern (254, [some (.ref 47), some (.int p1), some (.int p2), some (.int p3), some (.int p4), some (.int p5), some (.int p6), some (.int p7), some (.int (p8 + 1)), none], [], (am_TT cu L, am_RR cu, σ2)) r X'))))))))) :
    am_Go l D DA b sz (d + 1) M_R_pattern (254, [some (.ref 47), some (.int p1), some (.int p2), some (.int p3), some (.int p4), some (.int p5), some (.int p6), some (.int p7), some (.int p8), none], [], (am_TT cu L, am_RR cu, σ)) r X' := by
  refine go_steps q_R_pattern kc_R_pattern 3 rfl ?_
  refine go_if (fun hb => ?_) (fun hb => ?_)
  · have hb : p5 ≤ p8 := hb
    replace hv := hv.1 hb
    refine go_steps q_R_pattern kc_R_pattern 2 rfl ?_
    refine go_le (L1 := [some (.ref 47), some (.int p1), some (.int p2), some (.int p3), some (.int p4), some (.int p5), some (.int p6), some (.int p7), some (.int 1), none]) (by repeat (first | exact trivial | refine ⟨rfl, ?_⟩)) ?_
    exact hv
  · have hb : ¬ (p5 ≤ p8) := hb
    replace hv := hv.2 hb
    refine go_steps q_R_pattern kc_R_pattern 5 rfl ?_
    obtain ⟨r1, σ1, hg, hv⟩ := hv
    refine go_callS q_R_pattern kc_R_pattern rfl q_R_block am_k142 rfl rfl rfl (Nat.le_of_ble_eq_true rfl) (Nat.le_of_ble_eq_true rfl) hg ?_
    obtain ⟨hc1, hv⟩ := hv
    refine go_iaload q_R_pattern kc_R_pattern rfl rfl hc1 ?_
    refine go_steps q_R_pattern kc_R_pattern 7 rfl ?_
    obtain ⟨r2, σ2, hg, hv⟩ := hv
    refine go_callS q_R_pattern kc_R_pattern rfl q_R_block am_k142 rfl rfl rfl (Nat.le_of_ble_eq_true rfl) (Nat.le_of_ble_eq_true rfl) hg ?_
    obtain ⟨hc2, hv⟩ := hv
    refine go_iaload q_R_pattern kc_R_pattern rfl rfl hc2 ?_
    refine go_steps q_R_pattern kc_R_pattern 3 rfl ?_
    refine go_if (fun hb => ?_) (fun hb => ?_)
    · have hb : ((σ1 62 (Int32.toNatClampNeg r1)) + (σ2 62 (Int32.toNatClampNeg r2))) = p7 := hb
      replace hv := hv.1 hb
      refine go_steps q_R_pattern kc_R_pattern 7 rfl ?_
      obtain ⟨σ3, hg, hv⟩ := hv
      refine go_callV q_R_pattern kc_R_pattern rfl q_R_pattern am_k144 ⟨rfl, rfl, by decide⟩ rfl rfl (Nat.le_of_ble_eq_true rfl) (Nat.le_of_ble_eq_true rfl) rfl rfl hg ?_
      refine go_steps q_R_pattern kc_R_pattern 11 rfl ?_
      obtain ⟨σ4, hg, hv⟩ := hv
      refine go_callV q_R_pattern kc_R_pattern rfl q_R_pattern am_k144 ⟨rfl, rfl, by decide⟩ rfl rfl (Nat.le_of_ble_eq_true rfl) (Nat.le_of_ble_eq_true rfl) rfl rfl hg ?_
      obtain ⟨rfl, rfl⟩ := hv
      exact go_retV q_R_pattern kc_R_pattern rfl rfl
    · have hb : ¬ (((σ1 62 (Int32.toNatClampNeg r1)) + (σ2 62 (Int32.toNatClampNeg r2))) = p7) := hb
      replace hv := hv.2 hb
      refine go_steps q_R_pattern kc_R_pattern 3 rfl ?_
      refine go_le (L1 := [some (.ref 47), some (.int p1), some (.int p2), some (.int p3), some (.int p4), some (.int p5), some (.int p6), some (.int p7), some (.int (p8 + 1)), none]) (by repeat (first | exact trivial | refine ⟨rfl, ?_⟩)) ?_
      exact hv
set_option maxHeartbeats 4000000 in
set_option maxRecDepth 100000 in
theorem v_R_pattern_343 {l : Launch} {D : va_G} {DA : Nat → ClassId} {b sz d L : Nat} {cu : Bool} {σ : Nat → Nat → Int32} {r : Option Value} {X' : am_X} (p1 : Int32) (p2 : Int32) (p3 : Int32) (p4 : Int32) (p5 : Int32) (p6 : Int32) (p7 : Int32) (p8 : Int32)
    (hv : (∃ (r1 : Int32) (σ1 : Nat → Nat → Int32), am_Go l D DA b sz d M_R_block (0, [some (.int p4), some (.int p5), some (.int p8)], [], (am_TT cu L, am_RR cu, σ)) (some (.int r1)) (am_TT cu L, am_RR cu, σ1) ∧ ((¬ (r1 < 0 ∨ 4913 ≤ Int32.toNatClampNeg r1)) ∧ (∃ (r2 : Int32) (σ2 : Nat → Nat → Int32), am_Go l D DA b sz d M_R_block (0, [some (.int p4), some (.int p5), some (.int (p6 - p8))], [], (am_TT cu L, am_RR cu, σ1)) (some (.int r2)) (am_TT cu L, am_RR cu, σ2) ∧ ((¬ (r2 < 0 ∨ 4913 ≤ Int32.toNatClampNeg r2)) ∧ (((((σ1 62 (Int32.toNatClampNeg r1)) + (σ2 62 (Int32.toNatClampNeg r2))) = p7) → (∃ (σ3 : Nat → Nat → Int32), am_Go l D DA b sz d M_R_pattern (0, [some (.ref 47), some (.int p1), some (.int p2), some (.int p3), some (.int p4), some (.int p5), some (.int p8), none, none, none], [], (am_TT cu L, am_RR cu, σ2)) none (am_TT cu L, am_RR cu, σ3) ∧ ((∃ (σ4 : Nat → Nat → Int32), am_Go l D DA b sz d M_R_pattern (0, [some (.ref 47), some (.int p1), some (.int p2), some (.int (p3 + p8)), some (.int p4), some (.int p5), some (.int (p6 - p8)), none, none, none], [], (am_TT cu L, am_RR cu, σ3)) none (am_TT cu L, am_RR cu, σ4) ∧ (r = none ∧ X' = (am_TT cu L, am_RR cu, σ4)))))) ∧ (¬ (((σ1 62 (Int32.toNatClampNeg r1)) + (σ2 62 (Int32.toNatClampNeg r2))) = p7) → (am_Go l D DA b sz (d + 1) M_R_pattern (343, [some (.ref 47), some (.int p1), some (.int p2), some (.int p3), some (.int p4), some (.int p5), some (.int p6), some (.int p7), some (.int (p8 + 1)), none], [], (am_TT cu L, am_RR cu, σ2)) r X')))))))) :
    am_Go l D DA b sz (d + 1) M_R_pattern (343, [some (.ref 47), some (.int p1), some (.int p2), some (.int p3), some (.int p4), some (.int p5), some (.int p6), some (.int p7), some (.int p8), none], [], (am_TT cu L, am_RR cu, σ)) r X' := by
  refine go_steps q_R_pattern kc_R_pattern 5 rfl ?_
  obtain ⟨r1, σ1, hg, hv⟩ := hv
  refine go_callS q_R_pattern kc_R_pattern rfl q_R_block am_k142 rfl rfl rfl (Nat.le_of_ble_eq_true rfl) (Nat.le_of_ble_eq_true rfl) hg ?_
  obtain ⟨hc1, hv⟩ := hv
  refine go_iaload q_R_pattern kc_R_pattern rfl rfl hc1 ?_
  refine go_steps q_R_pattern kc_R_pattern 7 rfl ?_
  obtain ⟨r2, σ2, hg, hv⟩ := hv
  refine go_callS q_R_pattern kc_R_pattern rfl q_R_block am_k142 rfl rfl rfl (Nat.le_of_ble_eq_true rfl) (Nat.le_of_ble_eq_true rfl) hg ?_
  obtain ⟨hc2, hv⟩ := hv
  refine go_iaload q_R_pattern kc_R_pattern rfl rfl hc2 ?_
  refine go_steps q_R_pattern kc_R_pattern 3 rfl ?_
  refine go_if (fun hb => ?_) (fun hb => ?_)
  · have hb : ((σ1 62 (Int32.toNatClampNeg r1)) + (σ2 62 (Int32.toNatClampNeg r2))) = p7 := hb
    replace hv := hv.1 hb
    refine go_steps q_R_pattern kc_R_pattern 7 rfl ?_
    obtain ⟨σ3, hg, hv⟩ := hv
    refine go_callV q_R_pattern kc_R_pattern rfl q_R_pattern am_k144 ⟨rfl, rfl, by decide⟩ rfl rfl (Nat.le_of_ble_eq_true rfl) (Nat.le_of_ble_eq_true rfl) rfl rfl hg ?_
    refine go_steps q_R_pattern kc_R_pattern 11 rfl ?_
    obtain ⟨σ4, hg, hv⟩ := hv
    refine go_callV q_R_pattern kc_R_pattern rfl q_R_pattern am_k144 ⟨rfl, rfl, by decide⟩ rfl rfl (Nat.le_of_ble_eq_true rfl) (Nat.le_of_ble_eq_true rfl) rfl rfl hg ?_
    obtain ⟨rfl, rfl⟩ := hv
    exact go_retV q_R_pattern kc_R_pattern rfl rfl
  · have hb : ¬ (((σ1 62 (Int32.toNatClampNeg r1)) + (σ2 62 (Int32.toNatClampNeg r2))) = p7) := hb
    replace hv := hv.2 hb
    refine go_steps q_R_pattern kc_R_pattern 2 rfl ?_
    refine go_le (L1 := [some (.ref 47), some (.int p1), some (.int p2), some (.int p3), some (.int p4), some (.int p5), some (.int p6), some (.int p7), some (.int (p8 + 1)), none]) (by repeat (first | exact trivial | refine ⟨rfl, ?_⟩)) ?_
    exact hv
set_option maxHeartbeats 4000000 in
set_option maxRecDepth 100000 in
theorem v_R_piece_0 {l : Launch} {D : va_G} {DA : Nat → ClassId} {b sz d L : Nat} {cu : Bool} {σ : Nat → Nat → Int32} {r : Option Value} {X' : am_X} (p1 : Int32) (p2 : Int32)
    (hv : (∃ (r1 : Int32) (σ1 : Nat → Nat → Int32), am_Go l D DA b sz d M_R_in (0, [some (.int p1), some (.int 0), some (.int ((σ 47 28) - 1))], [], (am_TT cu L, am_RR cu, σ)) (some (.int r1)) (am_TT cu L, am_RR cu, σ1) ∧ (((r1 = 0) → (r = some (.int (-1)) ∧ X' = (am_TT cu L, am_RR cu, σ1))) ∧ (¬ (r1 = 0) → ((p2 = 0 → ((¬ (p1 < 0 ∨ 4096 ≤ Int32.toNatClampNeg p1)) ∧ (r = some (.int (σ1 63 (Int32.toNatClampNeg p1))) ∧ X' = (am_TT cu L, am_RR cu, σ1)))) ∧ (p2 = 1 → ((¬ (p1 < 0 ∨ 4096 ≤ Int32.toNatClampNeg p1)) ∧ (r = some (.int (σ1 64 (Int32.toNatClampNeg p1))) ∧ X' = (am_TT cu L, am_RR cu, σ1)))) ∧ (p2 = 2 → ((¬ (p1 < 0 ∨ 4096 ≤ Int32.toNatClampNeg p1)) ∧ (r = some (.int (σ1 65 (Int32.toNatClampNeg p1))) ∧ X' = (am_TT cu L, am_RR cu, σ1)))) ∧ (p2 = 3 → ((¬ (p1 < 0 ∨ 4096 ≤ Int32.toNatClampNeg p1)) ∧ (r = some (.int (σ1 66 (Int32.toNatClampNeg p1))) ∧ X' = (am_TT cu L, am_RR cu, σ1)))) ∧ (p2 = 4 → ((¬ (p1 < 0 ∨ 4096 ≤ Int32.toNatClampNeg p1)) ∧ (r = some (.int (if (σ1 67 (Int32.toNatClampNeg p1)) = 0 then 0 else 1 : Int32)) ∧ X' = (am_TT cu L, am_RR cu, σ1)))) ∧ (¬ p2 = 0 → ¬ p2 = 1 → ¬ p2 = 2 → ¬ p2 = 3 → ¬ p2 = 4 → (r = some (.int (-1)) ∧ X' = (am_TT cu L, am_RR cu, σ1)))))))) :
    am_Go l D DA b sz (d + 1) M_R_piece (0, [some (.ref 47), some (.int p1), some (.int p2)], [], (am_TT cu L, am_RR cu, σ)) r X' := by
  refine go_steps q_R_piece kc_R_piece 6 rfl ?_
  obtain ⟨r1, σ1, hg, hv⟩ := hv
  refine go_callS q_R_piece kc_R_piece rfl q_R_in am_k100 rfl rfl rfl (Nat.le_of_ble_eq_true rfl) (Nat.le_of_ble_eq_true rfl) hg ?_
  refine go_steps q_R_piece kc_R_piece 1 rfl ?_
  refine go_if (fun hb => ?_) (fun hb => ?_)
  · have hb : r1 = 0 := hb
    replace hv := hv.1 hb
    refine go_steps q_R_piece kc_R_piece 1 rfl ?_
    obtain ⟨rfl, rfl⟩ := hv
    exact go_retI q_R_piece kc_R_piece rfl rfl rfl
  · have hb : ¬ (r1 = 0) := hb
    replace hv := hv.2 hb
    refine go_steps q_R_piece kc_R_piece 1 rfl ?_
    by_cases hs0 : p2 = 0
    · replace hv := hv.1 hs0
      refine go_sw q_R_piece kc_R_piece rfl (g := 52) (by rw [hs0]; rfl) ?_
      refine go_steps q_R_piece kc_R_piece 3 rfl ?_
      obtain ⟨hc1, hv⟩ := hv
      refine go_iaload q_R_piece kc_R_piece rfl rfl hc1 ?_
      obtain ⟨rfl, rfl⟩ := hv
      exact go_retI q_R_piece kc_R_piece rfl rfl rfl
    by_cases hs1 : p2 = 1
    · replace hv := hv.2.1 hs1
      refine go_sw q_R_piece kc_R_piece rfl (g := 59) (by rw [hs1]; rfl) ?_
      refine go_steps q_R_piece kc_R_piece 3 rfl ?_
      obtain ⟨hc2, hv⟩ := hv
      refine go_iaload q_R_piece kc_R_piece rfl rfl hc2 ?_
      obtain ⟨rfl, rfl⟩ := hv
      exact go_retI q_R_piece kc_R_piece rfl rfl rfl
    by_cases hs2 : p2 = 2
    · replace hv := hv.2.2.1 hs2
      refine go_sw q_R_piece kc_R_piece rfl (g := 66) (by rw [hs2]; rfl) ?_
      refine go_steps q_R_piece kc_R_piece 3 rfl ?_
      obtain ⟨hc3, hv⟩ := hv
      refine go_iaload q_R_piece kc_R_piece rfl rfl hc3 ?_
      obtain ⟨rfl, rfl⟩ := hv
      exact go_retI q_R_piece kc_R_piece rfl rfl rfl
    by_cases hs3 : p2 = 3
    · replace hv := hv.2.2.2.1 hs3
      refine go_sw q_R_piece kc_R_piece rfl (g := 73) (by rw [hs3]; rfl) ?_
      refine go_steps q_R_piece kc_R_piece 3 rfl ?_
      obtain ⟨hc4, hv⟩ := hv
      refine go_iaload q_R_piece kc_R_piece rfl rfl hc4 ?_
      obtain ⟨rfl, rfl⟩ := hv
      exact go_retI q_R_piece kc_R_piece rfl rfl rfl
    by_cases hs4 : p2 = 4
    · replace hv := hv.2.2.2.2.1 hs4
      refine go_sw q_R_piece kc_R_piece rfl (g := 80) (by rw [hs4]; rfl) ?_
      refine go_steps q_R_piece kc_R_piece 3 rfl ?_
      obtain ⟨hc5, hv⟩ := hv
      refine go_baload q_R_piece kc_R_piece rfl rfl hc5 ?_
      refine go_steps q_R_piece kc_R_piece 1 rfl ?_
      have key : am_Go l D DA b sz (d + 1) M_R_piece (94, [some (.ref 47), some (.int p1), some (.int p2)], [.int (if (σ1 67 (Int32.toNatClampNeg p1)) = 0 then 0 else 1 : Int32)], (am_TT cu L, am_RR cu, σ1)) r X' := by
        obtain ⟨rfl, rfl⟩ := hv
        exact go_retI q_R_piece kc_R_piece rfl rfl rfl
      refine go_if (fun hb => ?_) (fun hb => ?_)
      · have hb : (σ1 67 (Int32.toNatClampNeg p1)) = 0 := hb
        rw [show (if (σ1 67 (Int32.toNatClampNeg p1)) = 0 then 0 else 1 : Int32) = 0 from if_pos hb] at key
        refine go_steps q_R_piece kc_R_piece 1 rfl ?_
        exact key
      · have hb : ¬ ((σ1 67 (Int32.toNatClampNeg p1)) = 0) := hb
        rw [show (if (σ1 67 (Int32.toNatClampNeg p1)) = 0 then 0 else 1 : Int32) = 1 from if_neg hb] at key
        refine go_steps q_R_piece kc_R_piece 2 rfl ?_
        exact key
    replace hv := hv.2.2.2.2.2 hs0 hs1 hs2 hs3 hs4
    refine go_sw q_R_piece kc_R_piece rfl (g := 95) (if_pos (am_sw_out (m := 4) (by decide) (fun j hj => match j, hj with | 0, _ => hs0 | 1, _ => hs1 | 2, _ => hs2 | 3, _ => hs3 | 4, _ => hs4 | n + 5, h => absurd h (by omega)))) ?_
    refine go_steps q_R_piece kc_R_piece 1 rfl ?_
    obtain ⟨rfl, rfl⟩ := hv
    exact go_retI q_R_piece kc_R_piece rfl rfl rfl
set_option maxHeartbeats 4000000 in
set_option maxRecDepth 100000 in
theorem v_R_trucks_0 {l : Launch} {D : va_G} {DA : Nat → ClassId} {b sz d L : Nat} {cu : Bool} {σ : Nat → Nat → Int32} {r : Option Value} {X' : am_X} (p1 : Int32)
    (hv : (∃ (r1 : Int32) (σ1 : Nat → Nat → Int32), am_Go l D DA b sz d M_R_isSet (0, [some (.ref 47), some (.int p1)], [], (am_TT cu L, am_RR cu, σ)) (some (.int r1)) (am_TT cu L, am_RR cu, σ1) ∧ (((r1 = 0) → (r = some (.int (-2)) ∧ X' = (am_TT cu L, am_RR cu, σ1))) ∧ (¬ (r1 = 0) → (am_Go l D DA b sz (d + 1) M_R_trucks (15, [some (.ref 47), some (.int p1), some (.int 0), some (.int 0), none], [], (am_TT cu L, am_RR cu, σ1)) r X'))))) :
    am_Go l D DA b sz (d + 1) M_R_trucks (0, [some (.ref 47), some (.int p1), none, none, none], [], (am_TT cu L, am_RR cu, σ)) r X' := by
  refine go_steps q_R_trucks kc_R_trucks 2 rfl ?_
  obtain ⟨r1, σ1, hg, hv⟩ := hv
  refine go_callV q_R_trucks kc_R_trucks rfl q_R_isSet am_k125 ⟨rfl, rfl, by decide⟩ rfl rfl (Nat.le_of_ble_eq_true rfl) (Nat.le_of_ble_eq_true rfl) rfl rfl hg ?_
  refine go_steps q_R_trucks kc_R_trucks 1 rfl ?_
  refine go_if (fun hb => ?_) (fun hb => ?_)
  · have hb : r1 = 0 := hb
    replace hv := hv.1 hb
    refine go_steps q_R_trucks kc_R_trucks 1 rfl ?_
    obtain ⟨rfl, rfl⟩ := hv
    exact go_retI q_R_trucks kc_R_trucks rfl rfl rfl
  · have hb : ¬ (r1 = 0) := hb
    replace hv := hv.2 hb
    refine go_steps q_R_trucks kc_R_trucks 4 rfl ?_
    refine go_le (L1 := [some (.ref 47), some (.int p1), some (.int 0), some (.int 0), none]) (by repeat (first | exact trivial | refine ⟨rfl, ?_⟩)) ?_
    exact hv
set_option maxHeartbeats 4000000 in
set_option maxRecDepth 100000 in
theorem v_R_trucks_15 {l : Launch} {D : va_G} {DA : Nat → ClassId} {b sz d L : Nat} {cu : Bool} {σ : Nat → Nat → Int32} {r : Option Value} {X' : am_X} (p1 : Int32) (p2 : Int32) (p3 : Int32)
    (hv : (((σ 47 0) ≤ p3) → (am_Go l D DA b sz (d + 1) M_R_trucks (86, [some (.ref 47), some (.int p1), some (.int p2), some (.int 0), none], [], (am_TT cu L, am_RR cu, σ)) r X')) ∧ (¬ ((σ 47 0) ≤ p3) → (((((p1 >>> (p3 &&& 31 : Int32) : Int32) &&& 1) = (0 : Int32)) → (am_Go l D DA b sz (d + 1) M_R_trucks (15, [some (.ref 47), some (.int p1), some (.int p2), some (.int (p3 + 1)), none], [], (am_TT cu L, am_RR cu, σ)) r X')) ∧ (¬ (((p1 >>> (p3 &&& 31 : Int32) : Int32) &&& 1) = (0 : Int32)) → (∃ (r1 : Int32) (σ1 : Nat → Nat → Int32), am_Go l D DA b sz d M_R_fitsSo (0, [some (.ref 47), some (.int p3), some (.int 0), none, none], [], (am_TT cu L, am_RR cu, σ)) (some (.int r1)) (am_TT cu L, am_RR cu, σ1) ∧ (((r1 = 0) → (∃ (r2 : Int32) (σ2 : Nat → Nat → Int32), am_Go l D DA b sz d M_R_fitsSo (0, [some (.ref 47), some (.int p3), some (.int 1), none, none], [], (am_TT cu L, am_RR cu, σ1)) (some (.int r2)) (am_TT cu L, am_RR cu, σ2) ∧ (((r2 = 0) → (r = some (.int (-4)) ∧ X' = (am_TT cu L, am_RR cu, σ2))) ∧ (¬ (r2 = 0) → ((¬ (p3 < 0 ∨ 20 ≤ Int32.toNatClampNeg p3)) ∧ ((¬ (p3 < 0 ∨ 20 ≤ Int32.toNatClampNeg p3)) ∧ ((¬ (p3 < 0 ∨ 20 ≤ Int32.toNatClampNeg p3)) ∧ (am_Go l D DA b sz (d + 1) M_R_trucks (15, [some (.ref 47), some (.int p1), some (.int (p2 + (((σ2 48 (Int32.toNatClampNeg p3)) * (σ2 49 (Int32.toNatClampNeg p3))) * (σ2 50 (Int32.toNatClampNeg p3))))), some (.int (p3 + 1)), none], [], (am_TT cu L, am_RR cu, σ2)) r X')))))))) ∧ (¬ (r1 = 0) → ((¬ (p3 < 0 ∨ 20 ≤ Int32.toNatClampNeg p3)) ∧ ((¬ (p3 < 0 ∨ 20 ≤ Int32.toNatClampNeg p3)) ∧ ((¬ (p3 < 0 ∨ 20 ≤ Int32.toNatClampNeg p3)) ∧ (am_Go l D DA b sz (d + 1) M_R_trucks (15, [some (.ref 47), some (.int p1), some (.int (p2 + (((σ1 48 (Int32.toNatClampNeg p3)) * (σ1 49 (Int32.toNatClampNeg p3))) * (σ1 50 (Int32.toNatClampNeg p3))))), some (.int (p3 + 1)), none], [], (am_TT cu L, am_RR cu, σ1)) r X'))))))))))) :
    am_Go l D DA b sz (d + 1) M_R_trucks (15, [some (.ref 47), some (.int p1), some (.int p2), some (.int p3), none], [], (am_TT cu L, am_RR cu, σ)) r X' := by
  refine go_steps q_R_trucks kc_R_trucks 4 rfl ?_
  refine go_if (fun hb => ?_) (fun hb => ?_)
  · have hb : (σ 47 0) ≤ p3 := hb
    replace hv := hv.1 hb
    refine go_steps q_R_trucks kc_R_trucks 2 rfl ?_
    refine go_le (L1 := [some (.ref 47), some (.int p1), some (.int p2), some (.int 0), none]) (by repeat (first | exact trivial | refine ⟨rfl, ?_⟩)) ?_
    exact hv
  · have hb : ¬ ((σ 47 0) ≤ p3) := hb
    replace hv := hv.2 hb
    refine go_steps q_R_trucks kc_R_trucks 6 rfl ?_
    refine go_if (fun hb => ?_) (fun hb => ?_)
    · have hb : ((p1 >>> (p3 &&& 31 : Int32) : Int32) &&& 1) = (0 : Int32) := hb
      replace hv := hv.1 hb
      refine go_steps q_R_trucks kc_R_trucks 3 rfl ?_
      refine go_le (L1 := [some (.ref 47), some (.int p1), some (.int p2), some (.int (p3 + 1)), none]) (by repeat (first | exact trivial | refine ⟨rfl, ?_⟩)) ?_
      exact hv
    · have hb : ¬ (((p1 >>> (p3 &&& 31 : Int32) : Int32) &&& 1) = (0 : Int32)) := hb
      replace hv := hv.2 hb
      refine go_steps q_R_trucks kc_R_trucks 3 rfl ?_
      obtain ⟨r1, σ1, hg, hv⟩ := hv
      refine go_callV q_R_trucks kc_R_trucks rfl q_R_fitsSo am_k147 ⟨rfl, rfl, by decide⟩ rfl rfl (Nat.le_of_ble_eq_true rfl) (Nat.le_of_ble_eq_true rfl) rfl rfl hg ?_
      refine go_steps q_R_trucks kc_R_trucks 1 rfl ?_
      refine go_if (fun hb => ?_) (fun hb => ?_)
      · have hb : r1 = 0 := hb
        replace hv := hv.1 hb
        refine go_steps q_R_trucks kc_R_trucks 3 rfl ?_
        obtain ⟨r2, σ2, hg, hv⟩ := hv
        refine go_callV q_R_trucks kc_R_trucks rfl q_R_fitsSo am_k147 ⟨rfl, rfl, by decide⟩ rfl rfl (Nat.le_of_ble_eq_true rfl) (Nat.le_of_ble_eq_true rfl) rfl rfl hg ?_
        refine go_steps q_R_trucks kc_R_trucks 1 rfl ?_
        refine go_if (fun hb => ?_) (fun hb => ?_)
        · have hb : r2 = 0 := hb
          replace hv := hv.1 hb
          refine go_steps q_R_trucks kc_R_trucks 1 rfl ?_
          obtain ⟨rfl, rfl⟩ := hv
          exact go_retI q_R_trucks kc_R_trucks rfl rfl rfl
        · have hb : ¬ (r2 = 0) := hb
          replace hv := hv.2 hb
          refine go_steps q_R_trucks kc_R_trucks 4 rfl ?_
          obtain ⟨hc1, hv⟩ := hv
          refine go_iaload q_R_trucks kc_R_trucks rfl rfl hc1 ?_
          refine go_steps q_R_trucks kc_R_trucks 3 rfl ?_
          obtain ⟨hc2, hv⟩ := hv
          refine go_iaload q_R_trucks kc_R_trucks rfl rfl hc2 ?_
          refine go_steps q_R_trucks kc_R_trucks 4 rfl ?_
          obtain ⟨hc3, hv⟩ := hv
          refine go_iaload q_R_trucks kc_R_trucks rfl rfl hc3 ?_
          refine go_steps q_R_trucks kc_R_trucks 5 rfl ?_
          refine go_le (L1 := [some (.ref 47), some (.int p1), some (.int (p2 + (((σ2 48 (Int32.toNatClampNeg p3)) * (σ2 49 (Int32.toNatClampNeg p3))) * (σ2 50 (Int32.toNatClampNeg p3))))), some (.int (p3 + 1)), none]) (by repeat (first | exact trivial | refine ⟨rfl, ?_⟩)) ?_
          exact hv
      · have hb : ¬ (r1 = 0) := hb
        replace hv := hv.2 hb
        refine go_steps q_R_trucks kc_R_trucks 4 rfl ?_
        obtain ⟨hc4, hv⟩ := hv
        refine go_iaload q_R_trucks kc_R_trucks rfl rfl hc4 ?_
        refine go_steps q_R_trucks kc_R_trucks 3 rfl ?_
        obtain ⟨hc5, hv⟩ := hv
        refine go_iaload q_R_trucks kc_R_trucks rfl rfl hc5 ?_
        refine go_steps q_R_trucks kc_R_trucks 4 rfl ?_
        obtain ⟨hc6, hv⟩ := hv
        refine go_iaload q_R_trucks kc_R_trucks rfl rfl hc6 ?_
        refine go_steps q_R_trucks kc_R_trucks 5 rfl ?_
        refine go_le (L1 := [some (.ref 47), some (.int p1), some (.int (p2 + (((σ1 48 (Int32.toNatClampNeg p3)) * (σ1 49 (Int32.toNatClampNeg p3))) * (σ1 50 (Int32.toNatClampNeg p3))))), some (.int (p3 + 1)), none]) (by repeat (first | exact trivial | refine ⟨rfl, ?_⟩)) ?_
        exact hv
set_option maxHeartbeats 4000000 in
set_option maxRecDepth 100000 in
theorem v_R_trucks_86 {l : Launch} {D : va_G} {DA : Nat → ClassId} {b sz d L : Nat} {cu : Bool} {σ : Nat → Nat → Int32} {r : Option Value} {X' : am_X} (p1 : Int32) (p2 : Int32) (p3 : Int32)
    (hv : (((σ 47 0) ≤ p3) → (∃ (σ1 : Nat → Nat → Int32), am_Go l D DA b sz d M_R_bigs (0, [some (.ref 47), some (.int ((σ 47 0) - 1)), some (.int 0), some (.int 0), some (.int p1), none, none], [], (am_TT cu L, am_RR cu, am_us (am_us σ 47 35 0) 47 36 0)) none (am_TT cu L, am_RR cu, σ1) ∧ ((¬ (((σ1 47 14) * (σ1 47 15)) * (σ1 47 16)) = 0) ∧ (r = some (.int (if (((p2 + (((σ1 47 14) * (σ1 47 15)) * (σ1 47 16))) - 1) / (((σ1 47 14) * (σ1 47 15)) * (σ1 47 16))) ≤ (σ1 47 35) then σ1 47 35 else ((p2 + (((σ1 47 14) * (σ1 47 15)) * (σ1 47 16))) - 1) / (((σ1 47 14) * (σ1 47 15)) * (σ1 47 16)) : Int32)) ∧ X' = (am_TT cu L, am_RR cu, am_us (am_us (am_us σ1 47 37 (((p2 + (((σ1 47 14) * (σ1 47 15)) * (σ1 47 16))) - 1) / (((σ1 47 14) * (σ1 47 15)) * (σ1 47 16)))) 47 38 (σ1 47 35)) 47 39 (σ1 47 36)))))) ∧ (¬ ((σ 47 0) ≤ p3) → ((¬ (p3 < 0 ∨ 20 ≤ Int32.toNatClampNeg p3)) ∧ (am_Go l D DA b sz (d + 1) M_R_trucks (104, [some (.ref 47), some (.int p1), some (.int p2), some (.int p3), some (.int 0)], [], (am_TT cu L, am_RR cu, am_us σ 68 (Int32.toNatClampNeg p3) 0)) r X')))) :
    am_Go l D DA b sz (d + 1) M_R_trucks (86, [some (.ref 47), some (.int p1), some (.int p2), some (.int p3), none], [], (am_TT cu L, am_RR cu, σ)) r X' := by
  refine go_steps q_R_trucks kc_R_trucks 4 rfl ?_
  refine go_if (fun hb => ?_) (fun hb => ?_)
  · have hb : (σ 47 0) ≤ p3 := hb
    replace hv := hv.1 hb
    refine go_steps q_R_trucks kc_R_trucks 14 rfl ?_
    obtain ⟨σ1, hg, hv⟩ := hv
    refine go_callV q_R_trucks kc_R_trucks rfl q_R_bigs am_k149 ⟨rfl, rfl, by decide⟩ rfl rfl (Nat.le_of_ble_eq_true rfl) (Nat.le_of_ble_eq_true rfl) rfl rfl hg ?_
    refine go_steps q_R_trucks kc_R_trucks 16 rfl ?_
    obtain ⟨hc, hv⟩ := hv
    refine go_idiv q_R_trucks kc_R_trucks rfl hc ?_
    refine go_steps q_R_trucks kc_R_trucks 14 rfl ?_
    have key : am_Go l D DA b sz (d + 1) M_R_trucks (260, [some (.ref 47), some (.int p1), some (.int p2), some (.int (((σ1 47 14) * (σ1 47 15)) * (σ1 47 16))), none], [.int (if (((p2 + (((σ1 47 14) * (σ1 47 15)) * (σ1 47 16))) - 1) / (((σ1 47 14) * (σ1 47 15)) * (σ1 47 16))) ≤ (σ1 47 35) then σ1 47 35 else ((p2 + (((σ1 47 14) * (σ1 47 15)) * (σ1 47 16))) - 1) / (((σ1 47 14) * (σ1 47 15)) * (σ1 47 16)) : Int32)], (am_TT cu L, am_RR cu, am_us (am_us (am_us σ1 47 37 (((p2 + (((σ1 47 14) * (σ1 47 15)) * (σ1 47 16))) - 1) / (((σ1 47 14) * (σ1 47 15)) * (σ1 47 16)))) 47 38 (σ1 47 35)) 47 39 (σ1 47 36))) r X' := by
      obtain ⟨rfl, rfl⟩ := hv
      exact go_retI q_R_trucks kc_R_trucks rfl rfl rfl
    refine go_if (fun hb => ?_) (fun hb => ?_)
    · have hb : (((p2 + (((σ1 47 14) * (σ1 47 15)) * (σ1 47 16))) - 1) / (((σ1 47 14) * (σ1 47 15)) * (σ1 47 16))) ≤ (σ1 47 35) := hb
      rw [show (if (((p2 + (((σ1 47 14) * (σ1 47 15)) * (σ1 47 16))) - 1) / (((σ1 47 14) * (σ1 47 15)) * (σ1 47 16))) ≤ (σ1 47 35) then σ1 47 35 else ((p2 + (((σ1 47 14) * (σ1 47 15)) * (σ1 47 16))) - 1) / (((σ1 47 14) * (σ1 47 15)) * (σ1 47 16)) : Int32) = (σ1 47 35) from if_pos hb] at key
      refine go_steps q_R_trucks kc_R_trucks 2 rfl ?_
      exact key
    · have hb : ¬ ((((p2 + (((σ1 47 14) * (σ1 47 15)) * (σ1 47 16))) - 1) / (((σ1 47 14) * (σ1 47 15)) * (σ1 47 16))) ≤ (σ1 47 35)) := hb
      rw [show (if (((p2 + (((σ1 47 14) * (σ1 47 15)) * (σ1 47 16))) - 1) / (((σ1 47 14) * (σ1 47 15)) * (σ1 47 16))) ≤ (σ1 47 35) then σ1 47 35 else ((p2 + (((σ1 47 14) * (σ1 47 15)) * (σ1 47 16))) - 1) / (((σ1 47 14) * (σ1 47 15)) * (σ1 47 16)) : Int32) = (((p2 + (((σ1 47 14) * (σ1 47 15)) * (σ1 47 16))) - 1) / (((σ1 47 14) * (σ1 47 15)) * (σ1 47 16))) from if_neg hb] at key
      refine go_steps q_R_trucks kc_R_trucks 3 rfl ?_
      exact key
  · have hb : ¬ ((σ 47 0) ≤ p3) := hb
    replace hv := hv.2 hb
    refine go_steps q_R_trucks kc_R_trucks 4 rfl ?_
    obtain ⟨hc, hv⟩ := hv
    refine go_iastore q_R_trucks kc_R_trucks rfl rfl hc ?_
    refine go_steps q_R_trucks kc_R_trucks 2 rfl ?_
    refine go_le (L1 := [some (.ref 47), some (.int p1), some (.int p2), some (.int p3), some (.int 0)]) (by repeat (first | exact trivial | refine ⟨rfl, ?_⟩)) ?_
    exact hv
set_option maxHeartbeats 4000000 in
set_option maxRecDepth 100000 in
theorem v_R_trucks_104 {l : Launch} {D : va_G} {DA : Nat → ClassId} {b sz d L : Nat} {cu : Bool} {σ : Nat → Nat → Int32} {r : Option Value} {X' : am_X} (p1 : Int32) (p2 : Int32) (p3 : Int32) (p4 : Int32)
    (hv : (((σ 47 0) ≤ p4) → (am_Go l D DA b sz (d + 1) M_R_trucks (86, [some (.ref 47), some (.int p1), some (.int p2), some (.int (p3 + 1)), none], [], (am_TT cu L, am_RR cu, σ)) r X')) ∧ (¬ ((σ 47 0) ≤ p4) → (((p3 = p4) → (am_Go l D DA b sz (d + 1) M_R_trucks (104, [some (.ref 47), some (.int p1), some (.int p2), some (.int p3), some (.int (p4 + 1))], [], (am_TT cu L, am_RR cu, σ)) r X')) ∧ (¬ (p3 = p4) → (((((p1 >>> (p3 &&& 31 : Int32) : Int32) &&& 1) = (1 : Int32)) → (((((p1 >>> (p4 &&& 31 : Int32) : Int32) &&& 1) = (1 : Int32)) → (∃ (r1 : Int32) (σ1 : Nat → Nat → Int32), am_Go l D DA b sz d M_R_isApart (0, [some (.ref 47), some (.int p3), some (.int p4), none, none, none, none], [], (am_TT cu L, am_RR cu, σ)) (some (.int r1)) (am_TT cu L, am_RR cu, σ1) ∧ (((r1 = 0) → (am_Go l D DA b sz (d + 1) M_R_trucks (104, [some (.ref 47), some (.int p1), some (.int p2), some (.int p3), some (.int (p4 + 1))], [], (am_TT cu L, am_RR cu, σ1)) r X')) ∧ (¬ (r1 = 0) → ((¬ (p3 < 0 ∨ 20 ≤ Int32.toNatClampNeg p3)) ∧ ((¬ (p3 < 0 ∨ 20 ≤ Int32.toNatClampNeg p3)) ∧ (am_Go l D DA b sz (d + 1) M_R_trucks (104, [some (.ref 47), some (.int p1), some (.int p2), some (.int p3), some (.int (p4 + 1))], [], (am_TT cu L, am_RR cu, am_us σ1 68 (Int32.toNatClampNeg p3) ((σ1 68 (Int32.toNatClampNeg p3)) ||| (1 <<< (p4 &&& 31 : Int32) : Int32)))) r X'))))))) ∧ (¬ (((p1 >>> (p4 &&& 31 : Int32) : Int32) &&& 1) = (1 : Int32)) → (am_Go l D DA b sz (d + 1) M_R_trucks (104, [some (.ref 47), some (.int p1), some (.int p2), some (.int p3), some (.int (p4 + 1))], [], (am_TT cu L, am_RR cu, σ)) r X')))) ∧ (¬ (((p1 >>> (p3 &&& 31 : Int32) : Int32) &&& 1) = (1 : Int32)) → (am_Go l D DA b sz (d + 1) M_R_trucks (104, [some (.ref 47), some (.int p1), some (.int p2), some (.int p3), some (.int (p4 + 1))], [], (am_TT cu L, am_RR cu, σ)) r X'))))))) :
    am_Go l D DA b sz (d + 1) M_R_trucks (104, [some (.ref 47), some (.int p1), some (.int p2), some (.int p3), some (.int p4)], [], (am_TT cu L, am_RR cu, σ)) r X' := by
  refine go_steps q_R_trucks kc_R_trucks 4 rfl ?_
  refine go_if (fun hb => ?_) (fun hb => ?_)
  · have hb : (σ 47 0) ≤ p4 := hb
    replace hv := hv.1 hb
    refine go_steps q_R_trucks kc_R_trucks 2 rfl ?_
    refine go_le (L1 := [some (.ref 47), some (.int p1), some (.int p2), some (.int (p3 + 1)), none]) (by repeat (first | exact trivial | refine ⟨rfl, ?_⟩)) ?_
    exact hv
  · have hb : ¬ ((σ 47 0) ≤ p4) := hb
    replace hv := hv.2 hb
    refine go_steps q_R_trucks kc_R_trucks 3 rfl ?_
    refine go_if (fun hb => ?_) (fun hb => ?_)
    · have hb : p3 = p4 := hb
      replace hv := hv.1 hb
      refine go_steps q_R_trucks kc_R_trucks 2 rfl ?_
      refine go_le (L1 := [some (.ref 47), some (.int p1), some (.int p2), some (.int p3), some (.int (p4 + 1))]) (by repeat (first | exact trivial | refine ⟨rfl, ?_⟩)) ?_
      exact hv
    · have hb : ¬ (p3 = p4) := hb
      replace hv := hv.2 hb
      refine go_steps q_R_trucks kc_R_trucks 7 rfl ?_
      refine go_if (fun hb => ?_) (fun hb => ?_)
      · have hb : ((p1 >>> (p3 &&& 31 : Int32) : Int32) &&& 1) = (1 : Int32) := hb
        replace hv := hv.1 hb
        refine go_steps q_R_trucks kc_R_trucks 7 rfl ?_
        refine go_if (fun hb => ?_) (fun hb => ?_)
        · have hb : ((p1 >>> (p4 &&& 31 : Int32) : Int32) &&& 1) = (1 : Int32) := hb
          replace hv := hv.1 hb
          refine go_steps q_R_trucks kc_R_trucks 3 rfl ?_
          obtain ⟨r1, σ1, hg, hv⟩ := hv
          refine go_callV q_R_trucks kc_R_trucks rfl q_R_isApart am_k148 ⟨rfl, rfl, by decide⟩ rfl rfl (Nat.le_of_ble_eq_true rfl) (Nat.le_of_ble_eq_true rfl) rfl rfl hg ?_
          refine go_steps q_R_trucks kc_R_trucks 1 rfl ?_
          refine go_if (fun hb => ?_) (fun hb => ?_)
          · have hb : r1 = 0 := hb
            replace hv := hv.1 hb
            refine go_steps q_R_trucks kc_R_trucks 2 rfl ?_
            refine go_le (L1 := [some (.ref 47), some (.int p1), some (.int p2), some (.int p3), some (.int (p4 + 1))]) (by repeat (first | exact trivial | refine ⟨rfl, ?_⟩)) ?_
            exact hv
          · have hb : ¬ (r1 = 0) := hb
            replace hv := hv.2 hb
            refine go_steps q_R_trucks kc_R_trucks 4 rfl ?_
            obtain ⟨hc1, hv⟩ := hv
            refine go_iaload q_R_trucks kc_R_trucks rfl rfl hc1 ?_
            refine go_steps q_R_trucks kc_R_trucks 4 rfl ?_
            obtain ⟨hc, hv⟩ := hv
            refine go_iastore q_R_trucks kc_R_trucks rfl rfl hc ?_
            refine go_steps q_R_trucks kc_R_trucks 2 rfl ?_
            refine go_le (L1 := [some (.ref 47), some (.int p1), some (.int p2), some (.int p3), some (.int (p4 + 1))]) (by repeat (first | exact trivial | refine ⟨rfl, ?_⟩)) ?_
            exact hv
        · have hb : ¬ (((p1 >>> (p4 &&& 31 : Int32) : Int32) &&& 1) = (1 : Int32)) := hb
          replace hv := hv.2 hb
          refine go_steps q_R_trucks kc_R_trucks 2 rfl ?_
          refine go_le (L1 := [some (.ref 47), some (.int p1), some (.int p2), some (.int p3), some (.int (p4 + 1))]) (by repeat (first | exact trivial | refine ⟨rfl, ?_⟩)) ?_
          exact hv
      · have hb : ¬ (((p1 >>> (p3 &&& 31 : Int32) : Int32) &&& 1) = (1 : Int32)) := hb
        replace hv := hv.2 hb
        refine go_steps q_R_trucks kc_R_trucks 2 rfl ?_
        refine go_le (L1 := [some (.ref 47), some (.int p1), some (.int p2), some (.int p3), some (.int (p4 + 1))]) (by repeat (first | exact trivial | refine ⟨rfl, ?_⟩)) ?_
        exact hv
set_option maxHeartbeats 4000000 in
set_option maxRecDepth 100000 in
theorem v_R_fitsSo_0 {l : Launch} {D : va_G} {DA : Nat → ClassId} {b sz d L : Nat} {cu : Bool} {σ : Nat → Nat → Int32} {r : Option Value} {X' : am_X} (p1 : Int32) (p2 : Int32)
    (hv : ((p2 = 0) → ((¬ (p1 < 0 ∨ 20 ≤ Int32.toNatClampNeg p1)) ∧ (am_Go l D DA b sz d M_R_fitsSo (19, [some (.ref 47), some (.int p1), some (.int p2), none, none], [.int (σ 48 (Int32.toNatClampNeg p1))], (am_TT cu L, am_RR cu, σ)) r X'))) ∧ (¬ (p2 = 0) → ((¬ (p1 < 0 ∨ 20 ≤ Int32.toNatClampNeg p1)) ∧ (am_Go l D DA b sz d M_R_fitsSo (19, [some (.ref 47), some (.int p1), some (.int p2), none, none], [.int (σ 49 (Int32.toNatClampNeg p1))], (am_TT cu L, am_RR cu, σ)) r X')))) :
    am_Go l D DA b sz d M_R_fitsSo (0, [some (.ref 47), some (.int p1), some (.int p2), none, none], [], (am_TT cu L, am_RR cu, σ)) r X' := by
  refine go_steps q_R_fitsSo kc_R_fitsSo 2 rfl ?_
  refine go_if (fun hb => ?_) (fun hb => ?_)
  · have hb : p2 = 0 := hb
    replace hv := hv.1 hb
    refine go_steps q_R_fitsSo kc_R_fitsSo 3 rfl ?_
    obtain ⟨hc1, hv⟩ := hv
    refine go_iaload q_R_fitsSo kc_R_fitsSo rfl rfl hc1 ?_
    refine go_le (L1 := [some (.ref 47), some (.int p1), some (.int p2), none, none]) (by repeat (first | exact trivial | refine ⟨rfl, ?_⟩)) ?_
    exact hv
  · have hb : ¬ (p2 = 0) := hb
    replace hv := hv.2 hb
    refine go_steps q_R_fitsSo kc_R_fitsSo 3 rfl ?_
    obtain ⟨hc2, hv⟩ := hv
    refine go_iaload q_R_fitsSo kc_R_fitsSo rfl rfl hc2 ?_
    refine go_steps q_R_fitsSo kc_R_fitsSo 1 rfl ?_
    refine go_le (L1 := [some (.ref 47), some (.int p1), some (.int p2), none, none]) (by repeat (first | exact trivial | refine ⟨rfl, ?_⟩)) ?_
    exact hv
set_option maxHeartbeats 4000000 in
set_option maxRecDepth 100000 in
theorem v_R_fitsSo_19 {l : Launch} {D : va_G} {DA : Nat → ClassId} {b sz d L : Nat} {cu : Bool} {σ : Nat → Nat → Int32} {r : Option Value} {X' : am_X} (p1 : Int32) (p2 : Int32) (s0 : Int32)
    (hv : ((p2 = 0) → ((¬ (p1 < 0 ∨ 20 ≤ Int32.toNatClampNeg p1)) ∧ (am_Go l D DA b sz d M_R_fitsSo (39, [some (.ref 47), some (.int p1), some (.int p2), some (.int s0), none], [.int (σ 49 (Int32.toNatClampNeg p1))], (am_TT cu L, am_RR cu, σ)) r X'))) ∧ (¬ (p2 = 0) → ((¬ (p1 < 0 ∨ 20 ≤ Int32.toNatClampNeg p1)) ∧ (am_Go l D DA b sz d M_R_fitsSo (39, [some (.ref 47), some (.int p1), some (.int p2), some (.int s0), none], [.int (σ 48 (Int32.toNatClampNeg p1))], (am_TT cu L, am_RR cu, σ)) r X')))) :
    am_Go l D DA b sz d M_R_fitsSo (19, [some (.ref 47), some (.int p1), some (.int p2), none, none], [.int s0], (am_TT cu L, am_RR cu, σ)) r X' := by
  refine go_steps q_R_fitsSo kc_R_fitsSo 3 rfl ?_
  refine go_if (fun hb => ?_) (fun hb => ?_)
  · have hb : p2 = 0 := hb
    replace hv := hv.1 hb
    refine go_steps q_R_fitsSo kc_R_fitsSo 3 rfl ?_
    obtain ⟨hc1, hv⟩ := hv
    refine go_iaload q_R_fitsSo kc_R_fitsSo rfl rfl hc1 ?_
    refine go_le (L1 := [some (.ref 47), some (.int p1), some (.int p2), some (.int s0), none]) (by repeat (first | exact trivial | refine ⟨rfl, ?_⟩)) ?_
    exact hv
  · have hb : ¬ (p2 = 0) := hb
    replace hv := hv.2 hb
    refine go_steps q_R_fitsSo kc_R_fitsSo 3 rfl ?_
    obtain ⟨hc2, hv⟩ := hv
    refine go_iaload q_R_fitsSo kc_R_fitsSo rfl rfl hc2 ?_
    refine go_steps q_R_fitsSo kc_R_fitsSo 1 rfl ?_
    refine go_le (L1 := [some (.ref 47), some (.int p1), some (.int p2), some (.int s0), none]) (by repeat (first | exact trivial | refine ⟨rfl, ?_⟩)) ?_
    exact hv
set_option maxHeartbeats 4000000 in
set_option maxRecDepth 100000 in
theorem v_R_fitsSo_39 {l : Launch} {D : va_G} {DA : Nat → ClassId} {b sz d L : Nat} {cu : Bool} {σ : Nat → Nat → Int32} {r : Option Value} {X' : am_X} (p1 : Int32) (p2 : Int32) (p3 : Int32) (s0 : Int32)
    (hv : ((p2 = 0) → ((((σ 47 14) < p3) → (r = some (.int 0) ∧ X' = (am_TT cu L, am_RR cu, σ))) ∧ (¬ ((σ 47 14) < p3) → ((((σ 47 15) < s0) → (r = some (.int 0) ∧ X' = (am_TT cu L, am_RR cu, σ))) ∧ (¬ ((σ 47 15) < s0) → ((¬ (p1 < 0 ∨ 20 ≤ Int32.toNatClampNeg p1)) ∧ (((if (σ 47 16) < (σ 50 (Int32.toNatClampNeg p1)) then 0 else 1 : Int32) = 0 ∨ (if (σ 47 16) < (σ 50 (Int32.toNatClampNeg p1)) then 0 else 1 : Int32) = 1) ∧ (r = some (.int (if (σ 47 16) < (σ 50 (Int32.toNatClampNeg p1)) then 0 else 1 : Int32)) ∧ X' = (am_TT cu L, am_RR cu, σ))))))))) ∧ (¬ (p2 = 0) → ((¬ (p1 < 0 ∨ 20 ≤ Int32.toNatClampNeg p1)) ∧ ((((σ 54 (Int32.toNatClampNeg p1)) = 0) → (r = some (.int 0) ∧ X' = (am_TT cu L, am_RR cu, σ))) ∧ (¬ ((σ 54 (Int32.toNatClampNeg p1)) = 0) → ((((σ 47 14) < p3) → (r = some (.int 0) ∧ X' = (am_TT cu L, am_RR cu, σ))) ∧ (¬ ((σ 47 14) < p3) → ((((σ 47 15) < s0) → (r = some (.int 0) ∧ X' = (am_TT cu L, am_RR cu, σ))) ∧ (¬ ((σ 47 15) < s0) → ((¬ (p1 < 0 ∨ 20 ≤ Int32.toNatClampNeg p1)) ∧ (((if (σ 47 16) < (σ 50 (Int32.toNatClampNeg p1)) then 0 else 1 : Int32) = 0 ∨ (if (σ 47 16) < (σ 50 (Int32.toNatClampNeg p1)) then 0 else 1 : Int32) = 1) ∧ (r = some (.int (if (σ 47 16) < (σ 50 (Int32.toNatClampNeg p1)) then 0 else 1 : Int32)) ∧ X' = (am_TT cu L, am_RR cu, σ))))))))))))) :
    am_Go l D DA b sz d M_R_fitsSo (39, [some (.ref 47), some (.int p1), some (.int p2), some (.int p3), none], [.int s0], (am_TT cu L, am_RR cu, σ)) r X' := by
  refine go_steps q_R_fitsSo kc_R_fitsSo 3 rfl ?_
  refine go_if (fun hb => ?_) (fun hb => ?_)
  · have hb : p2 = 0 := hb
    replace hv := hv.1 hb
    refine go_steps q_R_fitsSo kc_R_fitsSo 4 rfl ?_
    refine go_if (fun hb => ?_) (fun hb => ?_)
    · have hb : (σ 47 14) < p3 := hb
      replace hv := hv.1 hb
      refine go_steps q_R_fitsSo kc_R_fitsSo 1 rfl ?_
      obtain ⟨rfl, rfl⟩ := hv
      exact go_retI q_R_fitsSo kc_R_fitsSo rfl rfl rfl
    · have hb : ¬ ((σ 47 14) < p3) := hb
      replace hv := hv.2 hb
      refine go_steps q_R_fitsSo kc_R_fitsSo 4 rfl ?_
      refine go_if (fun hb => ?_) (fun hb => ?_)
      · have hb : (σ 47 15) < s0 := hb
        replace hv := hv.1 hb
        refine go_steps q_R_fitsSo kc_R_fitsSo 1 rfl ?_
        obtain ⟨rfl, rfl⟩ := hv
        exact go_retI q_R_fitsSo kc_R_fitsSo rfl rfl rfl
      · have hb : ¬ ((σ 47 15) < s0) := hb
        replace hv := hv.2 hb
        refine go_steps q_R_fitsSo kc_R_fitsSo 3 rfl ?_
        obtain ⟨hc1, hv⟩ := hv
        refine go_iaload q_R_fitsSo kc_R_fitsSo rfl rfl hc1 ?_
        refine go_steps q_R_fitsSo kc_R_fitsSo 3 rfl ?_
        have key : am_Go l D DA b sz d M_R_fitsSo (89, [some (.ref 47), some (.int p1), some (.int p2), some (.int p3), some (.int s0)], [.int (if (σ 47 16) < (σ 50 (Int32.toNatClampNeg p1)) then 0 else 1 : Int32)], (am_TT cu L, am_RR cu, σ)) r X' := by
          obtain ⟨hc, rfl, rfl⟩ := hv
          exact go_retI q_R_fitsSo kc_R_fitsSo rfl rfl (am_nar hc)
        refine go_if (fun hb => ?_) (fun hb => ?_)
        · have hb : (σ 47 16) < (σ 50 (Int32.toNatClampNeg p1)) := hb
          rw [show (if (σ 47 16) < (σ 50 (Int32.toNatClampNeg p1)) then 0 else 1 : Int32) = 0 from if_pos hb] at key
          refine go_steps q_R_fitsSo kc_R_fitsSo 1 rfl ?_
          exact key
        · have hb : ¬ ((σ 47 16) < (σ 50 (Int32.toNatClampNeg p1))) := hb
          rw [show (if (σ 47 16) < (σ 50 (Int32.toNatClampNeg p1)) then 0 else 1 : Int32) = 1 from if_neg hb] at key
          refine go_steps q_R_fitsSo kc_R_fitsSo 2 rfl ?_
          exact key
  · have hb : ¬ (p2 = 0) := hb
    replace hv := hv.2 hb
    refine go_steps q_R_fitsSo kc_R_fitsSo 3 rfl ?_
    obtain ⟨hc2, hv⟩ := hv
    refine go_baload q_R_fitsSo kc_R_fitsSo rfl rfl hc2 ?_
    refine go_steps q_R_fitsSo kc_R_fitsSo 1 rfl ?_
    refine go_if (fun hb => ?_) (fun hb => ?_)
    · have hb : (σ 54 (Int32.toNatClampNeg p1)) = 0 := hb
      replace hv := hv.1 hb
      refine go_steps q_R_fitsSo kc_R_fitsSo 1 rfl ?_
      obtain ⟨rfl, rfl⟩ := hv
      exact go_retI q_R_fitsSo kc_R_fitsSo rfl rfl rfl
    · have hb : ¬ ((σ 54 (Int32.toNatClampNeg p1)) = 0) := hb
      replace hv := hv.2 hb
      refine go_steps q_R_fitsSo kc_R_fitsSo 4 rfl ?_
      refine go_if (fun hb => ?_) (fun hb => ?_)
      · have hb : (σ 47 14) < p3 := hb
        replace hv := hv.1 hb
        refine go_steps q_R_fitsSo kc_R_fitsSo 1 rfl ?_
        obtain ⟨rfl, rfl⟩ := hv
        exact go_retI q_R_fitsSo kc_R_fitsSo rfl rfl rfl
      · have hb : ¬ ((σ 47 14) < p3) := hb
        replace hv := hv.2 hb
        refine go_steps q_R_fitsSo kc_R_fitsSo 4 rfl ?_
        refine go_if (fun hb => ?_) (fun hb => ?_)
        · have hb : (σ 47 15) < s0 := hb
          replace hv := hv.1 hb
          refine go_steps q_R_fitsSo kc_R_fitsSo 1 rfl ?_
          obtain ⟨rfl, rfl⟩ := hv
          exact go_retI q_R_fitsSo kc_R_fitsSo rfl rfl rfl
        · have hb : ¬ ((σ 47 15) < s0) := hb
          replace hv := hv.2 hb
          refine go_steps q_R_fitsSo kc_R_fitsSo 3 rfl ?_
          obtain ⟨hc3, hv⟩ := hv
          refine go_iaload q_R_fitsSo kc_R_fitsSo rfl rfl hc3 ?_
          refine go_steps q_R_fitsSo kc_R_fitsSo 3 rfl ?_
          have key : am_Go l D DA b sz d M_R_fitsSo (89, [some (.ref 47), some (.int p1), some (.int p2), some (.int p3), some (.int s0)], [.int (if (σ 47 16) < (σ 50 (Int32.toNatClampNeg p1)) then 0 else 1 : Int32)], (am_TT cu L, am_RR cu, σ)) r X' := by
            obtain ⟨hc, rfl, rfl⟩ := hv
            exact go_retI q_R_fitsSo kc_R_fitsSo rfl rfl (am_nar hc)
          refine go_if (fun hb => ?_) (fun hb => ?_)
          · have hb : (σ 47 16) < (σ 50 (Int32.toNatClampNeg p1)) := hb
            rw [show (if (σ 47 16) < (σ 50 (Int32.toNatClampNeg p1)) then 0 else 1 : Int32) = 0 from if_pos hb] at key
            refine go_steps q_R_fitsSo kc_R_fitsSo 1 rfl ?_
            exact key
          · have hb : ¬ ((σ 47 16) < (σ 50 (Int32.toNatClampNeg p1))) := hb
            rw [show (if (σ 47 16) < (σ 50 (Int32.toNatClampNeg p1)) then 0 else 1 : Int32) = 1 from if_neg hb] at key
            refine go_steps q_R_fitsSo kc_R_fitsSo 2 rfl ?_
            exact key
set_option maxHeartbeats 4000000 in
set_option maxRecDepth 100000 in
theorem v_R_isApart_0 {l : Launch} {D : va_G} {DA : Nat → ClassId} {b sz d L : Nat} {cu : Bool} {σ : Nat → Nat → Int32} {r : Option Value} {X' : am_X} (p1 : Int32) (p2 : Int32)
    (hv : am_Go l D DA b sz (d + 1) M_R_isApart (2, [some (.ref 47), some (.int p1), some (.int p2), some (.int 0), none, none, none], [], (am_TT cu L, am_RR cu, σ)) r X') :
    am_Go l D DA b sz (d + 1) M_R_isApart (0, [some (.ref 47), some (.int p1), some (.int p2), none, none, none, none], [], (am_TT cu L, am_RR cu, σ)) r X' := by
  refine go_steps q_R_isApart kc_R_isApart 2 rfl ?_
  refine go_le (L1 := [some (.ref 47), some (.int p1), some (.int p2), some (.int 0), none, none, none]) (by repeat (first | exact trivial | refine ⟨rfl, ?_⟩)) ?_
  exact hv
set_option maxHeartbeats 4000000 in
set_option maxRecDepth 100000 in
theorem v_R_isApart_2 {l : Launch} {D : va_G} {DA : Nat → ClassId} {b sz d L : Nat} {cu : Bool} {σ : Nat → Nat → Int32} {r : Option Value} {X' : am_X} (p1 : Int32) (p2 : Int32) (p3 : Int32)
    (hv : ((4 ≤ p3) → (r = some (.int 1) ∧ X' = (am_TT cu L, am_RR cu, σ))) ∧ (¬ (4 ≤ p3) → (∃ (r1 : Int32) (σ1 : Nat → Nat → Int32), am_Go l D DA b sz d M_R_fitsSo (0, [some (.ref 47), some (.int p1), some (.int (if (p3 - p3 / 2 * 2) = 1 then 1 else 0 : Int32)), none, none], [], (am_TT cu L, am_RR cu, σ)) (some (.int r1)) (am_TT cu L, am_RR cu, σ1) ∧ (((r1 = 0) → (am_Go l D DA b sz (d + 1) M_R_isApart (200, [some (.ref 47), some (.int p1), some (.int p2), some (.int p3), none, none, none], [], (am_TT cu L, am_RR cu, σ1)) r X')) ∧ (¬ (r1 = 0) → (∃ (r2 : Int32) (σ2 : Nat → Nat → Int32), am_Go l D DA b sz d M_R_fitsSo (0, [some (.ref 47), some (.int p2), some (.int (if (p3 / 2) = 1 then 1 else 0 : Int32)), none, none], [], (am_TT cu L, am_RR cu, σ1)) (some (.int r2)) (am_TT cu L, am_RR cu, σ2) ∧ (((r2 = 0) → (am_Go l D DA b sz (d + 1) M_R_isApart (200, [some (.ref 47), some (.int p1), some (.int p2), some (.int p3), none, none, none], [], (am_TT cu L, am_RR cu, σ2)) r X')) ∧ (¬ (r2 = 0) → (am_Go l D DA b sz (d + 1) M_R_isApart (58, [some (.ref 47), some (.int p1), some (.int p2), some (.int p3), some (.int (if (p3 - p3 / 2 * 2) = 1 then 1 else 0 : Int32)), some (.int (if (p3 / 2) = 1 then 1 else 0 : Int32)), none], [], (am_TT cu L, am_RR cu, σ2)) r X'))))))))) :
    am_Go l D DA b sz (d + 1) M_R_isApart (2, [some (.ref 47), some (.int p1), some (.int p2), some (.int p3), none, none, none], [], (am_TT cu L, am_RR cu, σ)) r X' := by
  refine go_steps q_R_isApart kc_R_isApart 3 rfl ?_
  refine go_if (fun hb => ?_) (fun hb => ?_)
  · have hb : 4 ≤ p3 := hb
    replace hv := hv.1 hb
    refine go_steps q_R_isApart kc_R_isApart 1 rfl ?_
    obtain ⟨rfl, rfl⟩ := hv
    exact go_retI q_R_isApart kc_R_isApart rfl rfl rfl
  · have hb : ¬ (4 ≤ p3) := hb
    replace hv := hv.2 hb
    refine go_steps q_R_isApart kc_R_isApart 5 rfl ?_
    have key : am_Go l D DA b sz (d + 1) M_R_isApart (19, [some (.ref 47), some (.int p1), some (.int p2), some (.int p3), none, none, none], [.int (if (p3 - p3 / 2 * 2) = 1 then 1 else 0 : Int32)], (am_TT cu L, am_RR cu, σ)) r X' := by
      refine go_steps q_R_isApart kc_R_isApart 6 rfl ?_
      have key : am_Go l D DA b sz (d + 1) M_R_isApart (33, [some (.ref 47), some (.int p1), some (.int p2), some (.int p3), some (.int (if (p3 - p3 / 2 * 2) = 1 then 1 else 0 : Int32)), none, none], [.int (if (p3 / 2) = 1 then 1 else 0 : Int32)], (am_TT cu L, am_RR cu, σ)) r X' := by
        refine go_steps q_R_isApart kc_R_isApart 4 rfl ?_
        obtain ⟨r1, σ1, hg, hv⟩ := hv
        refine go_callV q_R_isApart kc_R_isApart rfl q_R_fitsSo am_k147 ⟨rfl, rfl, by decide⟩ rfl rfl (Nat.le_of_ble_eq_true rfl) (Nat.le_of_ble_eq_true rfl) rfl rfl hg ?_
        refine go_steps q_R_isApart kc_R_isApart 1 rfl ?_
        refine go_if (fun hb => ?_) (fun hb => ?_)
        · have hb : r1 = 0 := hb
          replace hv := hv.1 hb
          refine go_le (L1 := [some (.ref 47), some (.int p1), some (.int p2), some (.int p3), none, none, none]) (by repeat (first | exact trivial | refine ⟨rfl, ?_⟩)) ?_
          exact hv
        · have hb : ¬ (r1 = 0) := hb
          replace hv := hv.2 hb
          refine go_steps q_R_isApart kc_R_isApart 3 rfl ?_
          obtain ⟨r2, σ2, hg, hv⟩ := hv
          refine go_callV q_R_isApart kc_R_isApart rfl q_R_fitsSo am_k147 ⟨rfl, rfl, by decide⟩ rfl rfl (Nat.le_of_ble_eq_true rfl) (Nat.le_of_ble_eq_true rfl) rfl rfl hg ?_
          refine go_steps q_R_isApart kc_R_isApart 1 rfl ?_
          refine go_if (fun hb => ?_) (fun hb => ?_)
          · have hb : r2 = 0 := hb
            replace hv := hv.1 hb
            refine go_steps q_R_isApart kc_R_isApart 1 rfl ?_
            refine go_le (L1 := [some (.ref 47), some (.int p1), some (.int p2), some (.int p3), none, none, none]) (by repeat (first | exact trivial | refine ⟨rfl, ?_⟩)) ?_
            exact hv
          · have hb : ¬ (r2 = 0) := hb
            replace hv := hv.2 hb
            refine go_le (L1 := [some (.ref 47), some (.int p1), some (.int p2), some (.int p3), some (.int (if (p3 - p3 / 2 * 2) = 1 then 1 else 0 : Int32)), some (.int (if (p3 / 2) = 1 then 1 else 0 : Int32)), none]) (by repeat (first | exact trivial | refine ⟨rfl, ?_⟩)) ?_
            exact hv
      refine go_if (fun hb => ?_) (fun hb => ?_)
      · have hb : (p3 / 2) = 1 := hb
        rw [show (if (p3 / 2) = 1 then 1 else 0 : Int32) = 1 from if_pos hb] at key
        refine go_steps q_R_isApart kc_R_isApart 2 rfl ?_
        exact key
      · have hb : ¬ ((p3 / 2) = 1) := hb
        rw [show (if (p3 / 2) = 1 then 1 else 0 : Int32) = 0 from if_neg hb] at key
        refine go_steps q_R_isApart kc_R_isApart 1 rfl ?_
        exact key
    refine go_if (fun hb => ?_) (fun hb => ?_)
    · have hb : (p3 - p3 / 2 * 2) = 1 := hb
      rw [show (if (p3 - p3 / 2 * 2) = 1 then 1 else 0 : Int32) = 1 from if_pos hb] at key
      refine go_steps q_R_isApart kc_R_isApart 2 rfl ?_
      exact key
    · have hb : ¬ ((p3 - p3 / 2 * 2) = 1) := hb
      rw [show (if (p3 - p3 / 2 * 2) = 1 then 1 else 0 : Int32) = 0 from if_neg hb] at key
      refine go_steps q_R_isApart kc_R_isApart 1 rfl ?_
      exact key
set_option maxHeartbeats 4000000 in
set_option maxRecDepth 100000 in
theorem v_R_isApart_58 {l : Launch} {D : va_G} {DA : Nat → ClassId} {b sz d L : Nat} {cu : Bool} {σ : Nat → Nat → Int32} {r : Option Value} {X' : am_X} (p1 : Int32) (p2 : Int32) (p3 : Int32) (p4 : Int32) (p5 : Int32)
    (hv : ((p4 = 0) → ((¬ (p1 < 0 ∨ 20 ≤ Int32.toNatClampNeg p1)) ∧ (((p5 = 0) → ((¬ (p2 < 0 ∨ 20 ≤ Int32.toNatClampNeg p2)) ∧ (am_Go l D DA b sz (d + 1) M_R_isApart (113, [some (.ref 47), some (.int p1), some (.int p2), some (.int p3), some (.int p4), some (.int p5), some (.int (if ((σ 48 (Int32.toNatClampNeg p1)) + (σ 48 (Int32.toNatClampNeg p2))) ≤ (σ 47 14) then 0 else 1 : Int32))], [], (am_TT cu L, am_RR cu, σ)) r X'))) ∧ (¬ (p5 = 0) → ((¬ (p2 < 0 ∨ 20 ≤ Int32.toNatClampNeg p2)) ∧ (am_Go l D DA b sz (d + 1) M_R_isApart (113, [some (.ref 47), some (.int p1), some (.int p2), some (.int p3), some (.int p4), some (.int p5), some (.int (if ((σ 48 (Int32.toNatClampNeg p1)) + (σ 49 (Int32.toNatClampNeg p2))) ≤ (σ 47 14) then 0 else 1 : Int32))], [], (am_TT cu L, am_RR cu, σ)) r X')))))) ∧ (¬ (p4 = 0) → ((¬ (p1 < 0 ∨ 20 ≤ Int32.toNatClampNeg p1)) ∧ (((p5 = 0) → ((¬ (p2 < 0 ∨ 20 ≤ Int32.toNatClampNeg p2)) ∧ (am_Go l D DA b sz (d + 1) M_R_isApart (113, [some (.ref 47), some (.int p1), some (.int p2), some (.int p3), some (.int p4), some (.int p5), some (.int (if ((σ 49 (Int32.toNatClampNeg p1)) + (σ 48 (Int32.toNatClampNeg p2))) ≤ (σ 47 14) then 0 else 1 : Int32))], [], (am_TT cu L, am_RR cu, σ)) r X'))) ∧ (¬ (p5 = 0) → ((¬ (p2 < 0 ∨ 20 ≤ Int32.toNatClampNeg p2)) ∧ (am_Go l D DA b sz (d + 1) M_R_isApart (113, [some (.ref 47), some (.int p1), some (.int p2), some (.int p3), some (.int p4), some (.int p5), some (.int (if ((σ 49 (Int32.toNatClampNeg p1)) + (σ 49 (Int32.toNatClampNeg p2))) ≤ (σ 47 14) then 0 else 1 : Int32))], [], (am_TT cu L, am_RR cu, σ)) r X'))))))) :
    am_Go l D DA b sz (d + 1) M_R_isApart (58, [some (.ref 47), some (.int p1), some (.int p2), some (.int p3), some (.int p4), some (.int p5), none], [], (am_TT cu L, am_RR cu, σ)) r X' := by
  refine go_steps q_R_isApart kc_R_isApart 2 rfl ?_
  refine go_if (fun hb => ?_) (fun hb => ?_)
  · have hb : p4 = 0 := hb
    replace hv := hv.1 hb
    refine go_steps q_R_isApart kc_R_isApart 3 rfl ?_
    obtain ⟨hc1, hv⟩ := hv
    refine go_iaload q_R_isApart kc_R_isApart rfl rfl hc1 ?_
    refine go_steps q_R_isApart kc_R_isApart 2 rfl ?_
    refine go_if (fun hb => ?_) (fun hb => ?_)
    · have hb : p5 = 0 := hb
      replace hv := hv.1 hb
      refine go_steps q_R_isApart kc_R_isApart 3 rfl ?_
      obtain ⟨hc2, hv⟩ := hv
      refine go_iaload q_R_isApart kc_R_isApart rfl rfl hc2 ?_
      refine go_steps q_R_isApart kc_R_isApart 4 rfl ?_
      have key : am_Go l D DA b sz (d + 1) M_R_isApart (111, [some (.ref 47), some (.int p1), some (.int p2), some (.int p3), some (.int p4), some (.int p5), none], [.int (if ((σ 48 (Int32.toNatClampNeg p1)) + (σ 48 (Int32.toNatClampNeg p2))) ≤ (σ 47 14) then 0 else 1 : Int32)], (am_TT cu L, am_RR cu, σ)) r X' := by
        refine go_steps q_R_isApart kc_R_isApart 1 rfl ?_
        refine go_le (L1 := [some (.ref 47), some (.int p1), some (.int p2), some (.int p3), some (.int p4), some (.int p5), some (.int (if ((σ 48 (Int32.toNatClampNeg p1)) + (σ 48 (Int32.toNatClampNeg p2))) ≤ (σ 47 14) then 0 else 1 : Int32))]) (by repeat (first | exact trivial | refine ⟨rfl, ?_⟩)) ?_
        exact hv
      refine go_if (fun hb => ?_) (fun hb => ?_)
      · have hb : ((σ 48 (Int32.toNatClampNeg p1)) + (σ 48 (Int32.toNatClampNeg p2))) ≤ (σ 47 14) := hb
        rw [show (if ((σ 48 (Int32.toNatClampNeg p1)) + (σ 48 (Int32.toNatClampNeg p2))) ≤ (σ 47 14) then 0 else 1 : Int32) = 0 from if_pos hb] at key
        refine go_steps q_R_isApart kc_R_isApart 1 rfl ?_
        exact key
      · have hb : ¬ (((σ 48 (Int32.toNatClampNeg p1)) + (σ 48 (Int32.toNatClampNeg p2))) ≤ (σ 47 14)) := hb
        rw [show (if ((σ 48 (Int32.toNatClampNeg p1)) + (σ 48 (Int32.toNatClampNeg p2))) ≤ (σ 47 14) then 0 else 1 : Int32) = 1 from if_neg hb] at key
        refine go_steps q_R_isApart kc_R_isApart 2 rfl ?_
        exact key
    · have hb : ¬ (p5 = 0) := hb
      replace hv := hv.2 hb
      refine go_steps q_R_isApart kc_R_isApart 3 rfl ?_
      obtain ⟨hc3, hv⟩ := hv
      refine go_iaload q_R_isApart kc_R_isApart rfl rfl hc3 ?_
      refine go_steps q_R_isApart kc_R_isApart 5 rfl ?_
      have key : am_Go l D DA b sz (d + 1) M_R_isApart (111, [some (.ref 47), some (.int p1), some (.int p2), some (.int p3), some (.int p4), some (.int p5), none], [.int (if ((σ 48 (Int32.toNatClampNeg p1)) + (σ 49 (Int32.toNatClampNeg p2))) ≤ (σ 47 14) then 0 else 1 : Int32)], (am_TT cu L, am_RR cu, σ)) r X' := by
        refine go_steps q_R_isApart kc_R_isApart 1 rfl ?_
        refine go_le (L1 := [some (.ref 47), some (.int p1), some (.int p2), some (.int p3), some (.int p4), some (.int p5), some (.int (if ((σ 48 (Int32.toNatClampNeg p1)) + (σ 49 (Int32.toNatClampNeg p2))) ≤ (σ 47 14) then 0 else 1 : Int32))]) (by repeat (first | exact trivial | refine ⟨rfl, ?_⟩)) ?_
        exact hv
      refine go_if (fun hb => ?_) (fun hb => ?_)
      · have hb : ((σ 48 (Int32.toNatClampNeg p1)) + (σ 49 (Int32.toNatClampNeg p2))) ≤ (σ 47 14) := hb
        rw [show (if ((σ 48 (Int32.toNatClampNeg p1)) + (σ 49 (Int32.toNatClampNeg p2))) ≤ (σ 47 14) then 0 else 1 : Int32) = 0 from if_pos hb] at key
        refine go_steps q_R_isApart kc_R_isApart 1 rfl ?_
        exact key
      · have hb : ¬ (((σ 48 (Int32.toNatClampNeg p1)) + (σ 49 (Int32.toNatClampNeg p2))) ≤ (σ 47 14)) := hb
        rw [show (if ((σ 48 (Int32.toNatClampNeg p1)) + (σ 49 (Int32.toNatClampNeg p2))) ≤ (σ 47 14) then 0 else 1 : Int32) = 1 from if_neg hb] at key
        refine go_steps q_R_isApart kc_R_isApart 2 rfl ?_
        exact key
  · have hb : ¬ (p4 = 0) := hb
    replace hv := hv.2 hb
    refine go_steps q_R_isApart kc_R_isApart 3 rfl ?_
    obtain ⟨hc4, hv⟩ := hv
    refine go_iaload q_R_isApart kc_R_isApart rfl rfl hc4 ?_
    refine go_steps q_R_isApart kc_R_isApart 3 rfl ?_
    refine go_if (fun hb => ?_) (fun hb => ?_)
    · have hb : p5 = 0 := hb
      replace hv := hv.1 hb
      refine go_steps q_R_isApart kc_R_isApart 3 rfl ?_
      obtain ⟨hc5, hv⟩ := hv
      refine go_iaload q_R_isApart kc_R_isApart rfl rfl hc5 ?_
      refine go_steps q_R_isApart kc_R_isApart 4 rfl ?_
      have key : am_Go l D DA b sz (d + 1) M_R_isApart (111, [some (.ref 47), some (.int p1), some (.int p2), some (.int p3), some (.int p4), some (.int p5), none], [.int (if ((σ 49 (Int32.toNatClampNeg p1)) + (σ 48 (Int32.toNatClampNeg p2))) ≤ (σ 47 14) then 0 else 1 : Int32)], (am_TT cu L, am_RR cu, σ)) r X' := by
        refine go_steps q_R_isApart kc_R_isApart 1 rfl ?_
        refine go_le (L1 := [some (.ref 47), some (.int p1), some (.int p2), some (.int p3), some (.int p4), some (.int p5), some (.int (if ((σ 49 (Int32.toNatClampNeg p1)) + (σ 48 (Int32.toNatClampNeg p2))) ≤ (σ 47 14) then 0 else 1 : Int32))]) (by repeat (first | exact trivial | refine ⟨rfl, ?_⟩)) ?_
        exact hv
      refine go_if (fun hb => ?_) (fun hb => ?_)
      · have hb : ((σ 49 (Int32.toNatClampNeg p1)) + (σ 48 (Int32.toNatClampNeg p2))) ≤ (σ 47 14) := hb
        rw [show (if ((σ 49 (Int32.toNatClampNeg p1)) + (σ 48 (Int32.toNatClampNeg p2))) ≤ (σ 47 14) then 0 else 1 : Int32) = 0 from if_pos hb] at key
        refine go_steps q_R_isApart kc_R_isApart 1 rfl ?_
        exact key
      · have hb : ¬ (((σ 49 (Int32.toNatClampNeg p1)) + (σ 48 (Int32.toNatClampNeg p2))) ≤ (σ 47 14)) := hb
        rw [show (if ((σ 49 (Int32.toNatClampNeg p1)) + (σ 48 (Int32.toNatClampNeg p2))) ≤ (σ 47 14) then 0 else 1 : Int32) = 1 from if_neg hb] at key
        refine go_steps q_R_isApart kc_R_isApart 2 rfl ?_
        exact key
    · have hb : ¬ (p5 = 0) := hb
      replace hv := hv.2 hb
      refine go_steps q_R_isApart kc_R_isApart 3 rfl ?_
      obtain ⟨hc6, hv⟩ := hv
      refine go_iaload q_R_isApart kc_R_isApart rfl rfl hc6 ?_
      refine go_steps q_R_isApart kc_R_isApart 5 rfl ?_
      have key : am_Go l D DA b sz (d + 1) M_R_isApart (111, [some (.ref 47), some (.int p1), some (.int p2), some (.int p3), some (.int p4), some (.int p5), none], [.int (if ((σ 49 (Int32.toNatClampNeg p1)) + (σ 49 (Int32.toNatClampNeg p2))) ≤ (σ 47 14) then 0 else 1 : Int32)], (am_TT cu L, am_RR cu, σ)) r X' := by
        refine go_steps q_R_isApart kc_R_isApart 1 rfl ?_
        refine go_le (L1 := [some (.ref 47), some (.int p1), some (.int p2), some (.int p3), some (.int p4), some (.int p5), some (.int (if ((σ 49 (Int32.toNatClampNeg p1)) + (σ 49 (Int32.toNatClampNeg p2))) ≤ (σ 47 14) then 0 else 1 : Int32))]) (by repeat (first | exact trivial | refine ⟨rfl, ?_⟩)) ?_
        exact hv
      refine go_if (fun hb => ?_) (fun hb => ?_)
      · have hb : ((σ 49 (Int32.toNatClampNeg p1)) + (σ 49 (Int32.toNatClampNeg p2))) ≤ (σ 47 14) := hb
        rw [show (if ((σ 49 (Int32.toNatClampNeg p1)) + (σ 49 (Int32.toNatClampNeg p2))) ≤ (σ 47 14) then 0 else 1 : Int32) = 0 from if_pos hb] at key
        refine go_steps q_R_isApart kc_R_isApart 1 rfl ?_
        exact key
      · have hb : ¬ (((σ 49 (Int32.toNatClampNeg p1)) + (σ 49 (Int32.toNatClampNeg p2))) ≤ (σ 47 14)) := hb
        rw [show (if ((σ 49 (Int32.toNatClampNeg p1)) + (σ 49 (Int32.toNatClampNeg p2))) ≤ (σ 47 14) then 0 else 1 : Int32) = 1 from if_neg hb] at key
        refine go_steps q_R_isApart kc_R_isApart 2 rfl ?_
        exact key
set_option maxHeartbeats 4000000 in
set_option maxRecDepth 100000 in
theorem v_R_isApart_113 {l : Launch} {D : va_G} {DA : Nat → ClassId} {b sz d L : Nat} {cu : Bool} {σ : Nat → Nat → Int32} {r : Option Value} {X' : am_X} (p1 : Int32) (p2 : Int32) (p3 : Int32) (p4 : Int32) (p5 : Int32) (p6 : Int32)
    (hv : ((p6 = 0) → (am_Go l D DA b sz (d + 1) M_R_isApart (173, [some (.ref 47), some (.int p1), some (.int p2), some (.int p3), none, none, some (.int 0)], [], (am_TT cu L, am_RR cu, σ)) r X')) ∧ (¬ (p6 = 0) → (((p4 = 0) → ((¬ (p1 < 0 ∨ 20 ≤ Int32.toNatClampNeg p1)) ∧ (((p5 = 0) → ((¬ (p2 < 0 ∨ 20 ≤ Int32.toNatClampNeg p2)) ∧ (am_Go l D DA b sz (d + 1) M_R_isApart (173, [some (.ref 47), some (.int p1), some (.int p2), some (.int p3), none, none, some (.int (if ((σ 49 (Int32.toNatClampNeg p1)) + (σ 49 (Int32.toNatClampNeg p2))) ≤ (σ 47 15) then 0 else 1 : Int32))], [], (am_TT cu L, am_RR cu, σ)) r X'))) ∧ (¬ (p5 = 0) → ((¬ (p2 < 0 ∨ 20 ≤ Int32.toNatClampNeg p2)) ∧ (am_Go l D DA b sz (d + 1) M_R_isApart (173, [some (.ref 47), some (.int p1), some (.int p2), some (.int p3), none, none, some (.int (if ((σ 49 (Int32.toNatClampNeg p1)) + (σ 48 (Int32.toNatClampNeg p2))) ≤ (σ 47 15) then 0 else 1 : Int32))], [], (am_TT cu L, am_RR cu, σ)) r X')))))) ∧ (¬ (p4 = 0) → ((¬ (p1 < 0 ∨ 20 ≤ Int32.toNatClampNeg p1)) ∧ (((p5 = 0) → ((¬ (p2 < 0 ∨ 20 ≤ Int32.toNatClampNeg p2)) ∧ (am_Go l D DA b sz (d + 1) M_R_isApart (173, [some (.ref 47), some (.int p1), some (.int p2), some (.int p3), none, none, some (.int (if ((σ 48 (Int32.toNatClampNeg p1)) + (σ 49 (Int32.toNatClampNeg p2))) ≤ (σ 47 15) then 0 else 1 : Int32))], [], (am_TT cu L, am_RR cu, σ)) r X'))) ∧ (¬ (p5 = 0) → ((¬ (p2 < 0 ∨ 20 ≤ Int32.toNatClampNeg p2)) ∧ (am_Go l D DA b sz (d + 1) M_R_isApart (173, [some (.ref 47), some (.int p1), some (.int p2), some (.int p3), none, none, some (.int (if ((σ 48 (Int32.toNatClampNeg p1)) + (σ 48 (Int32.toNatClampNeg p2))) ≤ (σ 47 15) then 0 else 1 : Int32))], [], (am_TT cu L, am_RR cu, σ)) r X'))))))))) :
    am_Go l D DA b sz (d + 1) M_R_isApart (113, [some (.ref 47), some (.int p1), some (.int p2), some (.int p3), some (.int p4), some (.int p5), some (.int p6)], [], (am_TT cu L, am_RR cu, σ)) r X' := by
  refine go_steps q_R_isApart kc_R_isApart 2 rfl ?_
  refine go_if (fun hb => ?_) (fun hb => ?_)
  · have hb : p6 = 0 := hb
    replace hv := hv.1 hb
    refine go_steps q_R_isApart kc_R_isApart 2 rfl ?_
    refine go_le (L1 := [some (.ref 47), some (.int p1), some (.int p2), some (.int p3), none, none, some (.int 0)]) (by repeat (first | exact trivial | refine ⟨rfl, ?_⟩)) ?_
    exact hv
  · have hb : ¬ (p6 = 0) := hb
    replace hv := hv.2 hb
    refine go_steps q_R_isApart kc_R_isApart 2 rfl ?_
    refine go_if (fun hb => ?_) (fun hb => ?_)
    · have hb : p4 = 0 := hb
      replace hv := hv.1 hb
      refine go_steps q_R_isApart kc_R_isApart 3 rfl ?_
      obtain ⟨hc1, hv⟩ := hv
      refine go_iaload q_R_isApart kc_R_isApart rfl rfl hc1 ?_
      refine go_steps q_R_isApart kc_R_isApart 2 rfl ?_
      refine go_if (fun hb => ?_) (fun hb => ?_)
      · have hb : p5 = 0 := hb
        replace hv := hv.1 hb
        refine go_steps q_R_isApart kc_R_isApart 3 rfl ?_
        obtain ⟨hc2, hv⟩ := hv
        refine go_iaload q_R_isApart kc_R_isApart rfl rfl hc2 ?_
        refine go_steps q_R_isApart kc_R_isApart 4 rfl ?_
        have key : am_Go l D DA b sz (d + 1) M_R_isApart (171, [some (.ref 47), some (.int p1), some (.int p2), some (.int p3), some (.int p4), some (.int p5), some (.int p6)], [.int (if ((σ 49 (Int32.toNatClampNeg p1)) + (σ 49 (Int32.toNatClampNeg p2))) ≤ (σ 47 15) then 0 else 1 : Int32)], (am_TT cu L, am_RR cu, σ)) r X' := by
          refine go_steps q_R_isApart kc_R_isApart 1 rfl ?_
          refine go_le (L1 := [some (.ref 47), some (.int p1), some (.int p2), some (.int p3), none, none, some (.int (if ((σ 49 (Int32.toNatClampNeg p1)) + (σ 49 (Int32.toNatClampNeg p2))) ≤ (σ 47 15) then 0 else 1 : Int32))]) (by repeat (first | exact trivial | refine ⟨rfl, ?_⟩)) ?_
          exact hv
        refine go_if (fun hb => ?_) (fun hb => ?_)
        · have hb : ((σ 49 (Int32.toNatClampNeg p1)) + (σ 49 (Int32.toNatClampNeg p2))) ≤ (σ 47 15) := hb
          rw [show (if ((σ 49 (Int32.toNatClampNeg p1)) + (σ 49 (Int32.toNatClampNeg p2))) ≤ (σ 47 15) then 0 else 1 : Int32) = 0 from if_pos hb] at key
          refine go_steps q_R_isApart kc_R_isApart 1 rfl ?_
          exact key
        · have hb : ¬ (((σ 49 (Int32.toNatClampNeg p1)) + (σ 49 (Int32.toNatClampNeg p2))) ≤ (σ 47 15)) := hb
          rw [show (if ((σ 49 (Int32.toNatClampNeg p1)) + (σ 49 (Int32.toNatClampNeg p2))) ≤ (σ 47 15) then 0 else 1 : Int32) = 1 from if_neg hb] at key
          refine go_steps q_R_isApart kc_R_isApart 2 rfl ?_
          exact key
      · have hb : ¬ (p5 = 0) := hb
        replace hv := hv.2 hb
        refine go_steps q_R_isApart kc_R_isApart 3 rfl ?_
        obtain ⟨hc3, hv⟩ := hv
        refine go_iaload q_R_isApart kc_R_isApart rfl rfl hc3 ?_
        refine go_steps q_R_isApart kc_R_isApart 5 rfl ?_
        have key : am_Go l D DA b sz (d + 1) M_R_isApart (171, [some (.ref 47), some (.int p1), some (.int p2), some (.int p3), some (.int p4), some (.int p5), some (.int p6)], [.int (if ((σ 49 (Int32.toNatClampNeg p1)) + (σ 48 (Int32.toNatClampNeg p2))) ≤ (σ 47 15) then 0 else 1 : Int32)], (am_TT cu L, am_RR cu, σ)) r X' := by
          refine go_steps q_R_isApart kc_R_isApart 1 rfl ?_
          refine go_le (L1 := [some (.ref 47), some (.int p1), some (.int p2), some (.int p3), none, none, some (.int (if ((σ 49 (Int32.toNatClampNeg p1)) + (σ 48 (Int32.toNatClampNeg p2))) ≤ (σ 47 15) then 0 else 1 : Int32))]) (by repeat (first | exact trivial | refine ⟨rfl, ?_⟩)) ?_
          exact hv
        refine go_if (fun hb => ?_) (fun hb => ?_)
        · have hb : ((σ 49 (Int32.toNatClampNeg p1)) + (σ 48 (Int32.toNatClampNeg p2))) ≤ (σ 47 15) := hb
          rw [show (if ((σ 49 (Int32.toNatClampNeg p1)) + (σ 48 (Int32.toNatClampNeg p2))) ≤ (σ 47 15) then 0 else 1 : Int32) = 0 from if_pos hb] at key
          refine go_steps q_R_isApart kc_R_isApart 1 rfl ?_
          exact key
        · have hb : ¬ (((σ 49 (Int32.toNatClampNeg p1)) + (σ 48 (Int32.toNatClampNeg p2))) ≤ (σ 47 15)) := hb
          rw [show (if ((σ 49 (Int32.toNatClampNeg p1)) + (σ 48 (Int32.toNatClampNeg p2))) ≤ (σ 47 15) then 0 else 1 : Int32) = 1 from if_neg hb] at key
          refine go_steps q_R_isApart kc_R_isApart 2 rfl ?_
          exact key
    · have hb : ¬ (p4 = 0) := hb
      replace hv := hv.2 hb
      refine go_steps q_R_isApart kc_R_isApart 3 rfl ?_
      obtain ⟨hc4, hv⟩ := hv
      refine go_iaload q_R_isApart kc_R_isApart rfl rfl hc4 ?_
      refine go_steps q_R_isApart kc_R_isApart 3 rfl ?_
      refine go_if (fun hb => ?_) (fun hb => ?_)
      · have hb : p5 = 0 := hb
        replace hv := hv.1 hb
        refine go_steps q_R_isApart kc_R_isApart 3 rfl ?_
        obtain ⟨hc5, hv⟩ := hv
        refine go_iaload q_R_isApart kc_R_isApart rfl rfl hc5 ?_
        refine go_steps q_R_isApart kc_R_isApart 4 rfl ?_
        have key : am_Go l D DA b sz (d + 1) M_R_isApart (171, [some (.ref 47), some (.int p1), some (.int p2), some (.int p3), some (.int p4), some (.int p5), some (.int p6)], [.int (if ((σ 48 (Int32.toNatClampNeg p1)) + (σ 49 (Int32.toNatClampNeg p2))) ≤ (σ 47 15) then 0 else 1 : Int32)], (am_TT cu L, am_RR cu, σ)) r X' := by
          refine go_steps q_R_isApart kc_R_isApart 1 rfl ?_
          refine go_le (L1 := [some (.ref 47), some (.int p1), some (.int p2), some (.int p3), none, none, some (.int (if ((σ 48 (Int32.toNatClampNeg p1)) + (σ 49 (Int32.toNatClampNeg p2))) ≤ (σ 47 15) then 0 else 1 : Int32))]) (by repeat (first | exact trivial | refine ⟨rfl, ?_⟩)) ?_
          exact hv
        refine go_if (fun hb => ?_) (fun hb => ?_)
        · have hb : ((σ 48 (Int32.toNatClampNeg p1)) + (σ 49 (Int32.toNatClampNeg p2))) ≤ (σ 47 15) := hb
          rw [show (if ((σ 48 (Int32.toNatClampNeg p1)) + (σ 49 (Int32.toNatClampNeg p2))) ≤ (σ 47 15) then 0 else 1 : Int32) = 0 from if_pos hb] at key
          refine go_steps q_R_isApart kc_R_isApart 1 rfl ?_
          exact key
        · have hb : ¬ (((σ 48 (Int32.toNatClampNeg p1)) + (σ 49 (Int32.toNatClampNeg p2))) ≤ (σ 47 15)) := hb
          rw [show (if ((σ 48 (Int32.toNatClampNeg p1)) + (σ 49 (Int32.toNatClampNeg p2))) ≤ (σ 47 15) then 0 else 1 : Int32) = 1 from if_neg hb] at key
          refine go_steps q_R_isApart kc_R_isApart 2 rfl ?_
          exact key
      · have hb : ¬ (p5 = 0) := hb
        replace hv := hv.2 hb
        refine go_steps q_R_isApart kc_R_isApart 3 rfl ?_
        obtain ⟨hc6, hv⟩ := hv
        refine go_iaload q_R_isApart kc_R_isApart rfl rfl hc6 ?_
        refine go_steps q_R_isApart kc_R_isApart 5 rfl ?_
        have key : am_Go l D DA b sz (d + 1) M_R_isApart (171, [some (.ref 47), some (.int p1), some (.int p2), some (.int p3), some (.int p4), some (.int p5), some (.int p6)], [.int (if ((σ 48 (Int32.toNatClampNeg p1)) + (σ 48 (Int32.toNatClampNeg p2))) ≤ (σ 47 15) then 0 else 1 : Int32)], (am_TT cu L, am_RR cu, σ)) r X' := by
          refine go_steps q_R_isApart kc_R_isApart 1 rfl ?_
          refine go_le (L1 := [some (.ref 47), some (.int p1), some (.int p2), some (.int p3), none, none, some (.int (if ((σ 48 (Int32.toNatClampNeg p1)) + (σ 48 (Int32.toNatClampNeg p2))) ≤ (σ 47 15) then 0 else 1 : Int32))]) (by repeat (first | exact trivial | refine ⟨rfl, ?_⟩)) ?_
          exact hv
        refine go_if (fun hb => ?_) (fun hb => ?_)
        · have hb : ((σ 48 (Int32.toNatClampNeg p1)) + (σ 48 (Int32.toNatClampNeg p2))) ≤ (σ 47 15) := hb
          rw [show (if ((σ 48 (Int32.toNatClampNeg p1)) + (σ 48 (Int32.toNatClampNeg p2))) ≤ (σ 47 15) then 0 else 1 : Int32) = 0 from if_pos hb] at key
          refine go_steps q_R_isApart kc_R_isApart 1 rfl ?_
          exact key
        · have hb : ¬ (((σ 48 (Int32.toNatClampNeg p1)) + (σ 48 (Int32.toNatClampNeg p2))) ≤ (σ 47 15)) := hb
          rw [show (if ((σ 48 (Int32.toNatClampNeg p1)) + (σ 48 (Int32.toNatClampNeg p2))) ≤ (σ 47 15) then 0 else 1 : Int32) = 1 from if_neg hb] at key
          refine go_steps q_R_isApart kc_R_isApart 2 rfl ?_
          exact key
set_option maxHeartbeats 4000000 in
set_option maxRecDepth 100000 in
theorem v_R_isApart_173 {l : Launch} {D : va_G} {DA : Nat → ClassId} {b sz d L : Nat} {cu : Bool} {σ : Nat → Nat → Int32} {r : Option Value} {X' : am_X} (p1 : Int32) (p2 : Int32) (p3 : Int32) (p6 : Int32)
    (hv : ((p6 = 0) → (r = some (.int 0) ∧ X' = (am_TT cu L, am_RR cu, σ))) ∧ (¬ (p6 = 0) → ((¬ (p1 < 0 ∨ 20 ≤ Int32.toNatClampNeg p1)) ∧ ((¬ (p2 < 0 ∨ 20 ≤ Int32.toNatClampNeg p2)) ∧ ((((σ 47 16) < ((σ 50 (Int32.toNatClampNeg p1)) + (σ 50 (Int32.toNatClampNeg p2)))) → (am_Go l D DA b sz (d + 1) M_R_isApart (200, [some (.ref 47), some (.int p1), some (.int p2), some (.int p3), none, none, none], [], (am_TT cu L, am_RR cu, σ)) r X')) ∧ (¬ ((σ 47 16) < ((σ 50 (Int32.toNatClampNeg p1)) + (σ 50 (Int32.toNatClampNeg p2)))) → (r = some (.int 0) ∧ X' = (am_TT cu L, am_RR cu, σ)))))))) :
    am_Go l D DA b sz (d + 1) M_R_isApart (173, [some (.ref 47), some (.int p1), some (.int p2), some (.int p3), none, none, some (.int p6)], [], (am_TT cu L, am_RR cu, σ)) r X' := by
  refine go_steps q_R_isApart kc_R_isApart 2 rfl ?_
  refine go_if (fun hb => ?_) (fun hb => ?_)
  · have hb : p6 = 0 := hb
    replace hv := hv.1 hb
    refine go_steps q_R_isApart kc_R_isApart 1 rfl ?_
    obtain ⟨rfl, rfl⟩ := hv
    exact go_retI q_R_isApart kc_R_isApart rfl rfl rfl
  · have hb : ¬ (p6 = 0) := hb
    replace hv := hv.2 hb
    refine go_steps q_R_isApart kc_R_isApart 3 rfl ?_
    obtain ⟨hc1, hv⟩ := hv
    refine go_iaload q_R_isApart kc_R_isApart rfl rfl hc1 ?_
    refine go_steps q_R_isApart kc_R_isApart 3 rfl ?_
    obtain ⟨hc2, hv⟩ := hv
    refine go_iaload q_R_isApart kc_R_isApart rfl rfl hc2 ?_
    refine go_steps q_R_isApart kc_R_isApart 4 rfl ?_
    refine go_if (fun hb => ?_) (fun hb => ?_)
    · have hb : (σ 47 16) < ((σ 50 (Int32.toNatClampNeg p1)) + (σ 50 (Int32.toNatClampNeg p2))) := hb
      replace hv := hv.1 hb
      refine go_le (L1 := [some (.ref 47), some (.int p1), some (.int p2), some (.int p3), none, none, none]) (by repeat (first | exact trivial | refine ⟨rfl, ?_⟩)) ?_
      exact hv
    · have hb : ¬ ((σ 47 16) < ((σ 50 (Int32.toNatClampNeg p1)) + (σ 50 (Int32.toNatClampNeg p2)))) := hb
      replace hv := hv.2 hb
      refine go_steps q_R_isApart kc_R_isApart 1 rfl ?_
      obtain ⟨rfl, rfl⟩ := hv
      exact go_retI q_R_isApart kc_R_isApart rfl rfl rfl
set_option maxHeartbeats 4000000 in
set_option maxRecDepth 100000 in
theorem v_R_isApart_200 {l : Launch} {D : va_G} {DA : Nat → ClassId} {b sz d L : Nat} {cu : Bool} {σ : Nat → Nat → Int32} {r : Option Value} {X' : am_X} (p1 : Int32) (p2 : Int32) (p3 : Int32)
    (hv : am_Go l D DA b sz (d + 1) M_R_isApart (2, [some (.ref 47), some (.int p1), some (.int p2), some (.int (p3 + 1)), none, none, none], [], (am_TT cu L, am_RR cu, σ)) r X') :
    am_Go l D DA b sz (d + 1) M_R_isApart (200, [some (.ref 47), some (.int p1), some (.int p2), some (.int p3), none, none, none], [], (am_TT cu L, am_RR cu, σ)) r X' := by
  refine go_steps q_R_isApart kc_R_isApart 2 rfl ?_
  refine go_le (L1 := [some (.ref 47), some (.int p1), some (.int p2), some (.int (p3 + 1)), none, none, none]) (by repeat (first | exact trivial | refine ⟨rfl, ?_⟩)) ?_
  exact hv
set_option maxHeartbeats 4000000 in
set_option maxRecDepth 100000 in
theorem v_R_bigs_0 {l : Launch} {D : va_G} {DA : Nat → ClassId} {b sz d L : Nat} {cu : Bool} {σ : Nat → Nat → Int32} {r : Option Value} {X' : am_X} (p1 : Int32) (p2 : Int32) (p3 : Int32) (p4 : Int32)
    (hv : am_Go l D DA b sz (d + 1) M_R_bigs (6, [some (.ref 47), some (.int p1), some (.int p2), some (.int p3), some (.int p4), some (.int 0), some (.int 0)], [], (am_TT cu L, am_RR cu, σ)) r X') :
    am_Go l D DA b sz (d + 1) M_R_bigs (0, [some (.ref 47), some (.int p1), some (.int p2), some (.int p3), some (.int p4), none, none], [], (am_TT cu L, am_RR cu, σ)) r X' := by
  refine go_steps q_R_bigs kc_R_bigs 4 rfl ?_
  refine go_le (L1 := [some (.ref 47), some (.int p1), some (.int p2), some (.int p3), some (.int p4), some (.int 0), some (.int 0)]) (by repeat (first | exact trivial | refine ⟨rfl, ?_⟩)) ?_
  exact hv
set_option maxHeartbeats 4000000 in
set_option maxRecDepth 100000 in
theorem v_R_bigs_6 {l : Launch} {D : va_G} {DA : Nat → ClassId} {b sz d L : Nat} {cu : Bool} {σ : Nat → Nat → Int32} {r : Option Value} {X' : am_X} (p1 : Int32) (p2 : Int32) (p3 : Int32) (p4 : Int32) (p5 : Int32) (p6 : Int32)
    (hv : ((p1 < p6) → ((((σ 47 35) < (p3 + p5)) → (((0 ≤ p1) → (∃ (σ1 : Nat → Nat → Int32), am_Go l D DA b sz d M_R_bigs (0, [some (.ref 47), some (.int (p1 - 1)), some (.int p2), some (.int p3), some (.int p4), none, none], [], (am_TT cu L, am_RR cu, σ)) none (am_TT cu L, am_RR cu, σ1) ∧ (((((p4 >>> (p1 &&& 31 : Int32) : Int32) &&& 1) = (1 : Int32)) → ((¬ (p1 < 0 ∨ 20 ≤ Int32.toNatClampNeg p1)) ∧ (∃ (σ2 : Nat → Nat → Int32), am_Go l D DA b sz d M_R_bigs (0, [some (.ref 47), some (.int (p1 - 1)), some (.int (p2 ||| (1 <<< (p1 &&& 31 : Int32) : Int32))), some (.int (p3 + 1)), some (.int (p4 &&& (σ1 68 (Int32.toNatClampNeg p1)))), none, none], [], (am_TT cu L, am_RR cu, σ1)) none (am_TT cu L, am_RR cu, σ2) ∧ (r = none ∧ X' = (am_TT cu L, am_RR cu, σ2))))) ∧ (¬ (((p4 >>> (p1 &&& 31 : Int32) : Int32) &&& 1) = (1 : Int32)) → (r = none ∧ X' = (am_TT cu L, am_RR cu, σ1)))))) ∧ (¬ (0 ≤ p1) → (r = none ∧ X' = (am_TT cu L, am_RR cu, am_us (am_us σ 47 35 p3) 47 36 p2))))) ∧ (¬ ((σ 47 35) < (p3 + p5)) → (r = none ∧ X' = (am_TT cu L, am_RR cu, σ))))) ∧ (¬ (p1 < p6) → (am_Go l D DA b sz (d + 1) M_R_bigs (6, [some (.ref 47), some (.int p1), some (.int p2), some (.int p3), some (.int p4), some (.int (p5 + ((p4 >>> (p6 &&& 31 : Int32) : Int32) &&& 1))), some (.int (p6 + 1))], [], (am_TT cu L, am_RR cu, σ)) r X'))) :
    am_Go l D DA b sz (d + 1) M_R_bigs (6, [some (.ref 47), some (.int p1), some (.int p2), some (.int p3), some (.int p4), some (.int p5), some (.int p6)], [], (am_TT cu L, am_RR cu, σ)) r X' := by
  refine go_steps q_R_bigs kc_R_bigs 3 rfl ?_
  refine go_if (fun hb => ?_) (fun hb => ?_)
  · have hb : p1 < p6 := hb
    replace hv := hv.1 hb
    refine go_steps q_R_bigs kc_R_bigs 6 rfl ?_
    refine go_if (fun hb => ?_) (fun hb => ?_)
    · have hb : (σ 47 35) < (p3 + p5) := hb
      replace hv := hv.1 hb
      refine go_steps q_R_bigs kc_R_bigs 2 rfl ?_
      refine go_if (fun hb => ?_) (fun hb => ?_)
      · have hb : 0 ≤ p1 := hb
        replace hv := hv.1 hb
        refine go_steps q_R_bigs kc_R_bigs 7 rfl ?_
        obtain ⟨σ1, hg, hv⟩ := hv
        refine go_callV q_R_bigs kc_R_bigs rfl q_R_bigs am_k149 ⟨rfl, rfl, by decide⟩ rfl rfl (Nat.le_of_ble_eq_true rfl) (Nat.le_of_ble_eq_true rfl) rfl rfl hg ?_
        refine go_steps q_R_bigs kc_R_bigs 7 rfl ?_
        refine go_if (fun hb => ?_) (fun hb => ?_)
        · have hb : ((p4 >>> (p1 &&& 31 : Int32) : Int32) &&& 1) = (1 : Int32) := hb
          replace hv := hv.1 hb
          refine go_steps q_R_bigs kc_R_bigs 16 rfl ?_
          obtain ⟨hc1, hv⟩ := hv
          refine go_iaload q_R_bigs kc_R_bigs rfl rfl hc1 ?_
          refine go_steps q_R_bigs kc_R_bigs 1 rfl ?_
          obtain ⟨σ2, hg, hv⟩ := hv
          refine go_callV q_R_bigs kc_R_bigs rfl q_R_bigs am_k149 ⟨rfl, rfl, by decide⟩ rfl rfl (Nat.le_of_ble_eq_true rfl) (Nat.le_of_ble_eq_true rfl) rfl rfl hg ?_
          obtain ⟨rfl, rfl⟩ := hv
          exact go_retV q_R_bigs kc_R_bigs rfl rfl
        · have hb : ¬ (((p4 >>> (p1 &&& 31 : Int32) : Int32) &&& 1) = (1 : Int32)) := hb
          replace hv := hv.2 hb
          obtain ⟨rfl, rfl⟩ := hv
          exact go_retV q_R_bigs kc_R_bigs rfl rfl
      · have hb : ¬ (0 ≤ p1) := hb
        replace hv := hv.2 hb
        refine go_steps q_R_bigs kc_R_bigs 6 rfl ?_
        obtain ⟨rfl, rfl⟩ := hv
        exact go_retV q_R_bigs kc_R_bigs rfl rfl
    · have hb : ¬ ((σ 47 35) < (p3 + p5)) := hb
      replace hv := hv.2 hb
      obtain ⟨rfl, rfl⟩ := hv
      exact go_retV q_R_bigs kc_R_bigs rfl rfl
  · have hb : ¬ (p1 < p6) := hb
    replace hv := hv.2 hb
    refine go_steps q_R_bigs kc_R_bigs 10 rfl ?_
    refine go_le (L1 := [some (.ref 47), some (.int p1), some (.int p2), some (.int p3), some (.int p4), some (.int (p5 + ((p4 >>> (p6 &&& 31 : Int32) : Int32) &&& 1))), some (.int (p6 + 1))]) (by repeat (first | exact trivial | refine ⟨rfl, ?_⟩)) ?_
    exact hv
set_option maxHeartbeats 4000000 in
set_option maxRecDepth 100000 in
theorem v_R_shown_0 {l : Launch} {D : va_G} {DA : Nat → ClassId} {b sz d L : Nat} {cu : Bool} {σ : Nat → Nat → Int32} {r : Option Value} {X' : am_X} (p1 : Int32)
    (hv : r = some (.int (if p1 = 0 then σ 47 37 else (if p1 = 1 then σ 47 38 else (if p1 = 2 then σ 47 39 else (-1) : Int32) : Int32) : Int32)) ∧ X' = (am_TT cu L, am_RR cu, σ)) :
    am_Go l D DA b sz d M_R_shown (0, [some (.ref 47), some (.int p1)], [], (am_TT cu L, am_RR cu, σ)) r X' := by
  refine go_steps q_R_shown kc_R_shown 2 rfl ?_
  have key : am_Go l D DA b sz d M_R_shown (36, [some (.ref 47), some (.int p1)], [.int (if p1 = 0 then σ 47 37 else (if p1 = 1 then σ 47 38 else (if p1 = 2 then σ 47 39 else (-1) : Int32) : Int32) : Int32)], (am_TT cu L, am_RR cu, σ)) r X' := by
    obtain ⟨rfl, rfl⟩ := hv
    exact go_retI q_R_shown kc_R_shown rfl rfl rfl
  refine go_if (fun hb => ?_) (fun hb => ?_)
  · have hb : p1 = 0 := hb
    rw [show (if p1 = 0 then σ 47 37 else (if p1 = 1 then σ 47 38 else (if p1 = 2 then σ 47 39 else (-1) : Int32) : Int32) : Int32) = (σ 47 37) from if_pos hb] at key
    refine go_steps q_R_shown kc_R_shown 3 rfl ?_
    exact key
  · have hb : ¬ (p1 = 0) := hb
    rw [show (if p1 = 0 then σ 47 37 else (if p1 = 1 then σ 47 38 else (if p1 = 2 then σ 47 39 else (-1) : Int32) : Int32) : Int32) = (if p1 = 1 then σ 47 38 else (if p1 = 2 then σ 47 39 else (-1) : Int32) : Int32) from if_neg hb] at key
    refine go_steps q_R_shown kc_R_shown 3 rfl ?_
    refine go_if (fun hb => ?_) (fun hb => ?_)
    · have hb : p1 = 1 := hb
      rw [show (if p1 = 1 then σ 47 38 else (if p1 = 2 then σ 47 39 else (-1) : Int32) : Int32) = (σ 47 38) from if_pos hb] at key
      refine go_steps q_R_shown kc_R_shown 3 rfl ?_
      exact key
    · have hb : ¬ (p1 = 1) := hb
      rw [show (if p1 = 1 then σ 47 38 else (if p1 = 2 then σ 47 39 else (-1) : Int32) : Int32) = (if p1 = 2 then σ 47 39 else (-1) : Int32) from if_neg hb] at key
      refine go_steps q_R_shown kc_R_shown 3 rfl ?_
      refine go_if (fun hb => ?_) (fun hb => ?_)
      · have hb : p1 = 2 := hb
        rw [show (if p1 = 2 then σ 47 39 else (-1) : Int32) = (σ 47 39) from if_pos hb] at key
        refine go_steps q_R_shown kc_R_shown 3 rfl ?_
        exact key
      · have hb : ¬ (p1 = 2) := hb
        rw [show (if p1 = 2 then σ 47 39 else (-1) : Int32) = (-1) from if_neg hb] at key
        refine go_steps q_R_shown kc_R_shown 1 rfl ?_
        exact key
set_option maxHeartbeats 4000000 in
set_option maxRecDepth 100000 in
theorem v_R_count_0 {l : Launch} {D : va_G} {DA : Nat → ClassId} {b sz d L : Nat} {cu : Bool} {σ : Nat → Nat → Int32} {r : Option Value} {X' : am_X} (p1 : Int32)
    (hv : (p1 = 0 → (r = some (.int (σ 47 0)) ∧ X' = (am_TT cu L, am_RR cu, σ))) ∧ (p1 = 1 → ((∃ (r1 : Int32) (σ1 : Nat → Nat → Int32), am_Go l D DA b sz d M_R_placed (0, [some (.ref 47), none, none], [], (am_TT cu L, am_RR cu, σ)) (some (.int r1)) (am_TT cu L, am_RR cu, σ1) ∧ (r = some (.int r1) ∧ X' = (am_TT cu L, am_RR cu, σ1))))) ∧ (p1 = 2 → ((∃ (r2 : Int32) (σ2 : Nat → Nat → Int32), am_Go l D DA b sz d M_R_weights (0, [some (.ref 47), some (.int 0), none, none], [], (am_TT cu L, am_RR cu, σ)) (some (.int r2)) (am_TT cu L, am_RR cu, σ2) ∧ (r = some (.int r2) ∧ X' = (am_TT cu L, am_RR cu, σ2))))) ∧ (p1 = 3 → ((∃ (r3 : Int32) (σ3 : Nat → Nat → Int32), am_Go l D DA b sz d M_R_farthest (0, [some (.ref 47), none, none], [], (am_TT cu L, am_RR cu, σ)) (some (.int r3)) (am_TT cu L, am_RR cu, σ3) ∧ (r = some (.int r3) ∧ X' = (am_TT cu L, am_RR cu, σ3))))) ∧ (p1 = 4 → (am_Go l D DA b sz (d + 1) M_R_count (95, [some (.ref 47), none, some (.int 0), some (.int 0)], [], (am_TT cu L, am_RR cu, σ)) r X')) ∧ (p1 = 5 → (r = some (.int (σ 47 14)) ∧ X' = (am_TT cu L, am_RR cu, σ))) ∧ (p1 = 6 → (r = some (.int (σ 47 15)) ∧ X' = (am_TT cu L, am_RR cu, σ))) ∧ (p1 = 7 → (r = some (.int (σ 47 16)) ∧ X' = (am_TT cu L, am_RR cu, σ))) ∧ (p1 = 8 → (r = some (.int (σ 47 17)) ∧ X' = (am_TT cu L, am_RR cu, σ))) ∧ (p1 = 9 → (r = some (.int (σ 47 18)) ∧ X' = (am_TT cu L, am_RR cu, σ))) ∧ (p1 = 10 → (r = some (.int (σ 47 19)) ∧ X' = (am_TT cu L, am_RR cu, σ))) ∧ (p1 = 11 → (r = some (.int (σ 47 20)) ∧ X' = (am_TT cu L, am_RR cu, σ))) ∧ (p1 = 12 → (r = some (.int (σ 47 21)) ∧ X' = (am_TT cu L, am_RR cu, σ))) ∧ (p1 = 13 → (r = some (.int (σ 47 22)) ∧ X' = (am_TT cu L, am_RR cu, σ))) ∧ (¬ p1 = 0 → ¬ p1 = 1 → ¬ p1 = 2 → ¬ p1 = 3 → ¬ p1 = 4 → ¬ p1 = 5 → ¬ p1 = 6 → ¬ p1 = 7 → ¬ p1 = 8 → ¬ p1 = 9 → ¬ p1 = 10 → ¬ p1 = 11 → ¬ p1 = 12 → ¬ p1 = 13 → (r = some (.int (-1)) ∧ X' = (am_TT cu L, am_RR cu, σ)))) :
    am_Go l D DA b sz (d + 1) M_R_count (0, [some (.ref 47), some (.int p1), none, none], [], (am_TT cu L, am_RR cu, σ)) r X' := by
  refine go_steps q_R_count kc_R_count 3 rfl ?_
  by_cases hs0 : p1 = 0
  · replace hv := hv.1 hs0
    refine go_sw q_R_count kc_R_count rfl (g := 72) (by rw [hs0]; rfl) ?_
    refine go_steps q_R_count kc_R_count 2 rfl ?_
    obtain ⟨rfl, rfl⟩ := hv
    exact go_retI q_R_count kc_R_count rfl rfl rfl
  by_cases hs1 : p1 = 1
  · replace hv := hv.2.1 hs1
    refine go_sw q_R_count kc_R_count rfl (g := 77) (by rw [hs1]; rfl) ?_
    refine go_steps q_R_count kc_R_count 1 rfl ?_
    obtain ⟨r1, σ1, hg, hv⟩ := hv
    refine go_callV q_R_count kc_R_count rfl q_R_placed am_k102 ⟨rfl, rfl, by decide⟩ rfl rfl (Nat.le_of_ble_eq_true rfl) (Nat.le_of_ble_eq_true rfl) rfl rfl hg ?_
    obtain ⟨rfl, rfl⟩ := hv
    exact go_retI q_R_count kc_R_count rfl rfl rfl
  by_cases hs2 : p1 = 2
  · replace hv := hv.2.2.1 hs2
    refine go_sw q_R_count kc_R_count rfl (g := 82) (by rw [hs2]; rfl) ?_
    refine go_steps q_R_count kc_R_count 2 rfl ?_
    obtain ⟨r2, σ2, hg, hv⟩ := hv
    refine go_callV q_R_count kc_R_count rfl q_R_weights am_k135 ⟨rfl, rfl, by decide⟩ rfl rfl (Nat.le_of_ble_eq_true rfl) (Nat.le_of_ble_eq_true rfl) rfl rfl hg ?_
    obtain ⟨rfl, rfl⟩ := hv
    exact go_retI q_R_count kc_R_count rfl rfl rfl
  by_cases hs3 : p1 = 3
  · replace hv := hv.2.2.2.1 hs3
    refine go_sw q_R_count kc_R_count rfl (g := 88) (by rw [hs3]; rfl) ?_
    refine go_steps q_R_count kc_R_count 1 rfl ?_
    obtain ⟨r3, σ3, hg, hv⟩ := hv
    refine go_callV q_R_count kc_R_count rfl q_R_farthest am_k128 ⟨rfl, rfl, by decide⟩ rfl rfl (Nat.le_of_ble_eq_true rfl) (Nat.le_of_ble_eq_true rfl) rfl rfl hg ?_
    obtain ⟨rfl, rfl⟩ := hv
    exact go_retI q_R_count kc_R_count rfl rfl rfl
  by_cases hs4 : p1 = 4
  · replace hv := hv.2.2.2.2.1 hs4
    refine go_sw q_R_count kc_R_count rfl (g := 93) (by rw [hs4]; rfl) ?_
    refine go_steps q_R_count kc_R_count 2 rfl ?_
    refine go_le (L1 := [some (.ref 47), none, some (.int 0), some (.int 0)]) (by repeat (first | exact trivial | refine ⟨rfl, ?_⟩)) ?_
    exact hv
  by_cases hs5 : p1 = 5
  · replace hv := hv.2.2.2.2.2.1 hs5
    refine go_sw q_R_count kc_R_count rfl (g := 147) (by rw [hs5]; rfl) ?_
    refine go_steps q_R_count kc_R_count 2 rfl ?_
    obtain ⟨rfl, rfl⟩ := hv
    exact go_retI q_R_count kc_R_count rfl rfl rfl
  by_cases hs6 : p1 = 6
  · replace hv := hv.2.2.2.2.2.2.1 hs6
    refine go_sw q_R_count kc_R_count rfl (g := 152) (by rw [hs6]; rfl) ?_
    refine go_steps q_R_count kc_R_count 2 rfl ?_
    obtain ⟨rfl, rfl⟩ := hv
    exact go_retI q_R_count kc_R_count rfl rfl rfl
  by_cases hs7 : p1 = 7
  · replace hv := hv.2.2.2.2.2.2.2.1 hs7
    refine go_sw q_R_count kc_R_count rfl (g := 157) (by rw [hs7]; rfl) ?_
    refine go_steps q_R_count kc_R_count 2 rfl ?_
    obtain ⟨rfl, rfl⟩ := hv
    exact go_retI q_R_count kc_R_count rfl rfl rfl
  by_cases hs8 : p1 = 8
  · replace hv := hv.2.2.2.2.2.2.2.2.1 hs8
    refine go_sw q_R_count kc_R_count rfl (g := 162) (by rw [hs8]; rfl) ?_
    refine go_steps q_R_count kc_R_count 2 rfl ?_
    obtain ⟨rfl, rfl⟩ := hv
    exact go_retI q_R_count kc_R_count rfl rfl rfl
  by_cases hs9 : p1 = 9
  · replace hv := hv.2.2.2.2.2.2.2.2.2.1 hs9
    refine go_sw q_R_count kc_R_count rfl (g := 167) (by rw [hs9]; rfl) ?_
    refine go_steps q_R_count kc_R_count 2 rfl ?_
    obtain ⟨rfl, rfl⟩ := hv
    exact go_retI q_R_count kc_R_count rfl rfl rfl
  by_cases hs10 : p1 = 10
  · replace hv := hv.2.2.2.2.2.2.2.2.2.2.1 hs10
    refine go_sw q_R_count kc_R_count rfl (g := 172) (by rw [hs10]; rfl) ?_
    refine go_steps q_R_count kc_R_count 2 rfl ?_
    obtain ⟨rfl, rfl⟩ := hv
    exact go_retI q_R_count kc_R_count rfl rfl rfl
  by_cases hs11 : p1 = 11
  · replace hv := hv.2.2.2.2.2.2.2.2.2.2.2.1 hs11
    refine go_sw q_R_count kc_R_count rfl (g := 177) (by rw [hs11]; rfl) ?_
    refine go_steps q_R_count kc_R_count 2 rfl ?_
    obtain ⟨rfl, rfl⟩ := hv
    exact go_retI q_R_count kc_R_count rfl rfl rfl
  by_cases hs12 : p1 = 12
  · replace hv := hv.2.2.2.2.2.2.2.2.2.2.2.2.1 hs12
    refine go_sw q_R_count kc_R_count rfl (g := 182) (by rw [hs12]; rfl) ?_
    refine go_steps q_R_count kc_R_count 2 rfl ?_
    obtain ⟨rfl, rfl⟩ := hv
    exact go_retI q_R_count kc_R_count rfl rfl rfl
  by_cases hs13 : p1 = 13
  · replace hv := hv.2.2.2.2.2.2.2.2.2.2.2.2.2.1 hs13
    refine go_sw q_R_count kc_R_count rfl (g := 187) (by rw [hs13]; rfl) ?_
    refine go_steps q_R_count kc_R_count 2 rfl ?_
    obtain ⟨rfl, rfl⟩ := hv
    exact go_retI q_R_count kc_R_count rfl rfl rfl
  replace hv := hv.2.2.2.2.2.2.2.2.2.2.2.2.2.2 hs0 hs1 hs2 hs3 hs4 hs5 hs6 hs7 hs8 hs9 hs10 hs11 hs12 hs13
  refine go_sw q_R_count kc_R_count rfl (g := 192) (if_pos (am_sw_out (m := 13) (by decide) (fun j hj => match j, hj with | 0, _ => hs0 | 1, _ => hs1 | 2, _ => hs2 | 3, _ => hs3 | 4, _ => hs4 | 5, _ => hs5 | 6, _ => hs6 | 7, _ => hs7 | 8, _ => hs8 | 9, _ => hs9 | 10, _ => hs10 | 11, _ => hs11 | 12, _ => hs12 | 13, _ => hs13 | n + 14, h => absurd h (by omega)))) ?_
  refine go_steps q_R_count kc_R_count 1 rfl ?_
  obtain ⟨rfl, rfl⟩ := hv
  exact go_retI q_R_count kc_R_count rfl rfl rfl
set_option maxHeartbeats 4000000 in
set_option maxRecDepth 100000 in
theorem v_R_count_95 {l : Launch} {D : va_G} {DA : Nat → ClassId} {b sz d L : Nat} {cu : Bool} {σ : Nat → Nat → Int32} {r : Option Value} {X' : am_X} (p2 : Int32) (p3 : Int32)
    (hv : (((σ 47 0) ≤ p3) → (r = some (.int p2) ∧ X' = (am_TT cu L, am_RR cu, σ))) ∧ (¬ ((σ 47 0) ≤ p3) → ((¬ (p3 < 0 ∨ 20 ≤ Int32.toNatClampNeg p3)) ∧ ((((σ 56 (Int32.toNatClampNeg p3)) = 0) → (am_Go l D DA b sz (d + 1) M_R_count (95, [some (.ref 47), none, some (.int (p2 + 0)), some (.int (p3 + 1))], [], (am_TT cu L, am_RR cu, σ)) r X')) ∧ (¬ ((σ 56 (Int32.toNatClampNeg p3)) = 0) → ((¬ (p3 < 0 ∨ 20 ≤ Int32.toNatClampNeg p3)) ∧ ((¬ (p3 < 0 ∨ 20 ≤ Int32.toNatClampNeg p3)) ∧ ((¬ (p3 < 0 ∨ 20 ≤ Int32.toNatClampNeg p3)) ∧ (am_Go l D DA b sz (d + 1) M_R_count (95, [some (.ref 47), none, some (.int (p2 + (((σ 48 (Int32.toNatClampNeg p3)) * (σ 49 (Int32.toNatClampNeg p3))) * (σ 50 (Int32.toNatClampNeg p3))))), some (.int (p3 + 1))], [], (am_TT cu L, am_RR cu, σ)) r X'))))))))) :
    am_Go l D DA b sz (d + 1) M_R_count (95, [some (.ref 47), none, some (.int p2), some (.int p3)], [], (am_TT cu L, am_RR cu, σ)) r X' := by
  refine go_steps q_R_count kc_R_count 4 rfl ?_
  refine go_if (fun hb => ?_) (fun hb => ?_)
  · have hb : (σ 47 0) ≤ p3 := hb
    replace hv := hv.1 hb
    refine go_steps q_R_count kc_R_count 1 rfl ?_
    obtain ⟨rfl, rfl⟩ := hv
    exact go_retI q_R_count kc_R_count rfl rfl rfl
  · have hb : ¬ ((σ 47 0) ≤ p3) := hb
    replace hv := hv.2 hb
    refine go_steps q_R_count kc_R_count 4 rfl ?_
    obtain ⟨hc1, hv⟩ := hv
    refine go_baload q_R_count kc_R_count rfl rfl hc1 ?_
    refine go_steps q_R_count kc_R_count 1 rfl ?_
    refine go_if (fun hb => ?_) (fun hb => ?_)
    · have hb : (σ 56 (Int32.toNatClampNeg p3)) = 0 := hb
      replace hv := hv.1 hb
      refine go_steps q_R_count kc_R_count 5 rfl ?_
      refine go_le (L1 := [some (.ref 47), none, some (.int (p2 + 0)), some (.int (p3 + 1))]) (by repeat (first | exact trivial | refine ⟨rfl, ?_⟩)) ?_
      exact hv
    · have hb : ¬ ((σ 56 (Int32.toNatClampNeg p3)) = 0) := hb
      replace hv := hv.2 hb
      refine go_steps q_R_count kc_R_count 3 rfl ?_
      obtain ⟨hc2, hv⟩ := hv
      refine go_iaload q_R_count kc_R_count rfl rfl hc2 ?_
      refine go_steps q_R_count kc_R_count 3 rfl ?_
      obtain ⟨hc3, hv⟩ := hv
      refine go_iaload q_R_count kc_R_count rfl rfl hc3 ?_
      refine go_steps q_R_count kc_R_count 4 rfl ?_
      obtain ⟨hc4, hv⟩ := hv
      refine go_iaload q_R_count kc_R_count rfl rfl hc4 ?_
      refine go_steps q_R_count kc_R_count 6 rfl ?_
      refine go_le (L1 := [some (.ref 47), none, some (.int (p2 + (((σ 48 (Int32.toNatClampNeg p3)) * (σ 49 (Int32.toNatClampNeg p3))) * (σ 50 (Int32.toNatClampNeg p3))))), some (.int (p3 + 1))]) (by repeat (first | exact trivial | refine ⟨rfl, ?_⟩)) ?_
      exact hv
