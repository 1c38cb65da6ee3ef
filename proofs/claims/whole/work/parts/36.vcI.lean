/-! the same, by the cells that a method is called with -/
set_option maxHeartbeats 4000000 in
set_option maxRecDepth 100000 in
theorem v_Edges_list_7_0 {l : Launch} {D : va_G} {DA : Nat → ClassId} {b sz d L : Nat} {cu : Bool} {σ : Nat → Nat → Int32} {r : Option Value} {X' : am_X} (p1 : Int64)
    (hv : am_Go l D DA b sz d M_Edges_list (7, [some (.ref 7), some (.long p1), none, some (.int 0)], [], (am_TT cu L, am_RR cu, am_us σ 7 3 0)) r X') :
    am_Go l D DA b sz d M_Edges_list (0, [some (.ref 7), some (.long p1), none, none], [], (am_TT cu L, am_RR cu, σ)) r X' := by
  refine go_steps q_Edges_list kc_Edges_list 5 rfl ?_
  refine go_le (L1 := [some (.ref 7), some (.long p1), none, some (.int 0)]) (by repeat (first | exact trivial | refine ⟨rfl, ?_⟩)) ?_
  exact hv
set_option maxHeartbeats 4000000 in
set_option maxRecDepth 100000 in
theorem v_Edges_list_7_7 {l : Launch} {D : va_G} {DA : Nat → ClassId} {b sz d L : Nat} {cu : Bool} {σ : Nat → Nat → Int32} {r : Option Value} {X' : am_X} (p1 : Int64) (p3 : Int32)
    (hv : ((40 < p3) → (r = none ∧ X' = (am_TT cu L, am_RR cu, σ))) ∧ (¬ (40 < p3) → ((((Int32.ofNat 21) ≤ (σ 7 3)) → (r = none ∧ X' = (am_TT cu L, am_RR cu, σ))) ∧ (¬ ((Int32.ofNat 21) ≤ (σ 7 3)) → ((((lg_cmp ((p1 >>> (Int32.toInt64 p3 &&& 63)) &&& (Int64.ofNat 1)) (Int64.ofNat 0)) = (0 : Int32)) → (am_Go l D DA b sz d M_Edges_list (7, [some (.ref 7), some (.long p1), none, some (.int (p3 + 1))], [], (am_TT cu L, am_RR cu, σ)) r X')) ∧ (¬ ((lg_cmp ((p1 >>> (Int32.toInt64 p3 &&& 63)) &&& (Int64.ofNat 1)) (Int64.ofNat 0)) = (0 : Int32)) → ((¬ ((σ 7 3) < 0 ∨ 21 ≤ Int32.toNatClampNeg (σ 7 3))) ∧ (am_Go l D DA b sz d M_Edges_list (7, [some (.ref 7), some (.long p1), none, some (.int (p3 + 1))], [], (am_TT cu L, am_RR cu, am_us (am_us σ 8 (Int32.toNatClampNeg (σ 7 3)) p3) 7 3 ((σ 7 3) + 1))) r X')))))))) :
    am_Go l D DA b sz d M_Edges_list (7, [some (.ref 7), some (.long p1), none, some (.int p3)], [], (am_TT cu L, am_RR cu, σ)) r X' := by
  refine go_steps q_Edges_list kc_Edges_list 3 rfl ?_
  refine go_if (fun hb => ?_) (fun hb => ?_)
  · have hb : 40 < p3 := hb
    replace hv := hv.1 hb
    obtain ⟨rfl, rfl⟩ := hv
    exact go_retV q_Edges_list kc_Edges_list rfl rfl
  · have hb : ¬ (40 < p3) := hb
    replace hv := hv.2 hb
    refine go_steps q_Edges_list kc_Edges_list 6 rfl ?_
    refine go_if (fun hb => ?_) (fun hb => ?_)
    · have hb : (Int32.ofNat 21) ≤ (σ 7 3) := hb
      replace hv := hv.1 hb
      obtain ⟨rfl, rfl⟩ := hv
      exact go_retV q_Edges_list kc_Edges_list rfl rfl
    · have hb : ¬ ((Int32.ofNat 21) ≤ (σ 7 3)) := hb
      replace hv := hv.2 hb
      refine go_steps q_Edges_list kc_Edges_list 8 rfl ?_
      refine go_if (fun hb => ?_) (fun hb => ?_)
      · have hb : (lg_cmp ((p1 >>> (Int32.toInt64 p3 &&& 63)) &&& (Int64.ofNat 1)) (Int64.ofNat 0)) = (0 : Int32) := hb
        replace hv := hv.1 hb
        refine go_steps q_Edges_list kc_Edges_list 2 rfl ?_
        refine go_le (L1 := [some (.ref 7), some (.long p1), none, some (.int (p3 + 1))]) (by repeat (first | exact trivial | refine ⟨rfl, ?_⟩)) ?_
        exact hv
      · have hb : ¬ ((lg_cmp ((p1 >>> (Int32.toInt64 p3 &&& 63)) &&& (Int64.ofNat 1)) (Int64.ofNat 0)) = (0 : Int32)) := hb
        replace hv := hv.2 hb
        refine go_steps q_Edges_list kc_Edges_list 5 rfl ?_
        obtain ⟨hc, hv⟩ := hv
        refine go_iastore q_Edges_list kc_Edges_list rfl rfl hc ?_
        refine go_steps q_Edges_list kc_Edges_list 8 rfl ?_
        refine go_le (L1 := [some (.ref 7), some (.long p1), none, some (.int (p3 + 1))]) (by repeat (first | exact trivial | refine ⟨rfl, ?_⟩)) ?_
        exact hv
set_option maxHeartbeats 4000000 in
set_option maxRecDepth 100000 in
theorem v_Edges_list_11_0 {l : Launch} {D : va_G} {DA : Nat → ClassId} {b sz d L : Nat} {cu : Bool} {σ : Nat → Nat → Int32} {r : Option Value} {X' : am_X} (p1 : Int64)
    (hv : am_Go l D DA b sz d M_Edges_list (7, [some (.ref 11), some (.long p1), none, some (.int 0)], [], (am_TT cu L, am_RR cu, am_us σ 11 3 0)) r X') :
    am_Go l D DA b sz d M_Edges_list (0, [some (.ref 11), some (.long p1), none, none], [], (am_TT cu L, am_RR cu, σ)) r X' := by
  refine go_steps q_Edges_list kc_Edges_list 5 rfl ?_
  refine go_le (L1 := [some (.ref 11), some (.long p1), none, some (.int 0)]) (by repeat (first | exact trivial | refine ⟨rfl, ?_⟩)) ?_
  exact hv
set_option maxHeartbeats 4000000 in
set_option maxRecDepth 100000 in
theorem v_Edges_list_11_7 {l : Launch} {D : va_G} {DA : Nat → ClassId} {b sz d L : Nat} {cu : Bool} {σ : Nat → Nat → Int32} {r : Option Value} {X' : am_X} (p1 : Int64) (p3 : Int32)
    (hv : ((40 < p3) → (r = none ∧ X' = (am_TT cu L, am_RR cu, σ))) ∧ (¬ (40 < p3) → ((((Int32.ofNat 21) ≤ (σ 11 3)) → (r = none ∧ X' = (am_TT cu L, am_RR cu, σ))) ∧ (¬ ((Int32.ofNat 21) ≤ (σ 11 3)) → ((((lg_cmp ((p1 >>> (Int32.toInt64 p3 &&& 63)) &&& (Int64.ofNat 1)) (Int64.ofNat 0)) = (0 : Int32)) → (am_Go l D DA b sz d M_Edges_list (7, [some (.ref 11), some (.long p1), none, some (.int (p3 + 1))], [], (am_TT cu L, am_RR cu, σ)) r X')) ∧ (¬ ((lg_cmp ((p1 >>> (Int32.toInt64 p3 &&& 63)) &&& (Int64.ofNat 1)) (Int64.ofNat 0)) = (0 : Int32)) → ((¬ ((σ 11 3) < 0 ∨ 21 ≤ Int32.toNatClampNeg (σ 11 3))) ∧ (am_Go l D DA b sz d M_Edges_list (7, [some (.ref 11), some (.long p1), none, some (.int (p3 + 1))], [], (am_TT cu L, am_RR cu, am_us (am_us σ 12 (Int32.toNatClampNeg (σ 11 3)) p3) 11 3 ((σ 11 3) + 1))) r X')))))))) :
    am_Go l D DA b sz d M_Edges_list (7, [some (.ref 11), some (.long p1), none, some (.int p3)], [], (am_TT cu L, am_RR cu, σ)) r X' := by
  refine go_steps q_Edges_list kc_Edges_list 3 rfl ?_
  refine go_if (fun hb => ?_) (fun hb => ?_)
  · have hb : 40 < p3 := hb
    replace hv := hv.1 hb
    obtain ⟨rfl, rfl⟩ := hv
    exact go_retV q_Edges_list kc_Edges_list rfl rfl
  · have hb : ¬ (40 < p3) := hb
    replace hv := hv.2 hb
    refine go_steps q_Edges_list kc_Edges_list 6 rfl ?_
    refine go_if (fun hb => ?_) (fun hb => ?_)
    · have hb : (Int32.ofNat 21) ≤ (σ 11 3) := hb
      replace hv := hv.1 hb
      obtain ⟨rfl, rfl⟩ := hv
      exact go_retV q_Edges_list kc_Edges_list rfl rfl
    · have hb : ¬ ((Int32.ofNat 21) ≤ (σ 11 3)) := hb
      replace hv := hv.2 hb
      refine go_steps q_Edges_list kc_Edges_list 8 rfl ?_
      refine go_if (fun hb => ?_) (fun hb => ?_)
      · have hb : (lg_cmp ((p1 >>> (Int32.toInt64 p3 &&& 63)) &&& (Int64.ofNat 1)) (Int64.ofNat 0)) = (0 : Int32) := hb
        replace hv := hv.1 hb
        refine go_steps q_Edges_list kc_Edges_list 2 rfl ?_
        refine go_le (L1 := [some (.ref 11), some (.long p1), none, some (.int (p3 + 1))]) (by repeat (first | exact trivial | refine ⟨rfl, ?_⟩)) ?_
        exact hv
      · have hb : ¬ ((lg_cmp ((p1 >>> (Int32.toInt64 p3 &&& 63)) &&& (Int64.ofNat 1)) (Int64.ofNat 0)) = (0 : Int32)) := hb
        replace hv := hv.2 hb
        refine go_steps q_Edges_list kc_Edges_list 5 rfl ?_
        obtain ⟨hc, hv⟩ := hv
        refine go_iastore q_Edges_list kc_Edges_list rfl rfl hc ?_
        refine go_steps q_Edges_list kc_Edges_list 8 rfl ?_
        refine go_le (L1 := [some (.ref 11), some (.long p1), none, some (.int (p3 + 1))]) (by repeat (first | exact trivial | refine ⟨rfl, ?_⟩)) ?_
        exact hv
set_option maxHeartbeats 4000000 in
set_option maxRecDepth 100000 in
theorem v_Edges_list_15_0 {l : Launch} {D : va_G} {DA : Nat → ClassId} {b sz d L : Nat} {cu : Bool} {σ : Nat → Nat → Int32} {r : Option Value} {X' : am_X} (p1 : Int64)
    (hv : am_Go l D DA b sz d M_Edges_list (7, [some (.ref 15), some (.long p1), none, some (.int 0)], [], (am_TT cu L, am_RR cu, am_us σ 15 3 0)) r X') :
    am_Go l D DA b sz d M_Edges_list (0, [some (.ref 15), some (.long p1), none, none], [], (am_TT cu L, am_RR cu, σ)) r X' := by
  refine go_steps q_Edges_list kc_Edges_list 5 rfl ?_
  refine go_le (L1 := [some (.ref 15), some (.long p1), none, some (.int 0)]) (by repeat (first | exact trivial | refine ⟨rfl, ?_⟩)) ?_
  exact hv
set_option maxHeartbeats 4000000 in
set_option maxRecDepth 100000 in
theorem v_Edges_list_15_7 {l : Launch} {D : va_G} {DA : Nat → ClassId} {b sz d L : Nat} {cu : Bool} {σ : Nat → Nat → Int32} {r : Option Value} {X' : am_X} (p1 : Int64) (p3 : Int32)
    (hv : ((40 < p3) → (r = none ∧ X' = (am_TT cu L, am_RR cu, σ))) ∧ (¬ (40 < p3) → ((((Int32.ofNat 21) ≤ (σ 15 3)) → (r = none ∧ X' = (am_TT cu L, am_RR cu, σ))) ∧ (¬ ((Int32.ofNat 21) ≤ (σ 15 3)) → ((((lg_cmp ((p1 >>> (Int32.toInt64 p3 &&& 63)) &&& (Int64.ofNat 1)) (Int64.ofNat 0)) = (0 : Int32)) → (am_Go l D DA b sz d M_Edges_list (7, [some (.ref 15), some (.long p1), none, some (.int (p3 + 1))], [], (am_TT cu L, am_RR cu, σ)) r X')) ∧ (¬ ((lg_cmp ((p1 >>> (Int32.toInt64 p3 &&& 63)) &&& (Int64.ofNat 1)) (Int64.ofNat 0)) = (0 : Int32)) → ((¬ ((σ 15 3) < 0 ∨ 21 ≤ Int32.toNatClampNeg (σ 15 3))) ∧ (am_Go l D DA b sz d M_Edges_list (7, [some (.ref 15), some (.long p1), none, some (.int (p3 + 1))], [], (am_TT cu L, am_RR cu, am_us (am_us σ 16 (Int32.toNatClampNeg (σ 15 3)) p3) 15 3 ((σ 15 3) + 1))) r X')))))))) :
    am_Go l D DA b sz d M_Edges_list (7, [some (.ref 15), some (.long p1), none, some (.int p3)], [], (am_TT cu L, am_RR cu, σ)) r X' := by
  refine go_steps q_Edges_list kc_Edges_list 3 rfl ?_
  refine go_if (fun hb => ?_) (fun hb => ?_)
  · have hb : 40 < p3 := hb
    replace hv := hv.1 hb
    obtain ⟨rfl, rfl⟩ := hv
    exact go_retV q_Edges_list kc_Edges_list rfl rfl
  · have hb : ¬ (40 < p3) := hb
    replace hv := hv.2 hb
    refine go_steps q_Edges_list kc_Edges_list 6 rfl ?_
    refine go_if (fun hb => ?_) (fun hb => ?_)
    · have hb : (Int32.ofNat 21) ≤ (σ 15 3) := hb
      replace hv := hv.1 hb
      obtain ⟨rfl, rfl⟩ := hv
      exact go_retV q_Edges_list kc_Edges_list rfl rfl
    · have hb : ¬ ((Int32.ofNat 21) ≤ (σ 15 3)) := hb
      replace hv := hv.2 hb
      refine go_steps q_Edges_list kc_Edges_list 8 rfl ?_
      refine go_if (fun hb => ?_) (fun hb => ?_)
      · have hb : (lg_cmp ((p1 >>> (Int32.toInt64 p3 &&& 63)) &&& (Int64.ofNat 1)) (Int64.ofNat 0)) = (0 : Int32) := hb
        replace hv := hv.1 hb
        refine go_steps q_Edges_list kc_Edges_list 2 rfl ?_
        refine go_le (L1 := [some (.ref 15), some (.long p1), none, some (.int (p3 + 1))]) (by repeat (first | exact trivial | refine ⟨rfl, ?_⟩)) ?_
        exact hv
      · have hb : ¬ ((lg_cmp ((p1 >>> (Int32.toInt64 p3 &&& 63)) &&& (Int64.ofNat 1)) (Int64.ofNat 0)) = (0 : Int32)) := hb
        replace hv := hv.2 hb
        refine go_steps q_Edges_list kc_Edges_list 5 rfl ?_
        obtain ⟨hc, hv⟩ := hv
        refine go_iastore q_Edges_list kc_Edges_list rfl rfl hc ?_
        refine go_steps q_Edges_list kc_Edges_list 8 rfl ?_
        refine go_le (L1 := [some (.ref 15), some (.long p1), none, some (.int (p3 + 1))]) (by repeat (first | exact trivial | refine ⟨rfl, ?_⟩)) ?_
        exact hv
set_option maxHeartbeats 4000000 in
set_option maxRecDepth 100000 in
theorem v_Arrays_fill_5_0 {l : Launch} {D : va_G} {DA : Nat → ClassId} {b sz d L : Nat} {cu : Bool} {σ : Nat → Nat → Int32} {r : Option Value} {X' : am_X} (p1 : Int32)
    (hv : am_Go l D DA b sz d M_Arrays_fill (5, [some (.ref 5), some (.int p1), some (.int 0), some (.int (Int32.ofNat 20))], [], (am_TT cu L, am_RR cu, σ)) r X') :
    am_Go l D DA b sz d M_Arrays_fill (0, [some (.ref 5), some (.int p1), none, none], [], (am_TT cu L, am_RR cu, σ)) r X' := by
  refine go_steps q_Arrays_fill kc_Arrays_fill 5 rfl ?_
  refine go_le (L1 := [some (.ref 5), some (.int p1), some (.int 0), some (.int (Int32.ofNat 20))]) (by repeat (first | exact trivial | refine ⟨rfl, ?_⟩)) ?_
  exact hv
set_option maxHeartbeats 4000000 in
set_option maxRecDepth 100000 in
theorem v_Arrays_fill_5_5 {l : Launch} {D : va_G} {DA : Nat → ClassId} {b sz d L : Nat} {cu : Bool} {σ : Nat → Nat → Int32} {r : Option Value} {X' : am_X} (p1 : Int32) (p2 : Int32) (p3 : Int32)
    (hv : ((p3 ≤ p2) → (r = none ∧ X' = (am_TT cu L, am_RR cu, σ))) ∧ (¬ (p3 ≤ p2) → ((¬ (p2 < 0 ∨ 20 ≤ Int32.toNatClampNeg p2)) ∧ (am_Go l D DA b sz d M_Arrays_fill (5, [some (.ref 5), some (.int p1), some (.int (p2 + 1)), some (.int p3)], [], (am_TT cu L, am_RR cu, am_us σ 5 (Int32.toNatClampNeg p2) p1)) r X')))) :
    am_Go l D DA b sz d M_Arrays_fill (5, [some (.ref 5), some (.int p1), some (.int p2), some (.int p3)], [], (am_TT cu L, am_RR cu, σ)) r X' := by
  refine go_steps q_Arrays_fill kc_Arrays_fill 3 rfl ?_
  refine go_if (fun hb => ?_) (fun hb => ?_)
  · have hb : p3 ≤ p2 := hb
    replace hv := hv.1 hb
    obtain ⟨rfl, rfl⟩ := hv
    exact go_retV q_Arrays_fill kc_Arrays_fill rfl rfl
  · have hb : ¬ (p3 ≤ p2) := hb
    replace hv := hv.2 hb
    refine go_steps q_Arrays_fill kc_Arrays_fill 3 rfl ?_
    obtain ⟨hc, hv⟩ := hv
    refine go_iastore q_Arrays_fill kc_Arrays_fill rfl rfl hc ?_
    refine go_steps q_Arrays_fill kc_Arrays_fill 2 rfl ?_
    refine go_le (L1 := [some (.ref 5), some (.int p1), some (.int (p2 + 1)), some (.int p3)]) (by repeat (first | exact trivial | refine ⟨rfl, ?_⟩)) ?_
    exact hv
set_option maxHeartbeats 4000000 in
set_option maxRecDepth 100000 in
theorem v_Arrays_fill_70_0 {l : Launch} {D : va_G} {DA : Nat → ClassId} {b sz d L : Nat} {σ : Nat → Nat → Int32} {r : Option Value} {X' : am_X} (p1 : Int32)
    (hv : am_Go l D DA b sz d M_Arrays_fill (5, [some (.ref 70), some (.int p1), some (.int 0), some (.int (Int32.ofNat 4096))], [], (am_TT true L, am_RR true, σ)) r X') :
    am_Go l D DA b sz d M_Arrays_fill (0, [some (.ref 70), some (.int p1), none, none], [], (am_TT true L, am_RR true, σ)) r X' := by
  refine go_steps q_Arrays_fill kc_Arrays_fill 5 rfl ?_
  refine go_le (L1 := [some (.ref 70), some (.int p1), some (.int 0), some (.int (Int32.ofNat 4096))]) (by repeat (first | exact trivial | refine ⟨rfl, ?_⟩)) ?_
  exact hv
set_option maxHeartbeats 4000000 in
set_option maxRecDepth 100000 in
theorem v_Arrays_fill_70_5 {l : Launch} {D : va_G} {DA : Nat → ClassId} {b sz d L : Nat} {σ : Nat → Nat → Int32} {r : Option Value} {X' : am_X} (p1 : Int32) (p2 : Int32) (p3 : Int32)
    (hv : ((p3 ≤ p2) → (r = none ∧ X' = (am_TT true L, am_RR true, σ))) ∧ (¬ (p3 ≤ p2) → ((¬ (p2 < 0 ∨ 4096 ≤ Int32.toNatClampNeg p2)) ∧ (am_Go l D DA b sz d M_Arrays_fill (5, [some (.ref 70), some (.int p1), some (.int (p2 + 1)), some (.int p3)], [], (am_TT true L, am_RR true, am_us σ 70 (Int32.toNatClampNeg p2) p1)) r X')))) :
    am_Go l D DA b sz d M_Arrays_fill (5, [some (.ref 70), some (.int p1), some (.int p2), some (.int p3)], [], (am_TT true L, am_RR true, σ)) r X' := by
  refine go_steps q_Arrays_fill kc_Arrays_fill 3 rfl ?_
  refine go_if (fun hb => ?_) (fun hb => ?_)
  · have hb : p3 ≤ p2 := hb
    replace hv := hv.1 hb
    obtain ⟨rfl, rfl⟩ := hv
    exact go_retV q_Arrays_fill kc_Arrays_fill rfl rfl
  · have hb : ¬ (p3 ≤ p2) := hb
    replace hv := hv.2 hb
    refine go_steps q_Arrays_fill kc_Arrays_fill 3 rfl ?_
    obtain ⟨hc, hv⟩ := hv
    refine go_iastore q_Arrays_fill kc_Arrays_fill rfl rfl hc ?_
    refine go_steps q_Arrays_fill kc_Arrays_fill 2 rfl ?_
    refine go_le (L1 := [some (.ref 70), some (.int p1), some (.int (p2 + 1)), some (.int p3)]) (by repeat (first | exact trivial | refine ⟨rfl, ?_⟩)) ?_
    exact hv
set_option maxHeartbeats 4000000 in
set_option maxRecDepth 100000 in
theorem v_B_box_true_0 {l : Launch} {D : va_G} {DA : Nat → ClassId} {b sz d L : Nat} {σ : Nat → Nat → Int32} {r : Option Value} {X' : am_X} (p1 : Int32) (p2 : Int32) (p3 : Int32) (p4 : Int32) (p5 : Int32) (p6 : Int32) (p7 : Int32) (p8 : Int32)
    (hv : (∃ (r1 : Int32) (σ1 : Nat → Nat → Int32), am_Go l D DA b sz d M_B_within (0, [some (.int p1), some (.int 1), some (.int 12)], [], (am_TT true L, am_RR true, σ)) (some (.int r1)) (am_TT true L, am_RR true, σ1) ∧ (((r1 = 0) → (r = some (.int (-2)) ∧ X' = (am_TT true L, am_RR true, σ1))) ∧ (¬ (r1 = 0) → (∃ (r2 : Int32) (σ2 : Nat → Nat → Int32), am_Go l D DA b sz d M_B_within (0, [some (.int p2), some (.int 1), some (.int 12)], [], (am_TT true L, am_RR true, σ1)) (some (.int r2)) (am_TT true L, am_RR true, σ2) ∧ (((r2 = 0) → (r = some (.int (-2)) ∧ X' = (am_TT true L, am_RR true, σ2))) ∧ (¬ (r2 = 0) → (∃ (r3 : Int32) (σ3 : Nat → Nat → Int32), am_Go l D DA b sz d M_B_within (0, [some (.int p3), some (.int 1), some (.int 12)], [], (am_TT true L, am_RR true, σ2)) (some (.int r3)) (am_TT true L, am_RR true, σ3) ∧ (((r3 = 0) → (r = some (.int (-2)) ∧ X' = (am_TT true L, am_RR true, σ3))) ∧ (¬ (r3 = 0) → (∃ (r4 : Int32) (σ4 : Nat → Nat → Int32), am_Go l D DA b sz d M_B_within (0, [some (.int p4), some (.int 1), some (.int 1000)], [], (am_TT true L, am_RR true, σ3)) (some (.int r4)) (am_TT true L, am_RR true, σ4) ∧ (((r4 = 0) → (r = some (.int (-2)) ∧ X' = (am_TT true L, am_RR true, σ4))) ∧ (¬ (r4 = 0) → (∃ (r5 : Int32) (σ5 : Nat → Nat → Int32), am_Go l D DA b sz d M_B_within (0, [some (.int p5), some (.int 0), some (.int 20000)], [], (am_TT true L, am_RR true, σ4)) (some (.int r5)) (am_TT true L, am_RR true, σ5) ∧ (((r5 = 0) → (r = some (.int (-2)) ∧ X' = (am_TT true L, am_RR true, σ5))) ∧ (¬ (r5 = 0) → (∃ (r6 : Int32) (σ6 : Nat → Nat → Int32), am_Go l D DA b sz d M_B_within (0, [some (.int p6), some (.int 0), some (.int 5)], [], (am_TT true L, am_RR true, σ5)) (some (.int r6)) (am_TT true L, am_RR true, σ6) ∧ (((r6 = 0) → (r = some (.int (-2)) ∧ X' = (am_TT true L, am_RR true, σ6))) ∧ (¬ (r6 = 0) → (∃ (r7 : Int32) (σ7 : Nat → Nat → Int32), am_Go l D DA b sz d M_B_within (0, [some (.int p8), some (.int 0), some (.int 1000)], [], (am_TT true L, am_RR true, σ6)) (some (.int r7)) (am_TT true L, am_RR true, σ7) ∧ (((r7 = 0) → (r = some (.int (-2)) ∧ X' = (am_TT true L, am_RR true, σ7))) ∧ (¬ (r7 = 0) → ((((σ7 2 2) < 20) → ((¬ ((σ7 2 2) < 0 ∨ 20 ≤ Int32.toNatClampNeg (σ7 2 2))) ∧ ((p7 = 0 ∨ p7 = 1) ∧ (∃ (σ8 : Nat → Nat → Int32), am_Go l D DA b sz d M_Cutter_forget (0, [some (.ref 69)], [], (am_TT true L, am_RR true, am_us (am_us (am_us (am_us (am_us (am_us (am_us (am_us (am_us σ7 (19 + Int32.toNatClampNeg (σ7 2 2)) 0 p1) (19 + Int32.toNatClampNeg (σ7 2 2)) 1 p2) (19 + Int32.toNatClampNeg (σ7 2 2)) 2 p3) (19 + Int32.toNatClampNeg (σ7 2 2)) 3 p4) (19 + Int32.toNatClampNeg (σ7 2 2)) 4 p5) (19 + Int32.toNatClampNeg (σ7 2 2)) 5 p6) (19 + Int32.toNatClampNeg (σ7 2 2)) 6 p7) (19 + Int32.toNatClampNeg (σ7 2 2)) 7 p8) 2 2 (((am_us (am_us (am_us (am_us (am_us (am_us (am_us (am_us σ7 (19 + Int32.toNatClampNeg (σ7 2 2)) 0 p1) (19 + Int32.toNatClampNeg (σ7 2 2)) 1 p2) (19 + Int32.toNatClampNeg (σ7 2 2)) 2 p3) (19 + Int32.toNatClampNeg (σ7 2 2)) 3 p4) (19 + Int32.toNatClampNeg (σ7 2 2)) 4 p5) (19 + Int32.toNatClampNeg (σ7 2 2)) 5 p6) (19 + Int32.toNatClampNeg (σ7 2 2)) 6 p7) (19 + Int32.toNatClampNeg (σ7 2 2)) 7 p8) 2 2) + 1))) none (am_TT true L, am_RR true, σ8) ∧ (r = some (.int ((σ8 2 2) - 1)) ∧ X' = (am_TT true L, am_RR true, σ8)))))) ∧ (¬ ((σ7 2 2) < 20) → (r = some (.int (-3)) ∧ X' = (am_TT true L, am_RR true, σ7)))))))))))))))))))))))))) :
    am_Go l D DA b sz (d + 1) M_B_box (0, [some (.ref 1), some (.int p1), some (.int p2), some (.int p3), some (.int p4), some (.int p5), some (.int p6), some (.int p7), some (.int p8), none], [], (am_TT true L, am_RR true, σ)) r X' := by
  refine go_steps q_B_box kc_B_box 3 rfl ?_
  obtain ⟨r1, σ1, hg, hv⟩ := hv
  refine go_callS q_B_box kc_B_box rfl q_B_within am_k9 rfl rfl rfl (Nat.le_of_ble_eq_true rfl) (Nat.le_of_ble_eq_true rfl) hg ?_
  refine go_steps q_B_box kc_B_box 1 rfl ?_
  refine go_if (fun hb => ?_) (fun hb => ?_)
  · have hb : r1 = 0 := hb
    replace hv := hv.1 hb
    refine go_steps q_B_box kc_B_box 1 rfl ?_
    obtain ⟨rfl, rfl⟩ := hv
    exact go_retI q_B_box kc_B_box rfl rfl rfl
  · have hb : ¬ (r1 = 0) := hb
    replace hv := hv.2 hb
    refine go_steps q_B_box kc_B_box 3 rfl ?_
    obtain ⟨r2, σ2, hg, hv⟩ := hv
    refine go_callS q_B_box kc_B_box rfl q_B_within am_k9 rfl rfl rfl (Nat.le_of_ble_eq_true rfl) (Nat.le_of_ble_eq_true rfl) hg ?_
    refine go_steps q_B_box kc_B_box 1 rfl ?_
    refine go_if (fun hb => ?_) (fun hb => ?_)
    · have hb : r2 = 0 := hb
      replace hv := hv.1 hb
      refine go_steps q_B_box kc_B_box 1 rfl ?_
      obtain ⟨rfl, rfl⟩ := hv
      exact go_retI q_B_box kc_B_box rfl rfl rfl
    · have hb : ¬ (r2 = 0) := hb
      replace hv := hv.2 hb
      refine go_steps q_B_box kc_B_box 3 rfl ?_
      obtain ⟨r3, σ3, hg, hv⟩ := hv
      refine go_callS q_B_box kc_B_box rfl q_B_within am_k9 rfl rfl rfl (Nat.le_of_ble_eq_true rfl) (Nat.le_of_ble_eq_true rfl) hg ?_
      refine go_steps q_B_box kc_B_box 1 rfl ?_
      refine go_if (fun hb => ?_) (fun hb => ?_)
      · have hb : r3 = 0 := hb
        replace hv := hv.1 hb
        refine go_steps q_B_box kc_B_box 1 rfl ?_
        obtain ⟨rfl, rfl⟩ := hv
        exact go_retI q_B_box kc_B_box rfl rfl rfl
      · have hb : ¬ (r3 = 0) := hb
        replace hv := hv.2 hb
        refine go_steps q_B_box kc_B_box 3 rfl ?_
        obtain ⟨r4, σ4, hg, hv⟩ := hv
        refine go_callS q_B_box kc_B_box rfl q_B_within am_k9 rfl rfl rfl (Nat.le_of_ble_eq_true rfl) (Nat.le_of_ble_eq_true rfl) hg ?_
        refine go_steps q_B_box kc_B_box 1 rfl ?_
        refine go_if (fun hb => ?_) (fun hb => ?_)
        · have hb : r4 = 0 := hb
          replace hv := hv.1 hb
          refine go_steps q_B_box kc_B_box 1 rfl ?_
          obtain ⟨rfl, rfl⟩ := hv
          exact go_retI q_B_box kc_B_box rfl rfl rfl
        · have hb : ¬ (r4 = 0) := hb
          replace hv := hv.2 hb
          refine go_steps q_B_box kc_B_box 3 rfl ?_
          obtain ⟨r5, σ5, hg, hv⟩ := hv
          refine go_callS q_B_box kc_B_box rfl q_B_within am_k9 rfl rfl rfl (Nat.le_of_ble_eq_true rfl) (Nat.le_of_ble_eq_true rfl) hg ?_
          refine go_steps q_B_box kc_B_box 1 rfl ?_
          refine go_if (fun hb => ?_) (fun hb => ?_)
          · have hb : r5 = 0 := hb
            replace hv := hv.1 hb
            refine go_steps q_B_box kc_B_box 1 rfl ?_
            obtain ⟨rfl, rfl⟩ := hv
            exact go_retI q_B_box kc_B_box rfl rfl rfl
          · have hb : ¬ (r5 = 0) := hb
            replace hv := hv.2 hb
            refine go_steps q_B_box kc_B_box 3 rfl ?_
            obtain ⟨r6, σ6, hg, hv⟩ := hv
            refine go_callS q_B_box kc_B_box rfl q_B_within am_k9 rfl rfl rfl (Nat.le_of_ble_eq_true rfl) (Nat.le_of_ble_eq_true rfl) hg ?_
            refine go_steps q_B_box kc_B_box 1 rfl ?_
            refine go_if (fun hb => ?_) (fun hb => ?_)
            · have hb : r6 = 0 := hb
              replace hv := hv.1 hb
              refine go_steps q_B_box kc_B_box 1 rfl ?_
              obtain ⟨rfl, rfl⟩ := hv
              exact go_retI q_B_box kc_B_box rfl rfl rfl
            · have hb : ¬ (r6 = 0) := hb
              replace hv := hv.2 hb
              refine go_steps q_B_box kc_B_box 3 rfl ?_
              obtain ⟨r7, σ7, hg, hv⟩ := hv
              refine go_callS q_B_box kc_B_box rfl q_B_within am_k9 rfl rfl rfl (Nat.le_of_ble_eq_true rfl) (Nat.le_of_ble_eq_true rfl) hg ?_
              refine go_steps q_B_box kc_B_box 1 rfl ?_
              refine go_if (fun hb => ?_) (fun hb => ?_)
              · have hb : r7 = 0 := hb
                replace hv := hv.1 hb
                refine go_steps q_B_box kc_B_box 1 rfl ?_
                obtain ⟨rfl, rfl⟩ := hv
                exact go_retI q_B_box kc_B_box rfl rfl rfl
              · have hb : ¬ (r7 = 0) := hb
                replace hv := hv.2 hb
                refine go_steps q_B_box kc_B_box 5 rfl ?_
                refine go_if (fun hb => ?_) (fun hb => ?_)
                · have hb : (σ7 2 2) < 20 := hb
                  replace hv := hv.1 hb
                  refine go_steps q_B_box kc_B_box 6 rfl ?_
                  obtain ⟨hc1, hv⟩ := hv
                  refine go_aaload q_B_box kc_B_box rfl rfl hc1 (am_rr4 (am_inb hc1)) ?_
                  refine go_steps q_B_box kc_B_box 3 rfl ?_
                  refine go_putI q_B_box kc_B_box rfl (am_tt_box (am_inb hc1)) rfl ?_
                  refine go_steps q_B_box kc_B_box 2 rfl ?_
                  refine go_putI q_B_box kc_B_box rfl (am_tt_box (am_inb hc1)) rfl ?_
                  refine go_steps q_B_box kc_B_box 2 rfl ?_
                  refine go_putI q_B_box kc_B_box rfl (am_tt_box (am_inb hc1)) rfl ?_
                  refine go_steps q_B_box kc_B_box 2 rfl ?_
                  refine go_putI q_B_box kc_B_box rfl (am_tt_box (am_inb hc1)) rfl ?_
                  refine go_steps q_B_box kc_B_box 2 rfl ?_
                  refine go_putI q_B_box kc_B_box rfl (am_tt_box (am_inb hc1)) rfl ?_
                  refine go_steps q_B_box kc_B_box 2 rfl ?_
                  refine go_putI q_B_box kc_B_box rfl (am_tt_box (am_inb hc1)) rfl ?_
                  refine go_steps q_B_box kc_B_box 2 rfl ?_
                  obtain ⟨hc, hv⟩ := hv
                  refine go_putZ q_B_box kc_B_box rfl (am_tt_box (am_inb hc1)) rfl hc ?_
                  refine go_steps q_B_box kc_B_box 2 rfl ?_
                  refine go_putI q_B_box kc_B_box rfl (am_tt_box (am_inb hc1)) rfl ?_
                  refine go_steps q_B_box kc_B_box 12 rfl ?_
                  obtain ⟨σ8, hg, hv⟩ := hv
                  refine go_callV q_B_box kc_B_box rfl q_Cutter_forget am_k10 ⟨rfl, rfl, by decide⟩ rfl rfl (Nat.le_of_ble_eq_true rfl) (Nat.le_of_ble_eq_true rfl) rfl rfl hg ?_
                  refine go_steps q_B_box kc_B_box 5 rfl ?_
                  obtain ⟨rfl, rfl⟩ := hv
                  exact go_retI q_B_box kc_B_box rfl rfl rfl
                · have hb : ¬ ((σ7 2 2) < 20) := hb
                  replace hv := hv.2 hb
                  refine go_steps q_B_box kc_B_box 1 rfl ?_
                  obtain ⟨rfl, rfl⟩ := hv
                  exact go_retI q_B_box kc_B_box rfl rfl rfl
set_option maxHeartbeats 4000000 in
set_option maxRecDepth 100000 in
theorem v_B_box_false_0 {l : Launch} {D : va_G} {DA : Nat → ClassId} {b sz d L : Nat} {σ : Nat → Nat → Int32} {r : Option Value} {X' : am_X} (p1 : Int32) (p2 : Int32) (p3 : Int32) (p4 : Int32) (p5 : Int32) (p6 : Int32) (p7 : Int32) (p8 : Int32)
    (hv : (∃ (r1 : Int32) (σ1 : Nat → Nat → Int32), am_Go l D DA b sz d M_B_within (0, [some (.int p1), some (.int 1), some (.int 12)], [], (am_TT false L, am_RR false, σ)) (some (.int r1)) (am_TT false L, am_RR false, σ1) ∧ (((r1 = 0) → (r = some (.int (-2)) ∧ X' = (am_TT false L, am_RR false, σ1))) ∧ (¬ (r1 = 0) → (∃ (r2 : Int32) (σ2 : Nat → Nat → Int32), am_Go l D DA b sz d M_B_within (0, [some (.int p2), some (.int 1), some (.int 12)], [], (am_TT false L, am_RR false, σ1)) (some (.int r2)) (am_TT false L, am_RR false, σ2) ∧ (((r2 = 0) → (r = some (.int (-2)) ∧ X' = (am_TT false L, am_RR false, σ2))) ∧ (¬ (r2 = 0) → (∃ (r3 : Int32) (σ3 : Nat → Nat → Int32), am_Go l D DA b sz d M_B_within (0, [some (.int p3), some (.int 1), some (.int 12)], [], (am_TT false L, am_RR false, σ2)) (some (.int r3)) (am_TT false L, am_RR false, σ3) ∧ (((r3 = 0) → (r = some (.int (-2)) ∧ X' = (am_TT false L, am_RR false, σ3))) ∧ (¬ (r3 = 0) → (∃ (r4 : Int32) (σ4 : Nat → Nat → Int32), am_Go l D DA b sz d M_B_within (0, [some (.int p4), some (.int 1), some (.int 1000)], [], (am_TT false L, am_RR false, σ3)) (some (.int r4)) (am_TT false L, am_RR false, σ4) ∧ (((r4 = 0) → (r = some (.int (-2)) ∧ X' = (am_TT false L, am_RR false, σ4))) ∧ (¬ (r4 = 0) → (∃ (r5 : Int32) (σ5 : Nat → Nat → Int32), am_Go l D DA b sz d M_B_within (0, [some (.int p5), some (.int 0), some (.int 20000)], [], (am_TT false L, am_RR false, σ4)) (some (.int r5)) (am_TT false L, am_RR false, σ5) ∧ (((r5 = 0) → (r = some (.int (-2)) ∧ X' = (am_TT false L, am_RR false, σ5))) ∧ (¬ (r5 = 0) → (∃ (r6 : Int32) (σ6 : Nat → Nat → Int32), am_Go l D DA b sz d M_B_within (0, [some (.int p6), some (.int 0), some (.int 5)], [], (am_TT false L, am_RR false, σ5)) (some (.int r6)) (am_TT false L, am_RR false, σ6) ∧ (((r6 = 0) → (r = some (.int (-2)) ∧ X' = (am_TT false L, am_RR false, σ6))) ∧ (¬ (r6 = 0) → (∃ (r7 : Int32) (σ7 : Nat → Nat → Int32), am_Go l D DA b sz d M_B_within (0, [some (.int p8), some (.int 0), some (.int 1000)], [], (am_TT false L, am_RR false, σ6)) (some (.int r7)) (am_TT false L, am_RR false, σ7) ∧ (((r7 = 0) → (r = some (.int (-2)) ∧ X' = (am_TT false L, am_RR false, σ7))) ∧ (¬ (r7 = 0) → ((((σ7 2 2) < 20) → ((¬ ((σ7 2 2) < 0 ∨ 20 ≤ Int32.toNatClampNeg (σ7 2 2))) ∧ ((p7 = 0 ∨ p7 = 1) ∧ (r = some (.int ((((am_us (am_us (am_us (am_us (am_us (am_us (am_us (am_us σ7 (19 + Int32.toNatClampNeg (σ7 2 2)) 0 p1) (19 + Int32.toNatClampNeg (σ7 2 2)) 1 p2) (19 + Int32.toNatClampNeg (σ7 2 2)) 2 p3) (19 + Int32.toNatClampNeg (σ7 2 2)) 3 p4) (19 + Int32.toNatClampNeg (σ7 2 2)) 4 p5) (19 + Int32.toNatClampNeg (σ7 2 2)) 5 p6) (19 + Int32.toNatClampNeg (σ7 2 2)) 6 p7) (19 + Int32.toNatClampNeg (σ7 2 2)) 7 p8) 2 2) + 1) - 1)) ∧ X' = (am_TT false L, am_RR false, am_us (am_us (am_us (am_us (am_us (am_us (am_us (am_us (am_us σ7 (19 + Int32.toNatClampNeg (σ7 2 2)) 0 p1) (19 + Int32.toNatClampNeg (σ7 2 2)) 1 p2) (19 + Int32.toNatClampNeg (σ7 2 2)) 2 p3) (19 + Int32.toNatClampNeg (σ7 2 2)) 3 p4) (19 + Int32.toNatClampNeg (σ7 2 2)) 4 p5) (19 + Int32.toNatClampNeg (σ7 2 2)) 5 p6) (19 + Int32.toNatClampNeg (σ7 2 2)) 6 p7) (19 + Int32.toNatClampNeg (σ7 2 2)) 7 p8) 2 2 (((am_us (am_us (am_us (am_us (am_us (am_us (am_us (am_us σ7 (19 + Int32.toNatClampNeg (σ7 2 2)) 0 p1) (19 + Int32.toNatClampNeg (σ7 2 2)) 1 p2) (19 + Int32.toNatClampNeg (σ7 2 2)) 2 p3) (19 + Int32.toNatClampNeg (σ7 2 2)) 3 p4) (19 + Int32.toNatClampNeg (σ7 2 2)) 4 p5) (19 + Int32.toNatClampNeg (σ7 2 2)) 5 p6) (19 + Int32.toNatClampNeg (σ7 2 2)) 6 p7) (19 + Int32.toNatClampNeg (σ7 2 2)) 7 p8) 2 2) + 1)))))) ∧ (¬ ((σ7 2 2) < 20) → (r = some (.int (-3)) ∧ X' = (am_TT false L, am_RR false, σ7)))))))))))))))))))))))))) :
    am_Go l D DA b sz (d + 1) M_B_box (0, [some (.ref 1), some (.int p1), some (.int p2), some (.int p3), some (.int p4), some (.int p5), some (.int p6), some (.int p7), some (.int p8), none], [], (am_TT false L, am_RR false, σ)) r X' := by
  refine go_steps q_B_box kc_B_box 3 rfl ?_
  obtain ⟨r1, σ1, hg, hv⟩ := hv
  refine go_callS q_B_box kc_B_box rfl q_B_within am_k9 rfl rfl rfl (Nat.le_of_ble_eq_true rfl) (Nat.le_of_ble_eq_true rfl) hg ?_
  refine go_steps q_B_box kc_B_box 1 rfl ?_
  refine go_if (fun hb => ?_) (fun hb => ?_)
  · have hb : r1 = 0 := hb
    replace hv := hv.1 hb
    refine go_steps q_B_box kc_B_box 1 rfl ?_
    obtain ⟨rfl, rfl⟩ := hv
    exact go_retI q_B_box kc_B_box rfl rfl rfl
  · have hb : ¬ (r1 = 0) := hb
    replace hv := hv.2 hb
    refine go_steps q_B_box kc_B_box 3 rfl ?_
    obtain ⟨r2, σ2, hg, hv⟩ := hv
    refine go_callS q_B_box kc_B_box rfl q_B_within am_k9 rfl rfl rfl (Nat.le_of_ble_eq_true rfl) (Nat.le_of_ble_eq_true rfl) hg ?_
    refine go_steps q_B_box kc_B_box 1 rfl ?_
    refine go_if (fun hb => ?_) (fun hb => ?_)
    · have hb : r2 = 0 := hb
      replace hv := hv.1 hb
      refine go_steps q_B_box kc_B_box 1 rfl ?_
      obtain ⟨rfl, rfl⟩ := hv
      exact go_retI q_B_box kc_B_box rfl rfl rfl
    · have hb : ¬ (r2 = 0) := hb
      replace hv := hv.2 hb
      refine go_steps q_B_box kc_B_box 3 rfl ?_
      obtain ⟨r3, σ3, hg, hv⟩ := hv
      refine go_callS q_B_box kc_B_box rfl q_B_within am_k9 rfl rfl rfl (Nat.le_of_ble_eq_true rfl) (Nat.le_of_ble_eq_true rfl) hg ?_
      refine go_steps q_B_box kc_B_box 1 rfl ?_
      refine go_if (fun hb => ?_) (fun hb => ?_)
      · have hb : r3 = 0 := hb
        replace hv := hv.1 hb
        refine go_steps q_B_box kc_B_box 1 rfl ?_
        obtain ⟨rfl, rfl⟩ := hv
        exact go_retI q_B_box kc_B_box rfl rfl rfl
      · have hb : ¬ (r3 = 0) := hb
        replace hv := hv.2 hb
        refine go_steps q_B_box kc_B_box 3 rfl ?_
        obtain ⟨r4, σ4, hg, hv⟩ := hv
        refine go_callS q_B_box kc_B_box rfl q_B_within am_k9 rfl rfl rfl (Nat.le_of_ble_eq_true rfl) (Nat.le_of_ble_eq_true rfl) hg ?_
        refine go_steps q_B_box kc_B_box 1 rfl ?_
        refine go_if (fun hb => ?_) (fun hb => ?_)
        · have hb : r4 = 0 := hb
          replace hv := hv.1 hb
          refine go_steps q_B_box kc_B_box 1 rfl ?_
          obtain ⟨rfl, rfl⟩ := hv
          exact go_retI q_B_box kc_B_box rfl rfl rfl
        · have hb : ¬ (r4 = 0) := hb
          replace hv := hv.2 hb
          refine go_steps q_B_box kc_B_box 3 rfl ?_
          obtain ⟨r5, σ5, hg, hv⟩ := hv
          refine go_callS q_B_box kc_B_box rfl q_B_within am_k9 rfl rfl rfl (Nat.le_of_ble_eq_true rfl) (Nat.le_of_ble_eq_true rfl) hg ?_
          refine go_steps q_B_box kc_B_box 1 rfl ?_
          refine go_if (fun hb => ?_) (fun hb => ?_)
          · have hb : r5 = 0 := hb
            replace hv := hv.1 hb
            refine go_steps q_B_box kc_B_box 1 rfl ?_
            obtain ⟨rfl, rfl⟩ := hv
            exact go_retI q_B_box kc_B_box rfl rfl rfl
          · have hb : ¬ (r5 = 0) := hb
            replace hv := hv.2 hb
            refine go_steps q_B_box kc_B_box 3 rfl ?_
            obtain ⟨r6, σ6, hg, hv⟩ := hv
            refine go_callS q_B_box kc_B_box rfl q_B_within am_k9 rfl rfl rfl (Nat.le_of_ble_eq_true rfl) (Nat.le_of_ble_eq_true rfl) hg ?_
            refine go_steps q_B_box kc_B_box 1 rfl ?_
            refine go_if (fun hb => ?_) (fun hb => ?_)
            · have hb : r6 = 0 := hb
              replace hv := hv.1 hb
              refine go_steps q_B_box kc_B_box 1 rfl ?_
              obtain ⟨rfl, rfl⟩ := hv
              exact go_retI q_B_box kc_B_box rfl rfl rfl
            · have hb : ¬ (r6 = 0) := hb
              replace hv := hv.2 hb
              refine go_steps q_B_box kc_B_box 3 rfl ?_
              obtain ⟨r7, σ7, hg, hv⟩ := hv
              refine go_callS q_B_box kc_B_box rfl q_B_within am_k9 rfl rfl rfl (Nat.le_of_ble_eq_true rfl) (Nat.le_of_ble_eq_true rfl) hg ?_
              refine go_steps q_B_box kc_B_box 1 rfl ?_
              refine go_if (fun hb => ?_) (fun hb => ?_)
              · have hb : r7 = 0 := hb
                replace hv := hv.1 hb
                refine go_steps q_B_box kc_B_box 1 rfl ?_
                obtain ⟨rfl, rfl⟩ := hv
                exact go_retI q_B_box kc_B_box rfl rfl rfl
              · have hb : ¬ (r7 = 0) := hb
                replace hv := hv.2 hb
                refine go_steps q_B_box kc_B_box 5 rfl ?_
                refine go_if (fun hb => ?_) (fun hb => ?_)
                · have hb : (σ7 2 2) < 20 := hb
                  replace hv := hv.1 hb
                  refine go_steps q_B_box kc_B_box 6 rfl ?_
                  obtain ⟨hc1, hv⟩ := hv
                  refine go_aaload q_B_box kc_B_box rfl rfl hc1 (am_rr4 (am_inb hc1)) ?_
                  refine go_steps q_B_box kc_B_box 3 rfl ?_
                  refine go_putI q_B_box kc_B_box rfl (am_tt_box (am_inb hc1)) rfl ?_
                  refine go_steps q_B_box kc_B_box 2 rfl ?_
                  refine go_putI q_B_box kc_B_box rfl (am_tt_box (am_inb hc1)) rfl ?_
                  refine go_steps q_B_box kc_B_box 2 rfl ?_
                  refine go_putI q_B_box kc_B_box rfl (am_tt_box (am_inb hc1)) rfl ?_
                  refine go_steps q_B_box kc_B_box 2 rfl ?_
                  refine go_putI q_B_box kc_B_box rfl (am_tt_box (am_inb hc1)) rfl ?_
                  refine go_steps q_B_box kc_B_box 2 rfl ?_
                  refine go_putI q_B_box kc_B_box rfl (am_tt_box (am_inb hc1)) rfl ?_
                  refine go_steps q_B_box kc_B_box 2 rfl ?_
                  refine go_putI q_B_box kc_B_box rfl (am_tt_box (am_inb hc1)) rfl ?_
                  refine go_steps q_B_box kc_B_box 2 rfl ?_
                  obtain ⟨hc, hv⟩ := hv
                  refine go_putZ q_B_box kc_B_box rfl (am_tt_box (am_inb hc1)) rfl hc ?_
                  refine go_steps q_B_box kc_B_box 2 rfl ?_
                  refine go_putI q_B_box kc_B_box rfl (am_tt_box (am_inb hc1)) rfl ?_
                  refine go_steps q_B_box kc_B_box 15 rfl ?_
                  obtain ⟨rfl, rfl⟩ := hv
                  exact go_retI q_B_box kc_B_box rfl rfl rfl
                · have hb : ¬ ((σ7 2 2) < 20) := hb
                  replace hv := hv.2 hb
                  refine go_steps q_B_box kc_B_box 1 rfl ?_
                  obtain ⟨rfl, rfl⟩ := hv
                  exact go_retI q_B_box kc_B_box rfl rfl rfl
set_option maxHeartbeats 4000000 in
set_option maxRecDepth 100000 in
theorem v_B_piece_true_0 {l : Launch} {D : va_G} {DA : Nat → ClassId} {b sz d L : Nat} {σ : Nat → Nat → Int32} {r : Option Value} {X' : am_X} (p1 : Int32) (p2 : Int32)
    (hv : (∃ (r1 : Int32) (σ1 : Nat → Nat → Int32), am_Go l D DA b sz d M_Cutter_tell (0, [some (.ref 69), some (.ref 2), some (.int p1), some (.int p2), none], [], (am_TT true L, am_RR true, σ)) (some (.int r1)) (am_TT true L, am_RR true, σ1) ∧ (r = some (.int r1) ∧ X' = (am_TT true L, am_RR true, σ1)))) :
    am_Go l D DA b sz (d + 1) M_B_piece (0, [some (.ref 1), some (.int p1), some (.int p2)], [], (am_TT true L, am_RR true, σ)) r X' := by
  refine go_steps q_B_piece kc_B_piece 9 rfl ?_
  obtain ⟨r1, σ1, hg, hv⟩ := hv
  refine go_callV q_B_piece kc_B_piece rfl q_Cutter_tell am_k81 ⟨rfl, rfl, by decide⟩ rfl rfl (Nat.le_of_ble_eq_true rfl) (Nat.le_of_ble_eq_true rfl) rfl rfl hg ?_
  obtain ⟨rfl, rfl⟩ := hv
  exact go_retI q_B_piece kc_B_piece rfl rfl rfl
set_option maxHeartbeats 4000000 in
set_option maxRecDepth 100000 in
theorem v_B_piece_false_0 {l : Launch} {D : va_G} {DA : Nat → ClassId} {b sz d L : Nat} {σ : Nat → Nat → Int32} {r : Option Value} {X' : am_X} (p1 : Int32) (p2 : Int32)
    (hv : r = some (.int (-1)) ∧ X' = (am_TT false L, am_RR false, σ)) :
    am_Go l D DA b sz (d + 1) M_B_piece (0, [some (.ref 1), some (.int p1), some (.int p2)], [], (am_TT false L, am_RR false, σ)) r X' := by
  refine go_steps q_B_piece kc_B_piece 4 rfl ?_
  obtain ⟨rfl, rfl⟩ := hv
  exact go_retI q_B_piece kc_B_piece rfl rfl rfl
set_option maxHeartbeats 4000000 in
set_option maxRecDepth 100000 in
theorem v_B_cut_true_0 {l : Launch} {D : va_G} {DA : Nat → ClassId} {b sz d L : Nat} {σ : Nat → Nat → Int32} {r : Option Value} {X' : am_X} (p1 : Int32) (p2 : Int32) (p3 : Int32)
    (hv : (∃ (r1 : Int32) (σ1 : Nat → Nat → Int32), am_Go l D DA b sz d M_B_within (0, [some (.int p1), some (.int 1), some (.int 16)], [], (am_TT true L, am_RR true, σ)) (some (.int r1)) (am_TT true L, am_RR true, σ1) ∧ (((r1 = 0) → (r = some (.int (-2)) ∧ X' = (am_TT true L, am_RR true, σ1))) ∧ (¬ (r1 = 0) → (∃ (r2 : Int32) (σ2 : Nat → Nat → Int32), am_Go l D DA b sz d M_B_within (0, [some (.int p2), some (.int 1), some (.int 16)], [], (am_TT true L, am_RR true, σ1)) (some (.int r2)) (am_TT true L, am_RR true, σ2) ∧ (((r2 = 0) → (r = some (.int (-2)) ∧ X' = (am_TT true L, am_RR true, σ2))) ∧ (¬ (r2 = 0) → (∃ (r3 : Int32) (σ3 : Nat → Nat → Int32), am_Go l D DA b sz d M_B_within (0, [some (.int p3), some (.int 1), some (.int 16)], [], (am_TT true L, am_RR true, σ2)) (some (.int r3)) (am_TT true L, am_RR true, σ3) ∧ (((r3 = 0) → (r = some (.int (-2)) ∧ X' = (am_TT true L, am_RR true, σ3))) ∧ (¬ (r3 = 0) → (∃ (r4 : Int32) (σ4 : Nat → Nat → Int32), am_Go l D DA b sz d M_Cutter_mostWorth (0, [some (.ref 69), some (.ref 2), some (.int p1), some (.int p2), some (.int p3), none], [], (am_TT true L, am_RR true, σ3)) (some (.int r4)) (am_TT true L, am_RR true, σ4) ∧ (r = some (.int r4) ∧ X' = (am_TT true L, am_RR true, σ4))))))))))))) :
    am_Go l D DA b sz (d + 1) M_B_cut (0, [some (.ref 1), some (.int p1), some (.int p2), some (.int p3)], [], (am_TT true L, am_RR true, σ)) r X' := by
  refine go_steps q_B_cut kc_B_cut 3 rfl ?_
  obtain ⟨r1, σ1, hg, hv⟩ := hv
  refine go_callS q_B_cut kc_B_cut rfl q_B_within am_k9 rfl rfl rfl (Nat.le_of_ble_eq_true rfl) (Nat.le_of_ble_eq_true rfl) hg ?_
  refine go_steps q_B_cut kc_B_cut 1 rfl ?_
  refine go_if (fun hb => ?_) (fun hb => ?_)
  · have hb : r1 = 0 := hb
    replace hv := hv.1 hb
    refine go_steps q_B_cut kc_B_cut 1 rfl ?_
    obtain ⟨rfl, rfl⟩ := hv
    exact go_retI q_B_cut kc_B_cut rfl rfl rfl
  · have hb : ¬ (r1 = 0) := hb
    replace hv := hv.2 hb
    refine go_steps q_B_cut kc_B_cut 3 rfl ?_
    obtain ⟨r2, σ2, hg, hv⟩ := hv
    refine go_callS q_B_cut kc_B_cut rfl q_B_within am_k9 rfl rfl rfl (Nat.le_of_ble_eq_true rfl) (Nat.le_of_ble_eq_true rfl) hg ?_
    refine go_steps q_B_cut kc_B_cut 1 rfl ?_
    refine go_if (fun hb => ?_) (fun hb => ?_)
    · have hb : r2 = 0 := hb
      replace hv := hv.1 hb
      refine go_steps q_B_cut kc_B_cut 1 rfl ?_
      obtain ⟨rfl, rfl⟩ := hv
      exact go_retI q_B_cut kc_B_cut rfl rfl rfl
    · have hb : ¬ (r2 = 0) := hb
      replace hv := hv.2 hb
      refine go_steps q_B_cut kc_B_cut 3 rfl ?_
      obtain ⟨r3, σ3, hg, hv⟩ := hv
      refine go_callS q_B_cut kc_B_cut rfl q_B_within am_k9 rfl rfl rfl (Nat.le_of_ble_eq_true rfl) (Nat.le_of_ble_eq_true rfl) hg ?_
      refine go_steps q_B_cut kc_B_cut 1 rfl ?_
      refine go_if (fun hb => ?_) (fun hb => ?_)
      · have hb : r3 = 0 := hb
        replace hv := hv.1 hb
        refine go_steps q_B_cut kc_B_cut 1 rfl ?_
        obtain ⟨rfl, rfl⟩ := hv
        exact go_retI q_B_cut kc_B_cut rfl rfl rfl
      · have hb : ¬ (r3 = 0) := hb
        replace hv := hv.2 hb
        refine go_steps q_B_cut kc_B_cut 10 rfl ?_
        obtain ⟨r4, σ4, hg, hv⟩ := hv
        refine go_callV q_B_cut kc_B_cut rfl q_Cutter_mostWorth am_k72 ⟨rfl, rfl, by decide⟩ rfl rfl (Nat.le_of_ble_eq_true rfl) (Nat.le_of_ble_eq_true rfl) rfl rfl hg ?_
        obtain ⟨rfl, rfl⟩ := hv
        exact go_retI q_B_cut kc_B_cut rfl rfl rfl
