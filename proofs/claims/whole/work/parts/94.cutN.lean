/-! CUTS: the Cutter is made; the two calls -/
def ct1 (L : Nat) : am_T := am_TT false L ++ [.inl 3]
def ct2 (L : Nat) : am_T := ct1 L ++ [.inr (0, 4096)]
def ct3 (L : Nat) : am_T := ct2 L ++ [.inr (0, 4096)]
def cr1 : Nat → Nat → Value := am_zr (am_RR false) 69
def cr2 : Nat → Nat → Value := am_zr cr1 70
def cr3 : Nat → Nat → Value := am_ur cr2 69 0 (.ref 70)
def cr4 : Nat → Nat → Value := am_zr cr3 71
def cr5 : Nat → Nat → Value := am_ur cr4 69 1 (.ref 71)
def cr6 : Nat → Nat → Value := am_ur cr5 1 4 (.ref 69)
def cs1 (σ : Nat → Nat → Int32) : Nat → Nat → Int32 := am_zs σ 69
def cs2 (σ : Nat → Nat → Int32) : Nat → Nat → Int32 := am_zs (cs1 σ) 70
def cs3 (σ : Nat → Nat → Int32) : Nat → Nat → Int32 := am_zs (cs2 σ) 71
def cs6 (σ : Nat → Nat → Int32) : Nat → Nat → Int32 := am_us (am_us (am_us (cs3 σ) 69 2 (-1)) 69 3 (-1)) 69 4 (-1)
theorem cs6_c {σ : Nat → Nat → Int32} {c : Nat} (h : c < 69) : cs6 σ c = σ c := by
  funext k
  unfold cs6 cs3 cs2 cs1 am_us am_zs
  rw [if_neg (by omega), if_neg (by omega), if_neg (by omega), if_neg (by omega), if_neg (by omega), if_neg (by omega)]
theorem cs6_69 (σ : Nat → Nat → Int32) : cs6 σ 69 2 = -1 ∧ cs6 σ 69 3 = -1 ∧ cs6 σ 69 4 = -1 := by
  unfold cs6
  exact ⟨by rw [am_us_k (by decide), am_us_k (by decide), am_us_s], by rw [am_us_k (by decide), am_us_s], by rw [am_us_s]⟩
set_option maxRecDepth 100000 in
theorem C_new {l : Launch} {D : va_G} {DA : Nat → ClassId} {b sz d L : Nat} {σ : Nat → Nat → Int32} : am_Go l D DA b sz (d + 0) M_Cutter_new (0, [some (.ref 69)], [], (ct1 L, cr1, cs1 σ)) none (ct3 L, cr5, cs6 σ) := by
  refine go_steps (st' := (10, [some (.ref 69)], [.ref 70, .ref 69], (ct2 L, cr2, cs2 σ))) q_Cutter_new kc_Cutter_new 5 rfl ?_
  refine go_steps (st' := (13, [some (.ref 69)], [], (ct2 L, cr3, cs2 σ))) q_Cutter_new kc_Cutter_new 1 rfl ?_
  refine go_steps (st' := (19, [some (.ref 69)], [.ref 71, .ref 69], (ct3 L, cr4, cs3 σ))) q_Cutter_new kc_Cutter_new 3 rfl ?_
  refine go_steps (st' := (22, [some (.ref 69)], [], (ct3 L, cr5, cs3 σ))) q_Cutter_new kc_Cutter_new 1 rfl ?_
  refine go_steps (st' := (37, [some (.ref 69)], [], (ct3 L, cr5, cs6 σ))) q_Cutter_new kc_Cutter_new 9 rfl ?_
  exact go_retV q_Cutter_new kc_Cutter_new rfl rfl
set_option maxRecDepth 1000000 in
set_option maxHeartbeats 4000000 in
theorem ce_all (L : Nat) (σ : Nat → Nat → Int32) : am_eqv (ct3 L, cr6, σ) (am_TT true L, am_RR true, σ) := by
  refine ⟨rfl, fun c x hx => ?_⟩
  match c, hx with
  | 0, hx => cases hx; exact ⟨fun _ => rfl, fun h => absurd h (by decide)⟩
  | 1, hx => cases hx; exact fun k hk => match k, hk with | 0, _ => rfl | 1, _ => rfl | 2, _ => rfl | 3, _ => rfl | 4, _ => rfl | n + 5, h => absurd h (by show ¬ n + 5 < 5; omega)
  | 2, hx => cases hx; exact fun k hk => rfl
  | 3, hx => cases hx; exact fun k hk => rfl
  | 4, hx => cases hx; exact ⟨fun h => absurd rfl h, fun _ k hk => rfl⟩
  | 5, hx => cases hx; exact ⟨fun _ => rfl, fun h => absurd h (by decide)⟩
  | 6, hx => cases hx; exact ⟨fun _ => rfl, fun h => absurd h (by decide)⟩
  | 7, hx => cases hx; exact fun k hk => rfl
  | 8, hx => cases hx; exact ⟨fun _ => rfl, fun h => absurd h (by decide)⟩
  | 9, hx => cases hx; exact ⟨fun _ => rfl, fun h => absurd h (by decide)⟩
  | 10, hx => cases hx; exact ⟨fun _ => rfl, fun h => absurd h (by decide)⟩
  | 11, hx => cases hx; exact fun k hk => rfl
  | 12, hx => cases hx; exact ⟨fun _ => rfl, fun h => absurd h (by decide)⟩
  | 13, hx => cases hx; exact ⟨fun _ => rfl, fun h => absurd h (by decide)⟩
  | 14, hx => cases hx; exact ⟨fun _ => rfl, fun h => absurd h (by decide)⟩
  | 15, hx => cases hx; exact fun k hk => rfl
  | 16, hx => cases hx; exact ⟨fun _ => rfl, fun h => absurd h (by decide)⟩
  | 17, hx => cases hx; exact ⟨fun _ => rfl, fun h => absurd h (by decide)⟩
  | 18, hx => cases hx; exact ⟨fun _ => rfl, fun h => absurd h (by decide)⟩
  | 19, hx => cases hx; exact fun k hk => rfl
  | 20, hx => cases hx; exact fun k hk => rfl
  | 21, hx => cases hx; exact fun k hk => rfl
  | 22, hx => cases hx; exact fun k hk => rfl
  | 23, hx => cases hx; exact fun k hk => rfl
  | 24, hx => cases hx; exact fun k hk => rfl
  | 25, hx => cases hx; exact fun k hk => rfl
  | 26, hx => cases hx; exact fun k hk => rfl
  | 27, hx => cases hx; exact fun k hk => rfl
  | 28, hx => cases hx; exact fun k hk => rfl
  | 29, hx => cases hx; exact fun k hk => rfl
  | 30, hx => cases hx; exact fun k hk => rfl
  | 31, hx => cases hx; exact fun k hk => rfl
  | 32, hx => cases hx; exact fun k hk => rfl
  | 33, hx => cases hx; exact fun k hk => rfl
  | 34, hx => cases hx; exact fun k hk => rfl
  | 35, hx => cases hx; exact fun k hk => rfl
  | 36, hx => cases hx; exact fun k hk => rfl
  | 37, hx => cases hx; exact fun k hk => rfl
  | 38, hx => cases hx; exact fun k hk => rfl
  | 39, hx => cases hx; exact fun k hk => rfl
  | 40, hx => cases hx; exact ⟨fun _ => rfl, fun h => absurd h (by decide)⟩
  | 41, hx => cases hx; exact ⟨fun _ => rfl, fun h => absurd h (by decide)⟩
  | 42, hx => cases hx; exact fun k hk => rfl
  | 43, hx => cases hx; exact fun k hk => rfl
  | 44, hx => cases hx; exact ⟨fun _ => rfl, fun h => absurd h (by decide)⟩
  | 45, hx => cases hx; exact ⟨fun _ => rfl, fun h => absurd h (by decide)⟩
  | 46, hx => cases hx; exact ⟨fun _ => rfl, fun h => absurd h (by decide)⟩
  | 47, hx => cases hx; exact fun k hk => rfl
  | 48, hx => cases hx; exact ⟨fun _ => rfl, fun h => absurd h (by decide)⟩
  | 49, hx => cases hx; exact ⟨fun _ => rfl, fun h => absurd h (by decide)⟩
  | 50, hx => cases hx; exact ⟨fun _ => rfl, fun h => absurd h (by decide)⟩
  | 51, hx => cases hx; exact ⟨fun _ => rfl, fun h => absurd h (by decide)⟩
  | 52, hx => cases hx; exact ⟨fun _ => rfl, fun h => absurd h (by decide)⟩
  | 53, hx => cases hx; exact ⟨fun _ => rfl, fun h => absurd h (by decide)⟩
  | 54, hx => cases hx; exact ⟨fun _ => rfl, fun h => absurd h (by decide)⟩
  | 55, hx => cases hx; exact ⟨fun _ => rfl, fun h => absurd h (by decide)⟩
  | 56, hx => cases hx; exact ⟨fun _ => rfl, fun h => absurd h (by decide)⟩
  | 57, hx => cases hx; exact ⟨fun _ => rfl, fun h => absurd h (by decide)⟩
  | 58, hx => cases hx; exact ⟨fun _ => rfl, fun h => absurd h (by decide)⟩
  | 59, hx => cases hx; exact ⟨fun _ => rfl, fun h => absurd h (by decide)⟩
  | 60, hx => cases hx; exact ⟨fun _ => rfl, fun h => absurd h (by decide)⟩
  | 61, hx => cases hx; exact ⟨fun _ => rfl, fun h => absurd h (by decide)⟩
  | 62, hx => cases hx; exact ⟨fun _ => rfl, fun h => absurd h (by decide)⟩
  | 63, hx => cases hx; exact ⟨fun _ => rfl, fun h => absurd h (by decide)⟩
  | 64, hx => cases hx; exact ⟨fun _ => rfl, fun h => absurd h (by decide)⟩
  | 65, hx => cases hx; exact ⟨fun _ => rfl, fun h => absurd h (by decide)⟩
  | 66, hx => cases hx; exact ⟨fun _ => rfl, fun h => absurd h (by decide)⟩
  | 67, hx => cases hx; exact ⟨fun _ => rfl, fun h => absurd h (by decide)⟩
  | 68, hx => cases hx; exact ⟨fun _ => rfl, fun h => absurd h (by decide)⟩
  | 69, hx => cases hx; exact fun k hk => match k, hk with | 0, _ => rfl | 1, _ => rfl | 2, _ => rfl | 3, _ => rfl | 4, _ => rfl | n + 5, h => absurd h (by show ¬ n + 5 < 5; omega)
  | 70, hx => cases hx; exact ⟨fun _ => rfl, fun h => absurd h (by decide)⟩
  | 71, hx => cases hx; exact ⟨fun _ => rfl, fun h => absurd h (by decide)⟩
  | n + 72, hx => cases hx
set_option maxRecDepth 100000 in
theorem v_B_cut_false_0 {l : Launch} {D : va_G} {DA : Nat → ClassId} {b sz d L : Nat} {σ : Nat → Nat → Int32} {r : Option Value} {X' : am_X} (p1 : Int32) (p2 : Int32) (p3 : Int32)
    (hv : (∃ (r1 : Int32) (σ1 : Nat → Nat → Int32), am_Go l D DA b sz d M_B_within (0, [some (.int p1), some (.int 1), some (.int 16)], [], (am_TT false L, am_RR false, σ)) (some (.int r1)) (am_TT false L, am_RR false, σ1) ∧ (((r1 = 0) → (r = some (.int (-2)) ∧ X' = (am_TT false L, am_RR false, σ1))) ∧ (¬ (r1 = 0) → (∃ (r2 : Int32) (σ2 : Nat → Nat → Int32), am_Go l D DA b sz d M_B_within (0, [some (.int p2), some (.int 1), some (.int 16)], [], (am_TT false L, am_RR false, σ1)) (some (.int r2)) (am_TT false L, am_RR false, σ2) ∧ (((r2 = 0) → (r = some (.int (-2)) ∧ X' = (am_TT false L, am_RR false, σ2))) ∧ (¬ (r2 = 0) → (∃ (r3 : Int32) (σ3 : Nat → Nat → Int32), am_Go l D DA b sz d M_B_within (0, [some (.int p3), some (.int 1), some (.int 16)], [], (am_TT false L, am_RR false, σ2)) (some (.int r3)) (am_TT false L, am_RR false, σ3) ∧ (((r3 = 0) → (r = some (.int (-2)) ∧ X' = (am_TT false L, am_RR false, σ3))) ∧ (¬ (r3 = 0) → (∃ (r4 : Int32) (σ4 : Nat → Nat → Int32), am_Go l D DA b sz d M_Cutter_mostWorth (0, [some (.ref 69), some (.ref 2), some (.int p1), some (.int p2), some (.int p3), none], [], (am_TT true L, am_RR true, cs6 σ3)) (some (.int r4)) (am_TT true L, am_RR true, σ4) ∧ (r = some (.int r4) ∧ X' = (am_TT true L, am_RR true, σ4))))))))))))) :
    am_Go l D DA b sz (d + 1) M_B_cut (0, [some (.ref 1), some (.int p1), some (.int p2), some (.int p3)], [], (am_TT false L, am_RR false, σ)) r X' := by
  refine go_steps q_B_cut kc_B_cut 3 rfl ?_
  obtain ⟨r1, σ1, hg, hv⟩ := hv
  refine go_callS q_B_cut kc_B_cut rfl q_B_within am_k9 rfl rfl rfl (Nat.le_of_ble_eq_true rfl) (Nat.le_of_ble_eq_true rfl) hg ?_
  refine go_steps q_B_cut kc_B_cut 1 rfl ?_
  refine go_if (fun hb => ?_) (fun hb => ?_)
  · have hb : r1 = 0 := hb
    replace hv := hv.1 hb
    refine go_steps q_B_cut kc_B_cut 1 rfl ?_
    obtain ⟨rfl, rfl⟩ := hv
    exact go_retI q_B_cut kc_B_cut rfl rfl rfl
  · have hb : ¬ (r1 = 0) := hb
    replace hv := hv.2 hb
    refine go_steps q_B_cut kc_B_cut 3 rfl ?_
    obtain ⟨r2, σ2, hg, hv⟩ := hv
    refine go_callS q_B_cut kc_B_cut rfl q_B_within am_k9 rfl rfl rfl (Nat.le_of_ble_eq_true rfl) (Nat.le_of_ble_eq_true rfl) hg ?_
    refine go_steps q_B_cut kc_B_cut 1 rfl ?_
    refine go_if (fun hb => ?_) (fun hb => ?_)
    · have hb : r2 = 0 := hb
      replace hv := hv.1 hb
      refine go_steps q_B_cut kc_B_cut 1 rfl ?_
      obtain ⟨rfl, rfl⟩ := hv
      exact go_retI q_B_cut kc_B_cut rfl rfl rfl
    · have hb : ¬ (r2 = 0) := hb
      replace hv := hv.2 hb
      refine go_steps q_B_cut kc_B_cut 3 rfl ?_
      obtain ⟨r3, σ3, hg, hv⟩ := hv
      refine go_callS q_B_cut kc_B_cut rfl q_B_within am_k9 rfl rfl rfl (Nat.le_of_ble_eq_true rfl) (Nat.le_of_ble_eq_true rfl) hg ?_
      refine go_steps q_B_cut kc_B_cut 1 rfl ?_
      refine go_if (fun hb => ?_) (fun hb => ?_)
      · have hb : r3 = 0 := hb
        replace hv := hv.1 hb
        refine go_steps q_B_cut kc_B_cut 1 rfl ?_
        obtain ⟨rfl, rfl⟩ := hv
        exact go_retI q_B_cut kc_B_cut rfl rfl rfl
      · have hb : ¬ (r3 = 0) := hb
        replace hv := hv.2 hb
        obtain ⟨r4, σ4, hg, hv⟩ := hv
        refine go_steps (st' := (44, [some (.ref 1), some (.int p1), some (.int p2), some (.int p3)], [.ref 69, .ref 1], (ct1 L, cr1, cs1 σ3))) q_B_cut kc_B_cut 5 rfl ?_
        refine go_steps (st' := (45, [some (.ref 1), some (.int p1), some (.int p2), some (.int p3)], [.ref 69, .ref 69, .ref 1], (ct1 L, cr1, cs1 σ3))) q_B_cut kc_B_cut 1 rfl ?_
        refine go_callI (X1 := (ct3 L, cr5, cs6 σ3)) (r1 := none) q_B_cut kc_B_cut rfl (by decide) q_Cutter_new am_k71 ⟨rfl, rfl⟩ rfl rfl (Nat.le_of_ble_eq_true rfl) (Nat.le_of_ble_eq_true rfl) rfl (go_mono (by omega) (C_new (d := 0))) ?_
        show am_Go l D DA b sz _ M_B_cut (48, [some (.ref 1), some (.int p1), some (.int p2), some (.int p3)], [.ref 69, .ref 1], (ct3 L, cr5, cs6 σ3)) _ _
        refine go_steps (st' := (51, [some (.ref 1), some (.int p1), some (.int p2), some (.int p3)], [], (ct3 L, cr6, cs6 σ3))) q_B_cut kc_B_cut 1 rfl ?_
        refine go_eqv (ce_all L (cs6 σ3)) ?_
        refine go_steps q_B_cut kc_B_cut 7 rfl ?_
        refine go_callV q_B_cut kc_B_cut rfl q_Cutter_mostWorth am_k72 ⟨rfl, rfl, by decide⟩ rfl rfl (Nat.le_of_ble_eq_true rfl) (Nat.le_of_ble_eq_true rfl) rfl rfl hg ?_
        obtain ⟨rfl, rfl⟩ := hv
        exact go_retI q_B_cut kc_B_cut rfl rfl rfl
