/-! wrong, place -/
section PLC
variable {l : Launch} {D : va_G} {DA : Nat → ClassId} {b sz d L : Nat} {cu : Bool} {σ σ' : Nat → Nat → Int32} {N M : Nat} {P : Nat → Nat → Int} {Q : Nat → Int}
theorem cOK_in (h : cOK σ N P Q M) (hN : N ≤ 20) {n : Nat} (hn : n < N) (ha : bAt σ P n) : cOK (am_us σ 2 3 (zi ((M ||| 2 ^ n : Nat) : Int))) N (pu P 8 n 1) Q (M ||| 2 ^ n) := by
  have hl := lOK_in h hN hn ha
  refine ⟨by rw [am_us_k (by omega)]; exact h.1, by rw [am_us_s], hl.2.1, fun j hj => by rw [am_us_c (by omega)]; exact h.2.2.2.1 j hj, fun m hm k hk => by rw [am_us_c (by omega)]; exact hl.2.2.1 m hm k hk, fun m hm h8 => bAt_fr (hl.2.2.2 m hm h8) (am_us_ne (by omega))⟩
theorem wrg_0 {n : Nat} (h : wrg P Q N n = 0) : inQ P Q n := by
  unfold wrg at h
  by_cases c : b1W P Q N n = 0
  · exact inQ_of (thr_ge n _ N c)
  · rw [if_pos c] at h
    exact absurd h c
theorem zOK_pp (hz : zOK N P) {n : Nat} (hn : n < N) (x y z t : Int) : zOK N (pp P n x y z t) := fun m hm k => by rw [pp_o (by omega)]; exact hz m hm k
theorem zOK_pu (hz : zOK N P) {n : Nat} (hn : n < N) (k : Nat) (v : Int) : zOK N (pu P k n v) := fun m hm k' => by unfold pu; rw [if_neg (by omega)]; exact hz m hm k'
theorem zT {t : Int32} (h : t = 0 ∨ t = 1) : ∃ T : Int, (T = 0 ∨ T = 1) ∧ t = zi T := by
  rcases h with rfl | rfl
  · exact ⟨0, Or.inl rfl, rfl⟩
  · exact ⟨1, Or.inr rfl, rfl⟩
theorem wrg_lt (n : Nat) : wrg P Q N n < 32 := by
  unfold wrg
  repeat' split
  · exact b1W_lt N
  · exact b3W_lt N
  · exact b3W_lt N
  · exact or_lt32 (b3W_lt N) (by decide)
/-- the class stands box n at a place and looks; then the reference does -/
theorem c_tried (hd : 7 ≤ d) (h : pic σ N P Q M) {n : Nat} (hn : n < N) (h8 : P 8 n = 0) {x y z t : Int} (hx : 0 ≤ x ∧ x ≤ 40) (hy : 0 ≤ y ∧ y ≤ 40) (hz : 0 ≤ z ∧ z ≤ 40) (ht : t = 0 ∨ t = 1) :
    ∃ σ1 σ2, GG l D DA b sz d L cu M_Hold_stand [some (.ref 2), some (.int (zi n)), some (.int (zi x)), some (.int (zi y)), some (.int (zi z)), some (.int (zi t)), none] σ none σ1 ∧ GG l D DA b sz d L cu M_Hold_faults [some (.ref 2), some (.int (zi n)), none, none] σ1 (some (.int (zi (wrg (pp P n x y z t) Q N n)))) σ2 ∧ cOK σ2 N (pp P n x y z t) Q M ∧ bAt σ2 (pp P n x y z t) n ∧ (∀ c, 39 ≤ c → σ2 c = σ c) := by
  obtain ⟨hp, hz0, hm, hc⟩ := id h
  have hN := hp.1
  have hp1 := pp_pOK hp hn h8 hx hy hz ht
  obtain ⟨σ1, g1, ⟨t1, t2⟩, m1, f1, -⟩ := c_stand (l := l) (D := D) (DA := DA) (b := b) (sz := sz) (d := d) (L := L) (cu := cu) (by omega) hc hp hn h8 hx hy hz ht
  obtain ⟨σ2, g2, f2⟩ := c_faults (l := l) (D := D) (DA := DA) (b := b) (sz := sz) (d := d) (L := L) (cu := cu) (by omega) t1 hp1 hn (by rw [pp_o (by omega)]; exact h8) t2 m1
  exact ⟨σ1, σ2, g1, g2, cOK_56 t1 hN f2, bAt_fr t2 (f2 (19 + n) (by omega) (by omega)), fun c hc9 => (f2 c (by omega) (by omega)).trans (f1 c (by omega) (by omega))⟩
theorem L_wrong (hd : 8 ≤ d) (h : pic σ N P Q M) (p x y z t : Int32) (ht : t = 0 ∨ t = 1) : stepOK l D DA b sz d L cu M_B_wrong [some (.ref 1), some (.int p), some (.int x), some (.int y), some (.int z), some (.int t), none] M_R_wrong [some (.ref 47), some (.int p), some (.int x), some (.int y), some (.int z), some (.int t), none] σ N P := by
  obtain ⟨hp, hz0, hm, hc⟩ := id h
  have hN := hp.1
  obtain ⟨d, rfl⟩ : ∃ d', d = d' + 1 := ⟨d - 1, by omega⟩
  by_cases c : askd P N p x y z t = 0
  · obtain ⟨n, hn, rfl, h8, hx, hy, hz⟩ := askd_0 c
    obtain ⟨X, hX, rfl⟩ : ∃ X : Int, (0 ≤ X ∧ X ≤ 40) ∧ x = zi X := ⟨x.toInt, hx, zi_of x⟩
    obtain ⟨Y, hY, rfl⟩ : ∃ X : Int, (0 ≤ X ∧ X ≤ 40) ∧ y = zi X := ⟨y.toInt, hy, zi_of y⟩
    obtain ⟨Z, hZ, rfl⟩ : ∃ X : Int, (0 ≤ X ∧ X ≤ 40) ∧ z = zi X := ⟨z.toInt, hz, zi_of z⟩
    obtain ⟨T, hT, rfl⟩ := zT ht
    obtain ⟨σ1, σ2, g1, g2, k1, k2, f1⟩ := c_tried (l := l) (D := D) (DA := DA) (b := b) (sz := sz) (d := d) (L := L) (cu := cu) (by omega) h hn h8 hX hY hZ hT
    have hm2 : mOK σ2 N P Q := mOK_fr hm (fun c _ _ => f1 c (by omega)) (fun k _ => by rw [f1 47 (by omega)])
    obtain ⟨σ3, g3, m3, f3⟩ := c_R_wrongAt (l := l) (D := D) (DA := DA) (b := b) (sz := sz) (d := d) (L := L) (cu := cu) (by omega) hm2 hp hn h8 hX hY hZ hT
    have q1 := c_refusal (l := l) (D := D) (DA := DA) (b := b) (sz := sz) (d := d) (L := L) (cu := cu) (by omega) hc hp (zi n) (zi X) (zi Y) (zi Z) (zi T)
    have q2 := c_R_asked (l := l) (D := D) (DA := DA) (b := b) (sz := sz) (d := d) (L := L) (cu := cu) (by omega) hm2 hp (zi n) (zi X) (zi Y) (zi Z) (zi T)
    refine ⟨_, σ2, σ3, pp P n X Y Z T, Q, M, v_B_wrong_0 _ _ _ _ _ ⟨_, _, q1, fun _ => ⟨_, g1, _, _, g2, rfl, rfl⟩, fun h0 => absurd c h0⟩, v_R_wrong_0 _ _ _ _ _ ⟨_, _, q2, fun _ => ⟨_, _, g3, rfl, rfl⟩, fun h0 => absurd c h0⟩, ⟨pp_pOK hp hn h8 hX hY hZ hT, zOK_pp hz0 hn X Y Z T, m3, ?_⟩, fun k m hk => pp_o (by omega), ?_⟩
    · exact cOK_fr k1 (by rw [f3 2 (by omega)]) (by rw [f3 2 (by omega)]) (fun c hc => f3 c (by omega)) hN
    · exact rst_of (fun c hc => (f3 c (by omega)).trans (f1 c (by omega)))
  · refine stay h _ (v_B_wrong_0 _ _ _ _ _ ⟨_, _, c_refusal (by omega) hc hp p x y z t, fun h0 => absurd h0 c, fun _ => ⟨rfl, rfl⟩⟩) (v_R_wrong_0 _ _ _ _ _ ⟨_, _, c_R_asked (by omega) hm hp p x y z t, fun h0 => absurd h0 c, fun _ => ⟨rfl, rfl⟩⟩)
theorem L_place (hd : 8 ≤ d) (h : pic σ N P Q M) (p x y z t : Int32) (ht : t = 0 ∨ t = 1) : stepOK l D DA b sz d L cu M_B_place [some (.ref 1), some (.int p), some (.int x), some (.int y), some (.int z), some (.int t), none] M_R_place [some (.ref 47), some (.int p), some (.int x), some (.int y), some (.int z), some (.int t), none] σ N P := by
  obtain ⟨hp, hz0, hm, hc⟩ := id h
  have hN := hp.1
  obtain ⟨d, rfl⟩ : ∃ d', d = d' + 1 := ⟨d - 1, by omega⟩
  by_cases c : askd P N p x y z t = 0
  · obtain ⟨n, hn, rfl, h8, hx, hy, hz⟩ := askd_0 c
    obtain ⟨X, hX, rfl⟩ : ∃ X : Int, (0 ≤ X ∧ X ≤ 40) ∧ x = zi X := ⟨x.toInt, hx, zi_of x⟩
    obtain ⟨Y, hY, rfl⟩ : ∃ X : Int, (0 ≤ X ∧ X ≤ 40) ∧ y = zi X := ⟨y.toInt, hy, zi_of y⟩
    obtain ⟨Z, hZ, rfl⟩ : ∃ X : Int, (0 ≤ X ∧ X ≤ 40) ∧ z = zi X := ⟨z.toInt, hz, zi_of z⟩
    obtain ⟨T, hT, rfl⟩ := zT ht
    obtain ⟨σ1, σ2, g1, g2, k1, k2, f1⟩ := c_tried (l := l) (D := D) (DA := DA) (b := b) (sz := sz) (d := d) (L := L) (cu := cu) (by omega) h hn h8 hX hY hZ hT
    have hw := wrg_lt (P := pp P n X Y Z T) (Q := Q) (N := N) n
    have q1 := c_refusal (l := l) (D := D) (DA := DA) (b := b) (sz := sz) (d := d) (L := L) (cu := cu) (by omega) hc hp (zi n) (zi X) (zi Y) (zi Z) (zi T)
    have hp1 := pp_pOK hp hn h8 hX hY hZ hT
    have hcl : Int32.toNatClampNeg (zi n) = n := zi_cl (by omega)
    by_cases cw : wrg (pp P n X Y Z T) Q N n = 0
    · have k3 := cOK_in k1 hN hn k2
      have hin := wrg_0 cw
      have hm2 : mOK (am_us σ2 2 3 (zi ((M ||| 2 ^ n : Nat) : Int))) N P Q := mOK_fr hm (fun c _ _ => by rw [am_us_ne (by omega), f1 c (by omega)]) (fun k _ => by rw [am_us_c (by omega), f1 47 (by omega)])
      obtain ⟨σ3, g3, m3, f3⟩ := c_R_wrongAt (l := l) (D := D) (DA := DA) (b := b) (sz := sz) (d := d) (L := L) (cu := cu) (by omega) hm2 hp hn h8 hX hY hZ hT
      have q2 := c_R_asked (l := l) (D := D) (DA := DA) (b := b) (sz := sz) (d := d) (L := L) (cu := cu) (by omega) hm2 hp (zi n) (zi X) (zi Y) (zi Z) (zi T)
      rw [cw] at g2 g3
      refine ⟨1, am_us σ2 2 3 (zi ((M ||| 2 ^ n : Nat) : Int)), am_us σ3 56 n 1, pu (pp P n X Y Z T) 8 n 1, Q, M ||| 2 ^ n, v_B_place_0 _ _ _ _ _ ⟨_, _, q1, fun _ => ⟨_, g1, _, _, g2, fun _ => ⟨_, v_Hold_putIn_0 _ ⟨rfl, rfl⟩, rfl, ?_⟩, fun h0 => absurd rfl h0⟩, fun h0 => absurd c h0⟩, v_R_place_0 _ _ _ _ _ ⟨_, _, q2, fun _ => ⟨_, _, g3, fun _ => ⟨?_, rfl, ?_⟩, fun h0 => absurd rfl h0⟩, fun h0 => absurd c h0⟩, ⟨pOK_in hp1 hn hin, zOK_pu (zOK_pp hz0 hn X Y Z T) hn 8 1, mOK_pu m3 (k := 8) (by decide) 1, ?_⟩, fun k m hk => ?_, ?_⟩
      · rw [k1.2.1, mk_shl (by omega), mk_or]
      · rw [hcl, zi_lt0 (by omega) (by omega)]; omega
      · rw [hcl]
      · exact cOK_fr k3 (by rw [am_us_c (by omega), f3 2 (by omega)]) (by rw [am_us_c (by omega), f3 2 (by omega)]) (fun c hc => by rw [am_us_ne (by omega), f3 c (by omega)]) hN
      · unfold pu
        rw [if_neg (by omega)]
        exact pp_o (by omega)
      · refine rst_of (fun c hc => ?_)
        rw [am_us_ne (by omega), f3 c (by omega), am_us_ne (by omega), f1 c (by omega)]
    · have hm2 : mOK σ2 N P Q := mOK_fr hm (fun c _ _ => f1 c (by omega)) (fun k _ => by rw [f1 47 (by omega)])
      obtain ⟨σ3, g3, m3, f3⟩ := c_R_wrongAt (l := l) (D := D) (DA := DA) (b := b) (sz := sz) (d := d) (L := L) (cu := cu) (by omega) hm2 hp hn h8 hX hY hZ hT
      have q2 := c_R_asked (l := l) (D := D) (DA := DA) (b := b) (sz := sz) (d := d) (L := L) (cu := cu) (by omega) hm2 hp (zi n) (zi X) (zi Y) (zi Z) (zi T)
      have hne : ¬ zi ((wrg (pp P n X Y Z T) Q N n : Nat) : Int) = 0 := by rw [zi_eq0 (by omega) (by omega)]; omega
      refine ⟨0, σ2, σ3, pp P n X Y Z T, Q, M, v_B_place_0 _ _ _ _ _ ⟨_, _, q1, fun _ => ⟨_, g1, _, _, g2, fun h0 => absurd h0 hne, fun _ => ⟨rfl, rfl⟩⟩, fun h0 => absurd c h0⟩, v_R_place_0 _ _ _ _ _ ⟨_, _, q2, fun _ => ⟨_, _, g3, fun h0 => absurd h0 hne, fun _ => ⟨rfl, rfl⟩⟩, fun h0 => absurd c h0⟩, ⟨hp1, zOK_pp hz0 hn X Y Z T, m3, ?_⟩, fun k m hk => pp_o (by omega), ?_⟩
      · exact cOK_fr k1 (by rw [f3 2 (by omega)]) (by rw [f3 2 (by omega)]) (fun c hc => f3 c (by omega)) hN
      · exact rst_of (fun c hc => (f3 c (by omega)).trans (f1 c (by omega)))
  · refine stay h _ (v_B_place_0 _ _ _ _ _ ⟨_, _, c_refusal (by omega) hc hp p x y z t, fun h0 => absurd h0 c, fun _ => ⟨rfl, rfl⟩⟩) (v_R_place_0 _ _ _ _ _ ⟨_, _, c_R_asked (by omega) hm hp p x y z t, fun h0 => absurd h0 c, fun _ => ⟨rfl, rfl⟩⟩)
end PLC
