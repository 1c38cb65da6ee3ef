/-! calls -/
section AMG
variable {l : Launch} {D : va_G} {DA : Nat → ClassId} {b sz : Nat} {q : am_M}
theorem am_args {n : Nat} {S : List Value} : S.map (am_v b sz) = (((S.take n).reverse).map (am_v b sz)).reverse ++ (S.drop n).map (am_v b sz) := by
  rw [← List.map_reverse, List.reverse_reverse, ← List.map_append, List.take_append_drop]
theorem am_toList {r : Option Value} : (r.map (am_v b sz)).toList = r.toList.map (am_v b sz) := by cases r <;> rfl
/-- the frame of a call: what a run call gives, the caller goes on -/
theorem go_of_run {d mi mj n pc nx : Nat} {qj : am_M} {L : am_L} {S : List Value} {X X1 X' : am_X} {r1 r : Option Value} (hq : am_ms[mi]? = some q) (hj : am_ms[mj]? = some qj) (hok : am_okM qj) (hnx : nx = pc + 3) (hlen : (am_sl (S.take n).reverse).length ≤ qj.2.2.2.1)
    (G1 : am_Go l D DA b sz d mj (0, am_ent qj.2.2.2.1 (S.take n).reverse, [], X) r1 X1) (G2 : am_Go l D DA b sz (d + 1) mi (nx, L, r1.toList ++ S.drop n, X1) r X')
    (run : ∀ (p : Program) (e : Env) (R : Room) (s : State) (m : MethodId) (args : Array Value) (below : List Frame) (meth : Method) (c : Code) (ls : Array Slot) (H : Heap) (locs : List Loc) (cells slots : Nat),
      am_At D DA q p s m args meth c → d + 2 ≤ R.frames → (d + 2) * 64 ≤ R.locals → cells + (X1.1.length - X.1.length) ≤ R.cells → slots + (am_ns X1.1 - am_ns X.1) ≤ R.slots → am_Ls b sz ls q.2.2.2.1 L → am_ok D DA b sz s X H →
      Met l qj.2.1 (am_ws qj) (am_rm d X X1) (am_Pc D DA b sz (S.take n).reverse X) (am_Qc D DA b sz r1 X1) (X1.1.length - X.1.length) (am_ns X1.1 - am_ns X.1) (fun a => sz ≤ a) →
      ∃ a : Array Value, va_Run p l e R s m args below meth c H locs cells slots (X1.1.length - X.1.length) (am_ns X1.1 - am_ns X.1) (F0 m pc ls (S.map (am_v b sz))) ((S.drop n).map (am_v b sz)) (am_Qc D DA b sz r1 X1 a) (fun a => sz ≤ a)) :
    am_Go l D DA b sz (d + 1) mi (pc, L, S, X) r X' := by
  have hM := am_met hj hok hlen G1
  obtain ⟨a1, a2, -⟩ := G1
  obtain ⟨b1, b2, b3⟩ := G2
  have a1 : X.1.length ≤ X1.1.length := a1
  have a2 : am_ns X.1 ≤ am_ns X1.1 := a2
  have b1 : X1.1.length ≤ X'.1.length := b1
  have b2 : am_ns X1.1 ≤ am_ns X'.1 := b2
  subst hnx
  refine ⟨Nat.le_trans a1 b1, Nat.le_trans a2 b2, ?_⟩
  intro q' hq' p e R s m args below meth c Q ls H locs cells slots hA hf hl hc hs hL hO hlo k
  have e9 : q' = q := Option.some.inj (hq'.symm.trans hq)
  subst e9
  have hc : cells + (X'.1.length - X.1.length) ≤ R.cells := hc
  have hs : slots + (am_ns X'.1 - am_ns X.1) ≤ R.slots := hs
  obtain ⟨a, hrun⟩ := run p e R s m args below meth c ls H locs cells slots hA hf hl (by omega) (by omega) hL hO hM
  refine am_run_W hrun hlo (fun H1 locs1 hO1 hlo1 => ?_)
  have hk := b3 q' hq p e R s m args below meth c Q ls H1 locs1 (cells + (X1.1.length - X.1.length)) (slots + (am_ns X1.1 - am_ns X.1)) hA hf hl (by show cells + (X1.1.length - X.1.length) + (X'.1.length - X1.1.length) ≤ _; omega) (by show slots + (am_ns X1.1 - am_ns X.1) + (am_ns X'.1 - am_ns X1.1) ≤ _; omega) hL hO1 hlo1 ?_
  · have e1 : (r1.toList ++ S.drop n).map (am_v b sz) = (r1.map (am_v b sz)).toList ++ (S.drop n).map (am_v b sz) := by rw [List.map_append, am_toList]
    have hk : W p l e R s m args below meth c H1 locs1 _ _ Q (F0 m (pc + 3) ls ((r1.toList ++ S.drop n).map (am_v b sz))) := hk
    rw [e1] at hk
    exact hk
  · intro pc' ls2 H2 locs2 hO2 hlo2 hrt
    have := k pc' ls2 H2 locs2 hO2 hlo2 hrt
    have e1 : cells + (X1.1.length - X.1.length) + (X'.1.length - X1.1.length) = cells + (X'.1.length - X.1.length) := by omega
    have e2 : slots + (am_ns X1.1 - am_ns X.1) + (am_ns X'.1 - am_ns X1.1) = slots + (am_ns X'.1 - am_ns X.1) := by omega
    show W p l e R s m args below meth c H2 locs2 (cells + (X1.1.length - X.1.length) + (X'.1.length - X1.1.length)) (slots + (am_ns X1.1 - am_ns X.1) + (am_ns X'.1 - am_ns X1.1)) Q _
    rw [e1, e2]
    exact this
theorem am_chk_spec {k : List am_I} {pc len nx n n2 : Nat} {i : Instr} {v : Int32} {w : List Nat} (hk : k.all (am_chk q) = true) (hf : am_fetch k pc = some (pc, i, len, nx, n, n2, v, w)) (hs : am_isSw i = false) : decode q.2.2.1 pc = .ok (i, am_len i) ∧ nx = pc + am_len i ∧ am_own q pc i n n2 v w = true := by
  have hc := List.all_eq_true.mp hk _ (am_fetch_in hf).1
  simp only [am_chk, Bool.and_eq_true, Bool.or_eq_true, decide_eq_true_eq, beq_iff_eq] at hc
  obtain ⟨hd, hnx, hlen, ho⟩ := hc
  have hlen : len = am_len i := hlen.resolve_left (fun h9 => by rw [hs] at h9; cases h9)
  subst hlen
  exact ⟨hd, hnx, ho⟩
theorem am_callB {qj : am_M} {mj idx n d : Nat} {X X1 : am_X} {R : Room} {p : Program} {s : State} {m : MethodId} {args : Array Value} {meth : Method} {c : Code} (hA : am_At D DA q p s m args meth c) (hj : am_ms[mj]? = some qj) (hok : am_okM qj) (ho : am_MW.any (fun z => z.1 == q.1 && (z.2.1 == idx && z.2.2 == mj)) = true) (hf : d + 2 ≤ R.frames) (hl : (d + 2) * 64 ≤ R.locals) (hn : (if qj.2.2.2.2.2.2.1 = true then qj.2.2.2.2.2.1 else qj.2.2.2.2.2.1 - 1) = n) :
    CallB R s args (am_cn q.1) idx qj.2.1 qj.2.2.1 qj.2.2.2.1 qj.2.2.2.2.1 (am_ws qj) (am_rm d X X1) (X1.1.length - X.1.length) (am_ns X1.1 - am_ns X.1) n := by
  obtain ⟨hx, hb, hml, hown, hts, hK, hin⟩ := hA
  refine callB_of n hts (am_goodIn hok) rfl rfl rfl (hts _ (am_tb_in hok.2.2.2.2.1 rfl)) (hts _ (am_y_eq hj ▸ am_mw ho)) ⟨hok.2.1.1, hok.2.1.2, by rw [← hn]; exact hok.2.2.2.2.2.1⟩ ⟨?_, ?_⟩
  · exact hf
  · have := hok.2.2.2.2.2.2.1
    show 8 + (qj.2.2.2.1 + 11) + (d + 1) * 64 ≤ R.locals
    omega
theorem am_room {m : MethodId} {pc n : Nat} {ls : Array Slot} {S : List Value} {st : List Value} (h : am_cat (S.drop n) ≤ 8) : 2 * (F0 m pc ls st).monitorRoom + (((S.drop n).map (am_v b sz)).map fun v => v.category).sum ≤ 8 := by
  rw [am_cat_v]
  have : (F0 m pc ls st).monitorRoom = 0 := rfl
  omega
theorem go_callS {k : List am_I} {d mi mj pc len nx n2 n idx : Nat} {qj : am_M} {v : Int32} {w : List Nat} {L : am_L} {S : List Value} {X X1 X' : am_X} {r1 r : Option Value} (hq : am_ms[mi]? = some q) (hk : k.all (am_chk q) = true) (hfe : am_fetch k pc = some (pc, .invokestatic idx, len, nx, mj, n2, v, w)) (hj : am_ms[mj]? = some qj) (hok : am_okM qj) (hst : qj.2.2.2.2.2.2.1 = true) (hn : qj.2.2.2.2.2.1 = n) (hl : (S.take n).length = n) (hlen : (am_sl (S.take n).reverse).length ≤ qj.2.2.2.1) (hcat : am_cat (S.drop n) ≤ 8)
    (G1 : am_Go l D DA b sz d mj (0, am_ent qj.2.2.2.1 (S.take n).reverse, [], X) r1 X1) (G2 : am_Go l D DA b sz (d + 1) mi (nx, L, r1.toList ++ S.drop n, X1) r X') : am_Go l D DA b sz (d + 1) mi (pc, L, S, X) r X' := by
  obtain ⟨hd, hnx, ho⟩ := am_chk_spec hk hfe rfl
  refine go_of_run hq hj hok hnx hlen G1 G2 ?_
  intro p e R s m args below meth c ls H locs cells slots hA hf hlo hc hs hL hO hM
  have hB := am_callB (X := X) (X1 := X1) (n := n) hA hj hok ho hf hlo (by rw [if_pos hst]; exact hn)
  obtain ⟨hx, hb, hml, hown, hts, hK, hin⟩ := hA
  refine ⟨_, va_runS (As := (S.take n).reverse.map (am_v b sz)) (Ts := am_tb) ⟨hx, hb, hml, hown, hts⟩ hM ⟨hB, hts _ (am_tb_in (hok.2.2.2.2.2.2.2.1 hst) rfl)⟩ ⟨am_blind, fun U hU hW => ⟨rfl, by rw [hU]; exact hO.moved hW.alike, hK.warm hW⟩⟩ rfl ?_ hL.2.1 am_args (am_room hcat) hd ⟨hc, hs⟩⟩
  rw [List.length_map, List.length_reverse]
  exact hl
theorem am_recv {n c : Nat} {S : List Value} (h : (S.take n).reverse.head? = some (.ref c)) : ∃ As, (S.take n).reverse = .ref c :: As := by
  cases he : (S.take n).reverse with
  | nil => rw [he] at h; cases h
  | cons a As => rw [he] at h; cases h; exact ⟨As, rfl⟩
theorem go_callV {k : List am_I} {d mi mj pc len nx n2 n idx c0 : Nat} {qj : am_M} {v : Int32} {w : List Nat} {L : am_L} {S : List Value} {X X1 X' : am_X} {r1 r : Option Value} (hq : am_ms[mi]? = some q) (hk : k.all (am_chk q) = true) (hfe : am_fetch k pc = some (pc, .invokevirtual idx, len, nx, mj, n2, v, w)) (hj : am_ms[mj]? = some qj) (hok : am_okM qj) (hst : qj.2.2.2.2.2.2.1 = false ∧ qj.2.2.2.2.2.2.2 = false ∧ qj.1 < 10) (hn : qj.2.2.2.2.2.1 = n) (hl : (S.take n).length = n) (hlen : (am_sl (S.take n).reverse).length ≤ qj.2.2.2.1) (hcat : am_cat (S.drop n) ≤ 8) (hrc : (S.take n).reverse.head? = some (.ref c0)) (hT : X.1[c0]? = some (.inl qj.1))
    (G1 : am_Go l D DA b sz d mj (0, am_ent qj.2.2.2.1 (S.take n).reverse, [], X) r1 X1) (G2 : am_Go l D DA b sz (d + 1) mi (nx, L, r1.toList ++ S.drop n, X1) r X') : am_Go l D DA b sz (d + 1) mi (pc, L, S, X) r X' := by
  obtain ⟨hd, hnx, ho⟩ := am_chk_spec hk hfe rfl
  refine go_of_run hq hj hok hnx hlen G1 G2 ?_
  intro p e R s m args below meth c ls H locs cells slots hA hf hlo hc hs hL hO hM
  obtain ⟨As, hAs⟩ := am_recv hrc
  have hB := am_callB (X := X) (X1 := X1) (n := n - 1) hA hj hok ho hf hlo (by rw [if_neg (by rw [hst.1]; decide), hn])
  obtain ⟨hx, hb, hml, hown, hts, hK, hin⟩ := hA
  have hl2 : (S.take n).reverse.length = n := by rw [List.length_reverse]; exact hl
  rw [hAs] at hl2
  have hl3 : As.length + 1 = n := hl2
  obtain ⟨hc0, w0, hw0, cell, g1, g2, g3, -⟩ := hO.2.2.2 c0 _ hT
  have hKn := hK.1.1 qj.1 _ hw0
  have hw1 : w0.1 = am_cn qj.1 := by rw [(am_clsOk qj.1 w0 hw0).1]
  have hfc : s.vm.findClass qj.2.1.cls = some cell.cls := by
    rw [g2, ← hok.1, ← hw1]
    exact hKn.2.1
  refine ⟨_, va_runV (As := As.map (am_v b sz)) (b := am_ad b sz c0) (C := qj.2.1.cls) (Ts := am_tb) (Pc := am_Pc D DA b sz (S.take n).reverse X) ⟨hx, hb, hml, hown, hts⟩ hM ⟨hB, hts _ (am_tb_in (hok.2.2.2.2.2.2.2.2.1 hst.1) rfl), hts _ (am_tb_in (hok.2.2.2.2.2.2.2.2.2.1 hst.1 hst.2.1) rfl)⟩ ⟨am_blind, ⟨cell, g1, by rw [g3]; rfl, hfc⟩, fun U hU hW => ⟨by rw [hAs]; rfl, by rw [hU]; exact hO.moved hW.alike, hK.warm hW⟩⟩ rfl ?_ hL.2.1 ?_ (am_room hcat) hd ⟨hc, hs⟩⟩
  · rw [List.length_map]; omega
  · show S.map (am_v b sz) = _
    rw [am_args (n := n), hAs]
    simp [am_v]
theorem am_mn {idx n : Nat} (h : am_MN.any (fun z => z.1 == q.1 && (z.2.1 == idx && z.2.2 == n)) = true) : ∃ z ∈ am_MN, z = (q.1, idx, n) := by
  obtain ⟨z, hz, h⟩ := am_anyK h
  simp only [Bool.and_eq_true, beq_iff_eq] at h
  obtain ⟨h1, h2, h3⟩ := h
  exact ⟨z, hz, by rw [← h1, ← h2, ← h3]⟩
theorem go_callI {k : List am_I} {d mi mj pc len nx n2 n idx c0 : Nat} {qj : am_M} {v : Int32} {w : List Nat} {L : am_L} {S : List Value} {X X1 X' : am_X} {r1 r : Option Value} (hq : am_ms[mi]? = some q) (hk : k.all (am_chk q) = true) (hfe : am_fetch k pc = some (pc, .invokespecial idx, len, nx, mj, n2, v, w)) (hn2 : n2 ≠ 9) (hj : am_ms[mj]? = some qj) (hok : am_okM qj) (hst : qj.2.2.2.2.2.2.1 = false ∧ qj.2.2.2.2.2.2.2 = true) (hn : qj.2.2.2.2.2.1 = n) (hl : (S.take n).length = n) (hlen : (am_sl (S.take n).reverse).length ≤ qj.2.2.2.1) (hcat : am_cat (S.drop n) ≤ 8) (hrc : (S.take n).reverse.head? = some (.ref c0))
    (G1 : am_Go l D DA b sz d mj (0, am_ent qj.2.2.2.1 (S.take n).reverse, [], X) r1 X1) (G2 : am_Go l D DA b sz (d + 1) mi (nx, L, r1.toList ++ S.drop n, X1) r X') : am_Go l D DA b sz (d + 1) mi (pc, L, S, X) r X' := by
  obtain ⟨hd, hnx, ho⟩ := am_chk_spec hk hfe rfl
  refine go_of_run hq hj hok hnx hlen G1 G2 ?_
  intro p e R s m args below meth c ls H locs cells slots hA hf hlo hc hs hL hO hM
  obtain ⟨As, hAs⟩ := am_recv hrc
  have hl2 : (S.take n).reverse.length = n := by rw [List.length_reverse]; exact hl
  rw [hAs] at hl2
  have hl3 : As.length + 1 = n := hl2
  have hini := hok.2.2.2.2.2.2.2.2.2.2.1 hst.2
  have hst2 : S.map (am_v b sz) = (As.map (am_v b sz)).reverse ++ .ref (am_ad b sz c0) :: (S.drop n).map (am_v b sz) := by
    rw [am_args (n := n), hAs]
    simp [am_v]
  simp only [am_own] at ho
  rw [if_neg hn2] at ho
  by_cases h1 : n2 = 1
  · rw [if_pos h1] at ho
    obtain ⟨z, hz, rfl⟩ := am_mn ho
    obtain ⟨hx, hb, hml, hown, hts, hK, hin⟩ := hA
    have hl9 := hK.2.2 _ hz
    have hcn := va_cnB (args := args) (Ts := am_tb) (R := R) (mc := X1.1.length - X.1.length) (ms := am_ns X1.1 - am_ns X.1) (rm := am_rm d X X1) (ret := none) (bytes := qj.2.2.1) (maxL := qj.2.2.2.1) (ws := am_ws qj) (n - 1) hts (am_goodIn hok) (show am_ws qj = Cond.code qj.2.1 qj.2.2.1 qj.2.2.2.1 none :: am_tb by rw [← hini.2]) rfl rfl (am_y_eq hj ▸ hl9) (hts _ (am_tb_in hok.2.2.2.2.1 rfl)) ⟨hok.2.1.1, hok.2.1.2, by rw [hok.2.2.2.2.2.1, if_neg (by rw [hst.1]; decide), hn]⟩ ⟨hf, by
      have := hok.2.2.2.2.2.2.1
      show 8 + (qj.2.2.2.1 + 11) + (d + 1) * 64 ≤ R.locals
      omega⟩
    refine ⟨_, va_runIN (As := As.map (am_v b sz)) (b := am_ad b sz c0) (Ts := am_tb) (Pc := am_Pc D DA b sz (S.take n).reverse X) ⟨hx, hb, hml, hown, hts⟩ hM ⟨hcn, hini.1, hts _ (am_tb_in (hok.2.2.2.2.2.2.2.2.1 hst.1) rfl)⟩ ⟨am_blind, fun U hU hW => ⟨by rw [hAs]; rfl, by rw [hU]; exact hO.moved hW.alike, hK.warm hW⟩⟩ rfl ?_ hL.2.1 hst2 (am_room hcat) hd ⟨hc, hs⟩⟩
    rw [List.length_map]; omega
  · rw [if_neg h1] at ho
    have hB := am_callB (X := X) (X1 := X1) (n := n - 1) hA hj hok ho hf hlo (by rw [if_neg (by rw [hst.1]; decide), hn])
    rw [hini.2] at hB
    obtain ⟨hx, hb, hml, hown, hts, hK, hin⟩ := hA
    refine ⟨_, va_runI (As := As.map (am_v b sz)) (b := am_ad b sz c0) (Ts := am_tb) (Pc := am_Pc D DA b sz (S.take n).reverse X) ⟨hx, hb, hml, hown, hts⟩ hM ⟨hB, hini.1, hts _ (am_tb_in (hok.2.2.2.2.2.2.2.2.1 hst.1) rfl)⟩ ⟨am_blind, fun U hU hW => ⟨by rw [hAs]; rfl, by rw [hU]; exact hO.moved hW.alike, hK.warm hW⟩⟩ rfl ?_ hL.2.1 hst2 (am_room hcat) hd ⟨hc, hs⟩⟩
    rw [List.length_map]; omega
end AMG
