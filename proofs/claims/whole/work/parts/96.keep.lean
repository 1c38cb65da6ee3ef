/-! no call writes into the script: behind a call the script is as it was -/
section KEEP
variable {l : Launch} {D : va_G} {DA : Nat → ClassId} {b sz : Nat} {q : am_M}
theorem am_met0 {d mi n : Nat} {As : List Value} {X X' : am_X} {r : Option Value} (hq : am_ms[mi]? = some q) (hok : am_okM q) (hn : (am_sl As).length ≤ q.2.2.2.1) (h0 : X.1[0]? = some (.inr (9, n))) (h0' : X'.1[0]? = some (.inr (9, n))) (G : am_Go l D DA b sz d mi (0, am_ent q.2.2.2.1 As, [], X) r X') :
    Met l q.2.1 (am_ws q) (am_rm d X X') (am_Pc D DA b sz As X) (fun a st o t => am_Qc D DA b sz r X' a st o t ∧ ∀ k, k < n → X'.2.2 0 k = X.2.2 0 k) (X'.1.length - X.1.length) (am_ns X'.1 - am_ns X.1) (fun a => sz ≤ a) := by
  refine Met.ofW (cc := q.2.2.1) (maxL := q.2.2.2.1) (ret := q.2.2.2.2.1) hok.2.2.1 rfl ?_
  intro p e s m args below meth c s₁ B hml hv
  obtain ⟨rfl, hO, hK⟩ := hv
  have hts := atoms_spec (ws := am_ws q) B.pre
  have hown : s.vm.findClass q.2.1.cls = some m.cls := findClass_of_methodNamed B.named
  have hlocks := B.notSynchronized
  have hr := B.returns
  rw [lg_entry_eq]
  have hA : am_At D DA q p s m ((As.map (am_v b sz)).toArray) meth c := ⟨B.exec, B.bytes, hml, by rw [hok.1]; exact hown, fun w hw => hts w (List.mem_cons_of_mem _ hw), hK, fun h => by
    rw [(name_of_methodNamed B.named B.method).1]
    exact (hok.2.2.2.2.2.2.2.2.2.2.1 h).1⟩
  refine G.2.2 q hq p e _ s m _ below meth c _ _ s.heap [] 0 0 hA (Nat.le_refl _) (Nat.le_refl _) (by show 0 + _ ≤ _; rw [Nat.zero_add]; exact Nat.le_refl _) (by show 0 + _ ≤ _; rw [Nat.zero_add]; exact Nat.le_refl _) (am_ent_Ls hn) hO (fun z h => by cases h) ?_
  intro pc' ls' H' locs' hO' hlo' hrt
  rw [Nat.zero_add, Nat.zero_add]
  intro T hT Y
  have hF : ∀ k, k < n → X'.2.2 0 k = X.2.2 0 k := by
    have hc := hO.2.2.2 0 _ h0
    have hc' := hO'.2.2.2 0 _ h0'
    rcases hc with ⟨-, -, scr, g1, g2, g3, g4, g5⟩ | ⟨h9, -⟩ | ⟨h9, -⟩
    · rcases hc' with ⟨-, -, scr', g1', g2', g3', g4', g5'⟩ | ⟨h9, -⟩ | ⟨h9, -⟩
      · obtain ⟨c', x1, x2, x3, x4⟩ := Y.same.2.2.2.2.2 b scr g1
        have x1 : T.heap[b]? = some c' := x1
        rw [hT, g1'] at x1
        have e : scr' = c' := Option.some.inj x1
        subst e
        intro k hk
        have y1 := g5 k hk
        have y2 := g5' k hk
        have y3 := x4 k (fun hm => absurd (hlo' _ hm) (by show ¬ sz ≤ b; have := hO.1; omega))
        rw [y1, y2] at y3
        injection y3 with y4
        injection y4
      · omega
      · omega
    · omega
    · omega
  cases r with
  | none =>
    exact (W.vret B.exec B.bytes (by rw [hr]; exact hrt.2) (fun t ht hW => ⟨⟨rfl, by rw [ht]; exact hO'.moved hW.alike⟩, hF⟩) hlo' hrt.1) T hT Y
  | some v =>
    cases v with
    | int x =>
      obtain ⟨hd, ty, hty, hnar⟩ := hrt
      exact (W.zret B.exec B.bytes (by rw [hr]; exact hty) hnar (fun t ht hW => ⟨⟨rfl, by rw [ht]; exact hO'.moved hW.alike⟩, hF⟩) hlo' hd) T hT Y
    | _ => exact absurd hrt (fun h => h)
theorem am_run_W0 {F : Prop} {p : Program} {e : Env} {R : Room} {s : State} {m : MethodId} {args a : Array Value} {below : List Frame} {meth : Method} {c : Code} {Q : State → Prop} {H : Heap} {locs : List Loc} {cells slots mc ms pc : Nat} {ls : Array Slot} {rest st0 : List Value} {r : Option Value} {X' : am_X} (hr : va_Run p l e R s m args below meth c H locs cells slots mc ms (F0 m pc ls st0) rest (fun st o t => am_Qc D DA b sz r X' a st o t ∧ F) (fun a => sz ≤ a)) (hlo : ∀ z ∈ locs, sz ≤ z.base)
    (kk : F → ∀ (H1 : Heap) (locs1 : List Loc), am_ok D DA b sz s X' H1 → (∀ z ∈ locs1, sz ≤ z.base) → W p l e R s m args below meth c H1 locs1 (cells + mc) (slots + ms) Q (F0 m (pc + 3) ls ((r.map (am_v b sz)).toList ++ rest))) : W p l e R s m args below meth c H locs cells slots Q (F0 m pc ls st0) := by
  intro T hT Y
  obtain ⟨v, st₀, t, T', L, h0, Y', hL, e1, e2, ⟨⟨hv, hO⟩, hF⟩, st⟩ := hr T hT Y
  cases hv
  obtain ⟨t2, a1, b1⟩ := kk hF T'.heap (locs ++ L) (by rw [e1]; exact hO.moved (by rw [← e2]; exact Y'.warmed.alike.symm)) (fun z hz => by
    rcases List.mem_append.mp hz with h | h
    · exact hlo z h
    · exact hL z h) T' rfl Y'
  exact ⟨t2, st t2 a1, b1⟩
/-- a call, and what follows may lean on it that the script is as it was -/
theorem go_callV0 {k : List am_I} {d mi mj pc len nx n2 n idx c0 ns : Nat} {qj : am_M} {v : Int32} {w : List Nat} {L : am_L} {S : List Value} {X X1 X' : am_X} {r1 r : Option Value} (hq : am_ms[mi]? = some q) (hk : k.all (am_chk q) = true) (hfe : am_fetch k pc = some (pc, .invokevirtual idx, len, nx, mj, n2, v, w)) (hj : am_ms[mj]? = some qj) (hok : am_okM qj) (hst : qj.2.2.2.2.2.2.1 = false ∧ qj.2.2.2.2.2.2.2 = false ∧ qj.1 < 10) (hn : qj.2.2.2.2.2.1 = n) (hl : (S.take n).length = n) (hlen : (am_sl (S.take n).reverse).length ≤ qj.2.2.2.1) (hcat : am_cat (S.drop n) ≤ 8) (hrc : (S.take n).reverse.head? = some (.ref c0)) (hT : X.1[c0]? = some (.inl qj.1))
    (G1 : am_Go l D DA b sz d mj (0, am_ent qj.2.2.2.1 (S.take n).reverse, [], X) r1 X1) (h0 : X.1[0]? = some (.inr (9, ns))) (h0' : X1.1[0]? = some (.inr (9, ns))) (b1 : X1.1.length ≤ X'.1.length) (b2 : am_ns X1.1 ≤ am_ns X'.1)
    (G2 : (∀ k, k < ns → X1.2.2 0 k = X.2.2 0 k) → am_Go l D DA b sz (d + 1) mi (nx, L, r1.toList ++ S.drop n, X1) r X') : am_Go l D DA b sz (d + 1) mi (pc, L, S, X) r X' := by
  obtain ⟨hd, hnx, ho⟩ := am_chk_spec hk hfe rfl
  have hM := am_met0 hj hok hlen h0 h0' G1
  obtain ⟨a1, a2, -⟩ := G1
  have a1 : X.1.length ≤ X1.1.length := a1
  have a2 : am_ns X.1 ≤ am_ns X1.1 := a2
  subst hnx
  refine ⟨Nat.le_trans a1 b1, Nat.le_trans a2 b2, ?_⟩
  intro q' hq' p e R s m args below meth c Q ls H locs cells slots hA hf hlo hc hs hL hO hloc kk
  have e9 : q' = q := Option.some.inj (hq'.symm.trans hq)
  subst e9
  have hc : cells + (X'.1.length - X.1.length) ≤ R.cells := hc
  have hs : slots + (am_ns X'.1 - am_ns X.1) ≤ R.slots := hs
  have hrun : ∃ a : Array Value, va_Run p l e R s m args below meth c H locs cells slots (X1.1.length - X.1.length) (am_ns X1.1 - am_ns X.1) (F0 m pc ls (S.map (am_v b sz))) ((S.drop n).map (am_v b sz)) (fun st o t => am_Qc D DA b sz r1 X1 a st o t ∧ ∀ k, k < ns → X1.2.2 0 k = X.2.2 0 k) (fun a => sz ≤ a) := by
    obtain ⟨As, hAs⟩ := am_recv hrc
    have hB := am_callB (X := X) (X1 := X1) (n := n - 1) hA hj hok ho hf hlo (by rw [if_neg (by rw [hst.1]; decide), hn])
    obtain ⟨hx, hb, hml, hown, hts, hK, hin⟩ := hA
    have hl2 : (S.take n).reverse.length = n := by rw [List.length_reverse]; exact hl
    rw [hAs] at hl2
    have hl3 : As.length + 1 = n := hl2
    obtain ⟨hc0, w0, hw0, cell, g1, g2, g3, -⟩ := hO.2.2.2 c0 _ hT
    have hKn := hK.1.1 qj.1 _ hw0
    have hw1 : w0.1 = am_cn qj.1 := by rw [(am_clsOk qj.1 w0 hw0).1]
    have hfc : s.vm.findClass qj.2.1.cls = some cell.cls := by
      rw [g2, ← hok.1, ← hw1]
      exact hKn.2.1
    refine ⟨_, va_runV (As := As.map (am_v b sz)) (b := am_ad b sz c0) (C := qj.2.1.cls) (Ts := am_tb) (Pc := am_Pc D DA b sz (S.take n).reverse X) ⟨hx, hb, hml, hown, hts⟩ hM ⟨hB, hts _ (am_tb_in (hok.2.2.2.2.2.2.2.2.1 hst.1) rfl), hts _ (am_tb_in (hok.2.2.2.2.2.2.2.2.2.1 hst.1 hst.2.1) rfl)⟩ ⟨am_blind, ⟨cell, g1, by rw [g3]; rfl, hfc⟩, fun U hU hW => ⟨by rw [hAs]; rfl, by rw [hU]; exact hO.moved hW.alike, hK.warm hW⟩⟩ rfl ?_ hL.2.1 ?_ (am_room hcat) hd ⟨by omega, by omega⟩⟩
    · rw [List.length_map]; omega
    · show S.map (am_v b sz) = _
      rw [am_args (n := n), hAs]
      simp [am_v]
  obtain ⟨a, hrun⟩ := hrun
  refine am_run_W0 hrun hloc (fun hF H1 locs1 hO1 hlo1 => ?_)
  have hk := (G2 hF).2.2 q' hq p e R s m args below meth c Q ls H1 locs1 (cells + (X1.1.length - X.1.length)) (slots + (am_ns X1.1 - am_ns X.1)) hA hf hlo (by show cells + (X1.1.length - X.1.length) + (X'.1.length - X1.1.length) ≤ _; omega) (by show slots + (am_ns X1.1 - am_ns X.1) + (am_ns X'.1 - am_ns X1.1) ≤ _; omega) hL hO1 hlo1 ?_
  · have e1 : (r1.toList ++ S.drop n).map (am_v b sz) = (r1.map (am_v b sz)).toList ++ (S.drop n).map (am_v b sz) := by rw [List.map_append, am_toList]
    have hk : W p l e R s m args below meth c H1 locs1 _ _ Q (F0 m (pc + 3) ls ((r1.toList ++ S.drop n).map (am_v b sz))) := hk
    rw [e1] at hk
    exact hk
  · intro pc' ls2 H2 locs2 hO2 hlo2 hrt
    have := kk pc' ls2 H2 locs2 hO2 hlo2 hrt
    have e1 : cells + (X1.1.length - X.1.length) + (X'.1.length - X1.1.length) = cells + (X'.1.length - X.1.length) := by omega
    have e2 : slots + (am_ns X1.1 - am_ns X.1) + (am_ns X'.1 - am_ns X1.1) = slots + (am_ns X'.1 - am_ns X.1) := by omega
    show W p l e R s m args below meth c H2 locs2 (cells + (X1.1.length - X.1.length) + (X'.1.length - X1.1.length)) (slots + (am_ns X1.1 - am_ns X.1) + (am_ns X'.1 - am_ns X1.1)) Q _
    rw [e1, e2]
    exact this
end KEEP
