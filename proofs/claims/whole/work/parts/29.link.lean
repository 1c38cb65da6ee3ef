/-! the claim out of one am_Go of the law -/
theorem am_start {s : State} {args : Array Value} (hts : ∀ w ∈ lw_tbl, w.before args s = true) : ∃ (D : va_G) (DA : Nat → ClassId), am_K D DA s := by
  have h1 : ∀ ci : Nat, ∃ z : ClassId × (Nat → Nat), ∀ q : vw_C, am_cls[ci]? = some q → u_Kn s q.1 q.2.1 q.2.2 z.1 z.2 := by
    intro ci
    cases hq : am_cls[ci]? with
    | none => exact ⟨(0, fun _ => 0), fun q h => by cases h⟩
    | some w =>
      obtain ⟨-, h2, -, -, h5, -⟩ := am_clsOk ci w hq
      obtain ⟨cC, iS, h⟩ := u_known hts h2 (hts _ h5)
      exact ⟨(cC, iS), fun q h9 => by cases h9; exact h⟩
  obtain ⟨f, hf⟩ := Classical.axiomOfChoice h1
  obtain ⟨c0, k0, p0, a1, a2, a3⟩ := Cond.arrayClass_spec (hts _ (List.mem_of_getElem? am_ac_int))
  obtain ⟨c1, k1, p1, b1, b2, b3⟩ := Cond.arrayClass_spec (hts _ (List.mem_of_getElem? am_ac_boolean))
  obtain ⟨p2, c2, k2, d1, -, d2, d3, d4⟩ := Cond.arrayOver_spec (hts _ (List.mem_of_getElem? am_ao))
  refine ⟨(fun ci => (f ci).1, fun ci => (f ci).2), fun t => if t = 0 then c0 else if t = 1 then c1 else c2, ⟨fun c q h => hf c q h, fun k z hz => ?_⟩, hts _ (List.mem_of_getElem? am_ao), fun z hz => va_Nw.of rfl (hts _ (am_mem am_MNe _ (List.mem_map.mpr ⟨z, hz, rfl⟩)))⟩
  match k, hz with
  | 0, hz =>
    cases hz
    exact ⟨fun n z => ⟨fun k h => (by cases h), k0, a2, p0, a3⟩, a1⟩
  | 1, hz =>
    cases hz
    exact ⟨fun n z => ⟨fun k h => (by cases h), k1, b2, p1, b3⟩, b1⟩
  | 2, hz =>
    cases hz
    exact ⟨fun n z => ⟨fun k h => (by cases h), k2, d2, p2, d3⟩, k2, p2, d2, d3, d1, d4⟩
  | n + 3, hz => cases hz
/-- the law's start: the script alone -/
def am_X0 (L : Nat) (xs : Nat → Int32) : am_X := ([.inr (9, L)], fun _ _ => .null, fun c k => if c = 0 then xs k else 0)
def am_Law : Prop := ∀ (l : Launch) (D : va_G) (DA : Nat → ClassId) (b sz L : Nat) (xs : Nat → Int32), L ≤ 4608 → ∃ (d : Nat) (X' : am_X), d ≤ 1000 ∧ X'.1.length ≤ 600001 ∧ am_ns X'.1 ≤ L + 7302250 ∧ am_Go l D DA b sz d M_L_law (0, [some (.ref 0), none, none, none], [], am_X0 L xs) (some (.int 1)) X'
theorem whole_of_go (hgo : am_Law) {p : Program} {e : Env} {s : State} {m : MethodId} {below : List Frame} {meth : Method} {c : Code} (l : Launch) {b L : Nat} {xs : Nat → Int32} (hL : L ≤ 4608) (hx : p.tables.exec = Jvm.exec) (hb : c.code = code) (hr : meth.sig.returnType = ret) (hml : c.maxLocals = 4) (hown : s.vm.findClass "BoxNestLaw" = some m.cls) (hts : ∀ w ∈ lw_tbl, w.before #[Value.ref b] s = true) (hX : va_X b L xs s s.heap) (hbl : b < s.heap.size) (hlocks : meth.locks = false)
    {Z : State → Prop} (hret : ∀ (pc : Nat) (H : Heap) (ls : Array Slot), decode code pc = .ok (.ireturn, 1) → W p l e room_1 s m #[Value.ref b] below meth c H [] 600000 7302250 Z (F0 m pc ls [.int 1])) :
    W p l e room_1 s m #[Value.ref b] below meth c s.heap [] 0 0 Z (entryFrame m ([Value.ref b] : List Value).toArray 4) := by
  obtain ⟨D, DA, hK⟩ := am_start hts
  obtain ⟨d, X', hd, h1, h2, G⟩ := hgo l D DA b s.heap.size L xs hL
  have hA : am_At D DA am_m152 p s m #[Value.ref b] meth c := ⟨hx, hb, hml, hown, fun w hw => hts w (am_tb_lw hw), hK, fun h => by cases h⟩
  rw [lg_entry_eq]
  have hr1 : room_1.frames = 2048 := rfl
  have hr2 : room_1.locals = 84000 := rfl
  have hr3 : room_1.cells = 600000 := rfl
  have hr4 : room_1.slots = 7302250 := rfl
  have e1 : (am_X0 L xs).1.length = 1 := rfl
  have e2 : am_ns (am_X0 L xs).1 = L := by simp [am_ns, am_X0, am_w1]
  refine G.2.2 am_m152 q_L_law p e room_1 s m _ below meth c Z _ s.heap [] 0 0 hA (by rw [hr1]; omega) (by rw [hr2]; omega) (by rw [hr3]; show 0 + (X'.1.length - (am_X0 L xs).1.length) ≤ _; rw [e1]; omega) (by rw [hr4]; show 0 + (am_ns X'.1 - am_ns (am_X0 L xs).1) ≤ _; rw [e2]; omega) (am_ent_Ls (b := b) (sz := s.heap.size) (As := [.ref 0]) (nL := 4) (by decide)) ⟨hbl, ⟨L, rfl⟩, rfl, fun c0 x hx0 => ?_⟩ (fun z h => by cases h) ?_
  · match c0, hx0 with
    | 0, hx0 =>
      cases hx0
      refine Or.inl ⟨rfl, rfl, ?_⟩
      exact hX
    | n + 1, hx0 => cases hx0
  · intro pc' ls' H' locs' hO' hlo' hrt
    refine va_forget hlo' ?_
    refine W.widen (k := 600000) (n := 7302250) (by show 0 + (X'.1.length - (am_X0 L xs).1.length) ≤ _; rw [e1]; omega) (by show 0 + (am_ns X'.1 - am_ns (am_X0 L xs).1) ≤ _; rw [e2]; omega) ?_
    exact hret pc' H' ls' hrt.1
