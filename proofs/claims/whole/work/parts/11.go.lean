/-! from a state to a method's return: am_Go; steps, branches, calls -/
def am_rt (q : am_M) (r : Option Value) (pc : Nat) : Prop := match r with
  | none => decode q.2.2.1 pc = .ok (.return_, 1) ∧ q.2.2.2.2.1 = none
  | some (.int v) => decode q.2.2.1 pc = .ok (.ireturn, 1) ∧ ∃ ty, q.2.2.2.2.1 = some ty ∧ narrow ty (.int v) = .int v
  | _ => False
abbrev am_X : Type := am_T × (Nat → Nat → Value) × (Nat → Nat → Int32)
/-- from st, with room for d calls in one another, the method mi comes to its return with r on the stack and the cells X' -/
def am_Go (l : Launch) (D : va_G) (DA : Nat → ClassId) (b sz d mi : Nat) (st : am_S) (r : Option Value) (X' : am_X) : Prop :=
  st.2.2.2.1.length ≤ X'.1.length ∧ am_ns st.2.2.2.1 ≤ am_ns X'.1 ∧
  ∀ (q : am_M), am_ms[mi]? = some q → ∀ (p : Program) (e : Env) (R : Room) (s : State) (m : MethodId) (args : Array Value) (below : List Frame) (meth : Method) (c : Code) (Q : State → Prop) (ls : Array Slot) (H : Heap) (locs : List Loc) (cells slots : Nat),
    am_At D DA q p s m args meth c → d + 1 ≤ R.frames → (d + 1) * 64 ≤ R.locals → cells + (X'.1.length - st.2.2.2.1.length) ≤ R.cells → slots + (am_ns X'.1 - am_ns st.2.2.2.1) ≤ R.slots →
    am_Ls b sz ls q.2.2.2.1 st.2.1 → am_ok D DA b sz s st.2.2.2 H → (∀ z ∈ locs, sz ≤ z.base) →
    (∀ (pc' : Nat) (ls' : Array Slot) (H' : Heap) (locs' : List Loc), am_ok D DA b sz s X' H' → (∀ z ∈ locs', sz ≤ z.base) → am_rt q r pc' →
      W p l e R s m args below meth c H' locs' (cells + (X'.1.length - st.2.2.2.1.length)) (slots + (am_ns X'.1 - am_ns st.2.2.2.1)) Q (F0 m pc' ls' ((r.map (am_v b sz)).toList))) →
    W p l e R s m args below meth c H locs cells slots Q (F0 m st.1 ls (st.2.2.1.map (am_v b sz)))
def am_sl (As : List Value) : am_L := As.flatMap fun v => if v.category = 2 then [some v, none] else [some v]
def am_ent (nL : Nat) (As : List Value) : am_L := am_sl As ++ List.replicate (nL - (am_sl As).length) none
section AMG
variable {l : Launch} {D : va_G} {DA : Nat → ClassId} {b sz : Nat} {q : am_M}
theorem am_fetch_in {k : List am_I} {pc : Nat} {I : am_I} (h : am_fetch k pc = some I) : I ∈ k ∧ I.1 = pc := by
  induction k with
  | nil => cases h
  | cons J k ih =>
    unfold am_fetch at h
    split at h
    · rename_i hj
      cases h
      exact ⟨List.mem_cons_self, hj⟩
    · exact ⟨List.mem_cons_of_mem _ (ih h).1, (ih h).2⟩
theorem am_step_St {k : List am_I} {st st' : am_S} (hk : k.all (am_chk q) = true) (h : am_step k st = some st') : am_St l D DA b sz q st st' := by
  unfold am_step at h
  split at h
  · rename_i I hI
    obtain ⟨h1, h2⟩ := am_fetch_in hI
    exact am_ex_sound (List.all_eq_true.mp hk I h1) h2 h
  · cases h
theorem am_St.refl (st : am_S) : am_St l D DA b sz q st st := by
  refine ⟨Nat.le_refl _, Nat.le_refl _, ?_⟩
  intro p e R s m args below meth c Q ls H locs cells slots hA hf hl hc hs hL hO hlo k
  have := k ls H locs hL hO hlo
  simp only [Nat.sub_self, Nat.add_zero] at this
  exact this
theorem am_steps_St {k : List am_I} (hk : k.all (am_chk q) = true) : ∀ (n : Nat) {st st' : am_S}, am_steps k n st = some st' → am_St l D DA b sz q st st'
  | 0, st, st', h => by
    cases h
    exact am_St.refl st
  | n + 1, st, st', h => by
    unfold am_steps at h
    split at h
    · rename_i s2 h2
      exact (am_step_St hk h2).trans (am_steps_St hk n h)
    · cases h
/-- steps -/
theorem go_St {d mi : Nat} {st st' : am_S} {r : Option Value} {X' : am_X} (hq : am_ms[mi]? = some q) (h : am_St l D DA b sz q st st') (G : am_Go l D DA b sz d mi st' r X') : am_Go l D DA b sz d mi st r X' := by
  obtain ⟨a1, a2, a3⟩ := h
  obtain ⟨b1, b2, b3⟩ := G
  refine ⟨Nat.le_trans a1 b1, Nat.le_trans a2 b2, ?_⟩
  intro q' hq' p e R s m args below meth c Q ls H locs cells slots hA hf hl hc hs hL hO hlo k
  have e9 : q' = q := Option.some.inj (hq'.symm.trans hq)
  subst e9
  refine a3 p e R s m args below meth c Q ls H locs cells slots hA (by omega) (by omega) (by omega) (by omega) hL hO hlo ?_
  intro ls1 H1 locs1 hL1 hO1 hlo1
  refine b3 q' hq p e R s m args below meth c Q ls1 H1 locs1 _ _ hA hf hl (by omega) (by omega) hL1 hO1 hlo1 ?_
  intro pc' ls2 H2 locs2 hO2 hlo2 hrt
  have := k pc' ls2 H2 locs2 hO2 hlo2 hrt
  have e1 : cells + (st'.2.2.2.1.length - st.2.2.2.1.length) + (X'.1.length - st'.2.2.2.1.length) = cells + (X'.1.length - st.2.2.2.1.length) := by omega
  have e2 : slots + (am_ns st'.2.2.2.1 - am_ns st.2.2.2.1) + (am_ns X'.1 - am_ns st'.2.2.2.1) = slots + (am_ns X'.1 - am_ns st.2.2.2.1) := by omega
  rw [e1, e2]
  exact this
theorem go_steps {k : List am_I} {d mi : Nat} {st st' : am_S} {r : Option Value} {X' : am_X} (hq : am_ms[mi]? = some q) (hk : k.all (am_chk q) = true) (n : Nat) (h : am_steps k n st = some st') (G : am_Go l D DA b sz d mi st' r X') : am_Go l D DA b sz d mi st r X' := go_St hq (am_steps_St hk n h) G
/-- a jump by a condition -/
theorem go_if {c : Prop} [Decidable c] {d mi x y : Nat} {L : am_L} {S : List Value} {X X' : am_X} {r : Option Value} (h1 : c → am_Go l D DA b sz d mi (x, L, S, X) r X') (h2 : ¬ c → am_Go l D DA b sz d mi (y, L, S, X) r X') : am_Go l D DA b sz d mi (if c then x else y, L, S, X) r X' := by
  by_cases hc : c
  · rw [if_pos hc]; exact h1 hc
  · rw [if_neg hc]; exact h2 hc
/-- the return -/
theorem go_retI {k : List am_I} {d mi pc len nx n n2 : Nat} {v x : Int32} {w : List Nat} {ty : FieldType} {L : am_L} {X : am_X} (hq : am_ms[mi]? = some q) (hk : k.all (am_chk q) = true) (hf : am_fetch k pc = some (pc, .ireturn, len, nx, n, n2, v, w)) (hr : q.2.2.2.2.1 = some ty) (hn : narrow ty (.int x) = .int x) : am_Go l D DA b sz d mi (pc, L, [.int x], X) (some (.int x)) X := by
  have hc := List.all_eq_true.mp hk _ (am_fetch_in hf).1
  simp only [am_chk, Bool.and_eq_true, Bool.or_eq_true, decide_eq_true_eq, beq_iff_eq] at hc
  obtain ⟨hd, hnx, hlen, -⟩ := hc
  obtain rfl : len = 1 := hlen.resolve_left (fun h9 => by cases h9)
  refine ⟨Nat.le_refl _, Nat.le_refl _, ?_⟩
  intro q' hq' p e R s m args below meth c Q ls H locs cells slots hA hf hl hc hs hL hO hlo kk
  have e9 : q' = q := Option.some.inj (hq'.symm.trans hq)
  subst e9
  have := kk pc ls H locs hO hlo ⟨hd, ty, hr, hn⟩
  simp only [Nat.sub_self, Nat.add_zero] at this
  exact this
theorem go_retV {k : List am_I} {d mi pc len nx n n2 : Nat} {v : Int32} {w : List Nat} {L : am_L} {X : am_X} (hq : am_ms[mi]? = some q) (hk : k.all (am_chk q) = true) (hf : am_fetch k pc = some (pc, .return_, len, nx, n, n2, v, w)) (hr : q.2.2.2.2.1 = none) : am_Go l D DA b sz d mi (pc, L, [], X) none X := by
  have hc := List.all_eq_true.mp hk _ (am_fetch_in hf).1
  simp only [am_chk, Bool.and_eq_true, Bool.or_eq_true, decide_eq_true_eq, beq_iff_eq] at hc
  obtain ⟨hd, hnx, hlen, -⟩ := hc
  obtain rfl : len = 1 := hlen.resolve_left (fun h9 => by cases h9)
  refine ⟨Nat.le_refl _, Nat.le_refl _, ?_⟩
  intro q' hq' p e R s m args below meth c Q ls H locs cells slots hA hf hl hc hs hL hO hlo kk
  have e9 : q' = q := Option.some.inj (hq'.symm.trans hq)
  subst e9
  have := kk pc ls H locs hO hlo ⟨hd, hr⟩
  simp only [Nat.sub_self, Nat.add_zero] at this
  exact this
/-! a method's contract -/
theorem am_cell.moved {s t : State} {ρ : Nat → Nat → Value} {σ : Nat → Nat → Int32} {H : Heap} {c : Nat} {x : Nat ⊕ (Nat × Nat)} (hvm : s.vm.Alike t.vm) (h : am_cell D DA b sz s ρ σ H c x) : am_cell D DA b sz t ρ σ H c x := by
  cases x with
  | inl ci => exact h
  | inr z =>
    obtain ⟨t', n⟩ := z
    rcases h with ⟨h1, h2, h3⟩ | h | h
    · exact Or.inl ⟨h1, h2, h3.moved hvm⟩
    · exact Or.inr (Or.inl h)
    · exact Or.inr (Or.inr h)
theorem am_ok.moved {s t : State} {X : am_X} {H : Heap} (hvm : s.vm.Alike t.vm) (h : am_ok D DA b sz s X H) : am_ok D DA b sz t X H := ⟨h.1, h.2.1, h.2.2.1, fun c x hx => (h.2.2.2 c x hx).moved hvm⟩
theorem am_K.warm {s t : State} (hW : s.WarmedH t.vm) (h : am_K D DA s) : am_K D DA t := ⟨h.1.moved hW.alike, h.2.1.moved hW.alike, fun z hz => va_Nw.warmM hW (h.2.2 z hz)⟩
theorem am_K.same {s t : State} (hv : s.vm = t.vm) (h : am_K D DA s) : am_K D DA t := ⟨h.1.moved (by rw [hv]; exact Vm.Alike.refl _), h.2.1.moved (by rw [hv]; exact Vm.Alike.refl _), fun z hz => va_Nw.same rfl hv (h.2.2 z hz)⟩
theorem am_sl_at : ∀ (As : List Value) (i : Nat) (v : Value), (am_sl As)[i]? = some (some v) → (lg_sl (As.map (am_v b sz)))[i]? = some (.val (am_v b sz v))
  | [], i, v, h => by simp [am_sl] at h
  | a :: As, i, v, h => by
    have ih := am_sl_at As
    have e1 : am_sl (a :: As) = (if a.category = 2 then [some a, none] else [some a]) ++ am_sl As := by simp [am_sl]
    have e2 : lg_sl ((a :: As).map (am_v b sz)) = (if a.category = 2 then [.val (am_v b sz a), .second] else [.val (am_v b sz a)]) ++ lg_sl (As.map (am_v b sz)) := by simp [lg_sl, am_v_cat]
    rw [e1] at h
    rw [e2]
    by_cases hc : a.category = 2
    · rw [if_pos hc] at h ⊢
      match i, h with
      | 0, h => simp at h; subst h; rfl
      | 1, h => simp at h
      | i + 2, h =>
        have h : (am_sl As)[i]? = some (some v) := h
        exact ih i v h
    · rw [if_neg hc] at h ⊢
      match i, h with
      | 0, h => simp at h; subst h; rfl
      | i + 1, h =>
        have h : (am_sl As)[i]? = some (some v) := h
        exact ih i v h
theorem am_sl_len : ∀ (As : List Value), (lg_sl (As.map (am_v b sz))).length = (am_sl As).length
  | [] => rfl
  | a :: As => by
    have ih := am_sl_len As
    have e1 : am_sl (a :: As) = (if a.category = 2 then [some a, none] else [some a]) ++ am_sl As := by simp [am_sl]
    have e2 : lg_sl ((a :: As).map (am_v b sz)) = (if a.category = 2 then [.val (am_v b sz a), .second] else [.val (am_v b sz a)]) ++ lg_sl (As.map (am_v b sz)) := by simp [lg_sl, am_v_cat]
    rw [e1, e2, List.length_append, List.length_append, ih]
    split <;> rfl
theorem am_ent_Ls {nL : Nat} {As : List Value} (h : (am_sl As).length ≤ nL) : am_Ls b sz ((lg_sl (As.map (am_v b sz)) ++ List.replicate (nL - (lg_sl (As.map (am_v b sz))).length) Slot.unset).toArray) nL (am_ent nL As) := by
  have hl := lv_entry (As.map (am_v b sz)) (n := nL) (by rw [am_sl_len]; exact h)
  refine ⟨by unfold am_ent; rw [List.length_append, List.length_replicate]; omega, hl.1, hl.2.1, fun i v hv => ?_⟩
  unfold am_ent at hv
  by_cases hi : i < (am_sl As).length
  · rw [List.getElem?_append_left hi] at hv
    have := am_sl_at (b := b) (sz := sz) As i v hv
    rw [List.getElem?_toArray, List.getElem?_append_left (by rw [am_sl_len]; exact hi)]
    exact this
  · rw [List.getElem?_append_right (by omega), List.getElem?_replicate] at hv
    split at hv <;> cases hv
abbrev am_ws (q : am_M) : List Cond := Cond.code q.2.1 q.2.2.1 q.2.2.2.1 q.2.2.2.2.1 :: am_tb
abbrev am_rm (d : Nat) (X X' : am_X) : Room := { frames := d + 1, cells := X'.1.length - X.1.length, slots := am_ns X'.1 - am_ns X.1, locals := (d + 1) * 64 }
abbrev am_Pc (D : va_G) (DA : Nat → ClassId) (b sz : Nat) (As : List Value) (X : am_X) : Array Value → State → Prop := va_Pc (As.map (am_v b sz)) (fun U => am_ok D DA b sz U X U.heap ∧ am_K D DA U)
abbrev am_Qc (D : va_G) (DA : Nat → ClassId) (b sz : Nat) (r : Option Value) (X' : am_X) : Array Value → State → Outcome → State → Prop := fun _ _ o t => o = .returned (r.map (am_v b sz)) ∧ am_ok D DA b sz t X' t.heap
theorem am_met {d mi : Nat} {As : List Value} {X X' : am_X} {r : Option Value} (hq : am_ms[mi]? = some q) (hok : am_okM q) (hn : (am_sl As).length ≤ q.2.2.2.1) (G : am_Go l D DA b sz d mi (0, am_ent q.2.2.2.1 As, [], X) r X') :
    Met l q.2.1 (am_ws q) (am_rm d X X') (am_Pc D DA b sz As X) (am_Qc D DA b sz r X') (X'.1.length - X.1.length) (am_ns X'.1 - am_ns X.1) (fun a => sz ≤ a) := by
  refine Met.ofW (cc := q.2.2.1) (maxL := q.2.2.2.1) (ret := q.2.2.2.2.1) hok.2.2.1 rfl ?_
  intro p e s m args below meth c s₁ B hml hv
  obtain ⟨rfl, hO, hK⟩ := hv
  have hts := atoms_spec (ws := am_ws q) B.pre
  have hown : s.vm.findClass q.2.1.cls = some m.cls := findClass_of_methodNamed B.named
  have hlocks := B.notSynchronized
  have hr := B.returns
  rw [lg_entry_eq]
  have hA : am_At D DA q p s m ((As.map (am_v b sz)).toArray) meth c := ⟨B.exec, B.bytes, hml, by rw [hok.1]; exact hown, fun w hw => hts w (List.mem_cons_of_mem _ hw), hK, fun h => by
    rw [(name_of_methodNamed B.named B.method).1]
    exact (hok.2.2.2.2.2.2.2.2.2.2.1 h).1⟩
  refine G.2.2 q hq p e _ s m _ below meth c _ _ s.heap [] 0 0 hA (Nat.le_refl _) (Nat.le_refl _) (by show 0 + _ ≤ _; rw [Nat.zero_add]; exact Nat.le_refl _) (by show 0 + _ ≤ _; rw [Nat.zero_add]; exact Nat.le_refl _) (am_ent_Ls hn) hO (fun z h => by cases h) ?_
  intro pc' ls' H' locs' hO' hlo' hrt
  rw [Nat.zero_add, Nat.zero_add]
  cases r with
  | none =>
    exact W.vret B.exec B.bytes (by rw [hr]; exact hrt.2) (fun t ht hW => ⟨rfl, by rw [ht]; exact hO'.moved hW.alike⟩) hlo' hrt.1
  | some v =>
    cases v with
    | int x =>
      obtain ⟨hd, ty, hty, hnar⟩ := hrt
      exact W.zret B.exec B.bytes (by rw [hr]; exact hty) hnar (fun t ht hW => ⟨rfl, by rw [ht]; exact hO'.moved hW.alike⟩) hlo' hd
    | _ => exact absurd hrt (fun h => h)
/-- a call that was run -/
theorem am_run_W {p : Program} {e : Env} {R : Room} {s : State} {m : MethodId} {args a : Array Value} {below : List Frame} {meth : Method} {c : Code} {Q : State → Prop} {H : Heap} {locs : List Loc} {cells slots mc ms pc : Nat} {ls : Array Slot} {rest st0 : List Value} {r : Option Value} {X' : am_X} (hr : va_Run p l e R s m args below meth c H locs cells slots mc ms (F0 m pc ls st0) rest (am_Qc D DA b sz r X' a) (fun a => sz ≤ a)) (hlo : ∀ z ∈ locs, sz ≤ z.base)
    (kk : ∀ (H1 : Heap) (locs1 : List Loc), am_ok D DA b sz s X' H1 → (∀ z ∈ locs1, sz ≤ z.base) → W p l e R s m args below meth c H1 locs1 (cells + mc) (slots + ms) Q (F0 m (pc + 3) ls ((r.map (am_v b sz)).toList ++ rest))) : W p l e R s m args below meth c H locs cells slots Q (F0 m pc ls st0) := by
  intro T hT Y
  obtain ⟨v, st₀, t, T', L, h0, Y', hL, e1, e2, ⟨hv, hO⟩, st⟩ := hr T hT Y
  cases hv
  obtain ⟨t2, a1, b1⟩ := kk T'.heap (locs ++ L) (by rw [e1]; exact hO.moved (by rw [← e2]; exact Y'.warmed.alike.symm)) (fun z hz => by
    rcases List.mem_append.mp hz with h | h
    · exact hlo z h
    · exact hL z h) T' rfl Y'
  exact ⟨t2, st t2 a1, b1⟩
theorem am_blind {As : List Value} {X : am_X} : FrameBlind (am_Pc D DA b sz As X) := by
  intro a U g mk hh
  obtain ⟨h0, h1, h2⟩ := hh
  exact ⟨h0, h1.moved (t := U.calling g mk a) (Vm.Alike.refl U.vm), h2.same rfl⟩
theorem am_goodIn {qj : am_M} (hok : am_okM qj) : GoodIn am_tb (am_ws qj) := by
  intro w hw
  rcases List.mem_cons.mp hw with rfl | hw
  · have h := am_tb_in hok.2.2.2.1 rfl
    exact ⟨h, good_of_word (am_tb_good h)⟩
  · exact ⟨hw, good_of_word (am_tb_good hw)⟩
theorem am_y_eq {mj : Nat} {qj : am_M} (h : am_ms[mj]? = some qj) : am_y mj = qj.2.1 := by unfold am_y; rw [h]
end AMG
