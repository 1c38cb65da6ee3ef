/-! the machine in small beside the machine: what a state is, and that a step is a step -/
def am_ad (b sz c : Nat) : Nat := if c = 0 then b else sz + (c - 1)
def am_v (b sz : Nat) (v : Value) : Value := match v with
  | .ref c => .ref (am_ad b sz c)
  | .int x => .int x
  | .long x => .long x
  | .null => .null
  | .float x => .float x
  | .double x => .double x
  | .retAddr x => .retAddr x
def am_val (ρ : Nat → Nat → Value) (σ : Nat → Nat → Int32) (ci c k : Nat) : Value := if am_isI (am_fty ci k) = true then .int (σ c k) else ρ c k
def am_cell (D : va_G) (DA : Nat → ClassId) (b sz : Nat) (s : State) (ρ : Nat → Nat → Value) (σ : Nat → Nat → Int32) (H : Heap) (c : Nat) (x : Nat ⊕ (Nat × Nat)) : Prop := match x with
  | .inl ci => 0 < c ∧ ∃ q : vw_C, am_cls[ci]? = some q ∧ t_OB (am_ad b sz c) (D.1 ci) q.2.2 (D.2 ci) H (fun k => am_v b sz (am_val ρ σ ci c k))
  | .inr (t, n) => (t = 9 ∧ c = 0 ∧ va_X b n (σ 0) s H) ∨ (t < 2 ∧ 0 < c ∧ H[am_ad b sz c]? = some (arrV (DA t) n (fun k => .int (σ c k)))) ∨ (t = 2 ∧ 0 < c ∧ H[am_ad b sz c]? = some (arrV (DA 2) n (fun k => am_v b sz (ρ c k))))
def am_ok (D : va_G) (DA : Nat → ClassId) (b sz : Nat) (s : State) (X : am_T × (Nat → Nat → Value) × (Nat → Nat → Int32)) (H : Heap) : Prop :=
  b < sz ∧ (∃ n, X.1[0]? = some (.inr (9, n))) ∧ H.size + 1 = sz + X.1.length ∧ ∀ (c : Nat) (x : Nat ⊕ (Nat × Nat)), X.1[c]? = some x → am_cell D DA b sz s X.2.1 X.2.2 H c x
def am_tys (DA : Nat → ClassId) : List (ClassId × FieldType) := [(DA 0, .int), (DA 1, .boolean), (DA 2, .object "BoxNest$Box")]
def am_K (D : va_G) (DA : Nat → ClassId) (s : State) : Prop := va_K D am_cls (am_tys DA) s ∧ va_AO "BoxNest$Box" s ∧ ∀ q ∈ am_MN, va_Nw (.methodLinkNest (am_cn q.1) q.2.1 (am_y q.2.2) "BoxNest") s
def am_At (D : va_G) (DA : Nat → ClassId) (q : am_M) (p : Program) (s : State) (m : MethodId) (args : Array Value) (meth : Method) (c : Code) : Prop :=
  p.tables.exec = Jvm.exec ∧ c.code = q.2.2.1 ∧ c.maxLocals = q.2.2.2.1 ∧ s.vm.findClass (am_cn q.1) = some m.cls ∧ (∀ w ∈ am_tb, w.before args s = true) ∧ am_K D DA s ∧ (q.2.2.2.2.2.2.2 = true → meth.name = "<init>")
def am_Ls (b sz : Nat) (ls : Array Slot) (nL : Nat) (L : am_L) : Prop := L.length = nL ∧ ls.size = nL ∧ lv_wf ls ∧ ∀ (i : Nat) (v : Value), L[i]? = some (some v) → ls[i]? = some (.val (am_v b sz v))
/-- how many fields and elements the cells have -/
def am_w1 (x : Nat ⊕ (Nat × Nat)) : Nat := match x with
  | .inl ci => am_N ci
  | .inr q => q.2
def am_ns (T : am_T) : Nat := (T.map am_w1).sum
/-- from one state of the machine in small to another, whatever is below -/
def am_St (l : Launch) (D : va_G) (DA : Nat → ClassId) (b sz : Nat) (q : am_M) (st st' : am_S) : Prop :=
  st.2.2.2.1.length ≤ st'.2.2.2.1.length ∧ am_ns st.2.2.2.1 ≤ am_ns st'.2.2.2.1 ∧
  ∀ (p : Program) (e : Env) (R : Room) (s : State) (m : MethodId) (args : Array Value) (below : List Frame) (meth : Method) (c : Code) (Q : State → Prop) (ls : Array Slot) (H : Heap) (locs : List Loc) (cells slots : Nat),
    am_At D DA q p s m args meth c → 1 ≤ R.frames → 64 ≤ R.locals → cells + (st'.2.2.2.1.length - st.2.2.2.1.length) ≤ R.cells → slots + (am_ns st'.2.2.2.1 - am_ns st.2.2.2.1) ≤ R.slots →
    am_Ls b sz ls q.2.2.2.1 st.2.1 → am_ok D DA b sz s st.2.2.2 H → (∀ z ∈ locs, sz ≤ z.base) →
    (∀ (ls' : Array Slot) (H' : Heap) (locs' : List Loc), am_Ls b sz ls' q.2.2.2.1 st'.2.1 → am_ok D DA b sz s st'.2.2.2 H' → (∀ z ∈ locs', sz ≤ z.base) →
      W p l e R s m args below meth c H' locs' (cells + (st'.2.2.2.1.length - st.2.2.2.1.length)) (slots + (am_ns st'.2.2.2.1 - am_ns st.2.2.2.1)) Q (F0 m st'.1 ls' (st'.2.2.1.map (am_v b sz)))) →
    W p l e R s m args below meth c H locs cells slots Q (F0 m st.1 ls (st.2.2.1.map (am_v b sz)))
section AMS
variable {l : Launch} {D : va_G} {DA : Nat → ClassId} {b sz : Nat} {q : am_M}
theorem am_v_cat (v : Value) : (am_v b sz v).category = v.category := by cases v <;> rfl
theorem am_v_c1 {v : Value} (h : am_c1 v = true) : (am_v b sz v).category = 1 := by cases v <;> first | rfl | (cases h)
theorem am_St.trans {s1 s2 s3 : am_S} (h1 : am_St l D DA b sz q s1 s2) (h2 : am_St l D DA b sz q s2 s3) : am_St l D DA b sz q s1 s3 := by
  obtain ⟨a1, a2, a3⟩ := h1
  obtain ⟨b1, b2, b3⟩ := h2
  refine ⟨Nat.le_trans a1 b1, Nat.le_trans a2 b2, ?_⟩
  intro p e R s m args below meth c Q ls H locs cells slots hA hf hl hc hs hL hO hlo k
  refine a3 p e R s m args below meth c Q ls H locs cells slots hA hf hl (by omega) (by omega) hL hO hlo ?_
  intro ls1 H1 locs1 hL1 hO1 hlo1
  refine b3 p e R s m args below meth c Q ls1 H1 locs1 _ _ hA hf hl (by omega) (by omega) hL1 hO1 hlo1 ?_
  intro ls2 H2 locs2 hL2 hO2 hlo2
  have := k ls2 H2 locs2 hL2 hO2 hlo2
  have e1 : cells + (s2.2.2.2.1.length - s1.2.2.2.1.length) + (s3.2.2.2.1.length - s2.2.2.2.1.length) = cells + (s3.2.2.2.1.length - s1.2.2.2.1.length) := by omega
  have e2 : slots + (am_ns s2.2.2.2.1 - am_ns s1.2.2.2.1) + (am_ns s3.2.2.2.1 - am_ns s2.2.2.2.1) = slots + (am_ns s3.2.2.2.1 - am_ns s1.2.2.2.1) := by omega
  rw [e1, e2]
  exact this
/-- a step that changes neither locals nor cells -/
theorem am_st_p {pc pc' : Nat} {L : am_L} {S S' : List Value} {X : am_T × (Nat → Nat → Value) × (Nat → Nat → Int32)}
    (h : ∀ (p : Program) (e : Env) (R : Room) (s : State) (m : MethodId) (args : Array Value) (below : List Frame) (meth : Method) (c : Code) (Q : State → Prop) (ls : Array Slot) (H : Heap) (locs : List Loc) (cells slots : Nat),
      am_At D DA q p s m args meth c → 1 ≤ R.frames → 64 ≤ R.locals → cells ≤ R.cells → slots ≤ R.slots → am_Ls b sz ls q.2.2.2.1 L → am_ok D DA b sz s X H →
      W p l e R s m args below meth c H locs cells slots Q (F0 m pc' ls (S'.map (am_v b sz))) → W p l e R s m args below meth c H locs cells slots Q (F0 m pc ls (S.map (am_v b sz)))) :
    am_St l D DA b sz q (pc, L, S, X) (pc', L, S', X) := by
  refine ⟨Nat.le_refl _, Nat.le_refl _, ?_⟩
  intro p e R s m args below meth c Q ls H locs cells slots hA hf hl hc hs hL hO hlo k
  have := k ls H locs hL hO hlo
  simp only [Nat.sub_self, Nat.add_zero] at this hc hs
  exact h p e R s m args below meth c Q ls H locs cells slots hA hf hl hc hs hL hO this
/-- a step that changes locals alone -/
theorem am_st_l {pc pc' : Nat} {L L' : am_L} {S S' : List Value} {X : am_T × (Nat → Nat → Value) × (Nat → Nat → Int32)}
    (h : ∀ (p : Program) (e : Env) (R : Room) (s : State) (m : MethodId) (args : Array Value) (below : List Frame) (meth : Method) (c : Code) (Q : State → Prop) (ls : Array Slot) (H : Heap) (locs : List Loc) (cells slots : Nat),
      am_At D DA q p s m args meth c → am_Ls b sz ls q.2.2.2.1 L →
      (∀ ls' : Array Slot, am_Ls b sz ls' q.2.2.2.1 L' → W p l e R s m args below meth c H locs cells slots Q (F0 m pc' ls' (S'.map (am_v b sz)))) → W p l e R s m args below meth c H locs cells slots Q (F0 m pc ls (S.map (am_v b sz)))) :
    am_St l D DA b sz q (pc, L, S, X) (pc', L', S', X) := by
  refine ⟨Nat.le_refl _, Nat.le_refl _, ?_⟩
  intro p e R s m args below meth c Q ls H locs cells slots hA hf hl hc hs hL hO hlo k
  refine h p e R s m args below meth c Q ls H locs cells slots hA hL (fun ls' hL' => ?_)
  have := k ls' H locs hL' hO hlo
  simp only [Nat.sub_self, Nat.add_zero] at this
  exact this
/-- a step that changes cells, and makes none -/
theorem am_st_h {pc pc' : Nat} {L : am_L} {S S' : List Value} {T : am_T} {ρ ρ' : Nat → Nat → Value} {σ σ' : Nat → Nat → Int32}
    (h : ∀ (p : Program) (e : Env) (R : Room) (s : State) (m : MethodId) (args : Array Value) (below : List Frame) (meth : Method) (c : Code) (Q : State → Prop) (ls : Array Slot) (H : Heap) (locs : List Loc) (cells slots : Nat),
      am_At D DA q p s m args meth c → am_ok D DA b sz s (T, ρ, σ) H → (∀ z ∈ locs, sz ≤ z.base) →
      (∀ (H' : Heap) (locs' : List Loc), am_ok D DA b sz s (T, ρ', σ') H' → (∀ z ∈ locs', sz ≤ z.base) → W p l e R s m args below meth c H' locs' cells slots Q (F0 m pc' ls (S'.map (am_v b sz)))) → W p l e R s m args below meth c H locs cells slots Q (F0 m pc ls (S.map (am_v b sz)))) :
    am_St l D DA b sz q (pc, L, S, T, ρ, σ) (pc', L, S', T, ρ', σ') := by
  refine ⟨Nat.le_refl _, Nat.le_refl _, ?_⟩
  intro p e R s m args below meth c Q ls H locs cells slots hA hf hl hc hs hL hO hlo k
  refine h p e R s m args below meth c Q ls H locs cells slots hA hO hlo (fun H' locs' hO' hlo' => ?_)
  have := k ls H' locs' hL hO' hlo'
  simp only [Nat.sub_self, Nat.add_zero] at this
  exact this
theorem am_Ls.at {ls : Array Slot} {nL i : Nat} {L : am_L} {v : Value} (h : am_Ls b sz ls nL L) (hi : L[i]? = some (some v)) : ls[i]? = some (.val (am_v b sz v)) := h.2.2.2 i v hi
/-- the listed values of the locals -/
def am_lst (b sz : Nat) (L : am_L) : List (Nat × Value) := (List.range L.length).filterMap (fun i => match L[i]? with
  | some (some v) => some (i, am_v b sz v)
  | _ => none)
theorem am_lst_mem {L : am_L} {i : Nat} {w : Value} : (i, w) ∈ am_lst b sz L ↔ ∃ v, L[i]? = some (some v) ∧ w = am_v b sz v := by
  unfold am_lst
  rw [List.mem_filterMap]
  constructor
  · rintro ⟨j, -, hj⟩
    split at hj
    · rename_i v hv
      cases hj
      exact ⟨v, hv, rfl⟩
    · cases hj
  · rintro ⟨v, hv, rfl⟩
    refine ⟨i, List.mem_range.mpr (List.getElem?_eq_some_iff.mp hv).1, ?_⟩
    rw [hv]
theorem am_Ls.has {ls : Array Slot} {nL : Nat} {L : am_L} (h : am_Ls b sz ls nL L) : lv_has ls nL (am_lst b sz L) := by
  refine ⟨h.2.1, h.2.2.1, fun z hz => ?_⟩
  obtain ⟨i, w⟩ := z
  obtain ⟨v, hv, rfl⟩ := am_lst_mem.mp hz
  exact h.2.2.2 i v hv
theorem am_nl {L : am_L} {i j : Nat} {x : Value} (hn : ¬ (i != 0 && am_isL L[i - 1]?) = true) (hj : j + 1 = i) (hx : L[j]? = some (some x)) : x.category ≠ 2 := by
  subst hj
  simp only [Nat.add_sub_cancel, hx] at hn
  cases x <;> first | (simp [Value.category]; done) | (exfalso; exact hn (by simp [am_isL]))
theorem am_st1_spec {L L' : am_L} {i : Nat} {v : Value} (h : am_st1 L i v = some L') : i < L.length ∧ L' = L.set i (some v) ∧ ∀ (j : Nat) (x : Value), j + 1 = i → L[j]? = some (some x) → x.category ≠ 2 := by
  unfold am_st1 at h
  split at h
  · rename_i hi
    split at h
    · cases h
    · rename_i hn
      cases h
      exact ⟨hi, rfl, fun j x hj hx => am_nl hn hj hx⟩
  · cases h
theorem am_st2_spec {L L' : am_L} {i : Nat} {v : Value} (h : am_st2 L i v = some L') : i + 1 < L.length ∧ L' = (L.set i (some v)).set (i + 1) none ∧ ∀ (j : Nat) (x : Value), j + 1 = i → L[j]? = some (some x) → x.category ≠ 2 := by
  unfold am_st2 at h
  split at h
  · rename_i hi
    split at h
    · cases h
    · rename_i hn
      cases h
      exact ⟨hi, rfl, fun j x hj hx => am_nl hn hj hx⟩
  · cases h
theorem am_Ls.of1 {ls : Array Slot} {nL i : Nat} {L L' : am_L} {v : Value} (hL : L.length = nL) (hs : am_st1 L i v = some L') (h : lv_has ls nL ((i, am_v b sz v) :: (am_lst b sz L).filter (fun q => !(q.1 == i) && !(q.1 + 1 == i && q.2.category == 2)))) : am_Ls b sz ls nL L' := by
  obtain ⟨hi, rfl, hn⟩ := am_st1_spec hs
  refine ⟨by rw [List.length_set]; exact hL, h.1, h.2.1, fun j w hw => ?_⟩
  by_cases hj : j = i
  · subst hj
    rw [List.getElem?_set_self hi] at hw
    cases hw
    exact h.2.2 _ List.mem_cons_self
  · rw [List.getElem?_set_ne (Ne.symm hj)] at hw
    refine h.2.2 (j, am_v b sz w) (List.mem_cons_of_mem _ (List.mem_filter.mpr ⟨am_lst_mem.mpr ⟨w, hw, rfl⟩, ?_⟩))
    have h1 : (j == i) = false := by simpa using hj
    by_cases hj2 : j + 1 = i
    · have h2 := hn j w hj2 hw
      have h3 : ((am_v b sz w).category == 2) = false := by rw [am_v_cat]; simpa using h2
      simp [h1, h3]
    · have h3 : (j + 1 == i) = false := by simpa using hj2
      simp [h1, h3]
theorem am_Ls.of2 {ls : Array Slot} {nL i : Nat} {L L' : am_L} {v : Value} (hL : L.length = nL) (hs : am_st2 L i v = some L') (h : lv_has ls nL ((i, am_v b sz v) :: (am_lst b sz L).filter (fun q => !(q.1 == i) && (!(q.1 == i + 1) && !(q.1 + 1 == i && q.2.category == 2))))) : am_Ls b sz ls nL L' := by
  obtain ⟨hi, rfl, hn⟩ := am_st2_spec hs
  refine ⟨by rw [List.length_set, List.length_set]; exact hL, h.1, h.2.1, fun j w hw => ?_⟩
  by_cases hk : j = i + 1
  · subst hk
    rw [List.getElem?_set_self (by rw [List.length_set]; exact hi)] at hw
    cases hw
  · rw [List.getElem?_set_ne (Ne.symm hk)] at hw
    by_cases hj : j = i
    · subst hj
      rw [List.getElem?_set_self (by omega)] at hw
      cases hw
      exact h.2.2 _ List.mem_cons_self
    · rw [List.getElem?_set_ne (Ne.symm hj)] at hw
      refine h.2.2 (j, am_v b sz w) (List.mem_cons_of_mem _ (List.mem_filter.mpr ⟨am_lst_mem.mpr ⟨w, hw, rfl⟩, ?_⟩))
      have h1 : (j == i) = false := by simpa using hj
      have h4 : (j == i + 1) = false := by simpa using hk
      by_cases hj2 : j + 1 = i
      · have h2 := hn j w hj2 hw
        have h3 : ((am_v b sz w).category == 2) = false := by rw [am_v_cat]; simpa using h2
        simp [h1, h3, h4]
      · have h3 : (j + 1 == i) = false := by simpa using hj2
        simp [h1, h3, h4]
theorem am_lst_at {L : am_L} {i : Nat} {v : Value} (h : L[i]? = some (some v)) : ∃ k : Nat, (am_lst b sz L)[k]? = some (i, am_v b sz v) := List.getElem?_of_mem (am_lst_mem.mpr ⟨v, h, rfl⟩)
end AMS
