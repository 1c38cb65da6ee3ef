/-! group 3: arrays, and what makes cells -/
section AMS
variable {l : Launch} {D : va_G} {DA : Nat → ClassId} {b sz : Nat} {q : am_M}
theorem am_lay0 {s : State} (hK : am_K D DA s) : ArrOfT s (DA 0) .int := (hK.1.2 0 (DA 0, .int) rfl).1
theorem am_lay1 {s : State} (hK : am_K D DA s) : ArrOfT s (DA 1) .boolean := (hK.1.2 1 (DA 1, .boolean) rfl).1
theorem am_lay2 {s : State} (hK : am_K D DA s) : ArrOfT s (DA 2) (.object "BoxNest$Box") := (hK.1.2 2 (DA 2, .object "BoxNest$Box") rfl).1
theorem am_arrI {s : State} {T : am_T} {ρ : Nat → Nat → Value} {σ : Nat → Nat → Int32} {H : Heap} {c t m : Nat} (hK : am_K D DA s) (hO : am_ok D DA b sz s (T, ρ, σ) H) (hT : T[c]? = some (.inr (t, m))) (ht : t = 0 ∨ t = 9) : ∃ cell : Cell, H[am_ad b sz c]? = some cell ∧ s.isArrayOf cell .int ∧ cell.vm ≠ .unknown ∧ cell.slots.size = m ∧ ∀ j : Nat, j < m → cell.slots[j]? = some (.int (σ c j)) := by
  rcases hO.2.2.2 c _ hT with ⟨h1, rfl, scr, g1, g2, g3, g4, g5⟩ | ⟨h1, h0, h2⟩ | ⟨h1, h0, h2⟩
  · exact ⟨scr, g1, g2, g3, g4, g5⟩
  · have h9 : t = 0 := by omega
    subst h9
    exact ⟨_, h2, am_lay0 hK m _, (fun h => by cases h), arrV_size _ _ _, fun j hj => arrV_read _ _ hj⟩
  · omega
theorem am_x_iaload {pc n n2 : Nat} {L : am_L} {S : List Value} {T : am_T} {ρ : Nat → Nat → Value} {σ : Nat → Nat → Int32} {st : am_S} (hd : decode q.2.2.1 pc = .ok (.iaload, 1)) (h : am_ex3 .iaload (pc + 1) n n2 L S T ρ σ = some st) : am_St l D DA b sz q (pc, L, S, T, ρ, σ) st := by
  simp only [am_ex3] at h
  split at h
  · rename_i x c S
    split at h
    · rename_i t mm hT
      split at h
      · rename_i hg
        cases h
        exact am_st_p (by
          intro p e R s m args below meth co Q ls H locs cells slots hA hf hl hc hs hL hO k
          obtain ⟨hx, hb, hml, hown, hts, hK, hin⟩ := hA
          obtain ⟨cell, g1, g2, g3, g4, g5⟩ := am_arrI hK hO hT hg.1
          exact W.iald (v := .int (σ c x.toNatClampNeg)) hx hb g1 g2 g3 (by rw [g4]; exact hg.2) (g5 _ (Nat.not_le.mp fun z => hg.2 (Or.inr z))) rfl rfl hd k)
      · cases h
    · cases h
  · cases h
theorem am_x_baload {pc n n2 : Nat} {L : am_L} {S : List Value} {T : am_T} {ρ : Nat → Nat → Value} {σ : Nat → Nat → Int32} {st : am_S} (hd : decode q.2.2.1 pc = .ok (.baload, 1)) (h : am_ex3 .baload (pc + 1) n n2 L S T ρ σ = some st) : am_St l D DA b sz q (pc, L, S, T, ρ, σ) st := by
  simp only [am_ex3] at h
  split at h
  · rename_i x c S
    split at h
    · rename_i t mm hT
      split at h
      · rename_i hg
        cases h
        exact am_st_p (by
          intro p e R s m args below meth co Q ls H locs cells slots hA hf hl hc hs hL hO k
          obtain ⟨hx, hb, hml, hown, hts, hK, hin⟩ := hA
          obtain ⟨rfl, hg⟩ := hg
          rcases hO.2.2.2 c _ hT with ⟨h1, -⟩ | ⟨h1, h0, h2⟩ | ⟨h1, h0, h2⟩
          · omega
          · exact W.zald (v := .int (σ c x.toNatClampNeg)) hx hb h2 (am_lay1 hK mm _) (fun h => by cases h) (by rw [arrV_size]; exact hg) (arrV_read _ _ (Nat.not_le.mp fun z => hg (Or.inr z))) rfl rfl hd k
          · omega)
      · cases h
    · cases h
  · cases h
theorem am_x_aaload {pc n n2 : Nat} {L : am_L} {S : List Value} {T : am_T} {ρ : Nat → Nat → Value} {σ : Nat → Nat → Int32} {st : am_S} (hd : decode q.2.2.1 pc = .ok (.aaload, 1)) (h : am_ex3 .aaload (pc + 1) n n2 L S T ρ σ = some st) : am_St l D DA b sz q (pc, L, S, T, ρ, σ) st := by
  simp only [am_ex3] at h
  split at h
  · rename_i x c S
    split at h
    · rename_i t mm hT
      split at h
      · rename_i hg
        cases h
        exact am_st_p (by
          intro p e R s m args below meth co Q ls H locs cells slots hA hf hl hc hs hL hO k
          obtain ⟨hx, hb, hml, hown, hts, hK, hin⟩ := hA
          obtain ⟨rfl, hg⟩ := hg
          rcases hO.2.2.2 c _ hT with ⟨h1, -⟩ | ⟨h1, h0, h2⟩ | ⟨h1, h0, h2⟩
          · omega
          · omega
          · exact W.aald (v := am_v b sz (ρ c x.toNatClampNeg)) hx hb h2 (am_lay2 hK mm _) rfl (fun h => by cases h) (by rw [arrV_size]; exact hg) (arrV_read _ _ (Nat.not_le.mp fun z => hg (Or.inr z))) rfl rfl hd k)
      · cases h
    · cases h
  · cases h
theorem am_updI {σ : Nat → Nat → Int32} {c j : Nat} {y : Int32} : updV (fun k => Value.int (σ c k)) j (.int y) = fun k => Value.int (am_us σ c j y c k) := by
  funext k
  unfold updV am_us
  by_cases h : k = j
  · rw [if_pos h, if_pos ⟨rfl, h⟩]
  · rw [if_neg h, if_neg (fun z => h z.2)]
theorem am_updR {ρ : Nat → Nat → Value} {c j : Nat} {y : Value} : updV (fun k => am_v b sz (ρ c k)) j (am_v b sz y) = fun k => am_v b sz (am_ur ρ c j y c k) := by
  funext k
  unfold updV am_ur
  by_cases h : k = j
  · rw [if_pos h, if_pos ⟨rfl, h⟩]
  · rw [if_neg h, if_neg (fun z => h z.2)]
theorem am_locs {locs : List Loc} {c i : Nat} (h0 : 0 < c) (hlo : ∀ z ∈ locs, sz ≤ z.base) : ∀ z ∈ locs ++ [(⟨am_ad b sz c, i⟩ : Loc)], sz ≤ z.base := by
  intro z hz
  rcases List.mem_append.mp hz with hz | hz
  · exact hlo z hz
  · rw [List.mem_singleton.mp hz]
    show sz ≤ am_ad b sz c
    rw [am_ad_pos h0]
    omega
theorem am_x_iastore {pc n n2 : Nat} {L : am_L} {S : List Value} {T : am_T} {ρ : Nat → Nat → Value} {σ : Nat → Nat → Int32} {st : am_S} (hd : decode q.2.2.1 pc = .ok (.iastore, 1)) (h : am_ex3 .iastore (pc + 1) n n2 L S T ρ σ = some st) : am_St l D DA b sz q (pc, L, S, T, ρ, σ) st := by
  simp only [am_ex3] at h
  split at h
  · rename_i y x c S
    split at h
    · rename_i t mm hT
      split at h
      · rename_i hg
        cases h
        exact am_st_h (by
          intro p e R s m args below meth co Q ls H locs cells slots hA hO hlo k
          obtain ⟨hx, hb, hml, hown, hts, hK, hin⟩ := hA
          obtain ⟨rfl, hg⟩ := hg
          rcases hO.2.2.2 c _ hT with ⟨h1, -⟩ | ⟨h1, h0, h2⟩ | ⟨h1, h0, h2⟩
          · omega
          · refine W.iast hx hb h2 (am_lay0 hK mm _) (fun h => by cases h) (by rw [arrV_size]; exact hg) rfl rfl hd fun H' e1 e2 e3 => ?_
            refine k H' _ (hO.set (fun _ _ => rfl) (fun c' hc' => am_us_ne hc') e2 e3 (fun z hz => ?_)) (am_locs h0 hlo)
            have hz2 : z = .inr (0, mm) := Option.some.inj (hz.symm.trans hT)
            subst hz2
            exact Or.inr (Or.inl ⟨h1, h0, by rw [e1, arrV_store, am_updI]⟩)
          · omega)
      · cases h
    · cases h
  · cases h
theorem am_x_bastore {pc n n2 : Nat} {L : am_L} {S : List Value} {T : am_T} {ρ : Nat → Nat → Value} {σ : Nat → Nat → Int32} {st : am_S} (hd : decode q.2.2.1 pc = .ok (.bastore, 1)) (h : am_ex3 .bastore (pc + 1) n n2 L S T ρ σ = some st) : am_St l D DA b sz q (pc, L, S, T, ρ, σ) st := by
  simp only [am_ex3] at h
  split at h
  · rename_i y x c S
    split at h
    · rename_i t mm hT
      split at h
      · rename_i hg
        cases h
        exact am_st_h (by
          intro p e R s m args below meth co Q ls H locs cells slots hA hO hlo k
          obtain ⟨hx, hb, hml, hown, hts, hK, hin⟩ := hA
          obtain ⟨rfl, hg, hy⟩ := hg
          have hnar : narrow .boolean (.int y) = .int y := by rcases hy with rfl | rfl <;> rfl
          rcases hO.2.2.2 c _ hT with ⟨h1, -⟩ | ⟨h1, h0, h2⟩ | ⟨h1, h0, h2⟩
          · omega
          · refine W.zast hx hb h2 (am_lay1 hK mm _) (fun h => by cases h) (by rw [arrV_size]; exact hg) rfl rfl hd fun H' e1 e2 e3 => ?_
            refine k H' _ (hO.set (fun _ _ => rfl) (fun c' hc' => am_us_ne hc') e2 e3 (fun z hz => ?_)) (am_locs h0 hlo)
            have hz2 : z = .inr (1, mm) := Option.some.inj (hz.symm.trans hT)
            subst hz2
            exact Or.inr (Or.inl ⟨h1, h0, by rw [e1, hnar, arrV_store, am_updI]⟩)
          · omega)
      · cases h
    · cases h
  · cases h
theorem am_x_aastore {pc n n2 : Nat} {L : am_L} {S : List Value} {T : am_T} {ρ : Nat → Nat → Value} {σ : Nat → Nat → Int32} {st : am_S} (hd : decode q.2.2.1 pc = .ok (.aastore, 1)) (h : am_ex3 .aastore (pc + 1) n n2 L S T ρ σ = some st) : am_St l D DA b sz q (pc, L, S, T, ρ, σ) st := by
  simp only [am_ex3] at h
  split at h
  · rename_i y x c S
    split at h
    · rename_i t mm hT
      split at h
      · rename_i hg
        cases h
        exact am_st_h (by
          intro p e R s m args below meth co Q ls H locs cells slots hA hO hlo k
          obtain ⟨hx, hb, hml, hown, hts, hK, hin⟩ := hA
          obtain ⟨rfl, hg, hy⟩ := hg
          rcases hO.2.2.2 c _ hT with ⟨h1, -⟩ | ⟨h1, h0, h2⟩ | ⟨h1, h0, h2⟩
          · omega
          · omega
          · obtain ⟨hy0, w, hw, cellV, g1, g2, g3, -⟩ := hO.2.2.2 y _ hy
            have hlt : x.toNatClampNeg < mm := Nat.not_le.mp fun z => hg (Or.inr z)
            have hx0 : ¬ x < 0 := fun z => hg (Or.inl z)
            have hcls := (hK.1.1 2 _ (am_cls_at (n := 2) (by decide))).2
            obtain ⟨kA, comp, k1, k2, k3, -⟩ := (hK.1.2 2 (DA 2, .object "BoxNest$Box") rfl).2
            have hcomp : comp = D.1 2 := Option.some.inj (k3.symm.trans hcls.1)
            subst hcomp
            obtain ⟨kC, hkC, -⟩ := hcls.2
            refine W.aast hx hb h2 (fun z h => by cases h) (fun h => by cases h) k1 k2 rfl hkC ⟨hx0, by rw [arrV_size]; exact hlt⟩ g1 (fun z h => by rw [g3] at h; cases h) (by rw [g2]; exact hkC) (by rw [g2]; exact va_assign hcls) rfl rfl hd fun H' e1 e2 e3 => ?_
            refine k H' _ (hO.set (fun c' hc' => am_ur_ne hc') (fun _ _ => rfl) e2 e3 (fun z hz => ?_)) (am_locs h0 hlo)
            have hz2 : z = .inr (2, mm) := Option.some.inj (hz.symm.trans hT)
            subst hz2
            refine Or.inr (Or.inr ⟨h1, h0, ?_⟩)
            rw [e1, arrV_store]
            exact congrArg (fun f => some (arrV (DA 2) mm f)) (am_updR (y := .ref y)))
      · cases h
    · cases h
  · cases h
theorem am_x_arraylength {pc n n2 : Nat} {L : am_L} {S : List Value} {T : am_T} {ρ : Nat → Nat → Value} {σ : Nat → Nat → Int32} {st : am_S} (hd : decode q.2.2.1 pc = .ok (.arraylength, 1)) (h : am_ex3 .arraylength (pc + 1) n n2 L S T ρ σ = some st) : am_St l D DA b sz q (pc, L, S, T, ρ, σ) st := by
  simp only [am_ex3] at h
  split at h
  · rename_i c S
    split at h
    · rename_i t mm hT
      cases h
      exact am_st_p (by
        intro p e R s m args below meth co Q ls H locs cells slots hA hf hl hc hs hL hO k
        obtain ⟨hx, hb, hml, hown, hts, hK, hin⟩ := hA
        rcases hO.2.2.2 c _ hT with ⟨h1, rfl, scr, g1, g2, g3, g4, g5⟩ | ⟨h1, h0, h2⟩ | ⟨h1, h0, h2⟩
        · exact W.alen (n := Int32.ofNat mm) hx hb g1 g2 (by rw [g4] <;> rfl) rfl rfl hd k
        · have ht : t = 0 ∨ t = 1 := by omega
          rcases ht with rfl | rfl
          · exact W.alen (n := Int32.ofNat mm) hx hb h2 (am_lay0 hK mm _) (by rw [arrV_size] <;> rfl) rfl rfl hd k
          · exact W.alen (n := Int32.ofNat mm) hx hb h2 (am_lay1 hK mm _) (by rw [arrV_size] <;> rfl) rfl rfl hd k
        · exact W.alen (n := Int32.ofNat mm) hx hb h2 (am_lay2 hK mm _) (by rw [arrV_size] <;> rfl) rfl rfl hd k)
    · cases h
  · cases h
theorem am_ns_app (T : am_T) (x : Nat ⊕ (Nat × Nat)) : am_ns (T ++ [x]) = am_ns T + am_w1 x := by
  unfold am_ns
  simp
/-- a new cell -/
theorem am_ok.push {s : State} {T : am_T} {ρ : Nat → Nat → Value} {σ : Nat → Nat → Int32} {H H' : Heap} {x : Nat ⊕ (Nat × Nat)} (h : am_ok D DA b sz s (T, ρ, σ) H) (hz : H'.size = H.size + 1) (ho : ∀ a, a < H.size → H'[a]? = H[a]?) (hc : am_cell D DA b sz s (am_zr ρ T.length) (am_zs σ T.length) H' T.length x) : am_ok D DA b sz s (T ++ [x], am_zr ρ T.length, am_zs σ T.length) H' := by
  obtain ⟨h1, ⟨n, h2⟩, h3, h4⟩ := h
  have h3 : H.size + 1 = sz + T.length := h3
  have hT0 : 0 < T.length := (List.getElem?_eq_some_iff.mp h2).1
  refine ⟨h1, ⟨n, ?_⟩, ?_, fun c y hy => ?_⟩
  · show (T ++ [x])[0]? = _
    rw [List.getElem?_append_left hT0]; exact h2
  · show H'.size + 1 = sz + (T ++ [x]).length
    rw [List.length_append, hz]
    simp
    omega
  · have hy : (T ++ [x])[c]? = some y := hy
    by_cases hl : c < T.length
    · rw [List.getElem?_append_left hl] at hy
      refine (h4 c y hy).kept ?_ ?_ (ho _ ?_)
      · funext j; show am_zr ρ T.length c j = ρ c j; unfold am_zr; rw [if_neg (by omega)]
      · funext j; show am_zs σ T.length c j = σ c j; unfold am_zs; rw [if_neg (by omega)]
      · unfold am_ad
        split <;> omega
    · rw [List.getElem?_append_right (by omega)] at hy
      have hk : c - T.length < 1 := (List.getElem?_eq_some_iff.mp hy).1
      have hk0 : c = T.length := by omega
      subst hk0
      rw [Nat.sub_self] at hy
      cases hy
      exact hc
theorem am_T0 {s : State} {T : am_T} {ρ : Nat → Nat → Value} {σ : Nat → Nat → Int32} {H : Heap} (h : am_ok D DA b sz s (T, ρ, σ) H) : 0 < T.length ∧ am_ad b sz T.length = H.size := by
  obtain ⟨h1, ⟨n, h2⟩, h3, h4⟩ := h
  have h3 : H.size + 1 = sz + T.length := h3
  have hT0 : 0 < T.length := (List.getElem?_eq_some_iff.mp h2).1
  exact ⟨hT0, by rw [am_ad_pos hT0]; omega⟩
theorem am_new_St {pc nx : Nat} {L : am_L} {S S' : List Value} {T : am_T} {x : Nat ⊕ (Nat × Nat)} {ρ : Nat → Nat → Value} {σ : Nat → Nat → Int32}
    (h : ∀ (p : Program) (e : Env) (R : Room) (s : State) (m : MethodId) (args : Array Value) (below : List Frame) (meth : Method) (c : Code) (Q : State → Prop) (ls : Array Slot) (H : Heap) (locs : List Loc) (cells slots : Nat),
      am_At D DA q p s m args meth c → cells + 1 ≤ R.cells → slots + am_w1 x ≤ R.slots → am_ok D DA b sz s (T, ρ, σ) H →
      (∀ (H' : Heap), am_ok D DA b sz s (T ++ [x], am_zr ρ T.length, am_zs σ T.length) H' → W p l e R s m args below meth c H' locs (cells + 1) (slots + am_w1 x) Q (F0 m nx ls (.ref H.size :: S'.map (am_v b sz)))) → W p l e R s m args below meth c H locs cells slots Q (F0 m pc ls (S.map (am_v b sz)))) :
    am_St l D DA b sz q (pc, L, S, T, ρ, σ) (nx, L, .ref T.length :: S', T ++ [x], am_zr ρ T.length, am_zs σ T.length) := by
  have e1 : (T ++ [x]).length - T.length = 1 := by simp
  have e2 : am_ns (T ++ [x]) - am_ns T = am_w1 x := by rw [am_ns_app]; omega
  refine ⟨by show T.length ≤ (T ++ [x]).length; simp, by show am_ns T ≤ am_ns (T ++ [x]); rw [am_ns_app]; omega, ?_⟩
  intro p e R s m args below meth c Q ls H locs cells slots hA hf hl hc hs hL hO hlo k
  have hc : cells + ((T ++ [x]).length - T.length) ≤ R.cells := hc
  have hs : slots + (am_ns (T ++ [x]) - am_ns T) ≤ R.slots := hs
  rw [e1] at hc
  rw [e2] at hs
  refine h p e R s m args below meth c Q ls H locs cells slots hA hc hs hO (fun H' hO' => ?_)
  have hk : W p l e R s m args below meth c H' locs (cells + ((T ++ [x]).length - T.length)) (slots + (am_ns (T ++ [x]) - am_ns T)) Q (F0 m nx ls (am_v b sz (.ref T.length) :: S'.map (am_v b sz))) := k ls H' locs hL hO' hlo
  rw [e1, e2] at hk
  have e3 : am_v b sz (.ref T.length) = .ref H.size := by
    show Value.ref (am_ad b sz T.length) = _
    rw [(am_T0 hO).2]
  rw [e3] at hk
  exact hk
theorem am_cw {idx n : Nat} (h : am_CW.any (fun z => z.1 == q.1 && (z.2.1 == idx && z.2.2 == n)) = true) : Cond.classLink (am_cn q.1) idx (am_cn n) ∈ am_tb := by
  obtain ⟨z, hz, h⟩ := am_anyK h
  simp only [Bool.and_eq_true, beq_iff_eq] at h
  obtain ⟨h1, h2, h3⟩ := h
  subst h2; subst h3
  rw [← h1]
  exact am_tb_in (am_mem am_CWe _ (List.mem_map.mpr ⟨z, hz, rfl⟩)) rfl
theorem am_dflt : ∀ n, n < 10 → ∀ k, k < am_N n → defaultValue (am_fty n k) = if am_isI (am_fty n k) = true then .int 0 else .null := by decide +kernel
theorem am_x_new {pc idx n n2 : Nat} {L : am_L} {S : List Value} {T : am_T} {ρ : Nat → Nat → Value} {σ : Nat → Nat → Int32} {st : am_S} (hd : decode q.2.2.1 pc = .ok (.new idx, 3)) (ho : am_CW.any (fun z => z.1 == q.1 && (z.2.1 == idx && z.2.2 == n)) = true) (hn : n < 10) (h : am_ex3 (.new idx) (pc + 3) n n2 L S T ρ σ = some st) : am_St l D DA b sz q (pc, L, S, T, ρ, σ) st := by
  cases h
  refine am_new_St ?_
  intro p e R s m args below meth co Q ls H locs cells slots hA hc hs hO k
  obtain ⟨hx, hb, hml, hown, hts, hK, hin⟩ := hA
  have hc0 := am_cls_at hn
  have hcl := am_clsOk n _ hc0
  have hKn := hK.1.1 n _ hc0
  have hT0 := am_T0 hO
  refine W.newcK hx hb hown (hts _ (am_cw ho)) (hts _ (am_tb_in hcl.2.2.2.2.1 rfl)) (hts _ (am_tb_in hcl.2.2.2.2.2 rfl)) rfl hd hc hs hKn.2.1 rfl fun H1 kC hkC e1 z1 o1 => ?_
  refine k H1 (hO.push z1 o1 ⟨hT0.1, _, hc0, ?_⟩)
  rw [hT0.2]
  refine (u_born (am_fty n) hts (am_u_in hn) hKn hkC e1 hcl.2.2.1).to (fun j hj => ?_)
  rw [am_dflt n hn j hj]
  unfold am_val am_zr am_zs
  rw [if_pos rfl, if_pos rfl]
  split <;> rfl
theorem am_x_newarray {pc n n2 : Nat} {t : ArrayType} {L : am_L} {S : List Value} {T : am_T} {ρ : Nat → Nat → Value} {σ : Nat → Nat → Int32} {st : am_S} (hd : decode q.2.2.1 pc = .ok (.newarray t, 2)) (ht : newarray.typeOf t = (if n = 0 then FieldType.int else FieldType.boolean)) (hn : n < 2) (h : am_ex3 (.newarray t) (pc + 2) n n2 L S T ρ σ = some st) : am_St l D DA b sz q (pc, L, S, T, ρ, σ) st := by
  simp only [am_ex3] at h
  split at h
  · rename_i x S
    split at h
    · rename_i hg
      cases h
      refine am_new_St ?_
      intro p e R s m args below meth co Q ls H locs cells slots hA hc hs hO k
      obtain ⟨hx, hb, hml, hown, hts, hK, hin⟩ := hA
      have hT0 := am_T0 hO
      have hw : Cond.arrayClass (newarray.typeOf t) ∈ am_tb := by
        rw [ht]
        split
        · exact am_tb_in (List.mem_of_getElem? am_ac_int) rfl
        · exact am_tb_in (List.mem_of_getElem? am_ac_boolean) rfl
      have hty : (newarray.typeOf t = .int ∧ n = 0) ∨ (newarray.typeOf t = .boolean ∧ n = 1) := by
        rw [ht]
        split
        · rename_i h9; exact Or.inl ⟨rfl, h9⟩
        · rename_i h9; exact Or.inr ⟨rfl, by omega⟩
      have hbytes : x.toNatClampNeg * componentBytes (newarray.typeOf t) ≤ 536870912 := by
        have : componentBytes (newarray.typeOf t) ≤ 8 := by rcases hty with ⟨e, -⟩ | ⟨e, -⟩ <;> rw [e] <;> decide
        have h100 := hg.2
        calc x.toNatClampNeg * componentBytes (newarray.typeOf t) ≤ 100000 * 8 := Nat.mul_le_mul h100 this
          _ ≤ 536870912 := by decide
      refine va_newaK hx hb (hts _ hw) rfl hd rfl hg.1 rfl hbytes hc hs rfl fun H1 cA e1 z1 o1 hAr hNm => ?_
      refine k H1 (hO.push z1 o1 (Or.inr (Or.inl ⟨hn, hT0.1, ?_⟩)))
      rw [hT0.2, e1]
      have hdv : defaultValue (newarray.typeOf t) = .int 0 := by rcases hty with ⟨e, -⟩ | ⟨e, -⟩ <;> rw [e] <;> rfl
      have hcA : cA = DA n := by
        rcases hty with ⟨e, rfl⟩ | ⟨e, rfl⟩
        · rw [e] at hNm
          exact Option.some.inj (hNm.symm.trans (hK.1.2 0 (DA 0, .int) rfl).2)
        · rw [e] at hNm
          exact Option.some.inj (hNm.symm.trans (hK.1.2 1 (DA 1, .boolean) rfl).2)
      rw [hcA, hdv]
      refine congrArg (fun f => some (arrV (DA n) x.toNatClampNeg f)) ?_
      funext j
      unfold am_zs
      rw [if_pos rfl]
    · cases h
  · cases h
theorem am_x_anewarray {pc idx n n2 : Nat} {L : am_L} {S : List Value} {T : am_T} {ρ : Nat → Nat → Value} {σ : Nat → Nat → Int32} {st : am_S} (hd : decode q.2.2.1 pc = .ok (.anewarray idx, 3)) (ho : am_CW.any (fun z => z.1 == q.1 && (z.2.1 == idx && z.2.2 == 2)) = true) (h : am_ex3 (.anewarray idx) (pc + 3) n n2 L S T ρ σ = some st) : am_St l D DA b sz q (pc, L, S, T, ρ, σ) st := by
  simp only [am_ex3] at h
  split at h
  · rename_i x S
    split at h
    · rename_i hg
      cases h
      refine am_new_St ?_
      intro p e R s m args below meth co Q ls H locs cells slots hA hc hs hO k
      obtain ⟨hx, hb, hml, hown, hts, hK, hin⟩ := hA
      have hT0 := am_T0 hO
      refine W.anew hx hb hown (hts _ (am_cw ho)) hK.2.1.use rfl hd rfl hg.1 (by have := hg.2; omega) hc hs fun cA kA comp a1 a2 a3 a4 => ?_
      refine k _ (hO.push (by simp) (fun a ha => by rw [Array.getElem?_push, if_neg (Nat.ne_of_lt ha)]) (Or.inr (Or.inr ⟨rfl, hT0.1, ?_⟩)))
      have hcA : cA = DA 2 := by
        obtain ⟨kA', comp', b1, b2, b3, b4⟩ := (hK.1.2 2 (DA 2, .object "BoxNest$Box") rfl).2
        exact Option.some.inj (a1.symm.trans b4)
      rw [hT0.2, arrV_new, hcA]
      simp only [Array.getElem?_push_size]
      refine congrArg (fun f => some (arrV (DA 2) x.toNatClampNeg f)) ?_
      funext j
      unfold am_zr
      rw [if_pos rfl]
      rfl
    · cases h
  · cases h
end AMS
