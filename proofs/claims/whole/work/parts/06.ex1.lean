/-! group 1: no cell is touched -/
section AMS
variable {l : Launch} {D : va_G} {DA : Nat → ClassId} {b sz : Nat} {q : am_M}
theorem am_anyK {α : Type} {xs : List α} {f : α → Bool} (h : xs.any f = true) : ∃ x, x ∈ xs ∧ f x = true := List.any_eq_true.mp h
theorem am_ldw {idx : Nat} {v : Int32} (h : am_KW.any (fun z => z.1 == q.1 && (z.2.1 == idx && z.2.2 == v)) = true) : Cond.constant (am_cn q.1) idx v ∈ am_tb := by
  obtain ⟨z, hz, h⟩ := am_anyK h
  simp only [Bool.and_eq_true, beq_iff_eq] at h
  obtain ⟨h1, h2, h3⟩ := h
  subst h2; subst h3
  rw [← h1]
  exact am_tb_in (am_mem am_KWe _ (List.mem_map.mpr ⟨z, hz, rfl⟩)) rfl
theorem am_ldw2 {idx n : Nat} (h : am_LW.any (fun z => z.1 == q.1 && (z.2.1 == idx && z.2.2 == n)) = true) : Cond.constantLong (am_cn q.1) idx (Int64.ofNat n) ∈ am_tb := by
  obtain ⟨z, hz, h⟩ := am_anyK h
  simp only [Bool.and_eq_true, beq_iff_eq] at h
  obtain ⟨h1, h2, h3⟩ := h
  subst h2; subst h3
  rw [← h1]
  exact am_tb_in (am_mem am_LWe _ (List.mem_map.mpr ⟨z, hz, rfl⟩)) rfl
theorem am_x_iconst {pc n : Nat} {v : Int32} {x : Int} {L : am_L} {S : List Value} {X : am_T × (Nat → Nat → Value) × (Nat → Nat → Int32)} {st : am_S} (hd : decode q.2.2.1 pc = .ok (.iconst x, 1)) (ho : Int32.ofInt x = v) (h : am_ex1 (.iconst x) (pc + 1) n v L S X = some st) : am_St l D DA b sz q (pc, L, S, X) st := by
  cases h
  exact am_st_p (by
    intro p e R s m args below meth c Q ls H locs cells slots hA hf hl hc hs hL hO k
    obtain ⟨hx, hb, hml, hown, hts, hK, hin⟩ := hA
    exact lv_iconst hx hb hd ho k)
theorem am_x_bipush {pc n : Nat} {v : Int32} {x : Int} {L : am_L} {S : List Value} {X : am_T × (Nat → Nat → Value) × (Nat → Nat → Int32)} {st : am_S} (hd : decode q.2.2.1 pc = .ok (.bipush x, 2)) (ho : (Int8.ofInt x).toInt32 = v) (h : am_ex1 (.bipush x) (pc + 2) n v L S X = some st) : am_St l D DA b sz q (pc, L, S, X) st := by
  cases h
  exact am_st_p (by
    intro p e R s m args below meth c Q ls H locs cells slots hA hf hl hc hs hL hO k
    obtain ⟨hx, hb, hml, hown, hts, hK, hin⟩ := hA
    exact lv_bipush hx hb hd ho k)
theorem am_x_sipush {pc n : Nat} {v : Int32} {x : Int} {L : am_L} {S : List Value} {X : am_T × (Nat → Nat → Value) × (Nat → Nat → Int32)} {st : am_S} (hd : decode q.2.2.1 pc = .ok (.sipush x, 3)) (ho : (Int16.ofInt x).toInt32 = v) (h : am_ex1 (.sipush x) (pc + 3) n v L S X = some st) : am_St l D DA b sz q (pc, L, S, X) st := by
  cases h
  exact am_st_p (by
    intro p e R s m args below meth c Q ls H locs cells slots hA hf hl hc hs hL hO k
    obtain ⟨hx, hb, hml, hown, hts, hK, hin⟩ := hA
    exact lv_sipush hx hb hd ho k)
theorem am_x_ldc {pc n : Nat} {v : Int32} {x : Nat} {L : am_L} {S : List Value} {X : am_T × (Nat → Nat → Value) × (Nat → Nat → Int32)} {st : am_S} (hd : decode q.2.2.1 pc = .ok (.ldc x, 2)) (ho : am_KW.any (fun z => z.1 == q.1 && (z.2.1 == x && z.2.2 == v)) = true) (h : am_ex1 (.ldc x) (pc + 2) n v L S X = some st) : am_St l D DA b sz q (pc, L, S, X) st := by
  cases h
  exact am_st_p (by
    intro p e R s m args below meth c Q ls H locs cells slots hA hf hl hc hs hL hO k
    obtain ⟨hx, hb, hml, hown, hts, hK, hin⟩ := hA
    exact lv_ldc hx hb hown (hts _ (am_ldw ho)) hd k)
theorem am_x_ldc_w {pc n : Nat} {v : Int32} {x : Nat} {L : am_L} {S : List Value} {X : am_T × (Nat → Nat → Value) × (Nat → Nat → Int32)} {st : am_S} (hd : decode q.2.2.1 pc = .ok (.ldc_w x, 3)) (ho : am_KW.any (fun z => z.1 == q.1 && (z.2.1 == x && z.2.2 == v)) = true) (h : am_ex1 (.ldc_w x) (pc + 3) n v L S X = some st) : am_St l D DA b sz q (pc, L, S, X) st := by
  cases h
  exact am_st_p (by
    intro p e R s m args below meth c Q ls H locs cells slots hA hf hl hc hs hL hO k
    obtain ⟨hx, hb, hml, hown, hts, hK, hin⟩ := hA
    exact lv_ldcw hx hb hown (hts _ (am_ldw ho)) hd k)
theorem am_x_ldc2_w {pc n : Nat} {v : Int32} {x : Nat} {L : am_L} {S : List Value} {X : am_T × (Nat → Nat → Value) × (Nat → Nat → Int32)} {st : am_S} (hd : decode q.2.2.1 pc = .ok (.ldc2_w x, 3)) (ho : am_LW.any (fun z => z.1 == q.1 && (z.2.1 == x && z.2.2 == n)) = true) (h : am_ex1 (.ldc2_w x) (pc + 3) n v L S X = some st) : am_St l D DA b sz q (pc, L, S, X) st := by
  cases h
  exact am_st_p (by
    intro p e R s m args below meth c Q ls H locs cells slots hA hf hl hc hs hL hO k
    obtain ⟨hx, hb, hml, hown, hts, hK, hin⟩ := hA
    exact lv_ldc2 hx hb hown (hts _ (am_ldw2 ho)) hd k)
theorem am_x_lconst {pc n : Nat} {v : Int32} {x : Fin 2} {L : am_L} {S : List Value} {X : am_T × (Nat → Nat → Value) × (Nat → Nat → Int32)} {st : am_S} (hd : decode q.2.2.1 pc = .ok (.lconst x, 1)) (h : am_ex1 (.lconst x) (pc + 1) n v L S X = some st) : am_St l D DA b sz q (pc, L, S, X) st := by
  cases h
  exact am_st_p (by
    intro p e R s m args below meth c Q ls H locs cells slots hA hf hl hc hs hL hO k
    obtain ⟨hx, hb, hml, hown, hts, hK, hin⟩ := hA
    exact lv_lconst hx hb hd rfl k)
theorem am_x_aconst_null {pc n : Nat} {v : Int32} {L : am_L} {S : List Value} {X : am_T × (Nat → Nat → Value) × (Nat → Nat → Int32)} {st : am_S} (hd : decode q.2.2.1 pc = .ok (.aconst_null, 1)) (h : am_ex1 (.aconst_null) (pc + 1) n v L S X = some st) : am_St l D DA b sz q (pc, L, S, X) st := by
  cases h
  exact am_st_p (by
    intro p e R s m args below meth c Q ls H locs cells slots hA hf hl hc hs hL hO k
    obtain ⟨hx, hb, hml, hown, hts, hK, hin⟩ := hA
    exact lv_null hx hb hd k)
theorem am_x_iload_n {pc n : Nat} {v : Int32} {x : Fin 4} {L : am_L} {S : List Value} {X : am_T × (Nat → Nat → Value) × (Nat → Nat → Int32)} {st : am_S} (hd : decode q.2.2.1 pc = .ok (.iload_n x, 1)) (h : am_ex1 (.iload_n x) (pc + 1) n v L S X = some st) : am_St l D DA b sz q (pc, L, S, X) st := by
  simp only [am_ex1, am_ldI] at h
  split at h
  · rename_i y hv
    cases h
    exact am_st_p (by
      intro p e R s m args below meth c Q ls H locs cells slots hA hf hl hc hs hL hO k
      obtain ⟨hx, hb, hml, hown, hts, hK, hin⟩ := hA
      exact lv_iload_n hx hb hd rfl (hL.at hv) k)
  · cases h
theorem am_x_iload {pc n : Nat} {v : Int32} {x : Nat} {L : am_L} {S : List Value} {X : am_T × (Nat → Nat → Value) × (Nat → Nat → Int32)} {st : am_S} (hd : decode q.2.2.1 pc = .ok (.iload x, 2)) (h : am_ex1 (.iload x) (pc + 2) n v L S X = some st) : am_St l D DA b sz q (pc, L, S, X) st := by
  simp only [am_ex1, am_ldI] at h
  split at h
  · rename_i y hv
    cases h
    exact am_st_p (by
      intro p e R s m args below meth c Q ls H locs cells slots hA hf hl hc hs hL hO k
      obtain ⟨hx, hb, hml, hown, hts, hK, hin⟩ := hA
      exact lv_iload hx hb hd (hL.at hv) k)
  · cases h
theorem am_x_lload_n {pc n : Nat} {v : Int32} {x : Fin 4} {L : am_L} {S : List Value} {X : am_T × (Nat → Nat → Value) × (Nat → Nat → Int32)} {st : am_S} (hd : decode q.2.2.1 pc = .ok (.lload_n x, 1)) (h : am_ex1 (.lload_n x) (pc + 1) n v L S X = some st) : am_St l D DA b sz q (pc, L, S, X) st := by
  simp only [am_ex1, am_ldL] at h
  split at h
  · rename_i y hv
    cases h
    exact am_st_p (by
      intro p e R s m args below meth c Q ls H locs cells slots hA hf hl hc hs hL hO k
      obtain ⟨hx, hb, hml, hown, hts, hK, hin⟩ := hA
      exact lv_lload_n hx hb hd rfl (hL.at hv) k)
  · cases h
theorem am_x_lload {pc n : Nat} {v : Int32} {x : Nat} {L : am_L} {S : List Value} {X : am_T × (Nat → Nat → Value) × (Nat → Nat → Int32)} {st : am_S} (hd : decode q.2.2.1 pc = .ok (.lload x, 2)) (h : am_ex1 (.lload x) (pc + 2) n v L S X = some st) : am_St l D DA b sz q (pc, L, S, X) st := by
  simp only [am_ex1, am_ldL] at h
  split at h
  · rename_i y hv
    cases h
    exact am_st_p (by
      intro p e R s m args below meth c Q ls H locs cells slots hA hf hl hc hs hL hO k
      obtain ⟨hx, hb, hml, hown, hts, hK, hin⟩ := hA
      exact lv_lload hx hb hd (hL.at hv) k)
  · cases h
theorem am_x_aload_n {pc n : Nat} {v : Int32} {x : Fin 4} {L : am_L} {S : List Value} {X : am_T × (Nat → Nat → Value) × (Nat → Nat → Int32)} {st : am_S} (hd : decode q.2.2.1 pc = .ok (.aload_n x, 1)) (h : am_ex1 (.aload_n x) (pc + 1) n v L S X = some st) : am_St l D DA b sz q (pc, L, S, X) st := by
  simp only [am_ex1, am_ldA] at h
  split at h
  · rename_i y hv
    cases h
    exact am_st_p (by
      intro p e R s m args below meth c Q ls H locs cells slots hA hf hl hc hs hL hO k
      obtain ⟨hx, hb, hml, hown, hts, hK, hin⟩ := hA
      exact lv_aload_n hx hb hd rfl (hL.at hv) k)
  · rename_i hv
    cases h
    exact am_st_p (by
      intro p e R s m args below meth c Q ls H locs cells slots hA hf hl hc hs hL hO k
      obtain ⟨hx, hb, hml, hown, hts, hK, hin⟩ := hA
      exact lv_aload_nN hx hb hd rfl (hL.at hv) k)
  · cases h
theorem am_x_aload {pc n : Nat} {v : Int32} {x : Nat} {L : am_L} {S : List Value} {X : am_T × (Nat → Nat → Value) × (Nat → Nat → Int32)} {st : am_S} (hd : decode q.2.2.1 pc = .ok (.aload x, 2)) (h : am_ex1 (.aload x) (pc + 2) n v L S X = some st) : am_St l D DA b sz q (pc, L, S, X) st := by
  simp only [am_ex1, am_ldA] at h
  split at h
  · rename_i y hv
    cases h
    exact am_st_p (by
      intro p e R s m args below meth c Q ls H locs cells slots hA hf hl hc hs hL hO k
      obtain ⟨hx, hb, hml, hown, hts, hK, hin⟩ := hA
      exact lv_aload hx hb hd (hL.at hv) k)
  · rename_i hv
    cases h
    exact am_st_p (by
      intro p e R s m args below meth c Q ls H locs cells slots hA hf hl hc hs hL hO k
      obtain ⟨hx, hb, hml, hown, hts, hK, hin⟩ := hA
      exact lv_aloadN hx hb hd (hL.at hv) k)
  · cases h
theorem am_x_istore_n {pc n : Nat} {v : Int32} {x : Fin 4} {L : am_L} {S : List Value} {X : am_T × (Nat → Nat → Value) × (Nat → Nat → Int32)} {st : am_S} (hd : decode q.2.2.1 pc = .ok (.istore_n x, 1)) (h : am_ex1 (.istore_n x) (pc + 1) n v L S X = some st) : am_St l D DA b sz q (pc, L, S, X) st := by
  simp only [am_ex1, am_stI] at h
  split at h
  · split at h
    · rename_i L2 hv
      cases h
      exact am_st_l (by
        intro p e R s m args below meth c Q ls H locs cells slots hA hL k
        obtain ⟨hx, hb, hml, hown, hts, hK, hin⟩ := hA
        exact lv_istore_n hx hb hd rfl hL.has (by rw [← hL.1]; exact (am_st1_spec hv).1) rfl (fun ls2 h2 => k ls2 (am_Ls.of1 hL.1 hv h2)))
    · cases h
  · cases h
theorem am_x_istore {pc n : Nat} {v : Int32} {x : Nat} {L : am_L} {S : List Value} {X : am_T × (Nat → Nat → Value) × (Nat → Nat → Int32)} {st : am_S} (hd : decode q.2.2.1 pc = .ok (.istore x, 2)) (h : am_ex1 (.istore x) (pc + 2) n v L S X = some st) : am_St l D DA b sz q (pc, L, S, X) st := by
  simp only [am_ex1, am_stI] at h
  split at h
  · split at h
    · rename_i L2 hv
      cases h
      exact am_st_l (by
        intro p e R s m args below meth c Q ls H locs cells slots hA hL k
        obtain ⟨hx, hb, hml, hown, hts, hK, hin⟩ := hA
        exact lv_istore hx hb hd hL.has (by rw [← hL.1]; exact (am_st1_spec hv).1) rfl (fun ls2 h2 => k ls2 (am_Ls.of1 hL.1 hv h2)))
    · cases h
  · cases h
theorem am_x_lstore_n {pc n : Nat} {v : Int32} {x : Fin 4} {L : am_L} {S : List Value} {X : am_T × (Nat → Nat → Value) × (Nat → Nat → Int32)} {st : am_S} (hd : decode q.2.2.1 pc = .ok (.lstore_n x, 1)) (h : am_ex1 (.lstore_n x) (pc + 1) n v L S X = some st) : am_St l D DA b sz q (pc, L, S, X) st := by
  simp only [am_ex1, am_stL] at h
  split at h
  · split at h
    · rename_i L2 hv
      cases h
      exact am_st_l (by
        intro p e R s m args below meth c Q ls H locs cells slots hA hL k
        obtain ⟨hx, hb, hml, hown, hts, hK, hin⟩ := hA
        exact lv_lstore_n hx hb hd rfl hL.has (by rw [← hL.1]; exact (am_st2_spec hv).1) rfl (fun ls2 h2 => k ls2 (am_Ls.of2 hL.1 hv h2)))
    · cases h
  · cases h
theorem am_x_lstore {pc n : Nat} {v : Int32} {x : Nat} {L : am_L} {S : List Value} {X : am_T × (Nat → Nat → Value) × (Nat → Nat → Int32)} {st : am_S} (hd : decode q.2.2.1 pc = .ok (.lstore x, 2)) (h : am_ex1 (.lstore x) (pc + 2) n v L S X = some st) : am_St l D DA b sz q (pc, L, S, X) st := by
  simp only [am_ex1, am_stL] at h
  split at h
  · split at h
    · rename_i L2 hv
      cases h
      exact am_st_l (by
        intro p e R s m args below meth c Q ls H locs cells slots hA hL k
        obtain ⟨hx, hb, hml, hown, hts, hK, hin⟩ := hA
        exact lv_lstore hx hb hd hL.has (by rw [← hL.1]; exact (am_st2_spec hv).1) rfl (fun ls2 h2 => k ls2 (am_Ls.of2 hL.1 hv h2)))
    · cases h
  · cases h
theorem am_x_astore_n {pc n : Nat} {v : Int32} {x : Fin 4} {L : am_L} {S : List Value} {X : am_T × (Nat → Nat → Value) × (Nat → Nat → Int32)} {st : am_S} (hd : decode q.2.2.1 pc = .ok (.astore_n x, 1)) (h : am_ex1 (.astore_n x) (pc + 1) n v L S X = some st) : am_St l D DA b sz q (pc, L, S, X) st := by
  simp only [am_ex1, am_stA] at h
  split at h
  · split at h
    · rename_i L2 hv
      cases h
      exact am_st_l (by
        intro p e R s m args below meth c Q ls H locs cells slots hA hL k
        obtain ⟨hx, hb, hml, hown, hts, hK, hin⟩ := hA
        exact lv_astore_n hx hb hd rfl hL.has (by rw [← hL.1]; exact (am_st1_spec hv).1) rfl (fun ls2 h2 => k ls2 (am_Ls.of1 hL.1 hv h2)))
    · cases h
  · split at h
    · rename_i L2 hv
      cases h
      exact am_st_l (by
        intro p e R s m args below meth c Q ls H locs cells slots hA hL k
        obtain ⟨hx, hb, hml, hown, hts, hK, hin⟩ := hA
        exact lv_astore_nN hx hb hd rfl hL.has (by rw [← hL.1]; exact (am_st1_spec hv).1) rfl (fun ls2 h2 => k ls2 (am_Ls.of1 hL.1 hv h2)))
    · cases h
  · cases h
theorem am_x_astore {pc n : Nat} {v : Int32} {x : Nat} {L : am_L} {S : List Value} {X : am_T × (Nat → Nat → Value) × (Nat → Nat → Int32)} {st : am_S} (hd : decode q.2.2.1 pc = .ok (.astore x, 2)) (h : am_ex1 (.astore x) (pc + 2) n v L S X = some st) : am_St l D DA b sz q (pc, L, S, X) st := by
  simp only [am_ex1, am_stA] at h
  split at h
  · split at h
    · rename_i L2 hv
      cases h
      exact am_st_l (by
        intro p e R s m args below meth c Q ls H locs cells slots hA hL k
        obtain ⟨hx, hb, hml, hown, hts, hK, hin⟩ := hA
        exact lv_astore hx hb hd hL.has (by rw [← hL.1]; exact (am_st1_spec hv).1) rfl (fun ls2 h2 => k ls2 (am_Ls.of1 hL.1 hv h2)))
    · cases h
  · split at h
    · rename_i L2 hv
      cases h
      exact am_st_l (by
        intro p e R s m args below meth c Q ls H locs cells slots hA hL k
        obtain ⟨hx, hb, hml, hown, hts, hK, hin⟩ := hA
        exact lv_astoreN hx hb hd hL.has (by rw [← hL.1]; exact (am_st1_spec hv).1) rfl (fun ls2 h2 => k ls2 (am_Ls.of1 hL.1 hv h2)))
    · cases h
  · cases h
theorem am_x_iinc {pc n : Nat} {v : Int32} {x : Nat} {y : Int} {L : am_L} {S : List Value} {X : am_T × (Nat → Nat → Value) × (Nat → Nat → Int32)} {st : am_S} (hd : decode q.2.2.1 pc = .ok (.iinc x y, 3)) (ho : Int32.ofInt y = v) (h : am_ex1 (.iinc x y) (pc + 3) n v L S X = some st) : am_St l D DA b sz q (pc, L, S, X) st := by
  simp only [am_ex1] at h
  split at h
  · rename_i z hz
    split at h
    · rename_i L2 hv
      cases h
      exact am_st_l (by
        intro p e R s m args below meth c Q ls H locs cells slots hA hL k
        obtain ⟨hx, hb, hml, hown, hts, hK, hin⟩ := hA
        obtain ⟨k0, hk0⟩ := am_lst_at (b := b) (sz := sz) hz
        exact lv_iinc hx hb hd hL.has hk0 (by rw [ho]) (by rw [← hL.1]; exact (am_st1_spec hv).1) rfl (fun ls2 h2 => k ls2 (am_Ls.of1 hL.1 hv h2)))
    · cases h
  · cases h
theorem am_x_iadd {pc n : Nat} {v : Int32} {L : am_L} {S : List Value} {X : am_T × (Nat → Nat → Value) × (Nat → Nat → Int32)} {st : am_S} (hd : decode q.2.2.1 pc = .ok (.iadd, 1)) (h : am_ex1 (.iadd) (pc + 1) n v L S X = some st) : am_St l D DA b sz q (pc, L, S, X) st := by
  simp only [am_ex1, am_op2] at h
  split at h
  · cases h
    exact am_st_p (by
      intro p e R s m args below meth c Q ls H locs cells slots hA hf hl hc hs hL hO k
      obtain ⟨hx, hb, hml, hown, hts, hK, hin⟩ := hA
      exact lv_iadd hx hb hd k)
  · cases h
theorem am_x_isub {pc n : Nat} {v : Int32} {L : am_L} {S : List Value} {X : am_T × (Nat → Nat → Value) × (Nat → Nat → Int32)} {st : am_S} (hd : decode q.2.2.1 pc = .ok (.isub, 1)) (h : am_ex1 (.isub) (pc + 1) n v L S X = some st) : am_St l D DA b sz q (pc, L, S, X) st := by
  simp only [am_ex1, am_op2] at h
  split at h
  · cases h
    exact am_st_p (by
      intro p e R s m args below meth c Q ls H locs cells slots hA hf hl hc hs hL hO k
      obtain ⟨hx, hb, hml, hown, hts, hK, hin⟩ := hA
      exact lv_isub hx hb hd k)
  · cases h
theorem am_x_imul {pc n : Nat} {v : Int32} {L : am_L} {S : List Value} {X : am_T × (Nat → Nat → Value) × (Nat → Nat → Int32)} {st : am_S} (hd : decode q.2.2.1 pc = .ok (.imul, 1)) (h : am_ex1 (.imul) (pc + 1) n v L S X = some st) : am_St l D DA b sz q (pc, L, S, X) st := by
  simp only [am_ex1, am_op2] at h
  split at h
  · cases h
    exact am_st_p (by
      intro p e R s m args below meth c Q ls H locs cells slots hA hf hl hc hs hL hO k
      obtain ⟨hx, hb, hml, hown, hts, hK, hin⟩ := hA
      exact lv_imul hx hb hd k)
  · cases h
theorem am_x_iand {pc n : Nat} {v : Int32} {L : am_L} {S : List Value} {X : am_T × (Nat → Nat → Value) × (Nat → Nat → Int32)} {st : am_S} (hd : decode q.2.2.1 pc = .ok (.iand, 1)) (h : am_ex1 (.iand) (pc + 1) n v L S X = some st) : am_St l D DA b sz q (pc, L, S, X) st := by
  simp only [am_ex1, am_op2] at h
  split at h
  · cases h
    exact am_st_p (by
      intro p e R s m args below meth c Q ls H locs cells slots hA hf hl hc hs hL hO k
      obtain ⟨hx, hb, hml, hown, hts, hK, hin⟩ := hA
      exact lv_iand hx hb hd k)
  · cases h
theorem am_x_ior {pc n : Nat} {v : Int32} {L : am_L} {S : List Value} {X : am_T × (Nat → Nat → Value) × (Nat → Nat → Int32)} {st : am_S} (hd : decode q.2.2.1 pc = .ok (.ior, 1)) (h : am_ex1 (.ior) (pc + 1) n v L S X = some st) : am_St l D DA b sz q (pc, L, S, X) st := by
  simp only [am_ex1, am_op2] at h
  split at h
  · cases h
    exact am_st_p (by
      intro p e R s m args below meth c Q ls H locs cells slots hA hf hl hc hs hL hO k
      obtain ⟨hx, hb, hml, hown, hts, hK, hin⟩ := hA
      exact lv_ior hx hb hd k)
  · cases h
theorem am_x_ixor {pc n : Nat} {v : Int32} {L : am_L} {S : List Value} {X : am_T × (Nat → Nat → Value) × (Nat → Nat → Int32)} {st : am_S} (hd : decode q.2.2.1 pc = .ok (.ixor, 1)) (h : am_ex1 (.ixor) (pc + 1) n v L S X = some st) : am_St l D DA b sz q (pc, L, S, X) st := by
  simp only [am_ex1, am_op2] at h
  split at h
  · cases h
    exact am_st_p (by
      intro p e R s m args below meth c Q ls H locs cells slots hA hf hl hc hs hL hO k
      obtain ⟨hx, hb, hml, hown, hts, hK, hin⟩ := hA
      exact lv_ixor hx hb hd k)
  · cases h
theorem am_x_ishl {pc n : Nat} {v : Int32} {L : am_L} {S : List Value} {X : am_T × (Nat → Nat → Value) × (Nat → Nat → Int32)} {st : am_S} (hd : decode q.2.2.1 pc = .ok (.ishl, 1)) (h : am_ex1 (.ishl) (pc + 1) n v L S X = some st) : am_St l D DA b sz q (pc, L, S, X) st := by
  simp only [am_ex1, am_op2] at h
  split at h
  · cases h
    exact am_st_p (by
      intro p e R s m args below meth c Q ls H locs cells slots hA hf hl hc hs hL hO k
      obtain ⟨hx, hb, hml, hown, hts, hK, hin⟩ := hA
      exact lv_ishl hx hb hd k)
  · cases h
theorem am_x_ishr {pc n : Nat} {v : Int32} {L : am_L} {S : List Value} {X : am_T × (Nat → Nat → Value) × (Nat → Nat → Int32)} {st : am_S} (hd : decode q.2.2.1 pc = .ok (.ishr, 1)) (h : am_ex1 (.ishr) (pc + 1) n v L S X = some st) : am_St l D DA b sz q (pc, L, S, X) st := by
  simp only [am_ex1, am_op2] at h
  split at h
  · cases h
    exact am_st_p (by
      intro p e R s m args below meth c Q ls H locs cells slots hA hf hl hc hs hL hO k
      obtain ⟨hx, hb, hml, hown, hts, hK, hin⟩ := hA
      exact lv_ishr hx hb hd k)
  · cases h
theorem am_x_iushr {pc n : Nat} {v : Int32} {L : am_L} {S : List Value} {X : am_T × (Nat → Nat → Value) × (Nat → Nat → Int32)} {st : am_S} (hd : decode q.2.2.1 pc = .ok (.iushr, 1)) (h : am_ex1 (.iushr) (pc + 1) n v L S X = some st) : am_St l D DA b sz q (pc, L, S, X) st := by
  simp only [am_ex1, am_op2] at h
  split at h
  · cases h
    exact am_st_p (by
      intro p e R s m args below meth c Q ls H locs cells slots hA hf hl hc hs hL hO k
      obtain ⟨hx, hb, hml, hown, hts, hK, hin⟩ := hA
      exact lv_iushr hx hb hd rfl k)
  · cases h
theorem am_x_lmul {pc n : Nat} {v : Int32} {L : am_L} {S : List Value} {X : am_T × (Nat → Nat → Value) × (Nat → Nat → Int32)} {st : am_S} (hd : decode q.2.2.1 pc = .ok (.lmul, 1)) (h : am_ex1 (.lmul) (pc + 1) n v L S X = some st) : am_St l D DA b sz q (pc, L, S, X) st := by
  simp only [am_ex1, am_opL] at h
  split at h
  · cases h
    exact am_st_p (by
      intro p e R s m args below meth c Q ls H locs cells slots hA hf hl hc hs hL hO k
      obtain ⟨hx, hb, hml, hown, hts, hK, hin⟩ := hA
      exact lv_lmul hx hb hd k)
  · cases h
theorem am_x_land {pc n : Nat} {v : Int32} {L : am_L} {S : List Value} {X : am_T × (Nat → Nat → Value) × (Nat → Nat → Int32)} {st : am_S} (hd : decode q.2.2.1 pc = .ok (.land, 1)) (h : am_ex1 (.land) (pc + 1) n v L S X = some st) : am_St l D DA b sz q (pc, L, S, X) st := by
  simp only [am_ex1, am_opL] at h
  split at h
  · cases h
    exact am_st_p (by
      intro p e R s m args below meth c Q ls H locs cells slots hA hf hl hc hs hL hO k
      obtain ⟨hx, hb, hml, hown, hts, hK, hin⟩ := hA
      exact lv_land hx hb hd k)
  · cases h
theorem am_x_lor {pc n : Nat} {v : Int32} {L : am_L} {S : List Value} {X : am_T × (Nat → Nat → Value) × (Nat → Nat → Int32)} {st : am_S} (hd : decode q.2.2.1 pc = .ok (.lor, 1)) (h : am_ex1 (.lor) (pc + 1) n v L S X = some st) : am_St l D DA b sz q (pc, L, S, X) st := by
  simp only [am_ex1, am_opL] at h
  split at h
  · cases h
    exact am_st_p (by
      intro p e R s m args below meth c Q ls H locs cells slots hA hf hl hc hs hL hO k
      obtain ⟨hx, hb, hml, hown, hts, hK, hin⟩ := hA
      exact lv_lor hx hb hd k)
  · cases h
theorem am_x_idiv {pc n : Nat} {v : Int32} {L : am_L} {S : List Value} {X : am_T × (Nat → Nat → Value) × (Nat → Nat → Int32)} {st : am_S} (hd : decode q.2.2.1 pc = .ok (.idiv, 1)) (h : am_ex1 (.idiv) (pc + 1) n v L S X = some st) : am_St l D DA b sz q (pc, L, S, X) st := by
  simp only [am_ex1] at h
  split at h
  · split at h
    · cases h
    · rename_i hne
      cases h
      exact am_st_p (by
        intro p e R s m args below meth c Q ls H locs cells slots hA hf hl hc hs hL hO k
        obtain ⟨hx, hb, hml, hown, hts, hK, hin⟩ := hA
        exact lv_idiv hx hb hd hne k)
  · cases h
theorem am_x_irem {pc n : Nat} {v : Int32} {L : am_L} {S : List Value} {X : am_T × (Nat → Nat → Value) × (Nat → Nat → Int32)} {st : am_S} (hd : decode q.2.2.1 pc = .ok (.irem, 1)) (h : am_ex1 (.irem) (pc + 1) n v L S X = some st) : am_St l D DA b sz q (pc, L, S, X) st := by
  simp only [am_ex1] at h
  split at h
  · split at h
    · cases h
    · rename_i hne
      cases h
      exact am_st_p (by
        intro p e R s m args below meth c Q ls H locs cells slots hA hf hl hc hs hL hO k
        obtain ⟨hx, hb, hml, hown, hts, hK, hin⟩ := hA
        exact lv_irem hx hb hd hne k)
  · cases h
theorem am_x_ldiv {pc n : Nat} {v : Int32} {L : am_L} {S : List Value} {X : am_T × (Nat → Nat → Value) × (Nat → Nat → Int32)} {st : am_S} (hd : decode q.2.2.1 pc = .ok (.ldiv, 1)) (h : am_ex1 (.ldiv) (pc + 1) n v L S X = some st) : am_St l D DA b sz q (pc, L, S, X) st := by
  simp only [am_ex1] at h
  split at h
  · split at h
    · cases h
    · rename_i hne
      cases h
      exact am_st_p (by
        intro p e R s m args below meth c Q ls H locs cells slots hA hf hl hc hs hL hO k
        obtain ⟨hx, hb, hml, hown, hts, hK, hin⟩ := hA
        exact lv_ldiv hx hb hd hne k)
  · cases h
theorem am_x_ineg {pc n : Nat} {v : Int32} {L : am_L} {S : List Value} {X : am_T × (Nat → Nat → Value) × (Nat → Nat → Int32)} {st : am_S} (hd : decode q.2.2.1 pc = .ok (.ineg, 1)) (h : am_ex1 (.ineg) (pc + 1) n v L S X = some st) : am_St l D DA b sz q (pc, L, S, X) st := by
  simp only [am_ex1] at h
  split at h
  · cases h
    exact am_st_p (by
      intro p e R s m args below meth c Q ls H locs cells slots hA hf hl hc hs hL hO k
      obtain ⟨hx, hb, hml, hown, hts, hK, hin⟩ := hA
      exact lv_ineg hx hb hd k)
  · cases h
theorem am_x_lshl {pc n : Nat} {v : Int32} {L : am_L} {S : List Value} {X : am_T × (Nat → Nat → Value) × (Nat → Nat → Int32)} {st : am_S} (hd : decode q.2.2.1 pc = .ok (.lshl, 1)) (h : am_ex1 (.lshl) (pc + 1) n v L S X = some st) : am_St l D DA b sz q (pc, L, S, X) st := by
  simp only [am_ex1] at h
  split at h
  · cases h
    exact am_st_p (by
      intro p e R s m args below meth c Q ls H locs cells slots hA hf hl hc hs hL hO k
      obtain ⟨hx, hb, hml, hown, hts, hK, hin⟩ := hA
      exact lv_lshl hx hb hd rfl k)
  · cases h
theorem am_x_lshr {pc n : Nat} {v : Int32} {L : am_L} {S : List Value} {X : am_T × (Nat → Nat → Value) × (Nat → Nat → Int32)} {st : am_S} (hd : decode q.2.2.1 pc = .ok (.lshr, 1)) (h : am_ex1 (.lshr) (pc + 1) n v L S X = some st) : am_St l D DA b sz q (pc, L, S, X) st := by
  simp only [am_ex1] at h
  split at h
  · cases h
    exact am_st_p (by
      intro p e R s m args below meth c Q ls H locs cells slots hA hf hl hc hs hL hO k
      obtain ⟨hx, hb, hml, hown, hts, hK, hin⟩ := hA
      exact lv_lshr hx hb hd rfl k)
  · cases h
theorem am_x_lcmp {pc n : Nat} {v : Int32} {L : am_L} {S : List Value} {X : am_T × (Nat → Nat → Value) × (Nat → Nat → Int32)} {st : am_S} (hd : decode q.2.2.1 pc = .ok (.lcmp, 1)) (h : am_ex1 (.lcmp) (pc + 1) n v L S X = some st) : am_St l D DA b sz q (pc, L, S, X) st := by
  simp only [am_ex1] at h
  split at h
  · cases h
    exact am_st_p (by
      intro p e R s m args below meth c Q ls H locs cells slots hA hf hl hc hs hL hO k
      obtain ⟨hx, hb, hml, hown, hts, hK, hin⟩ := hA
      exact W.lcmp hx hb hd k)
  · cases h
theorem am_x_i2l {pc n : Nat} {v : Int32} {L : am_L} {S : List Value} {X : am_T × (Nat → Nat → Value) × (Nat → Nat → Int32)} {st : am_S} (hd : decode q.2.2.1 pc = .ok (.i2l, 1)) (h : am_ex1 (.i2l) (pc + 1) n v L S X = some st) : am_St l D DA b sz q (pc, L, S, X) st := by
  simp only [am_ex1] at h
  split at h
  · cases h
    exact am_st_p (by
      intro p e R s m args below meth c Q ls H locs cells slots hA hf hl hc hs hL hO k
      obtain ⟨hx, hb, hml, hown, hts, hK, hin⟩ := hA
      exact lv_i2l hx hb hd rfl k)
  · cases h
theorem am_x_l2i {pc n : Nat} {v : Int32} {L : am_L} {S : List Value} {X : am_T × (Nat → Nat → Value) × (Nat → Nat → Int32)} {st : am_S} (hd : decode q.2.2.1 pc = .ok (.l2i, 1)) (h : am_ex1 (.l2i) (pc + 1) n v L S X = some st) : am_St l D DA b sz q (pc, L, S, X) st := by
  simp only [am_ex1] at h
  split at h
  · cases h
    exact am_st_p (by
      intro p e R s m args below meth c Q ls H locs cells slots hA hf hl hc hs hL hO k
      obtain ⟨hx, hb, hml, hown, hts, hK, hin⟩ := hA
      exact lv_l2i hx hb hd rfl k)
  · cases h
theorem am_x_dup {pc n : Nat} {v : Int32} {L : am_L} {S : List Value} {X : am_T × (Nat → Nat → Value) × (Nat → Nat → Int32)} {st : am_S} (hd : decode q.2.2.1 pc = .ok (.dup, 1)) (h : am_ex1 (.dup) (pc + 1) n v L S X = some st) : am_St l D DA b sz q (pc, L, S, X) st := by
  simp only [am_ex1] at h
  split at h
  · split at h
    · rename_i h1
      cases h
      exact am_st_p (by
        intro p e R s m args below meth c Q ls H locs cells slots hA hf hl hc hs hL hO k
        obtain ⟨hx, hb, hml, hown, hts, hK, hin⟩ := hA
        exact lv_dup hx hb hd (am_v_c1 h1) k)
    · cases h
  · cases h
theorem am_x_pop {pc n : Nat} {v : Int32} {L : am_L} {S : List Value} {X : am_T × (Nat → Nat → Value) × (Nat → Nat → Int32)} {st : am_S} (hd : decode q.2.2.1 pc = .ok (.pop, 1)) (h : am_ex1 (.pop) (pc + 1) n v L S X = some st) : am_St l D DA b sz q (pc, L, S, X) st := by
  simp only [am_ex1] at h
  split at h
  · split at h
    · rename_i h1
      cases h
      exact am_st_p (by
        intro p e R s m args below meth c Q ls H locs cells slots hA hf hl hc hs hL hO k
        obtain ⟨hx, hb, hml, hown, hts, hK, hin⟩ := hA
        exact lv_pop hx hb hd (am_v_c1 h1) k)
    · cases h
  · cases h
theorem am_x_dup2 {pc n : Nat} {v : Int32} {L : am_L} {S : List Value} {X : am_T × (Nat → Nat → Value) × (Nat → Nat → Int32)} {st : am_S} (hd : decode q.2.2.1 pc = .ok (.dup2, 1)) (h : am_ex1 (.dup2) (pc + 1) n v L S X = some st) : am_St l D DA b sz q (pc, L, S, X) st := by
  simp only [am_ex1] at h
  split at h
  · split at h
    · rename_i h1
      cases h
      exact am_st_p (by
        intro p e R s m args below meth c Q ls H locs cells slots hA hf hl hc hs hL hO k
        obtain ⟨hx, hb, hml, hown, hts, hK, hin⟩ := hA
        exact lv_dup2_11 hx hb hd (am_v_c1 (Bool.and_eq_true _ _ ▸ h1 : _ ∧ _).1) (am_v_c1 (Bool.and_eq_true _ _ ▸ h1 : _ ∧ _).2) k)
    · cases h
  · cases h
end AMS
