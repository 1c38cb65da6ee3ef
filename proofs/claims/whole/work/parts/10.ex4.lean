/-! group 4, and all groups together -/
section AMS
variable {l : Launch} {D : va_G} {DA : Nat → ClassId} {b sz : Nat} {q : am_M}
theorem am_cat_v (S : List Value) : ((S.map (am_v b sz)).map fun v => v.category).sum = am_cat S := by
  unfold am_cat
  rw [List.map_map]
  congr 1
  exact List.map_congr_left (fun v _ => am_v_cat v)
theorem am_ow {idx : Nat} (h : am_OW.any (fun z => z.1 == q.1 && z.2 == idx) = true) : Cond.methodLink (am_cn q.1) idx objectInit ∈ am_tb := by
  obtain ⟨z, hz, h⟩ := am_anyK h
  simp only [Bool.and_eq_true, beq_iff_eq] at h
  obtain ⟨h1, h2⟩ := h
  subst h2
  rw [← h1]
  exact am_tb_in (am_mem am_OWe _ (List.mem_map.mpr ⟨z, hz, rfl⟩)) rfl
theorem am_mw {idx n : Nat} (h : am_MW.any (fun z => z.1 == q.1 && (z.2.1 == idx && z.2.2 == n)) = true) : Cond.methodLink (am_cn q.1) idx (am_y n) ∈ am_tb := by
  obtain ⟨z, hz, h⟩ := am_anyK h
  simp only [Bool.and_eq_true, beq_iff_eq] at h
  obtain ⟨h1, h2, h3⟩ := h
  subst h2; subst h3
  rw [← h1]
  exact am_tb_in (am_mem am_MWe _ (List.mem_map.mpr ⟨z, hz, rfl⟩)) rfl
theorem am_x_objInit {pc idx n n2 : Nat} {L : am_L} {S : List Value} {X : am_T × (Nat → Nat → Value) × (Nat → Nat → Int32)} {st : am_S} (hd : decode q.2.2.1 pc = .ok (.invokespecial idx, 3)) (ho : n2 = 9 → am_OW.any (fun z => z.1 == q.1 && z.2 == idx) = true) (h : am_ex4 (.invokespecial idx) (pc + 3) n n2 L S X = some st) : am_St l D DA b sz q (pc, L, S, X) st := by
  simp only [am_ex4] at h
  split at h
  · rename_i c S
    split at h
    · rename_i hg
      cases h
      exact am_st_p (by
        intro p e R s m args below meth co Q ls H locs cells slots hA hf hl hc hs hL hO k
        obtain ⟨hx, hb, hml, hown, hts, hK, hin⟩ := hA
        refine W.objInit hx hb hown (hts _ (am_ow (ho hg.1))) (hts _ (am_tb_in (List.mem_of_getElem? am_oi) rfl)) (hts _ (am_tb_in (List.mem_of_getElem? am_oc) rfl)) rfl (by rw [hml]; exact hL.2.1) rfl hd hf ?_ k
        rw [am_cat_v]
        have : 2 * JFrame.monitorRoom (F0 m pc ls (List.map (am_v b sz) (Value.ref c :: S))) = 0 := rfl
        have := hg.2
        omega)
    · cases h
  · cases h
theorem am_x_math {pc idx n n2 : Nat} {L : am_L} {S : List Value} {X : am_T × (Nat → Nat → Value) × (Nat → Nat → Int32)} {st : am_S} (hd : decode q.2.2.1 pc = .ok (.invokestatic idx, 3)) (ho : am_MW.any (fun z => z.1 == q.1 && (z.2.1 == idx && z.2.2 == n)) = true) (h : am_ex4 (.invokestatic idx) (pc + 3) n n2 L S X = some st) : am_St l D DA b sz q (pc, L, S, X) st := by
  have hm := am_mw ho
  simp only [am_ex4] at h
  split at h
  · rename_i y S1
    split at h
    · split at h
      · rename_i hn
        split at h
        · rename_i hcat
          cases h
          subst hn
          exact am_st_p (by
            intro p e R s m args below meth co Q ls H locs cells slots hA hf hl hc hs hL hO k
            obtain ⟨hx, hb, hml, hown, hts, hK, hin⟩ := hA
            refine va_mabs hx hb (by rw [hml]; exact hL.2.1.symm) hown (hts _ (am_math_abs.1 ▸ hm)) (hts _ (am_tb_in (List.mem_of_getElem? am_math_abs.2.1) rfl)) (hts _ (am_tb_in (List.mem_of_getElem? am_math_abs.2.2.1) rfl)) (hts _ (am_tb_in (List.mem_of_getElem? am_math_abs.2.2.2) rfl)) hf ?_ hc hs hd k
            rw [am_cat_v]
            omega)
        · cases h
      · split at h
        · rename_i x S
          split at h
          · rename_i hcat
            split at h
            · rename_i hn
              cases h
              subst hn
              exact am_st_p (by
                intro p e R s m args below meth co Q ls H locs cells slots hA hf hl hc hs hL hO k
                obtain ⟨hx, hb, hml, hown, hts, hK, hin⟩ := hA
                refine va_mmax hx hb (by rw [hml]; exact hL.2.1.symm) hown (hts _ (am_math_max.1 ▸ hm)) (hts _ (am_tb_in (List.mem_of_getElem? am_math_max.2.1) rfl)) (hts _ (am_tb_in (List.mem_of_getElem? am_math_max.2.2.1) rfl)) (hts _ (am_tb_in (List.mem_of_getElem? am_math_max.2.2.2) rfl)) hf ?_ hc hs hd k
                rw [am_cat_v]
                omega)
            · split at h
              · rename_i hn
                cases h
                subst hn
                exact am_st_p (by
                  intro p e R s m args below meth co Q ls H locs cells slots hA hf hl hc hs hL hO k
                  obtain ⟨hx, hb, hml, hown, hts, hK, hin⟩ := hA
                  refine va_mmin hx hb (by rw [hml]; exact hL.2.1.symm) hown (hts _ (am_math_min.1 ▸ hm)) (hts _ (am_tb_in (List.mem_of_getElem? am_math_min.2.1) rfl)) (hts _ (am_tb_in (List.mem_of_getElem? am_math_min.2.2.1) rfl)) (hts _ (am_tb_in (List.mem_of_getElem? am_math_min.2.2.2) rfl)) hf ?_ hc hs hd k
                  rw [am_cat_v]
                  omega)
              · cases h
          · cases h
        · cases h
    · cases h
  · cases h
theorem am_ex_sound {I : am_I} {st st' : am_S} (hc : am_chk q I = true) (hp : I.1 = st.1) (h : am_ex I st = some st') : am_St l D DA b sz q st st' := by
  obtain ⟨pc, i, len, nx, n, n2, v, w⟩ := I
  obtain ⟨pc', L, S, T, ρ, σ⟩ := st
  have hp : pc = pc' := hp
  subst hp
  simp only [am_chk, Bool.and_eq_true, Bool.or_eq_true, decide_eq_true_eq, beq_iff_eq] at hc
  obtain ⟨hd, hnx, hlen, ho⟩ := hc
  subst hnx
  cases i with
  | aaload => obtain rfl : len = 1 := hlen.resolve_left (fun h9 => by cases h9); exact am_x_aaload (n := n) (n2 := n2) hd h
  | aastore => obtain rfl : len = 1 := hlen.resolve_left (fun h9 => by cases h9); exact am_x_aastore (n := n) (n2 := n2) hd h
  | aconst_null => obtain rfl : len = 1 := hlen.resolve_left (fun h9 => by cases h9); exact am_x_aconst_null (n := n) (v := v) hd h
  | aload a0 => obtain rfl : len = 2 := hlen.resolve_left (fun h9 => by cases h9); exact am_x_aload (n := n) (v := v) hd h
  | aload_n a0 => obtain rfl : len = 1 := hlen.resolve_left (fun h9 => by cases h9); exact am_x_aload_n (n := n) (v := v) hd h
  | anewarray a0 => obtain rfl : len = 3 := hlen.resolve_left (fun h9 => by cases h9); exact am_x_anewarray (n := n) (n2 := n2) hd ho h
  | areturn => exact absurd (show (none : Option am_S) = some st' from h) (fun h => by cases h)
  | arraylength => obtain rfl : len = 1 := hlen.resolve_left (fun h9 => by cases h9); exact am_x_arraylength (n := n) (n2 := n2) hd h
  | astore a0 => obtain rfl : len = 2 := hlen.resolve_left (fun h9 => by cases h9); exact am_x_astore (n := n) (v := v) hd h
  | astore_n a0 => obtain rfl : len = 1 := hlen.resolve_left (fun h9 => by cases h9); exact am_x_astore_n (n := n) (v := v) hd h
  | athrow => exact absurd (show (none : Option am_S) = some st' from h) (fun h => by cases h)
  | baload => obtain rfl : len = 1 := hlen.resolve_left (fun h9 => by cases h9); exact am_x_baload (n := n) (n2 := n2) hd h
  | bastore => obtain rfl : len = 1 := hlen.resolve_left (fun h9 => by cases h9); exact am_x_bastore (n := n) (n2 := n2) hd h
  | bipush a0 => obtain rfl : len = 2 := hlen.resolve_left (fun h9 => by cases h9); exact am_x_bipush (n := n) (v := v) hd (of_decide_eq_true ho) h
  | caload => exact absurd (show (none : Option am_S) = some st' from h) (fun h => by cases h)
  | castore => exact absurd (show (none : Option am_S) = some st' from h) (fun h => by cases h)
  | checkcast a0 => exact absurd (show (none : Option am_S) = some st' from h) (fun h => by cases h)
  | d2f => exact absurd (show (none : Option am_S) = some st' from h) (fun h => by cases h)
  | d2i => exact absurd (show (none : Option am_S) = some st' from h) (fun h => by cases h)
  | d2l => exact absurd (show (none : Option am_S) = some st' from h) (fun h => by cases h)
  | dadd => exact absurd (show (none : Option am_S) = some st' from h) (fun h => by cases h)
  | daload => exact absurd (show (none : Option am_S) = some st' from h) (fun h => by cases h)
  | dastore => exact absurd (show (none : Option am_S) = some st' from h) (fun h => by cases h)
  | dcmp a0 => exact absurd (show (none : Option am_S) = some st' from h) (fun h => by cases h)
  | dconst a0 => exact absurd (show (none : Option am_S) = some st' from h) (fun h => by cases h)
  | ddiv => exact absurd (show (none : Option am_S) = some st' from h) (fun h => by cases h)
  | dload a0 => exact absurd (show (none : Option am_S) = some st' from h) (fun h => by cases h)
  | dload_n a0 => exact absurd (show (none : Option am_S) = some st' from h) (fun h => by cases h)
  | dmul => exact absurd (show (none : Option am_S) = some st' from h) (fun h => by cases h)
  | dneg => exact absurd (show (none : Option am_S) = some st' from h) (fun h => by cases h)
  | drem => exact absurd (show (none : Option am_S) = some st' from h) (fun h => by cases h)
  | dreturn => exact absurd (show (none : Option am_S) = some st' from h) (fun h => by cases h)
  | dstore a0 => exact absurd (show (none : Option am_S) = some st' from h) (fun h => by cases h)
  | dstore_n a0 => exact absurd (show (none : Option am_S) = some st' from h) (fun h => by cases h)
  | dsub => exact absurd (show (none : Option am_S) = some st' from h) (fun h => by cases h)
  | dup => obtain rfl : len = 1 := hlen.resolve_left (fun h9 => by cases h9); exact am_x_dup (n := n) (v := v) hd h
  | dup_x1 => exact absurd (show (none : Option am_S) = some st' from h) (fun h => by cases h)
  | dup_x2 => exact absurd (show (none : Option am_S) = some st' from h) (fun h => by cases h)
  | dup2 => obtain rfl : len = 1 := hlen.resolve_left (fun h9 => by cases h9); exact am_x_dup2 (n := n) (v := v) hd h
  | dup2_x1 => exact absurd (show (none : Option am_S) = some st' from h) (fun h => by cases h)
  | dup2_x2 => exact absurd (show (none : Option am_S) = some st' from h) (fun h => by cases h)
  | f2d => exact absurd (show (none : Option am_S) = some st' from h) (fun h => by cases h)
  | f2i => exact absurd (show (none : Option am_S) = some st' from h) (fun h => by cases h)
  | f2l => exact absurd (show (none : Option am_S) = some st' from h) (fun h => by cases h)
  | fadd => exact absurd (show (none : Option am_S) = some st' from h) (fun h => by cases h)
  | faload => exact absurd (show (none : Option am_S) = some st' from h) (fun h => by cases h)
  | fastore => exact absurd (show (none : Option am_S) = some st' from h) (fun h => by cases h)
  | fcmp a0 => exact absurd (show (none : Option am_S) = some st' from h) (fun h => by cases h)
  | fconst a0 => exact absurd (show (none : Option am_S) = some st' from h) (fun h => by cases h)
  | fdiv => exact absurd (show (none : Option am_S) = some st' from h) (fun h => by cases h)
  | fload a0 => exact absurd (show (none : Option am_S) = some st' from h) (fun h => by cases h)
  | fload_n a0 => exact absurd (show (none : Option am_S) = some st' from h) (fun h => by cases h)
  | fmul => exact absurd (show (none : Option am_S) = some st' from h) (fun h => by cases h)
  | fneg => exact absurd (show (none : Option am_S) = some st' from h) (fun h => by cases h)
  | frem => exact absurd (show (none : Option am_S) = some st' from h) (fun h => by cases h)
  | freturn => exact absurd (show (none : Option am_S) = some st' from h) (fun h => by cases h)
  | fstore a0 => exact absurd (show (none : Option am_S) = some st' from h) (fun h => by cases h)
  | fstore_n a0 => exact absurd (show (none : Option am_S) = some st' from h) (fun h => by cases h)
  | fsub => exact absurd (show (none : Option am_S) = some st' from h) (fun h => by cases h)
  | getfield a0 =>
    obtain rfl : len = 3 := hlen.resolve_left (fun h9 => by cases h9)
    simp only [am_own, Bool.and_eq_true, decide_eq_true_eq] at ho
    exact am_x_getfield (n := n) (n2 := n2) hd ho.1 ho.2.1 ho.2.2 h
  | getstatic a0 => exact absurd (show (none : Option am_S) = some st' from h) (fun h => by cases h)
  | goto a0 => obtain rfl : len = 3 := hlen.resolve_left (fun h9 => by cases h9); exact am_x_goto (n := n) (w := w) hd (of_decide_eq_true ho) h
  | goto_w a0 => exact absurd (show (none : Option am_S) = some st' from h) (fun h => by cases h)
  | i2b => exact absurd (show (none : Option am_S) = some st' from h) (fun h => by cases h)
  | i2c => exact absurd (show (none : Option am_S) = some st' from h) (fun h => by cases h)
  | i2d => exact absurd (show (none : Option am_S) = some st' from h) (fun h => by cases h)
  | i2f => exact absurd (show (none : Option am_S) = some st' from h) (fun h => by cases h)
  | i2l => obtain rfl : len = 1 := hlen.resolve_left (fun h9 => by cases h9); exact am_x_i2l (n := n) (v := v) hd h
  | i2s => exact absurd (show (none : Option am_S) = some st' from h) (fun h => by cases h)
  | iadd => obtain rfl : len = 1 := hlen.resolve_left (fun h9 => by cases h9); exact am_x_iadd (n := n) (v := v) hd h
  | iaload => obtain rfl : len = 1 := hlen.resolve_left (fun h9 => by cases h9); exact am_x_iaload (n := n) (n2 := n2) hd h
  | iand => obtain rfl : len = 1 := hlen.resolve_left (fun h9 => by cases h9); exact am_x_iand (n := n) (v := v) hd h
  | iastore => obtain rfl : len = 1 := hlen.resolve_left (fun h9 => by cases h9); exact am_x_iastore (n := n) (n2 := n2) hd h
  | iconst a0 => obtain rfl : len = 1 := hlen.resolve_left (fun h9 => by cases h9); exact am_x_iconst (n := n) (v := v) hd (of_decide_eq_true ho) h
  | idiv => obtain rfl : len = 1 := hlen.resolve_left (fun h9 => by cases h9); exact am_x_idiv (n := n) (v := v) hd h
  | if_acmp a0 a1 => exact absurd (show (none : Option am_S) = some st' from h) (fun h => by cases h)
  | if_icmp a0 a1 =>
    obtain rfl : len = 3 := hlen.resolve_left (fun h9 => by cases h9)
    cases a0 with
    | eq => exact am_x_if_icmp_eq (n := n) (w := w) hd (of_decide_eq_true ho) h
    | ne => exact am_x_if_icmp_ne (n := n) (w := w) hd (of_decide_eq_true ho) h
    | lt => exact am_x_if_icmp_lt (n := n) (w := w) hd (of_decide_eq_true ho) h
    | ge => exact am_x_if_icmp_ge (n := n) (w := w) hd (of_decide_eq_true ho) h
    | gt => exact am_x_if_icmp_gt (n := n) (w := w) hd (of_decide_eq_true ho) h
    | le => exact am_x_if_icmp_le (n := n) (w := w) hd (of_decide_eq_true ho) h
  | ifCond a0 a1 =>
    obtain rfl : len = 3 := hlen.resolve_left (fun h9 => by cases h9)
    cases a0 with
    | eq => exact am_x_ifCond_eq (n := n) (w := w) hd (of_decide_eq_true ho) h
    | ne => exact am_x_ifCond_ne (n := n) (w := w) hd (of_decide_eq_true ho) h
    | lt => exact am_x_ifCond_lt (n := n) (w := w) hd (of_decide_eq_true ho) h
    | ge => exact am_x_ifCond_ge (n := n) (w := w) hd (of_decide_eq_true ho) h
    | gt => exact am_x_ifCond_gt (n := n) (w := w) hd (of_decide_eq_true ho) h
    | le => exact am_x_ifCond_le (n := n) (w := w) hd (of_decide_eq_true ho) h
  | ifnonnull a0 => obtain rfl : len = 3 := hlen.resolve_left (fun h9 => by cases h9); exact am_x_ifnonnull (n := n) (w := w) hd (of_decide_eq_true ho) h
  | ifnull a0 => obtain rfl : len = 3 := hlen.resolve_left (fun h9 => by cases h9); exact am_x_ifnull (n := n) (w := w) hd (of_decide_eq_true ho) h
  | iinc a0 a1 => obtain rfl : len = 3 := hlen.resolve_left (fun h9 => by cases h9); exact am_x_iinc (n := n) (v := v) hd (of_decide_eq_true ho) h
  | iload a0 => obtain rfl : len = 2 := hlen.resolve_left (fun h9 => by cases h9); exact am_x_iload (n := n) (v := v) hd h
  | iload_n a0 => obtain rfl : len = 1 := hlen.resolve_left (fun h9 => by cases h9); exact am_x_iload_n (n := n) (v := v) hd h
  | imul => obtain rfl : len = 1 := hlen.resolve_left (fun h9 => by cases h9); exact am_x_imul (n := n) (v := v) hd h
  | ineg => obtain rfl : len = 1 := hlen.resolve_left (fun h9 => by cases h9); exact am_x_ineg (n := n) (v := v) hd h
  | instanceof a0 => exact absurd (show (none : Option am_S) = some st' from h) (fun h => by cases h)
  | invokedynamic a0 => exact absurd (show (none : Option am_S) = some st' from h) (fun h => by cases h)
  | invokeinterface a0 a1 => exact absurd (show (none : Option am_S) = some st' from h) (fun h => by cases h)
  | invokespecial a0 =>
    obtain rfl : len = 3 := hlen.resolve_left (fun h9 => by cases h9)
    refine am_x_objInit (n := n) (n2 := n2) hd (fun h9 => ?_) h
    simp only [am_own] at ho
    rw [if_pos h9] at ho
    exact ho
  | invokestatic a0 => obtain rfl : len = 3 := hlen.resolve_left (fun h9 => by cases h9); exact am_x_math (n := n) (n2 := n2) hd ho h
  | invokevirtual a0 => exact absurd (show (none : Option am_S) = some st' from h) (fun h => by cases h)
  | ior => obtain rfl : len = 1 := hlen.resolve_left (fun h9 => by cases h9); exact am_x_ior (n := n) (v := v) hd h
  | irem => obtain rfl : len = 1 := hlen.resolve_left (fun h9 => by cases h9); exact am_x_irem (n := n) (v := v) hd h
  | ireturn => exact absurd (show (none : Option am_S) = some st' from h) (fun h => by cases h)
  | ishl => obtain rfl : len = 1 := hlen.resolve_left (fun h9 => by cases h9); exact am_x_ishl (n := n) (v := v) hd h
  | ishr => obtain rfl : len = 1 := hlen.resolve_left (fun h9 => by cases h9); exact am_x_ishr (n := n) (v := v) hd h
  | istore a0 => obtain rfl : len = 2 := hlen.resolve_left (fun h9 => by cases h9); exact am_x_istore (n := n) (v := v) hd h
  | istore_n a0 => obtain rfl : len = 1 := hlen.resolve_left (fun h9 => by cases h9); exact am_x_istore_n (n := n) (v := v) hd h
  | isub => obtain rfl : len = 1 := hlen.resolve_left (fun h9 => by cases h9); exact am_x_isub (n := n) (v := v) hd h
  | iushr => obtain rfl : len = 1 := hlen.resolve_left (fun h9 => by cases h9); exact am_x_iushr (n := n) (v := v) hd h
  | ixor => obtain rfl : len = 1 := hlen.resolve_left (fun h9 => by cases h9); exact am_x_ixor (n := n) (v := v) hd h
  | jsr a0 => exact absurd (show (none : Option am_S) = some st' from h) (fun h => by cases h)
  | jsr_w a0 => exact absurd (show (none : Option am_S) = some st' from h) (fun h => by cases h)
  | l2d => exact absurd (show (none : Option am_S) = some st' from h) (fun h => by cases h)
  | l2f => exact absurd (show (none : Option am_S) = some st' from h) (fun h => by cases h)
  | l2i => obtain rfl : len = 1 := hlen.resolve_left (fun h9 => by cases h9); exact am_x_l2i (n := n) (v := v) hd h
  | ladd => exact absurd (show (none : Option am_S) = some st' from h) (fun h => by cases h)
  | laload => exact absurd (show (none : Option am_S) = some st' from h) (fun h => by cases h)
  | land => obtain rfl : len = 1 := hlen.resolve_left (fun h9 => by cases h9); exact am_x_land (n := n) (v := v) hd h
  | lastore => exact absurd (show (none : Option am_S) = some st' from h) (fun h => by cases h)
  | lcmp => obtain rfl : len = 1 := hlen.resolve_left (fun h9 => by cases h9); exact am_x_lcmp (n := n) (v := v) hd h
  | lconst a0 => obtain rfl : len = 1 := hlen.resolve_left (fun h9 => by cases h9); exact am_x_lconst (n := n) (v := v) hd h
  | ldc a0 => obtain rfl : len = 2 := hlen.resolve_left (fun h9 => by cases h9); exact am_x_ldc (n := n) (v := v) hd ho h
  | ldc_w a0 => obtain rfl : len = 3 := hlen.resolve_left (fun h9 => by cases h9); exact am_x_ldc_w (n := n) (v := v) hd ho h
  | ldc2_w a0 => obtain rfl : len = 3 := hlen.resolve_left (fun h9 => by cases h9); exact am_x_ldc2_w (n := n) (v := v) hd ho h
  | ldiv => obtain rfl : len = 1 := hlen.resolve_left (fun h9 => by cases h9); exact am_x_ldiv (n := n) (v := v) hd h
  | lload a0 => obtain rfl : len = 2 := hlen.resolve_left (fun h9 => by cases h9); exact am_x_lload (n := n) (v := v) hd h
  | lload_n a0 => obtain rfl : len = 1 := hlen.resolve_left (fun h9 => by cases h9); exact am_x_lload_n (n := n) (v := v) hd h
  | lmul => obtain rfl : len = 1 := hlen.resolve_left (fun h9 => by cases h9); exact am_x_lmul (n := n) (v := v) hd h
  | lneg => exact absurd (show (none : Option am_S) = some st' from h) (fun h => by cases h)
  | lookupswitch a0 a1 => exact absurd (show (none : Option am_S) = some st' from h) (fun h => by cases h)
  | lor => obtain rfl : len = 1 := hlen.resolve_left (fun h9 => by cases h9); exact am_x_lor (n := n) (v := v) hd h
  | lrem => exact absurd (show (none : Option am_S) = some st' from h) (fun h => by cases h)
  | lreturn => exact absurd (show (none : Option am_S) = some st' from h) (fun h => by cases h)
  | lshl => obtain rfl : len = 1 := hlen.resolve_left (fun h9 => by cases h9); exact am_x_lshl (n := n) (v := v) hd h
  | lshr => obtain rfl : len = 1 := hlen.resolve_left (fun h9 => by cases h9); exact am_x_lshr (n := n) (v := v) hd h
  | lstore a0 => obtain rfl : len = 2 := hlen.resolve_left (fun h9 => by cases h9); exact am_x_lstore (n := n) (v := v) hd h
  | lstore_n a0 => obtain rfl : len = 1 := hlen.resolve_left (fun h9 => by cases h9); exact am_x_lstore_n (n := n) (v := v) hd h
  | lsub => exact absurd (show (none : Option am_S) = some st' from h) (fun h => by cases h)
  | lushr => exact absurd (show (none : Option am_S) = some st' from h) (fun h => by cases h)
  | lxor => exact absurd (show (none : Option am_S) = some st' from h) (fun h => by cases h)
  | monitorenter => exact absurd (show (none : Option am_S) = some st' from h) (fun h => by cases h)
  | monitorexit => exact absurd (show (none : Option am_S) = some st' from h) (fun h => by cases h)
  | multianewarray a0 a1 => exact absurd (show (none : Option am_S) = some st' from h) (fun h => by cases h)
  | new a0 =>
    obtain rfl : len = 3 := hlen.resolve_left (fun h9 => by cases h9)
    simp only [am_own] at ho
    rw [Bool.and_eq_true, decide_eq_true_eq] at ho
    exact am_x_new (n := n) (n2 := n2) hd ho.1 ho.2 h
  | newarray a0 =>
    obtain rfl : len = 2 := hlen.resolve_left (fun h9 => by cases h9)
    simp only [am_own, Bool.and_eq_true, decide_eq_true_eq] at ho
    exact am_x_newarray (n := n) (n2 := n2) hd ho.1 ho.2 h
  | nop => exact absurd (show (none : Option am_S) = some st' from h) (fun h => by cases h)
  | pop => obtain rfl : len = 1 := hlen.resolve_left (fun h9 => by cases h9); exact am_x_pop (n := n) (v := v) hd h
  | pop2 => exact absurd (show (none : Option am_S) = some st' from h) (fun h => by cases h)
  | putfield a0 =>
    obtain rfl : len = 3 := hlen.resolve_left (fun h9 => by cases h9)
    simp only [am_own] at ho
    rw [Bool.and_eq_true, Bool.and_eq_true, Bool.and_eq_true, decide_eq_true_eq, decide_eq_true_eq] at ho
    exact am_x_putfield (n := n) (n2 := n2) hd ho.1 ho.2.1 ho.2.2.1 ho.2.2.2 h
  | putstatic a0 => exact absurd (show (none : Option am_S) = some st' from h) (fun h => by cases h)
  | ret a0 => exact absurd (show (none : Option am_S) = some st' from h) (fun h => by cases h)
  | return_ => exact absurd (show (none : Option am_S) = some st' from h) (fun h => by cases h)
  | saload => exact absurd (show (none : Option am_S) = some st' from h) (fun h => by cases h)
  | sastore => exact absurd (show (none : Option am_S) = some st' from h) (fun h => by cases h)
  | sipush a0 => obtain rfl : len = 3 := hlen.resolve_left (fun h9 => by cases h9); exact am_x_sipush (n := n) (v := v) hd (of_decide_eq_true ho) h
  | swap => exact absurd (show (none : Option am_S) = some st' from h) (fun h => by cases h)
  | tableswitch a0 a1 a2 a3 =>
    simp only [am_own, Bool.and_eq_true, decide_eq_true_eq] at ho
    exact am_x_tableswitch (n := n) (w := w) hd ho.1 ho.2 h
end AMS
