/-! group 3: cells -/
section AMS
variable {l : Launch} {D : va_G} {DA : Nat → ClassId} {b sz : Nat} {q : am_M}
theorem am_ad_pos {c : Nat} (h : 0 < c) : am_ad b sz c = sz + (c - 1) := by unfold am_ad; rw [if_neg (by omega)]
theorem am_ad_inj {c c' : Nat} (hb : b < sz) (h : am_ad b sz c = am_ad b sz c') : c = c' := by
  unfold am_ad at h
  split at h <;> split at h <;> omega
/-- cells that aren't the changed one -/
theorem am_cell.kept {s : State} {ρ ρ' : Nat → Nat → Value} {σ σ' : Nat → Nat → Int32} {H H' : Heap} {c : Nat} {x : Nat ⊕ (Nat × Nat)} (h : am_cell D DA b sz s ρ σ H c x) (hr : ρ' c = ρ c) (hs : σ' c = σ c) (hH : H'[am_ad b sz c]? = H[am_ad b sz c]?) : am_cell D DA b sz s ρ' σ' H' c x := by
  cases x with
  | inl ci =>
    obtain ⟨h0, w, h1, h2⟩ := h
    refine ⟨h0, w, h1, (h2.kept hH).to (fun k _ => ?_)⟩
    simp only [am_val, hr, hs]
  | inr t =>
    obtain ⟨t, n⟩ := t
    rcases h with ⟨h1, rfl, h2⟩ | ⟨h1, h0, h2⟩ | ⟨h1, h0, h2⟩
    · refine Or.inl ⟨h1, rfl, ?_⟩
      rw [hs]
      exact h2.kept hH
    · refine Or.inr (Or.inl ⟨h1, h0, ?_⟩)
      rw [hH, h2]
      simp only [hs]
    · refine Or.inr (Or.inr ⟨h1, h0, ?_⟩)
      rw [hH, h2]
      simp only [hr]
theorem am_ok.set {s : State} {T : am_T} {ρ ρ' : Nat → Nat → Value} {σ σ' : Nat → Nat → Int32} {H H' : Heap} {c : Nat} (h : am_ok D DA b sz s (T, ρ, σ) H) (hr : ∀ c', c' ≠ c → ρ' c' = ρ c') (hs : ∀ c', c' ≠ c → σ' c' = σ c') (hsz : H'.size = H.size) (hH : ∀ a, a ≠ am_ad b sz c → H'[a]? = H[a]?) (hc : ∀ x, T[c]? = some x → am_cell D DA b sz s ρ' σ' H' c x) : am_ok D DA b sz s (T, ρ', σ') H' := by
  obtain ⟨h1, h2, h3, h4⟩ := h
  refine ⟨h1, h2, by rw [hsz]; exact h3, fun c' x hx => ?_⟩
  by_cases hcc : c' = c
  · subst hcc
    exact hc x hx
  · exact (h4 c' x hx).kept (hr c' hcc) (hs c' hcc) (hH _ (fun z => hcc (am_ad_inj h1 z)))
theorem am_us_ne {σ : Nat → Nat → Int32} {c c' k : Nat} {x : Int32} (h : c' ≠ c) : am_us σ c k x c' = σ c' := by
  funext j
  unfold am_us
  rw [if_neg (fun z => h z.1)]
theorem am_ur_ne {ρ : Nat → Nat → Value} {c c' k : Nat} {x : Value} (h : c' ≠ c) : am_ur ρ c k x c' = ρ c' := by
  funext j
  unfold am_ur
  rw [if_neg (fun z => h z.1)]
theorem am_fw {idx n n2 : Nat} (h : am_FW.any (fun z => z.1 == q.1 && (z.2.1 == idx && (z.2.2.1 == n && z.2.2.2 == n2))) = true) : Cond.fieldLink (am_cn q.1) idx (am_F n n2).1 (am_F n n2).2.1 (am_F n n2).2.2.1 ∈ am_tb := by
  obtain ⟨z, hz, h⟩ := am_anyK h
  simp only [Bool.and_eq_true, beq_iff_eq] at h
  obtain ⟨h1, h2, h3, h4⟩ := h
  subst h2; subst h3; subst h4
  rw [← h1]
  exact am_tb_in (am_mem am_FWe _ (List.mem_map.mpr ⟨z, hz, rfl⟩)) rfl
theorem am_cls_at {n : Nat} (h : n < 10) : am_cls[n]? = some (am_cn n, am_F n, am_N n) := by
  rcases hq : am_cls[n]? with _ | w
  · have : am_cls.length ≤ n := by simpa using hq
    have h2 : am_cls.length = 10 := rfl
    omega
  · rw [(am_clsOk n w hq).1]
theorem am_lay_in {n k : Nat} (h : n < 10) (hk : k < am_N n) : u_lay (am_cn n) (am_F n) k ∈ am_tb := by
  have h1 := (am_clsOk n _ (am_cls_at h)).2.1 _ (u_in_lay hk)
  refine am_tb_in h1 ?_
  unfold u_lay
  split <;> rfl
theorem am_u_in {n : Nat} (h : n < 10) : ∀ w ∈ u_ws (am_cn n) (am_F n) (am_N n), w ∈ am_tb := by
  intro w hw
  obtain ⟨k, hk, rfl⟩ := List.mem_map.mp hw
  exact am_lay_in h (List.mem_range.mp hk)
theorem am_x_getfield {pc idx n n2 : Nat} {L : am_L} {S : List Value} {T : am_T} {ρ : Nat → Nat → Value} {σ : Nat → Nat → Int32} {st : am_S} (hd : decode q.2.2.1 pc = .ok (.getfield idx, 3)) (ho : am_FW.any (fun z => z.1 == q.1 && (z.2.1 == idx && (z.2.2.1 == n && z.2.2.2 == n2))) = true) (hn2 : n2 < am_N n) (hn : n < 10) (h : am_ex3 (.getfield idx) (pc + 3) n n2 L S T ρ σ = some st) : am_St l D DA b sz q (pc, L, S, T, ρ, σ) st := by
  simp only [am_ex3] at h
  split at h
  · rename_i c S
    split at h
    · rename_i hT
      have key : am_St l D DA b sz q (pc, L, .ref c :: S, T, ρ, σ) (pc + 3, L, am_val ρ σ n c n2 :: S, T, ρ, σ) := am_st_p (by
        intro p e R s m args below meth co Q ls H locs cells slots hA hf hl hc hs hL hO k
        obtain ⟨hx, hb, hml, hown, hts, hK, hin⟩ := hA
        obtain ⟨-, w, hw, cell, q1, q2, q3, q4⟩ := hO.2.2.2 c _ hT
        have hc0 := am_cls_at hn
        have hw2 : w = (am_cn n, am_F n, am_N n) := Option.some.inj (hw.symm.trans hc0)
        subst hw2
        obtain ⟨hS, hfc, kC, hkC, hkind⟩ := hK.1.1 n _ hc0
        obtain ⟨cf, kf, fi, f, hi, hsl⟩ := hS n2 hn2
        refine W.getf hx hb hown (hts _ (am_fw ho)) hi (u_facts hfc hkC (u_lays hts (am_u_in hn) hn2) hi).1 q1 (by rw [q3]; exact fun h => by cases h) (v := am_v b sz (am_val ρ σ n c n2)) ?_ rfl rfl hd k
        rw [hsl]
        exact q4 n2 hn2)
      split at h
      · rename_i hI
        cases h
        have e1 : am_val ρ σ n c n2 = .int (σ c n2) := by unfold am_val; rw [if_pos hI]
        rw [e1] at key
        exact key
      · rename_i hI
        cases h
        have e1 : am_val ρ σ n c n2 = ρ c n2 := by unfold am_val; rw [if_neg hI]
        rw [e1] at key
        exact key
    · cases h
  · cases h
/-- a field is written -/
theorem am_put {pc idx n n2 c : Nat} {x : Value} {L : am_L} {S : List Value} {T : am_T} {ρ ρ' : Nat → Nat → Value} {σ σ' : Nat → Nat → Int32} (hd : decode q.2.2.1 pc = .ok (.putfield idx, 3)) (ho : am_FW.any (fun z => z.1 == q.1 && (z.2.1 == idx && (z.2.2.1 == n && z.2.2.2 == n2))) = true) (hn2 : n2 < am_N n) (hn : n < 10) (hfin : (!(am_F n n2).2.2.2 || (q.2.2.2.2.2.2.2 && decide ((am_F n n2).1 = am_cn q.1))) = true)
    (hT : T[c]? = some (.inl n)) (hr : ∀ c', c' ≠ c → ρ' c' = ρ c') (hs : ∀ c', c' ≠ c → σ' c' = σ c') (hv : ∀ k, k < am_N n → am_v b sz (am_val ρ' σ' n c k) = updV (fun k => am_v b sz (am_val ρ σ n c k)) n2 (am_v b sz x) k) (hnar : narrow (am_fty n n2) (am_v b sz x) = am_v b sz x) (hfit : fits (am_fty n n2) (am_v b sz x) = true) :
    am_St l D DA b sz q (pc, L, x :: .ref c :: S, T, ρ, σ) (pc + 3, L, S, T, ρ', σ') := am_st_h (by
  intro p e R s m args below meth co Q ls H locs cells slots hA hO hlo k
  obtain ⟨hx, hb, hml, hown, hts, hK, hin⟩ := hA
  obtain ⟨hc00, w, hw, cell, q1, q2, q3, q4⟩ := hO.2.2.2 c _ hT
  have hc0 := am_cls_at hn
  have hw2 : w = (am_cn n, am_F n, am_N n) := Option.some.inj (hw.symm.trans hc0)
  subst hw2
  have hcl := am_clsOk n _ hc0
  have hap := va_apart (own := am_cn n) hts (am_u_in hn) (am_fty n) hcl.2.2.1 hcl.2.2.2.1 hK.1 hc0
  obtain ⟨hS, hfc, kC, hkC, hkind⟩ := hK.1.1 n _ hc0
  obtain ⟨cf, kf, fi, f, hi, hsl⟩ := hS n2 hn2
  have hst := (u_facts hfc hkC (u_lays hts (am_u_in hn) hn2) hi).1
  have hty := hcl.2.2.1 n2 hn2
  have hbase : sz ≤ am_ad b sz c := by rw [am_ad_pos hc00]; omega
  have fin : ∀ (H' : Heap), H'[am_ad b sz c]? = some (cell.setSlot f.slot (am_v b sz x)) → H'.size = H.size → (∀ z, z ≠ am_ad b sz c → H'[z]? = H[z]?) → W p l e R s m args below meth co H' (locs ++ [⟨am_ad b sz c, f.slot⟩]) cells slots Q (F0 m (pc + 3) ls (S.map (am_v b sz))) := by
    intro H' e1 e2 e3
    refine k H' _ (hO.set hr hs e2 e3 (fun y hy => ?_)) (fun z hz => ?_)
    · have hy2 : y = .inl n := Option.some.inj (hy.symm.trans hT)
      subst hy2
      refine ⟨hc00, _, hc0, t_OB.to (V := updV (fun k => am_v b sz (am_val ρ σ n c k)) n2 (am_v b sz x)) ⟨_, e1, q2, q3, ?_⟩ (fun j hj => (hv j hj).symm)⟩
      rw [hsl]
      exact t_set q4 hap hn2 _
    · rcases List.mem_append.mp hz with hz | hz
      · exact hlo z hz
      · rw [List.mem_singleton.mp hz]; exact hbase
  by_cases hf : (am_F n n2).2.2.2 = true
  · rw [hf] at hfin
    simp only [Bool.not_true, Bool.false_or, Bool.and_eq_true, decide_eq_true_eq] at hfin
    have hlay := hts _ (am_lay_in hn hn2)
    unfold u_lay at hlay
    rw [if_pos hf] at hlay
    have hcf : m.cls = cf := by
      obtain ⟨_, _, c', _, _, _, -, -, hf', -, -, -, hown2, -⟩ := Cond.laysFinal_spec hlay
      have e1 : c' = cf := by have := hi.symm.trans hf'; simp at this; exact this.1.symm
      rw [hfin.2] at hown2
      rw [← e1]; exact Option.some.inj (hown.symm.trans hown2)
    have h6 := u_fits hfc hkC hkind (Or.inr hlay) hi hty hnar hfit
    exact W.putFinK hx hb hown (hts _ (am_fw ho)) hi hst hcf (hin hfin.1) (by rw [q2]; exact h6) q1 q3 (by rw [hsl]; exact k2_hasslot (q4 n2 hn2)) rfl rfl hd fin
  · have hlay := hts _ (am_lay_in hn hn2)
    unfold u_lay at hlay
    rw [if_neg hf] at hlay
    have h6 := u_store hfc hkC hkind hlay hi hty hnar hfit
    exact W.putK hx hb (f := f) ⟨hown, hts _ (am_fw ho), ⟨_, _, _, hi⟩, hst⟩ (by rw [q2]; exact h6) q1 q3 (by rw [hsl]; exact k2_hasslot (q4 n2 hn2)) rfl rfl hd fin)
theorem am_isI_cases {ty : FieldType} (h : am_isI ty = true) : ty = .int ∨ ty = .boolean := by cases ty <;> first | exact Or.inl rfl | exact Or.inr rfl | (cases h)
theorem am_ftyR : ∀ n, n < 10 → ∀ k, k < am_N n → am_isI (am_fty n k) = false → (∃ C, am_fty n k = .object C) ∨ ∃ t, am_fty n k = .array t := by
  have key : ∀ n, n < 10 → ∀ k, k < am_N n → am_isI (am_fty n k) = false → (match am_fty n k with | .object _ => true | .array _ => true | _ => false) = true := by decide +kernel
  intro n hn k hk h
  have := key n hn k hk h
  cases ht : am_fty n k <;> rw [ht] at this <;> first | exact Or.inl ⟨_, rfl⟩ | exact Or.inr ⟨_, rfl⟩ | (cases this)
theorem am_x_putfield {pc idx n n2 : Nat} {L : am_L} {S : List Value} {T : am_T} {ρ : Nat → Nat → Value} {σ : Nat → Nat → Int32} {st : am_S} (hd : decode q.2.2.1 pc = .ok (.putfield idx, 3)) (ho : am_FW.any (fun z => z.1 == q.1 && (z.2.1 == idx && (z.2.2.1 == n && z.2.2.2 == n2))) = true) (hn2 : n2 < am_N n) (hn : n < 10) (hfin : (!(am_F n n2).2.2.2 || (q.2.2.2.2.2.2.2 && decide ((am_F n n2).1 = am_cn q.1))) = true) (h : am_ex3 (.putfield idx) (pc + 3) n n2 L S T ρ σ = some st) : am_St l D DA b sz q (pc, L, S, T, ρ, σ) st := by
  have hvI : ∀ (c : Nat) (x : Int32), am_isI (am_fty n n2) = true → ∀ k, k < am_N n → am_v b sz (am_val ρ (am_us σ c n2 x) n c k) = updV (fun k => am_v b sz (am_val ρ σ n c k)) n2 (am_v b sz (.int x)) k := by
    intro c x hI k _
    unfold updV
    by_cases hk : k = n2
    · subst hk
      rw [if_pos rfl]
      unfold am_val am_us
      rw [if_pos hI, if_pos ⟨rfl, rfl⟩]
    · rw [if_neg hk]
      unfold am_val am_us
      rw [if_neg (fun z : c = c ∧ k = n2 => hk z.2)]
  have hvR : ∀ (c : Nat) (x : Value), am_isI (am_fty n n2) = false → ∀ k, k < am_N n → am_v b sz (am_val (am_ur ρ c n2 x) σ n c k) = updV (fun k => am_v b sz (am_val ρ σ n c k)) n2 (am_v b sz x) k := by
    intro c x hI k _
    unfold updV
    by_cases hk : k = n2
    · subst hk
      rw [if_pos rfl]
      unfold am_val am_ur
      rw [if_neg (by rw [hI]; decide), if_pos ⟨rfl, rfl⟩]
    · rw [if_neg hk]
      unfold am_val am_ur
      rw [if_neg (fun z : c = c ∧ k = n2 => hk z.2)]
  simp only [am_ex3] at h
  split at h
  · rename_i x c S
    split at h
    · rename_i hT
      split at h
      · rename_i hI
        split at h
        · rename_i hB
          split at h
          · rename_i h01
            cases h
            have hty : am_fty n n2 = .boolean := by
              cases ht : am_fty n n2 <;> rw [ht] at hB <;> first | rfl | (cases hB)
            refine am_put hd ho hn2 hn hfin hT (fun _ _ => rfl) (fun c' hc' => am_us_ne hc') (hvI c x hI) ?_ ?_
            · rw [hty]
              rcases h01 with rfl | rfl <;> rfl
            · rw [hty]
              rcases h01 with rfl | rfl <;> rfl
          · cases h
        · rename_i hB
          cases h
          have hty : am_fty n n2 = .int := by
            rcases am_isI_cases hI with h9 | h9
            · exact h9
            · exact absurd (by rw [h9]; rfl) hB
          refine am_put hd ho hn2 hn hfin hT (fun _ _ => rfl) (fun c' hc' => am_us_ne hc') (hvI c x hI) ?_ ?_
          · rw [hty]; rfl
          · rw [hty]; rfl
      · cases h
    · cases h
  · rename_i x c S
    split at h
    · rename_i hT
      split at h
      · cases h
      · rename_i hI
        cases h
        have hI2 : am_isI (am_fty n n2) = false := by simpa using hI
        refine am_put hd ho hn2 hn hfin hT (fun c' hc' => am_ur_ne hc') (fun _ _ => rfl) (hvR c _ hI2) ?_ ?_
        · rcases am_ftyR n hn n2 hn2 hI2 with ⟨C, e⟩ | ⟨t, e⟩ <;> rw [e] <;> rfl
        · rcases am_ftyR n hn n2 hn2 hI2 with ⟨C, e⟩ | ⟨t, e⟩ <;> rw [e] <;> rfl
    · cases h
  · rename_i c S
    split at h
    · rename_i hT
      split at h
      · cases h
      · rename_i hI
        cases h
        have hI2 : am_isI (am_fty n n2) = false := by simpa using hI
        refine am_put hd ho hn2 hn hfin hT (fun c' hc' => am_ur_ne hc') (fun _ _ => rfl) (hvR c _ hI2) ?_ ?_
        · rcases am_ftyR n hn n2 hn2 hI2 with ⟨C, e⟩ | ⟨t, e⟩ <;> rw [e] <;> rfl
        · rcases am_ftyR n hn n2 hn2 hI2 with ⟨C, e⟩ | ⟨t, e⟩ <;> rw [e] <;> rfl
    · cases h
  · cases h
end AMS
