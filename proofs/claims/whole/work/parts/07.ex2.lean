/-! group 2: jumps -/
section AMS
variable {l : Launch} {D : va_G} {DA : Nat → ClassId} {b sz : Nat} {q : am_M}
theorem am_x_goto {pc n : Nat} {off : Int} {w : List Nat} {L : am_L} {S : List Value} {X : am_T × (Nat → Nat → Value) × (Nat → Nat → Int32)} {st : am_S} (hd : decode q.2.2.1 pc = .ok (.goto off, 3)) (ho : (pc : Int) + off = (n : Int)) (h : am_ex2 (.goto off) (pc + 3) n w L S X = some st) : am_St l D DA b sz q (pc, L, S, X) st := by
  cases h
  exact am_st_p (by
    intro p e R s m args below meth c Q ls H locs cells slots hA hf hl hc hs hL hO k
    obtain ⟨hx, hb, hml, hown, hts, hK, hin⟩ := hA
    exact lv_goto hx hb hd ho k)
theorem am_x_ifCond_eq {pc n : Nat} {off : Int} {w : List Nat} {L : am_L} {S : List Value} {X : am_T × (Nat → Nat → Value) × (Nat → Nat → Int32)} {st : am_S} (hd : decode q.2.2.1 pc = .ok (.ifCond .eq off, 3)) (ho : (pc : Int) + off = (n : Int)) (h : am_ex2 (.ifCond .eq off) (pc + 3) n w L S X = some st) : am_St l D DA b sz q (pc, L, S, X) st := by
  simp only [am_ex2] at h
  split at h
  · cases h
    exact am_st_p (by
      intro p e R s m args below meth c Q ls H locs cells slots hA hf hl hc hs hL hO k
      obtain ⟨hx, hb, hml, hown, hts, hK, hin⟩ := hA
      exact lv_if_eq hx hb hd ho (fun h9 => by rw [if_pos h9] at k; exact k) (fun h9 => by rw [if_neg h9] at k; exact k))
  · cases h
theorem am_x_if_icmp_eq {pc n : Nat} {off : Int} {w : List Nat} {L : am_L} {S : List Value} {X : am_T × (Nat → Nat → Value) × (Nat → Nat → Int32)} {st : am_S} (hd : decode q.2.2.1 pc = .ok (.if_icmp .eq off, 3)) (ho : (pc : Int) + off = (n : Int)) (h : am_ex2 (.if_icmp .eq off) (pc + 3) n w L S X = some st) : am_St l D DA b sz q (pc, L, S, X) st := by
  simp only [am_ex2] at h
  split at h
  · cases h
    exact am_st_p (by
      intro p e R s m args below meth c Q ls H locs cells slots hA hf hl hc hs hL hO k
      obtain ⟨hx, hb, hml, hown, hts, hK, hin⟩ := hA
      exact lv_icmp_eq hx hb hd ho (fun h9 => by rw [if_pos h9] at k; exact k) (fun h9 => by rw [if_neg h9] at k; exact k))
  · cases h
theorem am_x_ifCond_ne {pc n : Nat} {off : Int} {w : List Nat} {L : am_L} {S : List Value} {X : am_T × (Nat → Nat → Value) × (Nat → Nat → Int32)} {st : am_S} (hd : decode q.2.2.1 pc = .ok (.ifCond .ne off, 3)) (ho : (pc : Int) + off = (n : Int)) (h : am_ex2 (.ifCond .ne off) (pc + 3) n w L S X = some st) : am_St l D DA b sz q (pc, L, S, X) st := by
  simp only [am_ex2] at h
  split at h
  · cases h
    exact am_st_p (by
      intro p e R s m args below meth c Q ls H locs cells slots hA hf hl hc hs hL hO k
      obtain ⟨hx, hb, hml, hown, hts, hK, hin⟩ := hA
      exact lv_if_ne hx hb hd ho (fun h9 => by rw [if_neg h9] at k; exact k) (fun h9 => by rw [if_pos h9] at k; exact k))
  · cases h
theorem am_x_if_icmp_ne {pc n : Nat} {off : Int} {w : List Nat} {L : am_L} {S : List Value} {X : am_T × (Nat → Nat → Value) × (Nat → Nat → Int32)} {st : am_S} (hd : decode q.2.2.1 pc = .ok (.if_icmp .ne off, 3)) (ho : (pc : Int) + off = (n : Int)) (h : am_ex2 (.if_icmp .ne off) (pc + 3) n w L S X = some st) : am_St l D DA b sz q (pc, L, S, X) st := by
  simp only [am_ex2] at h
  split at h
  · cases h
    exact am_st_p (by
      intro p e R s m args below meth c Q ls H locs cells slots hA hf hl hc hs hL hO k
      obtain ⟨hx, hb, hml, hown, hts, hK, hin⟩ := hA
      exact lv_icmp_ne hx hb hd ho (fun h9 => by rw [if_neg h9] at k; exact k) (fun h9 => by rw [if_pos h9] at k; exact k))
  · cases h
theorem am_x_ifCond_lt {pc n : Nat} {off : Int} {w : List Nat} {L : am_L} {S : List Value} {X : am_T × (Nat → Nat → Value) × (Nat → Nat → Int32)} {st : am_S} (hd : decode q.2.2.1 pc = .ok (.ifCond .lt off, 3)) (ho : (pc : Int) + off = (n : Int)) (h : am_ex2 (.ifCond .lt off) (pc + 3) n w L S X = some st) : am_St l D DA b sz q (pc, L, S, X) st := by
  simp only [am_ex2] at h
  split at h
  · cases h
    exact am_st_p (by
      intro p e R s m args below meth c Q ls H locs cells slots hA hf hl hc hs hL hO k
      obtain ⟨hx, hb, hml, hown, hts, hK, hin⟩ := hA
      exact lv_if_lt hx hb hd ho (fun h9 => by rw [if_pos h9] at k; exact k) (fun h9 => by rw [if_neg h9] at k; exact k))
  · cases h
theorem am_x_if_icmp_lt {pc n : Nat} {off : Int} {w : List Nat} {L : am_L} {S : List Value} {X : am_T × (Nat → Nat → Value) × (Nat → Nat → Int32)} {st : am_S} (hd : decode q.2.2.1 pc = .ok (.if_icmp .lt off, 3)) (ho : (pc : Int) + off = (n : Int)) (h : am_ex2 (.if_icmp .lt off) (pc + 3) n w L S X = some st) : am_St l D DA b sz q (pc, L, S, X) st := by
  simp only [am_ex2] at h
  split at h
  · cases h
    exact am_st_p (by
      intro p e R s m args below meth c Q ls H locs cells slots hA hf hl hc hs hL hO k
      obtain ⟨hx, hb, hml, hown, hts, hK, hin⟩ := hA
      exact lv_icmp_lt hx hb hd ho (fun h9 => by rw [if_pos h9] at k; exact k) (fun h9 => by rw [if_neg h9] at k; exact k))
  · cases h
theorem am_x_ifCond_ge {pc n : Nat} {off : Int} {w : List Nat} {L : am_L} {S : List Value} {X : am_T × (Nat → Nat → Value) × (Nat → Nat → Int32)} {st : am_S} (hd : decode q.2.2.1 pc = .ok (.ifCond .ge off, 3)) (ho : (pc : Int) + off = (n : Int)) (h : am_ex2 (.ifCond .ge off) (pc + 3) n w L S X = some st) : am_St l D DA b sz q (pc, L, S, X) st := by
  simp only [am_ex2] at h
  split at h
  · cases h
    exact am_st_p (by
      intro p e R s m args below meth c Q ls H locs cells slots hA hf hl hc hs hL hO k
      obtain ⟨hx, hb, hml, hown, hts, hK, hin⟩ := hA
      exact lv_if_ge hx hb hd ho (fun h9 => by rw [if_pos h9] at k; exact k) (fun h9 => by rw [if_neg h9] at k; exact k))
  · cases h
theorem am_x_if_icmp_ge {pc n : Nat} {off : Int} {w : List Nat} {L : am_L} {S : List Value} {X : am_T × (Nat → Nat → Value) × (Nat → Nat → Int32)} {st : am_S} (hd : decode q.2.2.1 pc = .ok (.if_icmp .ge off, 3)) (ho : (pc : Int) + off = (n : Int)) (h : am_ex2 (.if_icmp .ge off) (pc + 3) n w L S X = some st) : am_St l D DA b sz q (pc, L, S, X) st := by
  simp only [am_ex2] at h
  split at h
  · cases h
    exact am_st_p (by
      intro p e R s m args below meth c Q ls H locs cells slots hA hf hl hc hs hL hO k
      obtain ⟨hx, hb, hml, hown, hts, hK, hin⟩ := hA
      exact lv_icmp_ge hx hb hd ho (fun h9 => by rw [if_pos h9] at k; exact k) (fun h9 => by rw [if_neg h9] at k; exact k))
  · cases h
theorem am_x_ifCond_gt {pc n : Nat} {off : Int} {w : List Nat} {L : am_L} {S : List Value} {X : am_T × (Nat → Nat → Value) × (Nat → Nat → Int32)} {st : am_S} (hd : decode q.2.2.1 pc = .ok (.ifCond .gt off, 3)) (ho : (pc : Int) + off = (n : Int)) (h : am_ex2 (.ifCond .gt off) (pc + 3) n w L S X = some st) : am_St l D DA b sz q (pc, L, S, X) st := by
  simp only [am_ex2] at h
  split at h
  · cases h
    exact am_st_p (by
      intro p e R s m args below meth c Q ls H locs cells slots hA hf hl hc hs hL hO k
      obtain ⟨hx, hb, hml, hown, hts, hK, hin⟩ := hA
      exact lv_if_gt hx hb hd ho (fun h9 => by rw [if_pos h9] at k; exact k) (fun h9 => by rw [if_neg h9] at k; exact k))
  · cases h
theorem am_x_if_icmp_gt {pc n : Nat} {off : Int} {w : List Nat} {L : am_L} {S : List Value} {X : am_T × (Nat → Nat → Value) × (Nat → Nat → Int32)} {st : am_S} (hd : decode q.2.2.1 pc = .ok (.if_icmp .gt off, 3)) (ho : (pc : Int) + off = (n : Int)) (h : am_ex2 (.if_icmp .gt off) (pc + 3) n w L S X = some st) : am_St l D DA b sz q (pc, L, S, X) st := by
  simp only [am_ex2] at h
  split at h
  · cases h
    exact am_st_p (by
      intro p e R s m args below meth c Q ls H locs cells slots hA hf hl hc hs hL hO k
      obtain ⟨hx, hb, hml, hown, hts, hK, hin⟩ := hA
      exact lv_icmp_gt hx hb hd ho (fun h9 => by rw [if_pos h9] at k; exact k) (fun h9 => by rw [if_neg h9] at k; exact k))
  · cases h
theorem am_x_ifCond_le {pc n : Nat} {off : Int} {w : List Nat} {L : am_L} {S : List Value} {X : am_T × (Nat → Nat → Value) × (Nat → Nat → Int32)} {st : am_S} (hd : decode q.2.2.1 pc = .ok (.ifCond .le off, 3)) (ho : (pc : Int) + off = (n : Int)) (h : am_ex2 (.ifCond .le off) (pc + 3) n w L S X = some st) : am_St l D DA b sz q (pc, L, S, X) st := by
  simp only [am_ex2] at h
  split at h
  · cases h
    exact am_st_p (by
      intro p e R s m args below meth c Q ls H locs cells slots hA hf hl hc hs hL hO k
      obtain ⟨hx, hb, hml, hown, hts, hK, hin⟩ := hA
      exact lv_if_le hx hb hd ho (fun h9 => by rw [if_pos h9] at k; exact k) (fun h9 => by rw [if_neg h9] at k; exact k))
  · cases h
theorem am_x_if_icmp_le {pc n : Nat} {off : Int} {w : List Nat} {L : am_L} {S : List Value} {X : am_T × (Nat → Nat → Value) × (Nat → Nat → Int32)} {st : am_S} (hd : decode q.2.2.1 pc = .ok (.if_icmp .le off, 3)) (ho : (pc : Int) + off = (n : Int)) (h : am_ex2 (.if_icmp .le off) (pc + 3) n w L S X = some st) : am_St l D DA b sz q (pc, L, S, X) st := by
  simp only [am_ex2] at h
  split at h
  · cases h
    exact am_st_p (by
      intro p e R s m args below meth c Q ls H locs cells slots hA hf hl hc hs hL hO k
      obtain ⟨hx, hb, hml, hown, hts, hK, hin⟩ := hA
      exact lv_icmp_le hx hb hd ho (fun h9 => by rw [if_pos h9] at k; exact k) (fun h9 => by rw [if_neg h9] at k; exact k))
  · cases h
theorem am_x_ifnull {pc n : Nat} {off : Int} {w : List Nat} {L : am_L} {S : List Value} {X : am_T × (Nat → Nat → Value) × (Nat → Nat → Int32)} {st : am_S} (hd : decode q.2.2.1 pc = .ok (.ifnull off, 3)) (ho : (pc : Int) + off = (n : Int)) (h : am_ex2 (.ifnull off) (pc + 3) n w L S X = some st) : am_St l D DA b sz q (pc, L, S, X) st := by
  simp only [am_ex2] at h
  split at h
  · cases h
    exact am_st_p (by
      intro p e R s m args below meth c Q ls H locs cells slots hA hf hl hc hs hL hO k
      obtain ⟨hx, hb, hml, hown, hts, hK, hin⟩ := hA
      exact lv_ifnull hx hb hd k)
  · cases h
    exact am_st_p (by
      intro p e R s m args below meth c Q ls H locs cells slots hA hf hl hc hs hL hO k
      obtain ⟨hx, hb, hml, hown, hts, hK, hin⟩ := hA
      exact lv_ifnullN hx hb hd ho k)
  · cases h
theorem am_x_ifnonnull {pc n : Nat} {off : Int} {w : List Nat} {L : am_L} {S : List Value} {X : am_T × (Nat → Nat → Value) × (Nat → Nat → Int32)} {st : am_S} (hd : decode q.2.2.1 pc = .ok (.ifnonnull off, 3)) (ho : (pc : Int) + off = (n : Int)) (h : am_ex2 (.ifnonnull off) (pc + 3) n w L S X = some st) : am_St l D DA b sz q (pc, L, S, X) st := by
  simp only [am_ex2] at h
  split at h
  · cases h
    exact am_st_p (by
      intro p e R s m args below meth c Q ls H locs cells slots hA hf hl hc hs hL hO k
      obtain ⟨hx, hb, hml, hown, hts, hK, hin⟩ := hA
      exact lv_ifnonnull hx hb hd ho k)
  · cases h
    exact am_st_p (by
      intro p e R s m args below meth c Q ls H locs cells slots hA hf hl hc hs hL hO k
      obtain ⟨hx, hb, hml, hown, hts, hK, hin⟩ := hA
      exact lv_ifnonnullN hx hb hd k)
  · cases h
theorem am_x_tableswitch {pc n : Nat} {d lo hi : Int} {offs : Array Int} {len : Nat} {w : List Nat} {L : am_L} {S : List Value} {X : am_T × (Nat → Nat → Value) × (Nat → Nat → Int32)} {st : am_S} (hd : decode q.2.2.1 pc = .ok (.tableswitch d lo hi offs, len)) (ho : (pc : Int) + d = (n : Int)) (ho2 : offs.toList.map (fun o => (pc : Int) + o) = w.map (fun g : Nat => (g : Int))) (h : am_ex2 (.tableswitch d lo hi offs) (pc + len) n w L S X = some st) : am_St l D DA b sz q (pc, L, S, X) st := by
  simp only [am_ex2] at h
  split at h
  · split at h
    · rename_i h9
      cases h
      exact am_st_p (by
        intro p e R s m args below meth c Q ls H locs cells slots hA hf hl hc hs hL hO k
        obtain ⟨hx, hb, hml, hown, hts, hK, hin⟩ := hA
        exact lv_tableOut hx hb hd h9 ho k)
    · rename_i x S h9
      have h1 : ¬ x.toInt < lo := fun z => h9 (Or.inl z)
      have h2 : ¬ hi < x.toInt := fun z => h9 (Or.inr z)
      split at h
      · rename_i g hg
        cases h
        have e1 : (offs.toList.map (fun o => (pc : Int) + o))[(x.toInt - lo).toNat]? = some (g : Int) := by
          rw [ho2, List.getElem?_map, hg]; rfl
        rw [List.getElem?_map] at e1
        cases ho3 : offs.toList[(x.toInt - lo).toNat]? with
        | none => rw [ho3] at e1; cases e1
        | some off =>
          rw [ho3] at e1
          have e2 : (pc : Int) + off = (g : Int) := Option.some.inj e1
          exact am_st_p (by
            intro p e R s m args below meth c Q ls H locs cells slots hA hf hl hc hs hL hO k
            obtain ⟨hx, hb, hml, hown, hts, hK, hin⟩ := hA
            exact lv_tableIn hx hb hd h1 h2 (by rw [← Array.getElem?_toList]; exact ho3) e2 k)
      · cases h
  · cases h
end AMS
