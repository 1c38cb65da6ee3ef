/-! the reference: makeLoads -/
def selF (P : Nat → Nat → Int) (M i : Nat) (a : Int) : Int := if P 8 i = 0 then a else if M.testBit i = true then a else if a = -1 then i else if tp P i ≤ tp P a.toNat then a else i
section MLO
variable {l : Launch} {D : va_G} {DA : Nat → ClassId} {b sz d L : Nat} {cu : Bool} {σ : Nat → Nat → Int32} {N : Nat} {P : Nat → Nat → Int} {Q : Nat → Int}
theorem wLd_0 {c0 : Nat} {ld : Nat → Int} : wLd σ c0 0 ld = σ := by
  funext c k
  unfold wLd
  rw [if_neg (by omega)]
theorem wLd_z {c0 i : Nat} : am_us (wLd σ c0 i (fun _ => 0)) c0 i 0 = wLd σ c0 (i + 1) (fun _ => 0) := by
  funext c k
  unfold am_us wLd
  by_cases e : c = c0 ∧ k = i
  · rw [if_pos e, if_pos ⟨e.1, by omega⟩]; rfl
  · rw [if_neg e]
    by_cases e2 : c = c0 ∧ k < i
    · rw [if_pos e2, if_pos ⟨e2.1, by omega⟩]
    · rw [if_neg e2, if_neg (by omega)]
theorem plc_le {m n : Nat} (hn : n < N) (h1 : 1 ≤ tp P m ∧ tp P m ≤ 12) (h2 : 1 ≤ tp P n ∧ tp P n ≤ 12) (h : tp P m < tp P n ∨ (tp P m = tp P n ∧ n ≤ m)) : plc P N n ≤ plc P N m := by
  obtain ⟨t, e⟩ : ∃ t : Nat, tp P m = t := ⟨(tp P m).toNat, by omega⟩
  obtain ⟨u, f⟩ : ∃ u : Nat, tp P n = u := ⟨(tp P n).toNat, by omega⟩
  unfold plc
  rw [e] at h h1 ⊢
  rw [f] at h h2 ⊢
  have e1 : ((t : Int)).toNat = t := rfl
  have e2 : ((u : Int)).toNat = u := rfl
  rw [e1, e2]
  rcases h with h | ⟨h, h3⟩
  · have h4 : (12 - u + 1) * N ≤ (12 - t) * N := Nat.mul_le_mul_right N (by omega)
    rw [Nat.add_mul] at h4
    omega
  · have h4 : t = u := by omega
    rw [h4]; omega
/-- which one is chosen -/
theorem sel_spec (ht : tOK N P) (M : Nat) {n : Nat} (hn : n ≤ N) : (fo (selF P M) (-1) n = -1 ∧ ∀ m, m < n → P 8 m ≠ 0 → M.testBit m = true) ∨ ∃ k : Nat, k < n ∧ fo (selF P M) (-1) n = k ∧ P 8 k ≠ 0 ∧ M.testBit k = false ∧ ∀ m, m < n → P 8 m ≠ 0 → M.testBit m = false → plc P N k ≤ plc P N m := by
  refine fo_inv (fun n (a : Int) => (a = -1 ∧ ∀ m, m < n → P 8 m ≠ 0 → M.testBit m = true) ∨ ∃ k : Nat, k < n ∧ a = k ∧ P 8 k ≠ 0 ∧ M.testBit k = false ∧ ∀ m, m < n → P 8 m ≠ 0 → M.testBit m = false → plc P N k ≤ plc P N m) (Or.inl ⟨rfl, fun m hm => by omega⟩) (fun i a hi ha => ?_)
  have lt1 : ∀ m, m < i + 1 → m < i ∨ m = i := fun m hm => by omega
  unfold selF
  by_cases e1 : P 8 i = 0
  · rw [if_pos e1]
    rcases ha with ⟨h1, h2⟩ | ⟨k, h1, h2, h3, h4, h5⟩
    · exact Or.inl ⟨h1, fun m hm hm8 => (lt1 m hm).elim (fun z => h2 m z hm8) (fun z => absurd (z ▸ e1) hm8)⟩
    · exact Or.inr ⟨k, by omega, h2, h3, h4, fun m hm hm8 hmb => (lt1 m hm).elim (fun z => h5 m z hm8 hmb) (fun z => absurd (z ▸ e1) hm8)⟩
  · rw [if_neg e1]
    by_cases e2 : M.testBit i = true
    · rw [if_pos e2]
      rcases ha with ⟨h1, h2⟩ | ⟨k, h1, h2, h3, h4, h5⟩
      · exact Or.inl ⟨h1, fun m hm hm8 => (lt1 m hm).elim (fun z => h2 m z hm8) (fun z => z ▸ e2)⟩
      · exact Or.inr ⟨k, by omega, h2, h3, h4, fun m hm hm8 hmb => (lt1 m hm).elim (fun z => h5 m z hm8 hmb) (fun z => by rw [z, e2] at hmb; cases hmb)⟩
    · rw [if_neg e2]
      have e2' : M.testBit i = false := by simpa using e2
      have hti := ht i (by omega) e1
      rcases ha with ⟨h1, h2⟩ | ⟨k, h1, h2, h3, h4, h5⟩
      · rw [if_pos h1]
        exact Or.inr ⟨i, by omega, rfl, e1, e2', fun m hm hm8 hmb => (lt1 m hm).elim (fun z => by rw [h2 m z hm8] at hmb; cases hmb) (fun z => by rw [z]; exact Nat.le_refl _)⟩
      · rw [if_neg (by omega), h2]
        have htk := ht k (by omega) h3
        by_cases e3 : tp P i ≤ tp P k
        · refine Or.inr ⟨k, by omega, if_pos e3, h3, h4, fun m hm hm8 hmb => (lt1 m hm).elim (fun z => h5 m z hm8 hmb) (fun z => ?_)⟩
          subst z
          exact plc_le (by omega) hti htk (by omega)
        · refine Or.inr ⟨i, by omega, if_neg e3, e1, e2', fun m hm hm8 hmb => (lt1 m hm).elim (fun z => ?_) (fun z => by rw [z]; exact Nat.le_refl _)⟩
          have h6 : plc P N i ≤ plc P N k := plc_le (by omega) htk hti (by omega)
          have h7 := h5 m z hm8 hmb
          omega
theorem c_R_mlLoop (hd : 4 ≤ d) (h : mOK σ N P Q) (hp : pOK N P Q) (ht : tOK N P) : ∀ (n p M : Nat), 12 * N - p = n → p ≤ 12 * N → M < 2 ^ 20 → (∀ m, m < N → (M.testBit m = true ↔ (P 8 m ≠ 0 ∧ plc P N m < p))) →
    am_Go l D DA b sz d M_R_makeLoads (25, [some (.ref 47), some (.int (zi M)), none, none, none, none, none, none], [], (am_TT cu L, am_RR cu, wLd σ 61 N (ldP P N p))) none (am_TT cu L, am_RR cu, wLd σ 61 N (lds P N)) := by
  obtain ⟨d, rfl⟩ : ∃ d', d = d' + 1 := ⟨d - 1, by omega⟩
  have hN := hp.1
  intro n
  induction n using Nat.strongRecOn with
  | ind n IH =>
    intro p M hn hpN hM hMb
    have hm : mOK (wLd σ 61 N (ldP P N p)) N P Q := mOK_wLd h (by omega)
    refine v_R_makeLoads_25 _ ?_
    rw [zm1]
    refine fo_loop (fun i a => am_Go l D DA b sz (d + 1) M_R_makeLoads (29, [some (.ref 47), some (.int (zi M)), some (.int (zi a)), some (.int (zi i)), none, none, none, none], [], (am_TT cu L, am_RR cu, wLd σ 61 N (ldP P N p))) none (am_TT cu L, am_RR cu, wLd σ 61 N (lds P N))) (selF P M) (-1) N ?_ (fun i a hi ha ih => ?_)
    · refine v_R_makeLoads_29 _ _ _ ?_
      rcases sel_spec ht M (Nat.le_refl N) with ⟨h1, h2⟩ | ⟨k, h1, h2, h3, h4, h5⟩
      · rw [h1, zm1]
        have hl : lds P N = ldP P N p := ldP_skip ht hpN (Nat.le_refl _) (fun m hmN hm8 hz => by
          have := ((hMb m hmN).mp (h2 m hmN hm8)).2
          omega)
        rw [hl]
        simp (disch := omega) only [hm.1, zi_le, zi_eq]
        exact ⟨fun _ => ⟨fun _ => (by first | exact ⟨rfl, rfl⟩ | exact ⟨trivial, trivial⟩ | exact ⟨trivial, rfl⟩ | exact ⟨rfl, trivial⟩ | trivial), fun h0 => absurd trivial h0⟩, fun h0 => absurd h0 (by omega)⟩
      · rw [h2, zm1, mk_shl (by omega), mk_or]
        have hnd : ¬ (P 8 k ≠ 0 ∧ plc P N k < p) := fun z => by rw [(hMb k h1).mpr z] at h4; cases h4
        have hpk : p ≤ plc P N k := by
          by_cases e : plc P N k < p
          · exact absurd ⟨h3, e⟩ hnd
          · omega
        have hlt := plc_lt h1 (ht k h1 h3)
        have hsk : ldP P N (plc P N k) = ldP P N p := ldP_skip ht hpk (by omega) (fun m hmN hm8 hz => by
          have h9 : M.testBit m = false := by
            cases h8 : M.testBit m with
            | false => rfl
            | true => have := ((hMb m hmN).mp h8).2; omega
          have := h5 m hmN hm8 h9
          omega)
        have hg := ldP_at ht h1 h3
        rw [hsk] at hg
        have hbd := ldP_le hp ht hpN h1 hnd
        simp (disch := omega) only [hm.1, zi_le, zi_eq]
        refine ⟨fun _ => ⟨fun h0 => absurd h0 (by omega), fun _ => ?_⟩, fun h0 => absurd h0 (by omega)⟩
        refine c_R_give (by omega) h hp h1 hbd ?_
        rw [← hg]
        refine IH (12 * N - (plc P N k + 1)) (by omega) (plc P N k + 1) (M ||| 2 ^ k) rfl (by omega) (mk_lt hM (by omega)) (fun m hmN => ?_)
        rw [mk_set]
        constructor
        · intro hz
          rw [Bool.or_eq_true, decide_eq_true_eq] at hz
          rcases hz with hz | hz
          · have := (hMb m hmN).mp hz
            exact ⟨this.1, by omega⟩
          · subst hz; exact ⟨h3, by omega⟩
        · rintro ⟨z1, z2⟩
          rw [Bool.or_eq_true, decide_eq_true_eq]
          cases h8 : M.testBit m with
          | true => exact Or.inl rfl
          | false =>
            have h9 := h5 m hmN z1 h8
            exact Or.inr (plc_inj h1 hmN (ht k h1 h3) (ht m hmN z1) (by omega))
    · have hi20 : i < 20 := by omega
      obtain ⟨⟨e0, e1, e2, e3, e4, e5, e6⟩, e7, e8, e9, e10, e11, e12⟩ := hm.row hi20
      have hbi := hp.2.1 i hi
      have hti : tp P i = P 11 i + P 2 i := rfl
      have hab : -1 ≤ a ∧ a < i ∨ a = -1 := by
        rw [ha]
        rcases sel_spec ht M (n := i) (by omega) with ⟨h1, -⟩ | ⟨k, h1, h2, -⟩
        · exact Or.inr h1
        · left; omega
      unfold bOK at hbi
      refine v_R_makeLoads_29 _ _ _ ?_
      rw [zm1, mk_bit0 (Nat.lt_of_lt_of_le hM (by decide)) (by omega)]
      unfold selF at ih
      simp (disch := omega) only [hm.1, zi_le, zi_eq, zi_cl, e8, zi_eq0, zi_lt0, zi_s1]
      refine ⟨fun h0 => absurd h0 (by omega), fun _ => ⟨by omega, fun h1 => ?_, fun h1 => ⟨fun h2 => ⟨fun h3 => ?_, fun h3 => ?_⟩, fun h2 => ?_⟩⟩⟩
      · rw [if_pos h1] at ih; exact ih
      · rw [if_neg h1, if_neg (by rw [h2]; decide), if_pos h3] at ih; exact ih
      · rw [if_neg h1, if_neg (by rw [h2]; decide), if_neg h3] at ih
        obtain ⟨k, hk⟩ : ∃ k : Nat, a = k := ⟨a.toNat, by omega⟩
        subst hk
        have hbk := hp.2.1 k (by omega)
        have htk : tp P k = P 11 k + P 2 k := rfl
        unfold bOK at hbk
        refine ⟨_, _, c_R_topOf hm hi20, _, _, c_R_topOf hm (by omega), ?_⟩
        simp (disch := omega) only [zi_le]
        have e9 : ((k : Int)).toNat = k := rfl
        rw [e9] at ih
        refine ⟨fun h4 => ?_, fun h4 => ?_⟩
        · rw [if_pos h4] at ih; exact ih
        · rw [if_neg h4] at ih; exact ih
      · rw [if_neg h1, if_pos (by simpa using h2)] at ih; exact ih
theorem c_R_makeLoads (hd : 4 ≤ d) (h : mOK σ N P Q) (hp : pOK N P Q) (ht : tOK N P) : GG l D DA b sz d L cu M_R_makeLoads [some (.ref 47), none, none, none, none, none, none, none] σ none (wLd σ 61 N (lds P N)) := by
  have hlp := c_R_mlLoop (l := l) (D := D) (DA := DA) (b := b) (sz := sz) (d := d) (L := L) (cu := cu) hd h hp ht (12 * N) 0 0 rfl (by omega) (by decide) (fun m _ => by simp)
  obtain ⟨d, rfl⟩ : ∃ d', d = d' + 1 := ⟨d - 1, by omega⟩
  have hN := hp.1
  refine v_R_makeLoads_0 ?_
  have key : am_Go l D DA b sz (d + 1) M_R_makeLoads (2, [some (.ref 47), some (.int (zi (0 : Nat))), none, none, none, none, none, none], [], (am_TT cu L, am_RR cu, wLd σ 61 0 (fun _ => 0))) none (am_TT cu L, am_RR cu, wLd σ 61 N (lds P N)) := by
    refine up_loop (fun i => am_Go l D DA b sz (d + 1) M_R_makeLoads (2, [some (.ref 47), some (.int (zi i)), none, none, none, none, none, none], [], (am_TT cu L, am_RR cu, wLd σ 61 i (fun _ => 0))) none (am_TT cu L, am_RR cu, wLd σ 61 N (lds P N))) N ?_ (fun i hi ih => ?_)
    · have hm : mOK (wLd σ 61 N (fun _ => 0)) N P Q := mOK_wLd h (by omega)
      refine v_R_makeLoads_2 _ ?_
      simp (disch := omega) only [hm.1, zi_le]
      exact ⟨fun _ => hlp, fun h0 => absurd h0 (by omega)⟩
    · have hm : mOK (wLd σ 61 i (fun _ => 0)) N P Q := mOK_wLd h (by omega)
      refine v_R_makeLoads_2 _ ?_
      simp (disch := omega) only [hm.1, zi_le, zi_cl, zi_lt0, zi_s1]
      refine ⟨fun h0 => absurd h0 (by omega), fun _ => ⟨by omega, ?_⟩⟩
      rw [wLd_z]
      exact ih
  rw [wLd_0] at key
  exact key
end MLO
