/-! the reference: wrongAt, wrong, place -/
section MW2
variable {l : Launch} {D : va_G} {DA : Nat → ClassId} {b sz d L : Nat} {cu : Bool} {σ : Nat → Nat → Int32} {N : Nat} {P : Nat → Nat → Int} {Q : Nat → Int} {r : Option Value} {X' : am_X}
theorem pp_at (n : Nat) (x y z t : Int) : pp P n x y z t 9 n = x ∧ pp P n x y z t 10 n = y ∧ pp P n x y z t 11 n = z ∧ pp P n x y z t 12 n = t := by
  unfold pp pu
  simp
theorem pp_o {n k m : Nat} {x y z t : Int} (h : k < 9 ∨ 12 < k ∨ m ≠ n) : pp P n x y z t k m = P k m := by
  unfold pp pu
  rw [if_neg (by omega), if_neg (by omega), if_neg (by omega), if_neg (by omega)]
theorem pp_mOK (h : mOK σ N P Q) (n : Nat) (x y z t : Int) : mOK (am_us (am_us (am_us (am_us σ 57 n (zi x)) 58 n (zi y)) 59 n (zi z)) 60 n (zi t)) N (pp P n x y z t) Q :=
  mOK_pu (mOK_pu (mOK_pu (mOK_pu h (k := 9) (by decide) x) (k := 10) (by decide) y) (k := 11) (by decide) z) (k := 12) (by decide) t
theorem pp_pOK (hp : pOK N P Q) {n : Nat} (hn : n < N) (h8 : P 8 n = 0) {x y z t : Int} (hx : 0 ≤ x ∧ x ≤ 40) (hy : 0 ≤ y ∧ y ≤ 40) (hz : 0 ≤ z ∧ z ≤ 40) (ht : t = 0 ∨ t = 1) : pOK N (pp P n x y z t) Q := by
  obtain ⟨a1, a2, a3, a4⟩ := pp_at (P := P) n x y z t
  refine ⟨hp.1, fun m hm => ?_, fun m hm hm8 => ?_, hp.2.2.2⟩
  · have hb := hp.2.1 m hm
    unfold bOK at hb ⊢
    by_cases e : m = n
    · subst e
      rw [a1, a2, a3, a4, pp_o (by omega), pp_o (by omega), pp_o (by omega), pp_o (by omega), pp_o (by omega), pp_o (by omega), pp_o (by omega), pp_o (by omega), pp_o (by omega)]
      omega
    · rw [pp_o (by omega), pp_o (by omega), pp_o (by omega), pp_o (by omega), pp_o (by omega), pp_o (by omega), pp_o (by omega), pp_o (by omega), pp_o (by omega), pp_o (by omega), pp_o (by omega), pp_o (by omega), pp_o (by omega)]
      exact hb
  · rw [pp_o (by omega)] at hm8
    have e : m ≠ n := fun z => by rw [z, h8] at hm8; cases hm8
    have hi := hp.2.2.1 m hm hm8
    unfold inQ lng wdt at hi ⊢
    rw [pp_o (by omega), pp_o (by omega), pp_o (by omega), pp_o (by omega), pp_o (by omega), pp_o (by omega), pp_o (by omega)]
    exact hi
theorem thr_ge (n : Nat) (o : Nat) (k : Nat) (h : fo (thrF P n) o k = 0) : o = 0 := by
  induction k with
  | zero => exact h
  | succ k ih =>
    apply ih
    have h : thrF P n k (fo (thrF P n) o k) = 0 := h
    unfold thrF at h
    split at h
    · exact h
    · split at h
      · exact h
      · split at h
        · exact h
        · exact (Nat.or_eq_zero_iff.mp h).1
/-- what wrongAt leaves behind, box n not in -/
theorem c_R_wrongAt (hd : 5 ≤ d) (h : mOK σ N P Q) (hp : pOK N P Q) {n : Nat} (hn : n < N) (h8 : P 8 n = 0) {x y z t : Int} (hx : 0 ≤ x ∧ x ≤ 40) (hy : 0 ≤ y ∧ y ≤ 40) (hz : 0 ≤ z ∧ z ≤ 40) (ht : t = 0 ∨ t = 1) :
    ∃ σ', GG l D DA b sz d L cu M_R_wrongAt [some (.ref 47), some (.int (zi n)), some (.int (zi x)), some (.int (zi y)), some (.int (zi z)), some (.int (zi t)), none, none, none, none] σ (some (.int (zi (wrg (pp P n x y z t) Q N n)))) σ' ∧ mOK σ' N (pp P n x y z t) Q ∧ ∀ c, c < 56 ∨ 62 ≤ c → σ' c = σ c := by
  have hN := hp.1
  have hn20 : n < 20 := by omega
  have hm1 := pp_mOK h n x y z t
  have hp1 := pp_pOK hp hn h8 hx hy hz ht
  obtain ⟨a1, a2, a3, a4⟩ := pp_at (P := P) n x y z t
  have h81 : pp P n x y z t 8 n = 0 := by rw [pp_o (by omega)]; exact h8
  have hfr1 : ∀ c, c < 56 ∨ 62 ≤ c → am_us (am_us (am_us (am_us σ 57 n (zi x)) 58 n (zi y)) 59 n (zi z)) 60 n (zi t) c = σ c := fun c hc => by
    rw [am_us_ne (by omega), am_us_ne (by omega), am_us_ne (by omega), am_us_ne (by omega)]
  -- from the entry to pc 84
  have k0 : ∀ {r : Option Value} {X' : am_X}, am_Go l D DA b sz d M_R_wrongAt (84, [some (.ref 47), some (.int (zi n)), none, none, some (.int (zi (pp P n x y z t 11 n))), none, some (.int (zi (outB (pp P n x y z t) Q n))), some (.int 0), none, none], [], (am_TT cu L, am_RR cu, am_us (am_us (am_us (am_us σ 57 n (zi x)) 58 n (zi y)) 59 n (zi z)) 60 n (zi t))) r X' →
      am_Go l D DA b sz d M_R_wrongAt (0, [some (.ref 47), some (.int (zi n)), some (.int (zi x)), some (.int (zi y)), some (.int (zi z)), some (.int (zi t)), none, none, none, none], [], (am_TT cu L, am_RR cu, σ)) r X' := by
    intro r X' G
    obtain ⟨d, rfl⟩ : ∃ d', d = d' + 1 := ⟨d - 1, by omega⟩
    obtain ⟨g0, g1, g2, g3, g4, g5, g6, g7, g8⟩ := hm1.q
    obtain ⟨⟨e0, e1, e2, e3, e4, e5, e6⟩, e7, e8, e9, e10, e11, e12⟩ := hm1.row hn20
    have hbn := hp1.2.1 n hn
    have hl := b_lng hbn
    have hw := b_wdt hbn
    have hq := hp.2.2.2
    unfold qOK at hq
    have ht2 : zi t = 0 ∨ zi t = 1 := by rcases ht with rfl | rfl; exact Or.inl rfl; exact Or.inr rfl
    have hh : 1 ≤ pp P n x y z t 2 n ∧ pp P n x y z t 2 n ≤ 12 := by unfold bOK at hbn; omega
    unfold outB at G
    rw [a1, a2, a3] at G
    refine v_R_wrongAt_0 _ _ _ _ _ ?_
    rw [show Int32.toNatClampNeg (zi n) = n from zi_cl (by omega)]
    simp (disch := omega) only [zi_lt0]
    refine ⟨by omega, by omega, by omega, by omega, ht2, _, _, c_R_longOf hm1 hn20 hbn, ?_⟩
    simp (disch := omega) only [g0, zi_add, zi_lt]
    refine ⟨fun h1 => ?_, fun h1 => ⟨_, _, c_R_wideOf hm1 hn20 hbn, ?_⟩⟩
    · rw [if_pos h1] at G; exact G
    · rw [if_neg h1] at G
      simp (disch := omega) only [g1, g2, e2, zi_add, zi_lt, zi_le, z01]
      refine ⟨fun h2 => ?_, fun h2 => ⟨by omega, ?_⟩⟩
      · rw [if_pos h2] at G; exact G
      · rw [if_neg h2] at G
        by_cases h3 : z + pp P n x y z t 2 n ≤ Q 2
        · rw [if_pos h3] at G ⊢; exact G
        · rw [if_neg h3] at G ⊢; exact G
  by_cases c1 : b1W (pp P n x y z t) Q N n = 0
  · have ho : outB (pp P n x y z t) Q n = 0 := thr_ge n _ N c1
    have hinQ : inQ (pp P n x y z t) Q n := by
      unfold outB at ho
      unfold inQ
      split at ho
      · cases ho
      · split at ho
        · cases ho
        · split at ho
          · omega
          · cases ho
    by_cases c2 : b3W (pp P n x y z t) Q N n &&& 4 = 0
    · have hmL : mOK (wLd (am_us (am_us (am_us (am_us (am_us σ 57 n (zi x)) 58 n (zi y)) 59 n (zi z)) 60 n (zi t)) 56 n 1) 61 N (lds (pu (pp P n x y z t) 8 n 1) N)) N (pu (pp P n x y z t) 8 n 1) Q := mOK_wLd (mOK_pu hm1 (k := 8) (by decide) 1) (by omega)
      have hback : pu (pu (pp P n x y z t) 8 n 1) 8 n 0 = pp P n x y z t := by
        funext k m
        unfold pu
        by_cases e : k = 8 ∧ m = n
        · rw [if_pos e, e.1, e.2, h81]
        · rw [if_neg e, if_neg e]
      have hmF : mOK (am_us (wLd (am_us (am_us (am_us (am_us (am_us σ 57 n (zi x)) 58 n (zi y)) 59 n (zi z)) 60 n (zi t)) 56 n 1) 61 N (lds (pu (pp P n x y z t) 8 n 1) N)) 56 n 0) N (pp P n x y z t) Q := by
        have h9 := mOK_pu hmL (k := 8) (n := n) (by decide) 0
        rw [hback] at h9
        exact h9
      refine ⟨_, k0 (w84 (by omega) hm1 hN hp1.2.1 hn (fun z => absurd c1 z) (fun _ => w167 (by omega) hm1 hp1 hn (w232 hd hm1 hp1 hn h81 hinQ (fun z => absurd c2 z) (fun _ => ?_)))), hmF, fun c hc => ?_⟩
      · obtain ⟨d, rfl⟩ : ∃ d', d = d' + 1 := ⟨d - 1, by omega⟩
        have hpI : pOK N (pu (pp P n x y z t) 8 n 1) Q := by
          refine ⟨hN, fun m hm => ?_, fun m hm hm8 => ?_, hp.2.2.2⟩
          · have hb := hp1.2.1 m hm
            unfold bOK at hb ⊢
            unfold pu
            by_cases e : m = n
            · subst e; simp; omega
            · simp [e]; omega
          · have hin2 : inQ (pp P n x y z t) Q m := by
              by_cases e : m = n
              · subst e; exact hinQ
              · have h9 : pu (pp P n x y z t) 8 n 1 8 m = pp P n x y z t 8 m := if_neg (fun z => e z.2)
                rw [h9] at hm8
                exact hp1.2.2.1 m hm hm8
            unfold inQ lng wdt pu at *
            simpa using hin2
        have htI : tOK N (pu (pp P n x y z t) 8 n 1) := by
          intro m hm hm8
          have hb := hpI.2.1 m hm
          have h8 : pu (pp P n x y z t) 8 n 1 8 m = 1 := by unfold bOK at hb; omega
          have hi := hpI.2.2.1 m hm h8
          have hq := hp.2.2.2
          have ht9 : tp (pu (pp P n x y z t) 8 n 1) m = pu (pp P n x y z t) 8 n 1 11 m + pu (pp P n x y z t) 8 n 1 2 m := rfl
          unfold bOK at hb
          unfold inQ at hi
          unfold qOK at hq
          omega
        have hw := w327 (l := l) (D := D) (DA := DA) (b := b) (sz := sz) (d := d) (L := L) (cu := cu) hmF hp1 (ld := lds (pu (pp P n x y z t) 8 n 1) N) (a0 := if lds (pu (pp P n x y z t) 8 n 1) N n ≤ pp P n x y z t 4 n then 0 else 1) (B := b3W (pp P n x y z t) Q N n) (b3W_lt N) (by split; exact Or.inl rfl; exact Or.inr rfl) (fun m hm => by rw [am_us_c (by decide), wLd_at hm]) (fun m _ => lds_bd hpI htI m)
        have e9 : wrg (pp P n x y z t) Q N n = (if fo (hvF (pp P n x y z t) (lds (pu (pp P n x y z t) 8 n 1) N)) (if lds (pu (pp P n x y z t) 8 n 1) N n ≤ pp P n x y z t 4 n then 0 else 1) N = 0 then b3W (pp P n x y z t) Q N n else b3W (pp P n x y z t) Q N n ||| 8) := by
          unfold wrg
          rw [if_neg (fun z => z c1), if_neg (fun z => z c2)]
          rfl
        rw [e9]
        exact hw
      · rw [am_us_ne (by omega)]
        have h9 : wLd (am_us (am_us (am_us (am_us (am_us σ 57 n (zi x)) 58 n (zi y)) 59 n (zi z)) 60 n (zi t)) 56 n 1) 61 N (lds (pu (pp P n x y z t) 8 n 1) N) c = am_us (am_us (am_us (am_us (am_us σ 57 n (zi x)) 58 n (zi y)) 59 n (zi z)) 60 n (zi t)) 56 n 1 c := funext fun k => wLd_c (by omega)
        rw [h9, am_us_ne (by omega)]
        exact hfr1 c hc
    · refine ⟨_, k0 (w84 (by omega) hm1 hN hp1.2.1 hn (fun z => absurd c1 z) (fun _ => w167 (by omega) hm1 hp1 hn (w232 hd hm1 hp1 hn h81 hinQ (fun _ => ⟨?_, rfl⟩) (fun z => absurd z c2)))), hm1, hfr1⟩
      unfold wrg
      rw [if_neg (fun z => z c1), if_pos c2]
  · refine ⟨_, k0 (w84 (by omega) hm1 hN hp1.2.1 hn (fun _ => ⟨?_, rfl⟩) (fun z => absurd z c1)), hm1, hfr1⟩
    unfold wrg
    rw [if_pos c1]
end MW2
