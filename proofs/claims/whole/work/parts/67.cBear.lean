/-! the class: bearAll; each bears its own -/
section CBR
variable {l : Launch} {D : va_G} {DA : Nat → ClassId} {b sz d L : Nat} {cu : Bool} {σ σ' : Nat → Nat → Int32} {N M B : Nat} {P R : Nat → Nat → Int} {Q : Nat → Int}
theorem c_fill5 : GG l D DA b sz d L cu M_Arrays_fill [some (.ref 5), some (.int 0), none, none] σ none (wLd σ 5 20 (fun _ => 0)) := by
  refine v_Arrays_fill_5_0 _ ?_
  have key := up_loop (fun i => am_Go l D DA b sz d M_Arrays_fill (5, [some (.ref 5), some (.int 0), some (.int (zi i)), some (.int (Int32.ofNat 20))], [], (am_TT cu L, am_RR cu, wLd σ 5 i (fun _ => 0))) none (am_TT cu L, am_RR cu, wLd σ 5 20 (fun _ => 0))) 20 ?_ (fun i hi ih => ?_)
  · rw [wLd_0] at key
    exact key
  · refine v_Arrays_fill_5_5 _ _ _ ⟨fun _ => (by first | exact ⟨rfl, rfl⟩ | exact ⟨trivial, trivial⟩ | exact ⟨trivial, rfl⟩ | exact ⟨rfl, trivial⟩ | trivial), fun h0 => absurd (by decide) h0⟩
  · refine v_Arrays_fill_5_5 _ _ _ ?_
    rw [show Int32.ofNat 20 = zi ((20 : Nat) : Int) from rfl, show Int32.toNatClampNeg (zi i) = i from zi_cl (by omega)]
    simp (disch := omega) only [zi_le, zi_lt0]
    refine ⟨fun h0 => absurd h0 (by omega), fun _ => ⟨by omega, ?_⟩⟩
    rw [zi_s1, wLd_z]
    exact ih
theorem bal_01 (p : Nat) : bal R N p = 0 ∨ bal R N p = 1 := by
  refine fo_inv (fun _ (a : Int) => a = 0 ∨ a = 1) (Or.inr rfl) (fun i x _ hx => ?_)
  unfold balF
  repeat' split
  all_goals simp_all
/-- behind its own place nothing more is given to a box -/
theorem ldP_fix (hp : pOK N R Q) (ht : tOK N R) {n : Nat} (hn : n < N) (h8 : R 8 n ≠ 0) : ∀ j, plc R N n + j ≤ 12 * N → ldP R N (plc R N n + j) n = ldP R N (plc R N n) n := by
  intro j
  induction j with
  | zero => intro _; rfl
  | succ j ih =>
    intro hj
    have ih := ih (by omega)
    show ldF R N (plc R N n + j) (ldP R N (plc R N n + j)) n = _
    unfold ldF
    by_cases c : R 8 ((plc R N n + j) % N) ≠ 0 ∧ tp R ((plc R N n + j) % N) = 12 - (((plc R N n + j) / N : Nat) : Int)
    · rw [if_pos c]
      have hg : (plc R N n + j) % N < N := Nat.mod_lt _ (by omega)
      have hpl : plc R N ((plc R N n + j) % N) = plc R N n + j := (plc_iff hg (ht _ hg c.1) (by omega)).mpr ⟨rfl, c.2⟩
      generalize (plc R N n + j) % N = g at *
      have hbg := hp.2.1 g hg
      have htg := ht g hg c.1
      have htn := ht n hn h8
      have hle : tp R g ≤ tp R n := by
        by_cases h9 : tp R g ≤ tp R n
        · exact h9
        · exfalso
          obtain ⟨t, e⟩ : ∃ t : Nat, tp R g = t := ⟨(tp R g).toNat, by omega⟩
          obtain ⟨u, f⟩ : ∃ u : Nat, tp R n = u := ⟨(tp R n).toNat, by omega⟩
          unfold plc at hpl
          rw [e] at htg h9 hpl
          rw [f] at htn h9 hpl
          have e1 : ((t : Int)).toNat = t := rfl
          have e2 : ((u : Int)).toNat = u := rfl
          rw [e1, e2] at hpl
          have h4 : (12 - t + 1) * N ≤ (12 - u) * N := Nat.mul_le_mul_right N (by omega)
          rw [Nat.add_mul] at h4
          omega
      have hs : stn R g n = 0 := by
        unfold stn
        by_cases e : g = n
        · rw [if_pos e]
        · have h9 : tp R g = R 11 g + R 2 g := rfl
          unfold bOK at hbg
          rw [if_neg e, if_neg h8, if_neg (by omega)]
      have h0 := (ldP_bd hp ht (p := plc R N n + j) (by omega)).1 g
      rw [(giv_spec (st := stn R g) (fun m _ => (stn_bd hbg).1) (by unfold bOK at hbg; omega)).2.1 n (Or.inr hs)]
      exact ih
    · rw [if_neg c]
      exact ih
theorem lds_fix (hp : pOK N R Q) (ht : tOK N R) {n : Nat} (hn : n < N) (h8 : R 8 n ≠ 0) : lds R N n = ldP R N (plc R N n) n := by
  have h1 := plc_lt hn (ht n hn h8)
  have h2 := ldP_fix hp ht hn h8 (12 * N - plc R N n) (by omega)
  rw [show plc R N n + (12 * N - plc R N n) = 12 * N by omega] at h2
  exact h2
theorem bal_at (ht : tOK N R) : ∀ {p : Nat}, p ≤ 12 * N → (bal R N p = 1 ↔ ∀ m, m < N → R 8 m ≠ 0 → plc R N m < p → ldP R N (plc R N m) m ≤ R 4 m)
  | 0, _ => ⟨fun _ m _ _ h => absurd h (by omega), fun _ => rfl⟩
  | p + 1, hpN => by
    have ih := bal_at ht (p := p) (by omega)
    have hN : 0 < N := by rcases Nat.eq_zero_or_pos N with h | h; subst h; omega; exact h
    have hm : p % N < N := Nat.mod_lt _ hN
    have h01 := bal_01 (R := R) (N := N) p
    show balF R N p (bal R N p) = 1 ↔ _
    unfold balF
    by_cases c : R 8 (p % N) ≠ 0 ∧ tp R (p % N) = 12 - ((p / N : Nat) : Int)
    · rw [if_pos c]
      have hpl : plc R N (p % N) = p := (plc_iff hm (ht _ hm c.1) (by omega)).mpr ⟨rfl, c.2⟩
      constructor
      · intro h m hmN h8 hlt
        by_cases e0 : bal R N p = 0
        · rw [if_pos e0] at h; exact absurd h (by decide)
        · rw [if_neg e0] at h
          by_cases e1 : R 4 (p % N) < ldP R N p (p % N)
          · rw [if_pos e1] at h; exact absurd h (by decide)
          · by_cases e2 : plc R N m = p
            · have e3 : m = p % N := plc_inj hmN hm (ht m hmN h8) (ht _ hm c.1) (by omega)
              rw [e2, e3]
              omega
            · exact ih.mp (by omega) m hmN h8 (by omega)
      · intro h
        have h1 := ih.mpr (fun m hmN h8 hlt => h m hmN h8 (by omega))
        have h2 := h (p % N) hm c.1 (by omega)
        rw [hpl] at h2
        rw [if_neg (by omega), if_neg (by omega)]
    · rw [if_neg c]
      refine ih.trans ⟨fun h m hmN h8 hlt => h m hmN h8 ?_, fun h m hmN h8 hlt => h m hmN h8 (by omega)⟩
      by_cases e : plc R N m = p
      · obtain ⟨e1, e2⟩ := (plc_iff hmN (ht m hmN h8) (by omega)).mp e
        exact absurd ⟨e1 ▸ h8, e1 ▸ e2⟩ c
      · omega
theorem bal_iff (hp : pOK N R Q) (ht : tOK N R) : bal R N (12 * N) = 1 ↔ ∀ m, m < N → R 8 m ≠ 0 → lds R N m ≤ R 4 m := by
  rw [bal_at ht (Nat.le_refl _)]
  constructor
  · intro h m hm h8
    rw [lds_fix hp ht hm h8]
    exact h m hm h8 (plc_lt hm (ht m hm h8))
  · intro h m hm h8 _
    rw [← lds_fix hp ht hm h8]
    exact h m hm h8
theorem c_bearAll (hd : 2 ≤ d) (h : lOK σ N R B) (hp : pOK N R Q) (ht : tOK N R) :
    ∃ σ', GG l D DA b sz d L cu M_Hold_bearAll [some (.ref 2), some (.int (zi (B : Int))), none, none, none] σ (some (.int (zi (bal R N (12 * N))))) σ' ∧ fr56 σ σ' ∧ ∀ m, m < N → σ' 5 m = zi (lds R N m) := by
  obtain ⟨d, rfl⟩ : ∃ d', d = d' + 1 := ⟨d - 1, by omega⟩
  have hN := hp.1
  have hN2 : ∀ {σ1 : Nat → Nat → Int32}, fr56 σ σ1 → σ1 2 2 = zi N := fun f => by rw [f 2 (by omega) (by omega)]; exact h.1
  have key : ∀ (t : Nat), t ≤ 12 → ∀ (σ1 : Nat → Nat → Int32), fr56 σ σ1 → (∀ m, m < N → σ1 5 m = zi (ldP R N ((12 - t) * N) m)) →
      ∃ σ', am_Go l D DA b sz (d + 1) M_Hold_bearAll (13, [some (.ref 2), some (.int (zi (B : Int))), some (.int (zi (bal R N ((12 - t) * N)))), some (.int (zi t)), none], [], (am_TT cu L, am_RR cu, σ1)) (some (.int (zi (bal R N (12 * N))))) (am_TT cu L, am_RR cu, σ') ∧ fr56 σ σ' ∧ ∀ m, m < N → σ' 5 m = zi (lds R N m) := by
    intro t
    induction t with
    | zero =>
      intro _ σ1 hf h5
      refine ⟨σ1, v_Hold_bearAll_13 _ _ _ ⟨fun _ => ⟨?_, (by first | exact ⟨rfl, rfl⟩ | exact ⟨trivial, trivial⟩ | exact ⟨trivial, rfl⟩ | exact ⟨rfl, trivial⟩ | trivial)⟩, fun h0 => absurd (by decide) h0⟩, hf, h5⟩
      rcases bal_01 (R := R) (N := N) ((12 - 0) * N) with h9 | h9
      · rw [h9]; exact Or.inl rfl
      · rw [h9]; exact Or.inr rfl
    | succ t iht =>
      intro ht12 σ1 hf h5
      have inner : ∀ (k i : Nat) (σ1 : Nat → Nat → Int32), i + k = N → fr56 σ σ1 → (∀ m, m < N → σ1 5 m = zi (ldP R N ((12 - (t + 1)) * N + i) m)) →
          ∃ σ', am_Go l D DA b sz (d + 1) M_Hold_bearAll (20, [some (.ref 2), some (.int (zi (B : Int))), some (.int (zi (bal R N ((12 - (t + 1)) * N + i)))), some (.int (zi ((t + 1 : Nat) : Int))), some (.int (zi i))], [], (am_TT cu L, am_RR cu, σ1)) (some (.int (zi (bal R N (12 * N))))) (am_TT cu L, am_RR cu, σ') ∧ fr56 σ σ' ∧ ∀ m, m < N → σ' 5 m = zi (lds R N m) := by
        intro k
        induction k with
        | zero =>
          intro i σ1 hi hf h5
          have e : (12 - (t + 1)) * N + i = (12 - t) * N := by
            rw [show 12 - t = 12 - (t + 1) + 1 by omega, Nat.add_mul]; omega
          rw [e] at h5 ⊢
          obtain ⟨σ', g, p1, p2⟩ := iht (by omega) σ1 hf h5
          refine ⟨σ', v_Hold_bearAll_20 _ _ _ _ ?_, p1, p2⟩
          rw [hN2 hf, show i = N by omega]
          refine ⟨fun _ => ?_, fun h0 => absurd (Int32.le_refl _) h0⟩
          rw [zm1, zi_add, show ((t + 1 : Nat) : Int) + -1 = t by omega]
          exact g
        | succ k ih =>
          intro i σ1 hi hf h5
          have hiN : i < N := by omega
          have hi20 : i < 20 := by omega
          have hl := lOK_fr h hN hf
          have hmod : ((12 - (t + 1)) * N + i) % N = i := by rw [Nat.add_comm, Nat.add_mul_mod_self_right]; exact Nat.mod_eq_of_lt hiN
          have hdiv : ((12 - (t + 1)) * N + i) / N = 11 - t := by rw [Nat.add_comm, Nat.add_mul_div_right _ _ (by omega), Nat.div_eq_of_lt hiN]; omega
          have hp12 : (12 - (t + 1)) * N + i < 12 * N := by
            have h9 : (12 - (t + 1)) * N ≤ 11 * N := Nat.mul_le_mul_right N (by omega)
            omega
          have e1 : ldP R N ((12 - (t + 1)) * N + (i + 1)) = ldF R N ((12 - (t + 1)) * N + i) (ldP R N ((12 - (t + 1)) * N + i)) := rfl
          have e2 : bal R N ((12 - (t + 1)) * N + (i + 1)) = balF R N ((12 - (t + 1)) * N + i) (bal R N ((12 - (t + 1)) * N + i)) := rfl
          have ih1 := ih (i + 1)
          rw [e1, e2] at ih1
          have hcond : ∀ z : Int, (z = 12 - (((11 - t : Nat)) : Int)) ↔ z = ((t + 1 : Nat) : Int) := fun z => by omega
          have hld : ¬ (R 8 i ≠ 0 ∧ plc R N i < (12 - (t + 1)) * N + i) ∨ ¬ tp R i = ((t + 1 : Nat) : Int) := by
            by_cases e : tp R i = ((t + 1 : Nat) : Int)
            · left
              rintro ⟨h1, h2⟩
              have h3 := (plc_iff hiN (ht i hiN h1) hp12).mpr ⟨hmod.symm, by rw [hdiv]; exact (hcond _).mpr e⟩
              omega
            · exact Or.inr e
          have h01 := bal_01 (R := R) (N := N) ((12 - (t + 1)) * N + i)
          have hbd : tp R i = ((t + 1 : Nat) : Int) → 0 ≤ ldP R N ((12 - (t + 1)) * N + i) i ∧ ldP R N ((12 - (t + 1)) * N + i) i ≤ 20000 := fun e => ldP_le hp ht (by omega) hiN (hld.resolve_right (fun z => z e))
          unfold ldF balF at ih1
          rw [hmod, hdiv] at ih1
          generalize ldP R N ((12 - (t + 1)) * N + i) = ld at *
          generalize bal R N ((12 - (t + 1)) * N + i) = al at *
          have hbi := hp.2.1 i hiN
          have h4 : 0 ≤ R 4 i ∧ R 4 i ≤ 20000 := by unfold bOK at hbi; omega
          have htp : 1 ≤ tp R i ∧ tp R i ≤ 60 := by have h9 : tp R i = R 11 i + R 2 i := rfl; unfold bOK at hbi; omega
          by_cases c1 : R 8 i = 0
          · rw [if_neg (fun z => z.1 c1), if_neg (fun z => z.1 c1)] at ih1
            obtain ⟨σ', g, p1, p2⟩ := ih1 σ1 (by omega) hf h5
            refine ⟨σ', v_Hold_bearAll_20 _ _ _ _ ?_, p1, p2⟩
            rw [hN2 hf, hv_bit h.2.1 hN hiN, zi_le (by omega) (by omega) (by omega) (by omega)]
            refine ⟨fun h0 => absurd h0 (by omega), fun _ => ⟨fun _ => ?_, fun h0 => absurd c1 h0⟩⟩
            rw [zi_s1]
            exact g
          · have e13 : σ1 (19 + i) 13 = zi (tp R i) := (hl.2.2.2 i hiN c1).2.2.2.2.2.1
            by_cases c2 : tp R i = ((t + 1 : Nat) : Int)
            · rw [if_pos ⟨c1, (hcond _).mpr c2⟩, if_pos ⟨c1, (hcond _).mpr c2⟩] at ih1
              have hb2 := hbd c2
              have e10 : σ1 (19 + i) 10 = zi (R 11 i) := (hl.2.2.2 i hiN c1).2.2.1
              have hz : 0 ≤ R 11 i ∧ R 11 i ≤ 40 := by unfold bOK at hbi; omega
              by_cases c4 : R 11 i ≤ 0
              · -- on the floor: it stands on nobody
                have hst : ∀ m, m < N → stn R i m = 0 := fun m hm => by
                  have h9 := hp.2.1 m hm
                  have h10 : tp R m = R 11 m + R 2 m := rfl
                  unfold bOK at h9
                  unfold stn
                  rw [if_neg (show ¬ tp R m = R 11 i by omega)]
                  split
                  · rfl
                  · split <;> rfl
                have hgv : ∀ m, m < N → σ1 5 m = zi (giv (stn R i) N (R 3 i + ld i) ld m) := fun m hm => by
                  rw [(giv_spec (st := stn R i) (fun j _ => (stn_bd hbi).1) (by unfold bOK at hbi; omega)).2.1 m (Or.inr (hst m hm))]
                  exact h5 m hm
                obtain ⟨σ', g, p1, p2⟩ := ih1 σ1 (by omega) hf hgv
                refine ⟨σ', v_Hold_bearAll_20 _ _ _ _ ?_, p1, p2⟩
                rw [hN2 hf, hv_bit h.2.1 hN hiN, show Int32.toNatClampNeg (zi i) = i from zi_cl (by omega), e13, e10, h5 i hiN, hl.2.2.1 i hi20 4 (by decide)]
                simp (disch := omega) only [zi_le, zi_lt0, zi_eq, zi_eq0, zi_lt, zi_le0]
                refine ⟨fun h0 => absurd h0 (by omega), fun _ => ⟨fun h0 => absurd h0 c1, fun _ => ⟨by omega, fun _ => ⟨fun c3 => ⟨by omega, fun _ => ?_, fun h0 => absurd c4 h0⟩, fun c3 => ⟨by omega, by omega, by omega, fun _ => ?_, fun h0 => absurd c4 h0⟩⟩, fun h0 => absurd c2 h0⟩⟩⟩
                · rw [if_pos c3] at g
                  rw [zi_s1]
                  exact g
                · rw [if_neg c3] at g
                  rw [z01, zi_s1]
                  exact g
              · obtain ⟨σ2, gl, q1, q2⟩ := c_giveLoad (l := l) (D := D) (DA := DA) (b := b) (sz := sz) (d := d) (L := L) (cu := cu) (by omega) hl hp hiN c1 h5 hb2
                obtain ⟨σ', g, p1, p2⟩ := ih1 σ2 (by omega) (fr56_trans hf q1) q2
                refine ⟨σ', v_Hold_bearAll_20 _ _ _ _ ?_, p1, p2⟩
                rw [hN2 hf, hv_bit h.2.1 hN hiN, show Int32.toNatClampNeg (zi i) = i from zi_cl (by omega), e13, e10, h5 i hiN, hl.2.2.1 i hi20 4 (by decide)]
                simp (disch := omega) only [zi_le, zi_lt0, zi_eq, zi_eq0, zi_lt, zi_le0]
                refine ⟨fun h0 => absurd h0 (by omega), fun _ => ⟨fun h0 => absurd h0 c1, fun _ => ⟨by omega, fun _ => ⟨fun c3 => ⟨by omega, fun h0 => absurd h0 c4, fun _ => ⟨σ2, gl, ?_⟩⟩, fun c3 => ⟨by omega, by omega, by omega, fun h0 => absurd h0 c4, fun _ => ⟨σ2, gl, ?_⟩⟩⟩, fun h0 => absurd c2 h0⟩⟩⟩
                · rw [if_pos c3] at g
                  rw [zi_s1]
                  exact g
                · rw [if_neg c3] at g
                  rw [z01, zi_s1]
                  exact g
            · rw [if_neg (fun z => c2 ((hcond _).mp z.2)), if_neg (fun z => c2 ((hcond _).mp z.2))] at ih1
              obtain ⟨σ', g, p1, p2⟩ := ih1 σ1 (by omega) hf h5
              refine ⟨σ', v_Hold_bearAll_20 _ _ _ _ ?_, p1, p2⟩
              rw [hN2 hf, hv_bit h.2.1 hN hiN, show Int32.toNatClampNeg (zi i) = i from zi_cl (by omega), e13]
              simp (disch := omega) only [zi_le, zi_lt0, zi_eq]
              refine ⟨fun h0 => absurd h0 (by omega), fun _ => ⟨fun h0 => absurd h0 c1, fun _ => ⟨by omega, fun h0 => absurd h0 c2, fun _ => ?_⟩⟩⟩
              rw [zi_s1]
              exact g
      obtain ⟨σ', g, p1, p2⟩ := inner N 0 σ1 (by omega) hf h5
      refine ⟨σ', v_Hold_bearAll_13 _ _ _ ?_, p1, p2⟩
      rw [zi_le0 (by omega) (by omega)]
      exact ⟨fun h0 => absurd h0 (by omega), fun _ => g⟩
  have hf0 : fr56 σ (wLd σ 5 20 (fun _ => 0)) := fun c h1 h2 => funext fun k => wLd_c h1
  obtain ⟨σ', g, p1, p2⟩ := key 12 (Nat.le_refl _) (wLd σ 5 20 (fun _ => 0)) hf0 (fun m hm => by
    rw [wLd_at (by omega), show (12 - 12) * N = 0 by omega]
    rfl)
  rw [show (12 - 12) * N = 0 by omega] at g
  exact ⟨σ', v_Hold_bearAll_0 _ ⟨_, c_fill5, g⟩, p1, p2⟩
end CBR
