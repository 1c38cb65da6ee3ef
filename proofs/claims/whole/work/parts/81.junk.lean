/-! BEST: boxes that are not in may lie anywhere; orders, purely -/
def eqJ (P P' : Nat → Nat → Int) : Prop := (∀ k n, k < 9 ∨ 12 < k → P k n = P' k n) ∧ ∀ n, P 8 n ≠ 0 → ∀ k, P k n = P' k n
section JNK
variable {N n m : Nat} {P P' P'' : Nat → Nat → Int} {Q : Nat → Int}
theorem eqJ_refl (P : Nat → Nat → Int) : eqJ P P := ⟨fun _ _ _ => rfl, fun _ _ _ => rfl⟩
theorem eqJ_symm (h : eqJ P P') : eqJ P' P := ⟨fun k n hk => (h.1 k n hk).symm, fun n hn k => (h.2 n (by rw [h.1 8 n (by omega)]; exact hn) k).symm⟩
theorem eqJ_trans (h1 : eqJ P P') (h2 : eqJ P' P'') : eqJ P P'' := ⟨fun k n hk => (h1.1 k n hk).trans (h2.1 k n hk), fun n hn k => (h1.2 n hn k).trans (h2.2 n (by rw [← h1.1 8 n (by omega)]; exact hn) k)⟩
theorem eqJ_pp (h8 : P 8 n = 0) {x y z t : Int} : eqJ P (pp P n x y z t) := ⟨fun k m hk => (pp_o (by omega)).symm, fun m hm k => (pp_o (Or.inr (Or.inr (fun e : m = n => hm (by rw [e]; exact h8))))).symm⟩
theorem lng_cg (h : ∀ k, P k m = P' k m) : lng P m = lng P' m := by unfold lng; rw [h 12, h 0, h 1]
theorem wdt_cg (h : ∀ k, P k m = P' k m) : wdt P m = wdt P' m := by unfold wdt; rw [h 12, h 0, h 1]
theorem tp_cg (h : ∀ k, P k m = P' k m) : tp P m = tp P' m := by unfold tp; rw [h 11, h 2]
theorem area_cg (ha : ∀ k, P k n = P' k n) (hc : ∀ k, P k m = P' k m) : area P n m = area P' n m := by
  unfold area
  rw [ha 9, ha 10, hc 9, hc 10, lng_cg ha, lng_cg hc, wdt_cg ha, wdt_cg hc]
theorem stn_cg (ha : ∀ k, P k n = P' k n) (h8 : P 8 m = P' 8 m) (hc : P 8 m ≠ 0 → ∀ k, P k m = P' k m) : stn P n m = stn P' n m := by
  unfold stn
  by_cases e : n = m
  · rw [if_pos e, if_pos e]
  · rw [if_neg e, if_neg e]
    by_cases c : P 8 m = 0
    · rw [if_pos c, if_pos (h8.symm.trans c)]
    · rw [if_neg c, if_neg (fun z => c (h8.trans z)), tp_cg (hc c), ha 11, area_cg ha (hc c)]
theorem iw_cg (ha : ∀ k, P k n = P' k n) (hc : ∀ k, P k m = P' k m) : iw P n m = iw P' n m := by
  unfold iw iwB
  rw [lng_cg ha, lng_cg hc, wdt_cg ha, wdt_cg hc, tp_cg ha, tp_cg hc, area_cg ha hc, ha 5, hc 5, ha 9, hc 9, ha 10, hc 10, ha 11, hc 11, ha 2, hc 2]
theorem lds_cg (h8 : ∀ m, P 8 m = P' 8 m) (h : ∀ m, P 8 m ≠ 0 → ∀ k, P k m = P' k m) : lds P N = lds P' N := by
  unfold lds ldP
  refine fo_congr (fun p ld hp => ?_)
  unfold ldF
  by_cases c : P 8 (p % N) = 0
  · rw [if_neg (fun z => z.1 c), if_neg (fun z => z.1 ((h8 _).symm.trans c))]
  · have hb := h _ c
    have es : stn P (p % N) = stn P' (p % N) := funext (fun c => stn_cg hb (h8 c) (h c))
    rw [es, tp_cg hb, hb 3, hb 8]
theorem en_cg (h : ∀ k, P k m = P' k m) (k : Int) : en P k m = en P' k m := by
  unfold en
  rw [lng_cg h, wdt_cg h, tp_cg h, h 9, h 10]
theorem wrg_cg (h : ∀ k m, k < 9 → P k m = P' k m) (hb : ∀ m, (P 8 m ≠ 0 ∨ m = n) → ∀ k, P k m = P' k m) : wrg P Q N n = wrg P' Q N n := by
  have hn := hb n (Or.inr rfl)
  have eo : outB P Q n = outB P' Q n := by unfold outB; rw [lng_cg hn, wdt_cg hn, hn 9, hn 10, hn 11, hn 2]
  have e1 : b1W P Q N n = b1W P' Q N n := by
    unfold b1W
    rw [eo]
    refine fo_congr (fun i a hi => ?_)
    unfold thrF
    by_cases c : P 8 i = 0
    · rw [if_pos c, if_pos ((h 8 i (by decide)).symm.trans c)]
    · have hi := hb i (Or.inl c)
      rw [area_cg hn hi, hn 11, hn 2, hi 11, hi 2, hi 8]
  have e2 : b2W P Q N n = b2W P' Q N n := by
    unfold b2W
    rw [lng_cg hn, wdt_cg hn, hn 11, show sm (stn P n) N = sm (stn P' n) N from sm_congr (fun i _ => stn_cg hn (h 8 i (by decide)) (fun c => hb i (Or.inl c)))]
  have e3 : b3W P Q N n = b3W P' Q N n := by
    unfold b3W
    rw [e2]
    refine fo_congr (fun i a hi => ?_)
    unfold iwF
    by_cases c : P 8 i = 0
    · rw [if_pos c, if_pos ((h 8 i (by decide)).symm.trans c)]
    · have hi := hb i (Or.inl c)
      rw [iw_cg hn hi, hi 8]
  have el : lds (pu P 8 n 1) N = lds (pu P' 8 n 1) N := by
    refine lds_cg (fun m => ?_) (fun m hm k => ?_)
    · unfold pu
      split
      · rfl
      · exact h 8 m (by decide)
    · unfold pu at hm ⊢
      by_cases e : k = 8 ∧ m = n
      · rw [if_pos e, if_pos e]
      · rw [if_neg e, if_neg e]
        by_cases e2 : m = n
        · exact hb m (Or.inr e2) k
        · rw [if_neg (fun z => e2 z.2)] at hm
          exact hb m (Or.inl hm) k
  have eh : hvW P N n = hvW P' N n := by
    unfold hvW
    rw [el, hn 4]
    refine fo_congr (fun i a hi => ?_)
    unfold hvF
    rw [h 8 i (by decide), h 4 i (by decide)]
  unfold wrg
  rw [e1, e3, eh]
theorem pp_cg (h : ∀ k m, k < 9 ∨ 12 < k → P k m = P' k m) {x y z t : Int} {k : Nat} (hm : m = n ∨ P k m = P' k m) : pp P n x y z t k m = pp P' n x y z t k m := by
  by_cases c : k < 9 ∨ 12 < k
  · rw [pp_o (by omega), pp_o (by omega)]; exact h k m c
  · by_cases e : m = n
    · subst e
      obtain ⟨a1, a2, a3, a4⟩ := pp_at (P := P) m x y z t
      obtain ⟨b1, b2, b3, b4⟩ := pp_at (P := P') m x y z t
      have hk : k = 9 ∨ k = 10 ∨ k = 11 ∨ k = 12 := by omega
      rcases hk with rfl | rfl | rfl | rfl
      · rw [a1, b1]
      · rw [a2, b2]
      · rw [a3, b3]
      · rw [a4, b4]
    · rw [pp_o (by omega), pp_o (by omega)]
      exact hm.resolve_left e
theorem cor_cg (h : eqJ P P') {k v : Int} (hc : cor P N k v) : cor P' N k v := by
  rcases hc with hc | ⟨m, hm, h8, e⟩
  · exact Or.inl hc
  · exact Or.inr ⟨m, hm, by rw [← h.1 8 m (by omega)]; exact h8, by rw [← en_cg (h.2 m h8)]; exact e⟩
theorem okc_cg (h : eqJ P P') {x y z t : Int} (ho : okc P Q N n x y z t) : okc P' Q N n x y z t := by
  obtain ⟨a1, a2, a3, a4, a5⟩ := ho
  have et : trn P' n = trn P n := by unfold trn; rw [h.1 6 n (by omega), h.1 0 n (by omega), h.1 1 n (by omega)]
  refine ⟨cor_cg h a1, cor_cg h a2, cor_cg h a3, by rw [et]; exact a4, ?_⟩
  rw [← wrg_cg (P := pp P n x y z t) (fun k m hk => pp_cg h.1 (Or.inr (h.1 k m (by omega)))) (fun m hm k => ?_)]
  · exact a5
  · by_cases e : m = n
    · exact pp_cg h.1 (Or.inl e)
    · have h8 := hm.resolve_right e
      rw [pp_o (by omega)] at h8
      exact pp_cg h.1 (Or.inr (h.2 m h8 k))
theorem fstc_cg (h : eqJ P P') {x y z t : Int} (hf : fstc P Q N n x y z t) : fstc P' Q N n x y z t := by
  obtain ⟨a0, a1, a2, a3, a4⟩ := hf
  have hs := eqJ_symm h
  exact ⟨okc_cg h a0, fun z' hz x y t ho => a1 z' hz x y t (okc_cg hs ho), fun x' hx y t ho => a2 x' hx y t (okc_cg hs ho), fun y' hy t ho => a3 y' hy t (okc_cg hs ho), fun t' ht ho => a4 t' ht (okc_cg hs ho)⟩
theorem eqJ_up (h : eqJ P P') {x y z t v : Int} : eqJ (pu (pp P n x y z t) 8 n v) (pu (pp P' n x y z t) 8 n v) := by
  refine ⟨fun k m hk => ?_, fun m hm k => ?_⟩
  · unfold pu
    by_cases e : k = 8 ∧ m = n
    · rw [if_pos e, if_pos e]
    · rw [if_neg e, if_neg e]
      exact pp_cg h.1 (Or.inr (h.1 k m hk))
  · unfold pu at hm ⊢
    by_cases e : k = 8 ∧ m = n
    · rw [if_pos e, if_pos e]
    · rw [if_neg e, if_neg e]
      by_cases e2 : m = n
      · exact pp_cg h.1 (Or.inl e2)
      · rw [if_neg (fun z => e2 z.2), pp_o (by omega)] at hm
        exact pp_cg h.1 (Or.inr (h.2 m hm k))
/-- box n at its first corner, or nowhere -/
noncomputable def fsd (P : Nat → Nat → Int) (Q : Nat → Int) (N n : Nat) : Option (Int × Int × Int × Int) := @dite _ (∃ c : Int × Int × Int × Int, fstc P Q N n c.1 c.2.1 c.2.2.1 c.2.2.2) (Classical.propDecidable _) (fun h => some h.choose) (fun _ => none)
noncomputable def ptP (P : Nat → Nat → Int) (Q : Nat → Int) (N n : Nat) : Nat → Nat → Int := match fsd P Q N n with
  | some c => pu (pp P n c.1 c.2.1 c.2.2.1 c.2.2.2) 8 n 1
  | none => P
noncomputable def prP (P : Nat → Nat → Int) (Q : Nat → Int) (N n : Nat) : Nat := match fsd P Q N n with
  | some _ => 1
  | none => 0
theorem pt_1 {x y z t : Int} (h : fstc P Q N n x y z t) : ptP P Q N n = pu (pp P n x y z t) 8 n 1 ∧ prP P Q N n = 1 := by
  have hex : ∃ c : Int × Int × Int × Int, fstc P Q N n c.1 c.2.1 c.2.2.1 c.2.2.2 := ⟨(x, y, z, t), h⟩
  have e : fsd P Q N n = some (x, y, z, t) := by
    unfold fsd
    rw [dif_pos hex]
    obtain ⟨e1, e2, e3, e4⟩ := fstc_uniq hex.choose_spec h
    exact congrArg some (Prod.ext e1 (Prod.ext e2 (Prod.ext e3 e4)))
  unfold ptP prP
  rw [e]
  exact ⟨rfl, rfl⟩
theorem pt_0 (h : ∀ x y z t, ¬ fstc P Q N n x y z t) : ptP P Q N n = P ∧ prP P Q N n = 0 := by
  have e : fsd P Q N n = none := by
    unfold fsd
    rw [dif_neg (fun z => z.elim (fun c hc => h _ _ _ _ hc))]
  unfold ptP prP
  rw [e]
  exact ⟨rfl, rfl⟩
theorem pt_or (P : Nat → Nat → Int) (Q : Nat → Int) (N n : Nat) : (∃ x y z t, fstc P Q N n x y z t ∧ ptP P Q N n = pu (pp P n x y z t) 8 n 1 ∧ prP P Q N n = 1) ∨ ((∀ x y z t, ¬ fstc P Q N n x y z t) ∧ ptP P Q N n = P ∧ prP P Q N n = 0) := by
  by_cases c : ∃ x y z t, fstc P Q N n x y z t
  · obtain ⟨x, y, z, t, hf⟩ := c
    exact Or.inl ⟨x, y, z, t, hf, pt_1 hf⟩
  · have c2 : ∀ x y z t, ¬ fstc P Q N n x y z t := fun x y z t hf => c ⟨x, y, z, t, hf⟩
    exact Or.inr ⟨c2, pt_0 c2⟩
theorem pt_J (h : eqJ P P') : eqJ (ptP P Q N n) (ptP P' Q N n) ∧ prP P Q N n = prP P' Q N n := by
  rcases pt_or P Q N n with ⟨x, y, z, t, hf, e1, e2⟩ | ⟨hf, e1, e2⟩
  · obtain ⟨g1, g2⟩ := pt_1 (fstc_cg h hf)
    rw [e1, e2, g1, g2]
    exact ⟨eqJ_up h, rfl⟩
  · obtain ⟨g1, g2⟩ := pt_0 (P := P') (fun x y z t hf' => hf x y z t (fstc_cg (eqJ_symm h) hf'))
    rw [e1, e2, g1, g2]
    exact ⟨h, rfl⟩
theorem pt_o {k : Nat} (h : m ≠ n ∨ k < 8) : ptP P Q N n k m = P k m := by
  rcases pt_or P Q N n with ⟨x, y, z, t, hf, e1, e2⟩ | ⟨hf, e1, e2⟩
  · rw [e1]
    unfold pu
    rw [if_neg (by omega)]
    exact pp_o (by omega)
  · rw [e1]
theorem pr_le (P : Nat → Nat → Int) (Q : Nat → Int) (N n : Nat) : prP P Q N n ≤ 1 := by
  rcases pt_or P Q N n with ⟨x, y, z, t, hf, e1, e2⟩ | ⟨hf, e1, e2⟩ <;> omega
theorem pOK_pt (hp : pOK N P Q) (hn : n < N) (h8 : P 8 n = 0) : pOK N (ptP P Q N n) Q := by
  rcases pt_or P Q N n with ⟨x, y, z, t, hf, e1, e2⟩ | ⟨hf, e1, e2⟩
  · rw [e1]; exact fst_in hp hn h8 hf
  · rw [e1]; exact hp
/-- what is in reaches as far with one more -/
theorem far_pt (h8 : P 8 n = 0) : ∀ k, far P k ≤ far (ptP P Q N n) k
  | 0 => Int.le_refl 0
  | k + 1 => by
    have ih := far_pt h8 k
    show farF P k (far P k) ≤ farF (ptP P Q N n) k (far (ptP P Q N n) k)
    unfold farF
    by_cases c : P 8 k = 0
    · rw [if_pos c]
      split
      · exact ih
      · split <;> omega
    · have e : k ≠ n := fun z => c (z ▸ h8)
      have ek : ∀ j, ptP P Q N n j k = P j k := fun j => pt_o (Or.inl e)
      rw [ek 8, ek 9, lng_cg ek, if_neg c, if_neg c]
      split <;> split <;> omega
theorem far_J (h : eqJ P P') : ∀ k, far P k = far P' k
  | 0 => rfl
  | k + 1 => by
    show farF P k (far P k) = farF P' k (far P' k)
    rw [far_J h k]
    unfold farF
    by_cases c : P 8 k = 0
    · rw [if_pos c, if_pos ((h.1 8 k (by omega)).symm.trans c)]
    · have hk := h.2 k c
      rw [hk 8, hk 9, lng_cg hk]
/-- a row of boxes, one after the other -/
noncomputable def rnP (Q : Nat → Int) (N : Nat) : (Nat → Nat → Int) → List Nat → (Nat → Nat → Int)
  | P, [] => P
  | P, n :: os => rnP Q N (ptP P Q N n) os
noncomputable def rcP (Q : Nat → Int) (N : Nat) : (Nat → Nat → Int) → List Nat → Nat
  | _, [] => 0
  | P, n :: os => prP P Q N n + rcP Q N (ptP P Q N n) os
theorem rn_snoc : ∀ (os : List Nat) (P : Nat → Nat → Int), rnP Q N P (os ++ [n]) = ptP (rnP Q N P os) Q N n
  | [], _ => rfl
  | _ :: os, P => rn_snoc os (ptP P Q N _)
theorem rc_snoc : ∀ (os : List Nat) (P : Nat → Nat → Int), rcP Q N P (os ++ [n]) = rcP Q N P os + prP (rnP Q N P os) Q N n
  | [], P => by show prP P Q N n + 0 = 0 + prP P Q N n; omega
  | a :: os, P => by
    show prP P Q N a + rcP Q N (ptP P Q N a) (os ++ [n]) = prP P Q N a + rcP Q N (ptP P Q N a) os + _
    rw [rc_snoc os (ptP P Q N a)]
    show _ = prP P Q N a + rcP Q N (ptP P Q N a) os + prP (rnP Q N (ptP P Q N a) os) Q N n
    omega
theorem rn_o {k : Nat} : ∀ (os : List Nat) (P : Nat → Nat → Int), (m ∉ os ∨ k < 8) → rnP Q N P os k m = P k m
  | [], _, _ => rfl
  | a :: os, P, h => by
    show rnP Q N (ptP P Q N a) os k m = P k m
    rw [rn_o os (ptP P Q N a) (h.imp (fun z q => z (List.mem_cons_of_mem _ q)) id)]
    exact pt_o (h.imp (fun z q => z (q ▸ List.mem_cons_self)) id)
theorem rc_le : ∀ (os : List Nat) (P : Nat → Nat → Int), rcP Q N P os ≤ os.length
  | [], _ => Nat.le_refl 0
  | a :: os, P => by
    have h1 := rc_le os (ptP P Q N a)
    have h2 := pr_le P Q N a
    show prP P Q N a + rcP Q N (ptP P Q N a) os ≤ os.length + 1
    omega
def gLs (N : Nat) (P : Nat → Nat → Int) (os : List Nat) : Prop := (∀ n, n ∈ os → n < N ∧ P 8 n = 0) ∧ os.Nodup
theorem gLs_t {os : List Nat} (h : gLs N P (n :: os)) : n < N ∧ P 8 n = 0 ∧ gLs N (ptP P Q N n) os := by
  obtain ⟨h1, h2⟩ := h
  obtain ⟨h3, h4⟩ := List.nodup_cons.mp h2
  refine ⟨(h1 n List.mem_cons_self).1, (h1 n List.mem_cons_self).2, fun a ha => ⟨(h1 a (List.mem_cons_of_mem _ ha)).1, ?_⟩, h4⟩
  rw [pt_o (Or.inl (fun e : a = n => h3 (by rw [← e]; exact ha)))]
  exact (h1 a (List.mem_cons_of_mem _ ha)).2
theorem pOK_rn : ∀ (os : List Nat) (P : Nat → Nat → Int), pOK N P Q → gLs N P os → pOK N (rnP Q N P os) Q
  | [], _, hp, _ => hp
  | a :: os, P, hp, hg => by
    obtain ⟨g1, g2, g3⟩ := gLs_t (Q := Q) hg
    exact pOK_rn os (ptP P Q N a) (pOK_pt hp g1 g2) g3
theorem fo_fix {α : Type} {f : Nat → α → α} {a : α} : ∀ {n : Nat}, (∀ i, i < n → f i a = a) → fo f a n = a
  | 0, _ => rfl
  | n + 1, h => by
    show f n (fo f a n) = a
    rw [fo_fix (fun i hi => h i (by omega))]
    exact h n (by omega)
theorem pcn_ub {M n : Nat} (hM : M < 2 ^ 20) (hn : n < 20) (h : M.testBit n = true) : ∀ k, pcn (ub M n) k + (if n < k then 1 else 0) = pcn M k
  | 0 => by simp [pcn]
  | k + 1 => by
    have ih := pcn_ub hM hn h k
    rw [pcn_s, pcn_s, ub_bit hM (by omega)]
    by_cases c1 : k = n
    · subst c1
      rw [if_neg (Nat.lt_irrefl k)] at ih
      rw [h, if_pos (Nat.lt_succ_self k)]
      simp
      omega
    · rw [decide_eq_true c1, Bool.and_true]
      by_cases c3 : n < k
      · rw [if_pos c3] at ih; rw [if_pos (show n < k + 1 by omega)]; omega
      · rw [if_neg c3] at ih; rw [if_neg (show ¬ n < k + 1 by omega)]; omega
/-- the best so far: how many, how far, which row -/
abbrev bSt : Type := Int × Int × List Nat
abbrev cWn (st : bSt) (a e : Int) : Prop := a < st.1 ∨ (a = st.1 ∧ st.2.1 ≤ e)
def upS (st : bSt) (a e : Int) (os : List Nat) : bSt := if st.1 ≠ -1 ∧ cWn st a e then st else (a, e, os)
noncomputable def oRf (Q : Nat → Int) (N : Nat) (P : Nat → Nat → Int) : Nat → Nat → List Nat → bSt → bSt
  | 0, _, os, st => upS st (rcP Q N P os : Int) (far (rnP Q N P os) N) os
  | f + 1, left, os, st => fo (fun a st => if left.testBit a = true then oRf Q N P f (ub left a) (os ++ [a]) st else st) st N
noncomputable def oCf (Q : Nat → Int) (N : Nat) : Nat → (Nat → Nat → Int) → Nat → Nat → List Nat → bSt → bSt
  | 0, P, left, pl, os, st => if cWn st ((pl : Int) + (pcn left 20 : Int)) (far P N) then st else ((pl : Int), far P N, os)
  | f + 1, P, left, pl, os, st => if cWn st ((pl : Int) + (pcn left 20 : Int)) (far P N) then st else fo (fun a st => if left.testBit a = true then oCf Q N f (ptP P Q N a) (ub left a) (pl + prP P Q N a) (os ++ [a]) st else st) st N
/-- the boxes that are left: known, none in, none in the row -/
def opn (N : Nat) (P : Nat → Nat → Int) (left : Nat) (os : List Nat) : Prop := left < 2 ^ N ∧ ∀ a, left.testBit a = true → P 8 a = 0 ∧ a ∉ os
theorem opn_n {left a : Nat} {os : List Nat} (h : opn N P left os) (ha : left.testBit a = true) : a < N := by
  by_cases c : a < N
  · exact c
  · exact absurd (ha.symm.trans (bit_hi h.1 (by omega))) (by decide)
theorem opn_s {left a : Nat} {os : List Nat} (hN : N ≤ 20) (h : opn N P left os) (ha : left.testBit a = true) : opn N P (ub left a) (os ++ [a]) := by
  have h20 : left < 2 ^ 20 := Nat.lt_of_lt_of_le h.1 (Nat.pow_le_pow_right (by decide) hN)
  have haN := opn_n h ha
  refine ⟨Nat.lt_of_le_of_lt ub_le h.1, fun c hc => ?_⟩
  rw [ub_bit h20 (by omega)] at hc
  simp only [Bool.and_eq_true, decide_eq_true_eq] at hc
  refine ⟨(h.2 c hc.1).1, fun z => ?_⟩
  rcases List.mem_append.mp z with z | z
  · exact (h.2 c hc.1).2 z
  · exact hc.2 (List.mem_singleton.mp z)
theorem opn_c {left a f : Nat} {os : List Nat} (hN : N ≤ 20) (h : opn N P left os) (ha : left.testBit a = true) (hf : pcn left 20 = f + 1) : pcn (ub left a) 20 = f := by
  have h20 : left < 2 ^ 20 := Nat.lt_of_lt_of_le h.1 (Nat.pow_le_pow_right (by decide) hN)
  have haN := opn_n h ha
  have h9 := pcn_ub h20 (show a < 20 by omega) ha 20
  rw [if_pos (by omega)] at h9
  omega
theorem opn_8 {left a : Nat} {os : List Nat} (h : opn N P left os) (ha : left.testBit a = true) : rnP Q N P os 8 a = 0 := by
  rw [rn_o os P (Or.inl (h.2 a ha).2)]
  exact (h.2 a ha).1
theorem oR_stop (hN : N ≤ 20) : ∀ (f left : Nat) (os : List Nat) (st : bSt), pcn left 20 = f → opn N P left os → cWn st ((rcP Q N P os : Int) + (f : Int)) (far (rnP Q N P os) N) → oRf Q N P f left os st = st
  | 0, left, os, st, hf, ho, hc => by
    have hc : cWn st ((rcP Q N P os : Int) + 0) (far (rnP Q N P os) N) := hc
    rw [Int.add_zero] at hc
    show upS st _ _ _ = st
    unfold upS
    rw [if_pos ⟨by rcases hc with h | h <;> omega, hc⟩]
  | f + 1, left, os, st, hf, ho, hc => by
    show fo _ st N = st
    refine fo_fix (fun a ha => ?_)
    by_cases hb : left.testBit a = true
    · rw [if_pos hb]
      refine oR_stop hN f (ub left a) (os ++ [a]) st (opn_c hN ho hb hf) (opn_s hN ho hb) ?_
      rw [rc_snoc, rn_snoc]
      have h1 := pr_le (rnP Q N P os) Q N a
      have h2 := far_pt (Q := Q) (N := N) (n := a) (opn_8 (Q := Q) ho hb) N
      rcases hc with h | h
      · exact Or.inl (by omega)
      · by_cases c : prP (rnP Q N P os) Q N a = 0
        · exact Or.inl (by omega)
        · exact Or.inr ⟨by omega, by omega⟩
    · rw [if_neg hb]
theorem oC_oR (hN : N ≤ 20) : ∀ (f left : Nat) (os : List Nat) (st : bSt), pcn left 20 = f → opn N P left os → oCf Q N f (rnP Q N P os) left (rcP Q N P os) os st = oRf Q N P f left os st
  | 0, left, os, st, hf, ho => by
    show (if cWn st ((rcP Q N P os : Int) + (pcn left 20 : Int)) (far (rnP Q N P os) N) then st else ((rcP Q N P os : Int), far (rnP Q N P os) N, os)) = _
    by_cases c : cWn st ((rcP Q N P os : Int) + (pcn left 20 : Int)) (far (rnP Q N P os) N)
    · rw [if_pos c]
      rw [hf] at c
      exact (oR_stop hN 0 left os st hf ho c).symm
    · rw [if_neg c]
      rw [hf] at c
      have c2 : ¬ cWn st (rcP Q N P os : Int) (far (rnP Q N P os) N) := fun z => c (by
        show cWn st ((rcP Q N P os : Int) + 0) (far (rnP Q N P os) N)
        rw [Int.add_zero]; exact z)
      show _ = upS st _ _ _
      unfold upS
      rw [if_neg (fun z => c2 z.2)]
  | f + 1, left, os, st, hf, ho => by
    show (if cWn st ((rcP Q N P os : Int) + (pcn left 20 : Int)) (far (rnP Q N P os) N) then st else _) = _
    by_cases c : cWn st ((rcP Q N P os : Int) + (pcn left 20 : Int)) (far (rnP Q N P os) N)
    · rw [if_pos c]
      rw [hf] at c
      exact (oR_stop hN (f + 1) left os st hf ho c).symm
    · rw [if_neg c]
      show fo _ st N = fo _ st N
      refine fo_congr (fun a st ha => ?_)
      by_cases hb : left.testBit a = true
      · rw [if_pos hb, if_pos hb, ← rn_snoc, ← rc_snoc]
        exact oC_oR hN f (ub left a) (os ++ [a]) st (opn_c hN ho hb hf) (opn_s hN ho hb)
      · rw [if_neg hb, if_neg hb]
/-- a best that can be set -/
def sGd (N : Nat) (P : Nat → Nat → Int) (k : Nat) (st : bSt) : Prop := st = (-1, 0, []) ∨ ((0 ≤ st.1 ∧ st.1 ≤ 5) ∧ (0 ≤ st.2.1 ∧ st.2.1 ≤ 60) ∧ gLs N P st.2.2 ∧ st.2.2.length = k)
theorem gLs_s {left a : Nat} {os : List Nat} (ho : opn N P left os) (ha : left.testBit a = true) (hg : gLs N P os) : gLs N P (os ++ [a]) := by
  refine ⟨fun c hc => ?_, ?_⟩
  · rcases List.mem_append.mp hc with z | z
    · exact hg.1 c z
    · rw [List.mem_singleton.mp z]
      exact ⟨opn_n ho ha, (ho.2 a ha).1⟩
  · refine List.nodup_append.mpr ⟨hg.2, by simp, fun x hx y hy => ?_⟩
    rw [List.mem_singleton.mp hy]
    intro e
    exact (ho.2 a ha).2 (e ▸ hx)
theorem oR_ok (hp : pOK N P Q) {k : Nat} (hk : k ≤ 5) : ∀ (f left : Nat) (os : List Nat) (st : bSt), pcn left 20 = f → opn N P left os → gLs N P os → os.length + f = k → sGd N P k st → sGd N P k (oRf Q N P f left os st) ∧ 0 ≤ (oRf Q N P f left os st).1
  | 0, left, os, st, hf, ho, hg, hl, hs => by
    show sGd N P k (upS st _ _ _) ∧ 0 ≤ (upS st _ _ _).1
    unfold upS
    by_cases c : st.1 ≠ -1 ∧ cWn st (rcP Q N P os : Int) (far (rnP Q N P os) N)
    · rw [if_pos c]
      refine ⟨hs, ?_⟩
      rcases hs with h | h
      · rw [h] at c; exact absurd rfl c.1
      · exact h.1.1
    · rw [if_neg c]
      have h1 := rc_le (Q := Q) (N := N) os P
      have h2 := far_bd (pOK_rn os P hp hg) (Nat.le_refl N)
      refine ⟨Or.inr ⟨⟨?_, ?_⟩, h2, hg, by show os.length = k; omega⟩, ?_⟩
      · show 0 ≤ (rcP Q N P os : Int); omega
      · show (rcP Q N P os : Int) ≤ 5; omega
      · show 0 ≤ (rcP Q N P os : Int); omega
  | f + 1, left, os, st, hf, ho, hg, hl, hs => by
    have hN := hp.1
    have key := fo_inv (f := fun a st => if left.testBit a = true then oRf Q N P f (ub left a) (os ++ [a]) st else st) (a := st) (fun i (s : bSt) => sGd N P k s ∧ (0 ≤ s.1 ∨ ∀ a, a < i → left.testBit a = false)) ⟨hs, Or.inr (fun a ha => absurd ha (by omega))⟩ (n := N) (fun i s hi hI => by
      by_cases hb : left.testBit i = true
      · rw [if_pos hb]
        have h9 := oR_ok hp hk f (ub left i) (os ++ [i]) s (opn_c hN ho hb hf) (opn_s hN ho hb) (gLs_s ho hb hg) (by rw [List.length_append]; show os.length + 1 + f = k; omega) hI.1
        exact ⟨h9.1, Or.inl h9.2⟩
      · rw [if_neg hb]
        have hb0 : left.testBit i = false := by cases h : left.testBit i; rfl; exact absurd h hb
        refine ⟨hI.1, hI.2.imp id (fun z a ha => ?_)⟩
        by_cases e : a = i
        · rw [e]; exact hb0
        · exact z a (by omega))
    show sGd N P k (fo _ st N) ∧ 0 ≤ (fo _ st N).1
    refine ⟨key.1, ?_⟩
    rcases key.2 with h | h
    · exact h
    · have h0 : pcn left 20 = 0 := by
        rw [pcn_20 ho.1 hN, pcn_cg (M' := 0) (fun i hi => by rw [h i hi, Nat.zero_testBit])]
        have h8 : ∀ n, pcn 0 n = 0 := fun n => by
          induction n with
          | zero => rfl
          | succ n ih => rw [pcn_s, ih, Nat.zero_testBit]; rfl
        exact h8 N
      omega
end JNK
