/-! CORNERS: the reference's sets -/
def cor (P : Nat → Nat → Int) (N : Nat) (k v : Int) : Prop := v = 0 ∨ ∃ n, n < N ∧ P 8 n ≠ 0 ∧ en P k n = v
def trn (P : Nat → Nat → Int) (n : Nat) : Int := if P 6 n = 0 then 1 else if P 0 n = P 1 n then 1 else 2
/-- a corner at which nothing is wrong -/
def okc (P : Nat → Nat → Int) (Q : Nat → Int) (N n : Nat) (x y z t : Int) : Prop := cor P N 0 x ∧ cor P N 1 y ∧ cor P N 2 z ∧ (0 ≤ t ∧ t < trn P n) ∧ wrg (pp P n x y z t) Q N n = 0
/-- the first such corner: by z, x, y, turned -/
def fstc (P : Nat → Nat → Int) (Q : Nat → Int) (N n : Nat) (x y z t : Int) : Prop := okc P Q N n x y z t ∧ (∀ z', z' < z → ∀ x y t, ¬ okc P Q N n x y z' t) ∧ (∀ x', x' < x → ∀ y t, ¬ okc P Q N n x' y z t) ∧ (∀ y', y' < y → ∀ t, ¬ okc P Q N n x y' z t) ∧ ∀ t', t' < t → ¬ okc P Q N n x y z t'
def noc (P : Nat → Nat → Int) (Q : Nat → Int) (N n : Nat) : Prop := ∀ x y z t, ¬ okc P Q N n x y z t
section MST
variable {l : Launch} {D : va_G} {DA : Nat → ClassId} {b sz d L : Nat} {cu : Bool} {σ : Nat → Nat → Int32} {N : Nat} {P : Nat → Nat → Int} {Q : Nat → Int} {r : Option Value} {X' : am_X}
theorem pp_pp (n : Nat) (x y z t x' y' z' t' : Int) : pp (pp P n x y z t) n x' y' z' t' = pp P n x' y' z' t' := by
  funext k m
  unfold pp pu
  by_cases e : m = n
  · subst e
    repeat' split
    all_goals first | rfl | omega
  · simp [e]
theorem ne_spec (hp : pOK N P Q) (k v : Int) (hv : 0 ≤ v) {n : Nat} (hn : n ≤ N) : (fo (neF P k v) (-1) n = -1 ∧ ∀ m, m < n → P 8 m ≠ 0 → en P k m ≤ v) ∨ (v < fo (neF P k v) (-1) n ∧ (∃ m, m < n ∧ P 8 m ≠ 0 ∧ en P k m = fo (neF P k v) (-1) n) ∧ ∀ m, m < n → P 8 m ≠ 0 → en P k m ≤ v ∨ fo (neF P k v) (-1) n ≤ en P k m) := by
  refine fo_inv (fun n (a : Int) => (a = -1 ∧ ∀ m, m < n → P 8 m ≠ 0 → en P k m ≤ v) ∨ (v < a ∧ (∃ m, m < n ∧ P 8 m ≠ 0 ∧ en P k m = a) ∧ ∀ m, m < n → P 8 m ≠ 0 → en P k m ≤ v ∨ a ≤ en P k m)) (Or.inl ⟨rfl, fun m hm => by omega⟩) (fun i a hi ha => ?_)
  have lt1 : ∀ m, m < i + 1 → m < i ∨ m = i := fun m hm => by omega
  unfold neF
  by_cases e1 : P 8 i = 0
  · rw [if_pos e1]
    rcases ha with ⟨h1, h2⟩ | ⟨h1, ⟨m, h2, h3, h4⟩, h5⟩
    · exact Or.inl ⟨h1, fun m hm hm8 => (lt1 m hm).elim (fun z => h2 m z hm8) (fun z => absurd (z ▸ e1) hm8)⟩
    · exact Or.inr ⟨h1, ⟨m, by omega, h3, h4⟩, fun m hm hm8 => (lt1 m hm).elim (fun z => h5 m z hm8) (fun z => absurd (z ▸ e1) hm8)⟩
  · rw [if_neg e1]
    by_cases e2 : en P k i ≤ v
    · rw [if_pos e2]
      rcases ha with ⟨h1, h2⟩ | ⟨h1, ⟨m, h2, h3, h4⟩, h5⟩
      · exact Or.inl ⟨h1, fun m hm hm8 => (lt1 m hm).elim (fun z => h2 m z hm8) (fun z => z ▸ e2)⟩
      · exact Or.inr ⟨h1, ⟨m, by omega, h3, h4⟩, fun m hm hm8 => (lt1 m hm).elim (fun z => h5 m z hm8) (fun z => Or.inl (z ▸ e2))⟩
    · rw [if_neg e2]
      rcases ha with ⟨h1, h2⟩ | ⟨h1, ⟨m, h2, h3, h4⟩, h5⟩
      · rw [if_pos h1]
        exact Or.inr ⟨by omega, ⟨i, by omega, e1, rfl⟩, fun m hm hm8 => (lt1 m hm).elim (fun z => Or.inl (h2 m z hm8)) (fun z => Or.inr (by rw [z]; exact Int.le_refl _))⟩
      · rw [if_neg (by omega)]
        by_cases e3 : a ≤ en P k i
        · rw [if_pos e3]
          exact Or.inr ⟨h1, ⟨m, by omega, h3, h4⟩, fun m hm hm8 => (lt1 m hm).elim (fun z => h5 m z hm8) (fun z => Or.inr (z ▸ e3))⟩
        · rw [if_neg e3]
          exact Or.inr ⟨by omega, ⟨i, by omega, e1, rfl⟩, fun m hm hm8 => (lt1 m hm).elim (fun z => by rcases h5 m z hm8 with h6 | h6; exact Or.inl h6; exact Or.inr (by omega)) (fun z => Or.inr (by rw [z]; exact Int.le_refl _))⟩
/-- from v on: the next corner number, or none -/
theorem ne_cor (hp : pOK N P Q) {k v : Int} (hv : 0 ≤ v) : (ne P N k v = -1 ∧ ∀ w, cor P N k w → w ≤ v) ∨ (v < ne P N k v ∧ cor P N k (ne P N k v) ∧ ∀ w, cor P N k w → w ≤ v ∨ ne P N k v ≤ w) := by
  rcases ne_spec hp k v hv (Nat.le_refl N) with ⟨h1, h2⟩ | ⟨h1, ⟨m, h2, h3, h4⟩, h5⟩
  · refine Or.inl ⟨h1, fun w hw => ?_⟩
    rcases hw with rfl | ⟨m, a1, a2, a3⟩
    · exact hv
    · rw [← a3]; exact h2 m a1 a2
  · refine Or.inr ⟨h1, Or.inr ⟨m, h2, h3, h4⟩, fun w hw => ?_⟩
    rcases hw with rfl | ⟨m, a1, a2, a3⟩
    · exact Or.inl hv
    · rw [← a3]; exact h5 m a1 a2
theorem cor_bd (hp : pOK N P Q) {k v : Int} (h : cor P N k v) : 0 ≤ v ∧ v ≤ 60 := by
  rcases h with rfl | ⟨m, a1, a2, a3⟩
  · omega
  · rw [← a3]; exact en_bd hp k a1
/-- ends of boxes that are in lie in the truck -/
theorem cor_40 (hp : pOK N P Q) {k v : Int} (h : cor P N k v) : 0 ≤ v ∧ v ≤ 40 := by
  refine ⟨(cor_bd hp h).1, ?_⟩
  rcases h with rfl | ⟨m, a1, a2, a3⟩
  · omega
  · have hb := hp.2.1 m a1
    have h8 : P 8 m = 1 := by unfold bOK at hb; omega
    have hi := hp.2.2.1 m a1 h8
    have hq := hp.2.2.2
    have ht : tp P m = P 11 m + P 2 m := rfl
    unfold inQ at hi
    unfold qOK at hq
    unfold en at a3
    split at a3
    · omega
    · split at a3 <;> omega
theorem en_pp {n m : Nat} (h8 : P 8 n = 0) (hm : P 8 m ≠ 0) {k : Int} {x y z t : Int} : en (pp P n x y z t) k m = en P k m := by
  have e : m ≠ n := fun z => hm (z ▸ h8)
  unfold en lng wdt tp
  rw [pp_o (by omega), pp_o (by omega), pp_o (by omega), pp_o (by omega), pp_o (by omega), pp_o (by omega), pp_o (by omega)]
theorem ne_pp {n : Nat} (h8 : P 8 n = 0) {k v : Int} {x y z t : Int} : ne (pp P n x y z t) N k v = ne P N k v := by
  unfold ne
  refine fo_congr (fun i a _ => ?_)
  unfold neF
  rw [pp_o (k := 8) (by omega)]
  by_cases e : P 8 i = 0
  · rw [if_pos e, if_pos e]
  · rw [if_neg e, if_neg e, en_pp h8 e]
/-- how sets ends -/
def sOut (P : Nat → Nat → Int) (Q : Nat → Int) (N n : Nat) (σ : Nat → Nat → Int32) (rr : Int) (σ' : Nat → Nat → Int32) : Prop :=
  (∀ c, c < 56 ∨ 62 ≤ c → σ' c = σ c) ∧ ((rr = 1 ∧ ∃ x y z t, fstc P Q N n x y z t ∧ mOK σ' N (pu (pp P n x y z t) 8 n 1) Q) ∨ (rr = 0 ∧ noc P Q N n ∧ ∃ x y z t, (0 ≤ x ∧ x ≤ 40) ∧ (0 ≤ y ∧ y ≤ 40) ∧ (0 ≤ z ∧ z ≤ 40) ∧ (t = 0 ∨ t = 1) ∧ mOK σ' N (pp P n x y z t) Q))
/-- a state on the way: box n somewhere, all else as it was -/
def sIn (P : Nat → Nat → Int) (Q : Nat → Int) (N n : Nat) (σ σ1 : Nat → Nat → Int32) : Prop := (∀ c, c < 56 ∨ 62 ≤ c → σ1 c = σ c) ∧ ∃ x y z t, (0 ≤ x ∧ x ≤ 40) ∧ (0 ≤ y ∧ y ≤ 40) ∧ (0 ≤ z ∧ z ≤ 40) ∧ (t = 0 ∨ t = 1) ∧ mOK σ1 N (pp P n x y z t) Q
end MST
