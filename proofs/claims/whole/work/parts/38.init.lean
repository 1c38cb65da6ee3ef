/-! the constructors: from the law's start to its loop (written by tools/mkinit.py) -/
/-- two worlds that are alike where there are cells -/
def am_eqv (X X2 : am_X) : Prop := X.1 = X2.1 ∧ ∀ (c : Nat) (x : Nat ⊕ (Nat × Nat)), X.1[c]? = some x → (match x with
  | .inl ci => ∀ k, k < am_N ci → am_val X.2.1 X.2.2 ci c k = am_val X2.2.1 X2.2.2 ci c k
  | .inr (t, n) => (t ≠ 2 → X.2.2 c = X2.2.2 c) ∧ (t = 2 → ∀ k, k < n → X.2.1 c k = X2.2.1 c k))
theorem arrV_congr {cA : ClassId} {n : Nat} {f g : Nat → Value} (h : ∀ k, k < n → f k = g k) : arrV cA n f = arrV cA n g := by
  unfold arrV
  congr 1
  apply Array.ext
  · simp
  · intro i h1 h2
    simp at h1
    simp [h i h1]
theorem am_ok_eqv {D : va_G} {DA : Nat → ClassId} {b sz : Nat} {s : State} {X X2 : am_X} {H : Heap} (he : am_eqv X X2) (h : am_ok D DA b sz s X H) : am_ok D DA b sz s X2 H := by
  obtain ⟨e1, e2⟩ := he
  obtain ⟨h1, h2, h3, h4⟩ := h
  refine ⟨h1, e1 ▸ h2, e1 ▸ h3, fun c x hx => ?_⟩
  rw [← e1] at hx
  have e3 := e2 c x hx
  have h5 := h4 c x hx
  cases x with
  | inl ci =>
    obtain ⟨g0, q, g1, g2⟩ := h5
    have hq := (am_clsOk ci q g1).1
    refine ⟨g0, q, g1, g2.to (fun k hk => ?_)⟩
    have hk2 : k < am_N ci := by rw [hq] at hk; exact hk
    exact congrArg (am_v b sz) (e3 k hk2)
  | inr z =>
    obtain ⟨t, n⟩ := z
    rcases h5 with ⟨g1, rfl, g2⟩ | ⟨g1, g0, g2⟩ | ⟨g1, g0, g2⟩
    · exact Or.inl ⟨g1, rfl, by rw [← e3.1 (by omega)]; exact g2⟩
    · exact Or.inr (Or.inl ⟨g1, g0, by rw [← e3.1 (by omega)]; exact g2⟩)
    · refine Or.inr (Or.inr ⟨g1, g0, ?_⟩)
      rw [g2]
      exact congrArg some (arrV_congr (fun k hk => congrArg (am_v b sz) (e3.2 g1 k hk)))
theorem go_eqv {l : Launch} {D : va_G} {DA : Nat → ClassId} {b sz d mi pc : Nat} {L : am_L} {S : List Value} {X X2 X' : am_X} {r : Option Value} (he : am_eqv X X2) (G : am_Go l D DA b sz d mi (pc, L, S, X2) r X') : am_Go l D DA b sz d mi (pc, L, S, X) r X' := by
  have e1 : X.1 = X2.1 := he.1
  refine ⟨by show X.1.length ≤ _; rw [e1]; exact G.1, by show am_ns X.1 ≤ _; rw [e1]; exact G.2.1, ?_⟩
  intro q hq p e R s m args below meth c Q ls H locs cells slots hA hf hl hc hs hL hO hlo kk
  have hc : cells + (X'.1.length - X.1.length) ≤ R.cells := hc
  have hs : slots + (am_ns X'.1 - am_ns X.1) ≤ R.slots := hs
  rw [e1] at hc hs
  refine G.2.2 q hq p e R s m args below meth c Q ls H locs cells slots hA hf hl hc hs hL (am_ok_eqv he hO) hlo (fun pc' ls' H' locs' a1 a2 a3 => ?_)
  have := kk pc' ls' H' locs' a1 a2 a3
  have this : W p l e R s m args below meth c H' locs' (cells + (X'.1.length - X.1.length)) (slots + (am_ns X'.1 - am_ns X.1)) Q _ := this
  rw [e1] at this
  exact this
/-- whole numbers behind the constructors -/
def am_σI (xs : Nat → Int32) : Nat → Nat → Int32 := fun c k => match c with
  | 0 => xs k
  | 3 => (match k with | 0 => 10 | 1 => 4 | 2 => 4 | 3 => 70 | 4 => 2 | 5 => 8 | 6 => 100000 | 7 => 100000 | 8 => 100 | _ => 0)
  | 47 => (match k with | 14 => 10 | 15 => 4 | 16 => 4 | 17 => 70 | 18 => 2 | 19 => 8 | 20 => 100000 | 21 => 100000 | 22 => 100 | 28 => -1 | 37 => -1 | 38 => -1 | 39 => -1 | _ => 0)
  | _ => 0
def iT0 (L : Nat) : am_T := [.inr (9, L)]
def ir0 : Nat → Nat → Value := fun _ _ => .null
def is0 (xs : Nat → Int32) : Nat → Nat → Int32 := fun c k => if c = 0 then xs k else 0
def iT1 (L : Nat) : am_T := [.inr (9, L), .inl 8]
def ir1 : Nat → Nat → Value := am_zr ir0 1
def is1 (xs : Nat → Int32) : Nat → Nat → Int32 := am_zs (is0 xs) 1
def iT2 (L : Nat) : am_T := [.inr (9, L), .inl 8, .inl 5]
def ir2 : Nat → Nat → Value := am_zr ir1 2
def is2 (xs : Nat → Int32) : Nat → Nat → Int32 := am_zs (is1 xs) 2
def iT3 (L : Nat) : am_T := [.inr (9, L), .inl 8, .inl 5, .inl 7]
def ir3 : Nat → Nat → Value := am_zr ir2 3
def is3 (xs : Nat → Int32) : Nat → Nat → Int32 := am_zs (is2 xs) 3
def is4 (xs : Nat → Int32) : Nat → Nat → Int32 := am_us (is3 xs) 3 0 10
def is5 (xs : Nat → Int32) : Nat → Nat → Int32 := am_us (is4 xs) 3 1 4
def is6 (xs : Nat → Int32) : Nat → Nat → Int32 := am_us (is5 xs) 3 2 4
def is7 (xs : Nat → Int32) : Nat → Nat → Int32 := am_us (is6 xs) 3 3 70
def is8 (xs : Nat → Int32) : Nat → Nat → Int32 := am_us (is7 xs) 3 4 2
def is9 (xs : Nat → Int32) : Nat → Nat → Int32 := am_us (is8 xs) 3 5 8
def is10 (xs : Nat → Int32) : Nat → Nat → Int32 := am_us (is9 xs) 3 6 100000
def is11 (xs : Nat → Int32) : Nat → Nat → Int32 := am_us (is10 xs) 3 7 100000
def is12 (xs : Nat → Int32) : Nat → Nat → Int32 := am_us (is11 xs) 3 8 100
def ir4 : Nat → Nat → Value := am_ur ir3 2 0 (.ref 3)
def iT4 (L : Nat) : am_T := [.inr (9, L), .inl 8, .inl 5, .inl 7, .inr (2, 20)]
def ir5 : Nat → Nat → Value := am_zr ir4 4
def is13 (xs : Nat → Int32) : Nat → Nat → Int32 := am_zs (is12 xs) 4
def ir6 : Nat → Nat → Value := am_ur ir5 2 1 (.ref 4)
def iT5 (L : Nat) : am_T := [.inr (9, L), .inl 8, .inl 5, .inl 7, .inr (2, 20), .inr (0, 20)]
def ir7 : Nat → Nat → Value := am_zr ir6 5
def is14 (xs : Nat → Int32) : Nat → Nat → Int32 := am_zs (is13 xs) 5
def ir8 : Nat → Nat → Value := am_ur ir7 2 4 (.ref 5)
def iT6 (L : Nat) : am_T := [.inr (9, L), .inl 8, .inl 5, .inl 7, .inr (2, 20), .inr (0, 20), .inr (0, 20)]
def ir9 : Nat → Nat → Value := am_zr ir8 6
def is15 (xs : Nat → Int32) : Nat → Nat → Int32 := am_zs (is14 xs) 6
def ir10 : Nat → Nat → Value := am_ur ir9 2 5 (.ref 6)
def iT7 (L : Nat) : am_T := [.inr (9, L), .inl 8, .inl 5, .inl 7, .inr (2, 20), .inr (0, 20), .inr (0, 20), .inl 4]
def ir11 : Nat → Nat → Value := am_zr ir10 7
def is16 (xs : Nat → Int32) : Nat → Nat → Int32 := am_zs (is15 xs) 7
def iT8 (L : Nat) : am_T := [.inr (9, L), .inl 8, .inl 5, .inl 7, .inr (2, 20), .inr (0, 20), .inr (0, 20), .inl 4, .inr (0, 21)]
def ir12 : Nat → Nat → Value := am_zr ir11 8
def is17 (xs : Nat → Int32) : Nat → Nat → Int32 := am_zs (is16 xs) 8
def ir13 : Nat → Nat → Value := am_ur ir12 7 0 (.ref 8)
def iT9 (L : Nat) : am_T := [.inr (9, L), .inl 8, .inl 5, .inl 7, .inr (2, 20), .inr (0, 20), .inr (0, 20), .inl 4, .inr (0, 21), .inr (0, 21)]
def ir14 : Nat → Nat → Value := am_zr ir13 9
def is18 (xs : Nat → Int32) : Nat → Nat → Int32 := am_zs (is17 xs) 9
def ir15 : Nat → Nat → Value := am_ur ir14 7 1 (.ref 9)
def iT10 (L : Nat) : am_T := [.inr (9, L), .inl 8, .inl 5, .inl 7, .inr (2, 20), .inr (0, 20), .inr (0, 20), .inl 4, .inr (0, 21), .inr (0, 21), .inr (0, 21)]
def ir16 : Nat → Nat → Value := am_zr ir15 10
def is19 (xs : Nat → Int32) : Nat → Nat → Int32 := am_zs (is18 xs) 10
def ir17 : Nat → Nat → Value := am_ur ir16 7 2 (.ref 10)
def ir18 : Nat → Nat → Value := am_ur ir17 2 6 (.ref 7)
def iT11 (L : Nat) : am_T := [.inr (9, L), .inl 8, .inl 5, .inl 7, .inr (2, 20), .inr (0, 20), .inr (0, 20), .inl 4, .inr (0, 21), .inr (0, 21), .inr (0, 21), .inl 4]
def ir19 : Nat → Nat → Value := am_zr ir18 11
def is20 (xs : Nat → Int32) : Nat → Nat → Int32 := am_zs (is19 xs) 11
def iT12 (L : Nat) : am_T := [.inr (9, L), .inl 8, .inl 5, .inl 7, .inr (2, 20), .inr (0, 20), .inr (0, 20), .inl 4, .inr (0, 21), .inr (0, 21), .inr (0, 21), .inl 4, .inr (0, 21)]
def ir20 : Nat → Nat → Value := am_zr ir19 12
def is21 (xs : Nat → Int32) : Nat → Nat → Int32 := am_zs (is20 xs) 12
def ir21 : Nat → Nat → Value := am_ur ir20 11 0 (.ref 12)
def iT13 (L : Nat) : am_T := [.inr (9, L), .inl 8, .inl 5, .inl 7, .inr (2, 20), .inr (0, 20), .inr (0, 20), .inl 4, .inr (0, 21), .inr (0, 21), .inr (0, 21), .inl 4, .inr (0, 21), .inr (0, 21)]
def ir22 : Nat → Nat → Value := am_zr ir21 13
def is22 (xs : Nat → Int32) : Nat → Nat → Int32 := am_zs (is21 xs) 13
def ir23 : Nat → Nat → Value := am_ur ir22 11 1 (.ref 13)
def iT14 (L : Nat) : am_T := [.inr (9, L), .inl 8, .inl 5, .inl 7, .inr (2, 20), .inr (0, 20), .inr (0, 20), .inl 4, .inr (0, 21), .inr (0, 21), .inr (0, 21), .inl 4, .inr (0, 21), .inr (0, 21), .inr (0, 21)]
def ir24 : Nat → Nat → Value := am_zr ir23 14
def is23 (xs : Nat → Int32) : Nat → Nat → Int32 := am_zs (is22 xs) 14
def ir25 : Nat → Nat → Value := am_ur ir24 11 2 (.ref 14)
def ir26 : Nat → Nat → Value := am_ur ir25 2 7 (.ref 11)
def iT15 (L : Nat) : am_T := [.inr (9, L), .inl 8, .inl 5, .inl 7, .inr (2, 20), .inr (0, 20), .inr (0, 20), .inl 4, .inr (0, 21), .inr (0, 21), .inr (0, 21), .inl 4, .inr (0, 21), .inr (0, 21), .inr (0, 21), .inl 4]
def ir27 : Nat → Nat → Value := am_zr ir26 15
def is24 (xs : Nat → Int32) : Nat → Nat → Int32 := am_zs (is23 xs) 15
def iT16 (L : Nat) : am_T := [.inr (9, L), .inl 8, .inl 5, .inl 7, .inr (2, 20), .inr (0, 20), .inr (0, 20), .inl 4, .inr (0, 21), .inr (0, 21), .inr (0, 21), .inl 4, .inr (0, 21), .inr (0, 21), .inr (0, 21), .inl 4, .inr (0, 21)]
def ir28 : Nat → Nat → Value := am_zr ir27 16
def is25 (xs : Nat → Int32) : Nat → Nat → Int32 := am_zs (is24 xs) 16
def ir29 : Nat → Nat → Value := am_ur ir28 15 0 (.ref 16)
def iT17 (L : Nat) : am_T := [.inr (9, L), .inl 8, .inl 5, .inl 7, .inr (2, 20), .inr (0, 20), .inr (0, 20), .inl 4, .inr (0, 21), .inr (0, 21), .inr (0, 21), .inl 4, .inr (0, 21), .inr (0, 21), .inr (0, 21), .inl 4, .inr (0, 21), .inr (0, 21)]
def ir30 : Nat → Nat → Value := am_zr ir29 17
def is26 (xs : Nat → Int32) : Nat → Nat → Int32 := am_zs (is25 xs) 17
def ir31 : Nat → Nat → Value := am_ur ir30 15 1 (.ref 17)
def iT18 (L : Nat) : am_T := [.inr (9, L), .inl 8, .inl 5, .inl 7, .inr (2, 20), .inr (0, 20), .inr (0, 20), .inl 4, .inr (0, 21), .inr (0, 21), .inr (0, 21), .inl 4, .inr (0, 21), .inr (0, 21), .inr (0, 21), .inl 4, .inr (0, 21), .inr (0, 21), .inr (0, 21)]
def ir32 : Nat → Nat → Value := am_zr ir31 18
def is27 (xs : Nat → Int32) : Nat → Nat → Int32 := am_zs (is26 xs) 18
def ir33 : Nat → Nat → Value := am_ur ir32 15 2 (.ref 18)
def ir34 : Nat → Nat → Value := am_ur ir33 2 8 (.ref 15)
def iT19 (L : Nat) : am_T := [.inr (9, L), .inl 8, .inl 5, .inl 7, .inr (2, 20), .inr (0, 20), .inr (0, 20), .inl 4, .inr (0, 21), .inr (0, 21), .inr (0, 21), .inl 4, .inr (0, 21), .inr (0, 21), .inr (0, 21), .inl 4, .inr (0, 21), .inr (0, 21), .inr (0, 21), .inl 2]
def ir35 : Nat → Nat → Value := am_zr ir34 19
def is28 (xs : Nat → Int32) : Nat → Nat → Int32 := am_zs (is27 xs) 19
def ir36 : Nat → Nat → Value := am_ur ir35 4 0 (.ref 19)
def iT20 (L : Nat) : am_T := [.inr (9, L), .inl 8, .inl 5, .inl 7, .inr (2, 20), .inr (0, 20), .inr (0, 20), .inl 4, .inr (0, 21), .inr (0, 21), .inr (0, 21), .inl 4, .inr (0, 21), .inr (0, 21), .inr (0, 21), .inl 4, .inr (0, 21), .inr (0, 21), .inr (0, 21), .inl 2, .inl 2]
def ir37 : Nat → Nat → Value := am_zr ir36 20
def is29 (xs : Nat → Int32) : Nat → Nat → Int32 := am_zs (is28 xs) 20
def ir38 : Nat → Nat → Value := am_ur ir37 4 1 (.ref 20)
def iT21 (L : Nat) : am_T := [.inr (9, L), .inl 8, .inl 5, .inl 7, .inr (2, 20), .inr (0, 20), .inr (0, 20), .inl 4, .inr (0, 21), .inr (0, 21), .inr (0, 21), .inl 4, .inr (0, 21), .inr (0, 21), .inr (0, 21), .inl 4, .inr (0, 21), .inr (0, 21), .inr (0, 21), .inl 2, .inl 2, .inl 2]
def ir39 : Nat → Nat → Value := am_zr ir38 21
def is30 (xs : Nat → Int32) : Nat → Nat → Int32 := am_zs (is29 xs) 21
def ir40 : Nat → Nat → Value := am_ur ir39 4 2 (.ref 21)
def iT22 (L : Nat) : am_T := [.inr (9, L), .inl 8, .inl 5, .inl 7, .inr (2, 20), .inr (0, 20), .inr (0, 20), .inl 4, .inr (0, 21), .inr (0, 21), .inr (0, 21), .inl 4, .inr (0, 21), .inr (0, 21), .inr (0, 21), .inl 4, .inr (0, 21), .inr (0, 21), .inr (0, 21), .inl 2, .inl 2, .inl 2, .inl 2]
def ir41 : Nat → Nat → Value := am_zr ir40 22
def is31 (xs : Nat → Int32) : Nat → Nat → Int32 := am_zs (is30 xs) 22
def ir42 : Nat → Nat → Value := am_ur ir41 4 3 (.ref 22)
def iT23 (L : Nat) : am_T := [.inr (9, L), .inl 8, .inl 5, .inl 7, .inr (2, 20), .inr (0, 20), .inr (0, 20), .inl 4, .inr (0, 21), .inr (0, 21), .inr (0, 21), .inl 4, .inr (0, 21), .inr (0, 21), .inr (0, 21), .inl 4, .inr (0, 21), .inr (0, 21), .inr (0, 21), .inl 2, .inl 2, .inl 2, .inl 2, .inl 2]
def ir43 : Nat → Nat → Value := am_zr ir42 23
def is32 (xs : Nat → Int32) : Nat → Nat → Int32 := am_zs (is31 xs) 23
def ir44 : Nat → Nat → Value := am_ur ir43 4 4 (.ref 23)
def iT24 (L : Nat) : am_T := [.inr (9, L), .inl 8, .inl 5, .inl 7, .inr (2, 20), .inr (0, 20), .inr (0, 20), .inl 4, .inr (0, 21), .inr (0, 21), .inr (0, 21), .inl 4, .inr (0, 21), .inr (0, 21), .inr (0, 21), .inl 4, .inr (0, 21), .inr (0, 21), .inr (0, 21), .inl 2, .inl 2, .inl 2, .inl 2, .inl 2, .inl 2]
def ir45 : Nat → Nat → Value := am_zr ir44 24
def is33 (xs : Nat → Int32) : Nat → Nat → Int32 := am_zs (is32 xs) 24
def ir46 : Nat → Nat → Value := am_ur ir45 4 5 (.ref 24)
def iT25 (L : Nat) : am_T := [.inr (9, L), .inl 8, .inl 5, .inl 7, .inr (2, 20), .inr (0, 20), .inr (0, 20), .inl 4, .inr (0, 21), .inr (0, 21), .inr (0, 21), .inl 4, .inr (0, 21), .inr (0, 21), .inr (0, 21), .inl 4, .inr (0, 21), .inr (0, 21), .inr (0, 21), .inl 2, .inl 2, .inl 2, .inl 2, .inl 2, .inl 2, .inl 2]
def ir47 : Nat → Nat → Value := am_zr ir46 25
def is34 (xs : Nat → Int32) : Nat → Nat → Int32 := am_zs (is33 xs) 25
def ir48 : Nat → Nat → Value := am_ur ir47 4 6 (.ref 25)
def iT26 (L : Nat) : am_T := [.inr (9, L), .inl 8, .inl 5, .inl 7, .inr (2, 20), .inr (0, 20), .inr (0, 20), .inl 4, .inr (0, 21), .inr (0, 21), .inr (0, 21), .inl 4, .inr (0, 21), .inr (0, 21), .inr (0, 21), .inl 4, .inr (0, 21), .inr (0, 21), .inr (0, 21), .inl 2, .inl 2, .inl 2, .inl 2, .inl 2, .inl 2, .inl 2, .inl 2]
def ir49 : Nat → Nat → Value := am_zr ir48 26
def is35 (xs : Nat → Int32) : Nat → Nat → Int32 := am_zs (is34 xs) 26
def ir50 : Nat → Nat → Value := am_ur ir49 4 7 (.ref 26)
def iT27 (L : Nat) : am_T := [.inr (9, L), .inl 8, .inl 5, .inl 7, .inr (2, 20), .inr (0, 20), .inr (0, 20), .inl 4, .inr (0, 21), .inr (0, 21), .inr (0, 21), .inl 4, .inr (0, 21), .inr (0, 21), .inr (0, 21), .inl 4, .inr (0, 21), .inr (0, 21), .inr (0, 21), .inl 2, .inl 2, .inl 2, .inl 2, .inl 2, .inl 2, .inl 2, .inl 2, .inl 2]
def ir51 : Nat → Nat → Value := am_zr ir50 27
def is36 (xs : Nat → Int32) : Nat → Nat → Int32 := am_zs (is35 xs) 27
def ir52 : Nat → Nat → Value := am_ur ir51 4 8 (.ref 27)
def iT28 (L : Nat) : am_T := [.inr (9, L), .inl 8, .inl 5, .inl 7, .inr (2, 20), .inr (0, 20), .inr (0, 20), .inl 4, .inr (0, 21), .inr (0, 21), .inr (0, 21), .inl 4, .inr (0, 21), .inr (0, 21), .inr (0, 21), .inl 4, .inr (0, 21), .inr (0, 21), .inr (0, 21), .inl 2, .inl 2, .inl 2, .inl 2, .inl 2, .inl 2, .inl 2, .inl 2, .inl 2, .inl 2]
def ir53 : Nat → Nat → Value := am_zr ir52 28
def is37 (xs : Nat → Int32) : Nat → Nat → Int32 := am_zs (is36 xs) 28
def ir54 : Nat → Nat → Value := am_ur ir53 4 9 (.ref 28)
def iT29 (L : Nat) : am_T := [.inr (9, L), .inl 8, .inl 5, .inl 7, .inr (2, 20), .inr (0, 20), .inr (0, 20), .inl 4, .inr (0, 21), .inr (0, 21), .inr (0, 21), .inl 4, .inr (0, 21), .inr (0, 21), .inr (0, 21), .inl 4, .inr (0, 21), .inr (0, 21), .inr (0, 21), .inl 2, .inl 2, .inl 2, .inl 2, .inl 2, .inl 2, .inl 2, .inl 2, .inl 2, .inl 2, .inl 2]
def ir55 : Nat → Nat → Value := am_zr ir54 29
def is38 (xs : Nat → Int32) : Nat → Nat → Int32 := am_zs (is37 xs) 29
def ir56 : Nat → Nat → Value := am_ur ir55 4 10 (.ref 29)
def iT30 (L : Nat) : am_T := [.inr (9, L), .inl 8, .inl 5, .inl 7, .inr (2, 20), .inr (0, 20), .inr (0, 20), .inl 4, .inr (0, 21), .inr (0, 21), .inr (0, 21), .inl 4, .inr (0, 21), .inr (0, 21), .inr (0, 21), .inl 4, .inr (0, 21), .inr (0, 21), .inr (0, 21), .inl 2, .inl 2, .inl 2, .inl 2, .inl 2, .inl 2, .inl 2, .inl 2, .inl 2, .inl 2, .inl 2, .inl 2]
def ir57 : Nat → Nat → Value := am_zr ir56 30
def is39 (xs : Nat → Int32) : Nat → Nat → Int32 := am_zs (is38 xs) 30
def ir58 : Nat → Nat → Value := am_ur ir57 4 11 (.ref 30)
def iT31 (L : Nat) : am_T := [.inr (9, L), .inl 8, .inl 5, .inl 7, .inr (2, 20), .inr (0, 20), .inr (0, 20), .inl 4, .inr (0, 21), .inr (0, 21), .inr (0, 21), .inl 4, .inr (0, 21), .inr (0, 21), .inr (0, 21), .inl 4, .inr (0, 21), .inr (0, 21), .inr (0, 21), .inl 2, .inl 2, .inl 2, .inl 2, .inl 2, .inl 2, .inl 2, .inl 2, .inl 2, .inl 2, .inl 2, .inl 2, .inl 2]
def ir59 : Nat → Nat → Value := am_zr ir58 31
def is40 (xs : Nat → Int32) : Nat → Nat → Int32 := am_zs (is39 xs) 31
def ir60 : Nat → Nat → Value := am_ur ir59 4 12 (.ref 31)
def iT32 (L : Nat) : am_T := [.inr (9, L), .inl 8, .inl 5, .inl 7, .inr (2, 20), .inr (0, 20), .inr (0, 20), .inl 4, .inr (0, 21), .inr (0, 21), .inr (0, 21), .inl 4, .inr (0, 21), .inr (0, 21), .inr (0, 21), .inl 4, .inr (0, 21), .inr (0, 21), .inr (0, 21), .inl 2, .inl 2, .inl 2, .inl 2, .inl 2, .inl 2, .inl 2, .inl 2, .inl 2, .inl 2, .inl 2, .inl 2, .inl 2, .inl 2]
def ir61 : Nat → Nat → Value := am_zr ir60 32
def is41 (xs : Nat → Int32) : Nat → Nat → Int32 := am_zs (is40 xs) 32
def ir62 : Nat → Nat → Value := am_ur ir61 4 13 (.ref 32)
def iT33 (L : Nat) : am_T := [.inr (9, L), .inl 8, .inl 5, .inl 7, .inr (2, 20), .inr (0, 20), .inr (0, 20), .inl 4, .inr (0, 21), .inr (0, 21), .inr (0, 21), .inl 4, .inr (0, 21), .inr (0, 21), .inr (0, 21), .inl 4, .inr (0, 21), .inr (0, 21), .inr (0, 21), .inl 2, .inl 2, .inl 2, .inl 2, .inl 2, .inl 2, .inl 2, .inl 2, .inl 2, .inl 2, .inl 2, .inl 2, .inl 2, .inl 2, .inl 2]
def ir63 : Nat → Nat → Value := am_zr ir62 33
def is42 (xs : Nat → Int32) : Nat → Nat → Int32 := am_zs (is41 xs) 33
def ir64 : Nat → Nat → Value := am_ur ir63 4 14 (.ref 33)
def iT34 (L : Nat) : am_T := [.inr (9, L), .inl 8, .inl 5, .inl 7, .inr (2, 20), .inr (0, 20), .inr (0, 20), .inl 4, .inr (0, 21), .inr (0, 21), .inr (0, 21), .inl 4, .inr (0, 21), .inr (0, 21), .inr (0, 21), .inl 4, .inr (0, 21), .inr (0, 21), .inr (0, 21), .inl 2, .inl 2, .inl 2, .inl 2, .inl 2, .inl 2, .inl 2, .inl 2, .inl 2, .inl 2, .inl 2, .inl 2, .inl 2, .inl 2, .inl 2, .inl 2]
def ir65 : Nat → Nat → Value := am_zr ir64 34
def is43 (xs : Nat → Int32) : Nat → Nat → Int32 := am_zs (is42 xs) 34
def ir66 : Nat → Nat → Value := am_ur ir65 4 15 (.ref 34)
def iT35 (L : Nat) : am_T := [.inr (9, L), .inl 8, .inl 5, .inl 7, .inr (2, 20), .inr (0, 20), .inr (0, 20), .inl 4, .inr (0, 21), .inr (0, 21), .inr (0, 21), .inl 4, .inr (0, 21), .inr (0, 21), .inr (0, 21), .inl 4, .inr (0, 21), .inr (0, 21), .inr (0, 21), .inl 2, .inl 2, .inl 2, .inl 2, .inl 2, .inl 2, .inl 2, .inl 2, .inl 2, .inl 2, .inl 2, .inl 2, .inl 2, .inl 2, .inl 2, .inl 2, .inl 2]
def ir67 : Nat → Nat → Value := am_zr ir66 35
def is44 (xs : Nat → Int32) : Nat → Nat → Int32 := am_zs (is43 xs) 35
def ir68 : Nat → Nat → Value := am_ur ir67 4 16 (.ref 35)
def iT36 (L : Nat) : am_T := [.inr (9, L), .inl 8, .inl 5, .inl 7, .inr (2, 20), .inr (0, 20), .inr (0, 20), .inl 4, .inr (0, 21), .inr (0, 21), .inr (0, 21), .inl 4, .inr (0, 21), .inr (0, 21), .inr (0, 21), .inl 4, .inr (0, 21), .inr (0, 21), .inr (0, 21), .inl 2, .inl 2, .inl 2, .inl 2, .inl 2, .inl 2, .inl 2, .inl 2, .inl 2, .inl 2, .inl 2, .inl 2, .inl 2, .inl 2, .inl 2, .inl 2, .inl 2, .inl 2]
def ir69 : Nat → Nat → Value := am_zr ir68 36
def is45 (xs : Nat → Int32) : Nat → Nat → Int32 := am_zs (is44 xs) 36
def ir70 : Nat → Nat → Value := am_ur ir69 4 17 (.ref 36)
def iT37 (L : Nat) : am_T := [.inr (9, L), .inl 8, .inl 5, .inl 7, .inr (2, 20), .inr (0, 20), .inr (0, 20), .inl 4, .inr (0, 21), .inr (0, 21), .inr (0, 21), .inl 4, .inr (0, 21), .inr (0, 21), .inr (0, 21), .inl 4, .inr (0, 21), .inr (0, 21), .inr (0, 21), .inl 2, .inl 2, .inl 2, .inl 2, .inl 2, .inl 2, .inl 2, .inl 2, .inl 2, .inl 2, .inl 2, .inl 2, .inl 2, .inl 2, .inl 2, .inl 2, .inl 2, .inl 2, .inl 2]
def ir71 : Nat → Nat → Value := am_zr ir70 37
def is46 (xs : Nat → Int32) : Nat → Nat → Int32 := am_zs (is45 xs) 37
def ir72 : Nat → Nat → Value := am_ur ir71 4 18 (.ref 37)
def iT38 (L : Nat) : am_T := [.inr (9, L), .inl 8, .inl 5, .inl 7, .inr (2, 20), .inr (0, 20), .inr (0, 20), .inl 4, .inr (0, 21), .inr (0, 21), .inr (0, 21), .inl 4, .inr (0, 21), .inr (0, 21), .inr (0, 21), .inl 4, .inr (0, 21), .inr (0, 21), .inr (0, 21), .inl 2, .inl 2, .inl 2, .inl 2, .inl 2, .inl 2, .inl 2, .inl 2, .inl 2, .inl 2, .inl 2, .inl 2, .inl 2, .inl 2, .inl 2, .inl 2, .inl 2, .inl 2, .inl 2, .inl 2]
def ir73 : Nat → Nat → Value := am_zr ir72 38
def is47 (xs : Nat → Int32) : Nat → Nat → Int32 := am_zs (is46 xs) 38
def ir74 : Nat → Nat → Value := am_ur ir73 4 19 (.ref 38)
def ir75 : Nat → Nat → Value := am_ur ir74 1 0 (.ref 2)
def iT39 (L : Nat) : am_T := [.inr (9, L), .inl 8, .inl 5, .inl 7, .inr (2, 20), .inr (0, 20), .inr (0, 20), .inl 4, .inr (0, 21), .inr (0, 21), .inr (0, 21), .inl 4, .inr (0, 21), .inr (0, 21), .inr (0, 21), .inl 4, .inr (0, 21), .inr (0, 21), .inr (0, 21), .inl 2, .inl 2, .inl 2, .inl 2, .inl 2, .inl 2, .inl 2, .inl 2, .inl 2, .inl 2, .inl 2, .inl 2, .inl 2, .inl 2, .inl 2, .inl 2, .inl 2, .inl 2, .inl 2, .inl 2, .inl 6]
def ir76 : Nat → Nat → Value := am_zr ir75 39
def is48 (xs : Nat → Int32) : Nat → Nat → Int32 := am_zs (is47 xs) 39
def iT40 (L : Nat) : am_T := [.inr (9, L), .inl 8, .inl 5, .inl 7, .inr (2, 20), .inr (0, 20), .inr (0, 20), .inl 4, .inr (0, 21), .inr (0, 21), .inr (0, 21), .inl 4, .inr (0, 21), .inr (0, 21), .inr (0, 21), .inl 4, .inr (0, 21), .inr (0, 21), .inr (0, 21), .inl 2, .inl 2, .inl 2, .inl 2, .inl 2, .inl 2, .inl 2, .inl 2, .inl 2, .inl 2, .inl 2, .inl 2, .inl 2, .inl 2, .inl 2, .inl 2, .inl 2, .inl 2, .inl 2, .inl 2, .inl 6, .inr (0, 5)]
def ir77 : Nat → Nat → Value := am_zr ir76 40
def is49 (xs : Nat → Int32) : Nat → Nat → Int32 := am_zs (is48 xs) 40
def ir78 : Nat → Nat → Value := am_ur ir77 39 0 (.ref 40)
def iT41 (L : Nat) : am_T := [.inr (9, L), .inl 8, .inl 5, .inl 7, .inr (2, 20), .inr (0, 20), .inr (0, 20), .inl 4, .inr (0, 21), .inr (0, 21), .inr (0, 21), .inl 4, .inr (0, 21), .inr (0, 21), .inr (0, 21), .inl 4, .inr (0, 21), .inr (0, 21), .inr (0, 21), .inl 2, .inl 2, .inl 2, .inl 2, .inl 2, .inl 2, .inl 2, .inl 2, .inl 2, .inl 2, .inl 2, .inl 2, .inl 2, .inl 2, .inl 2, .inl 2, .inl 2, .inl 2, .inl 2, .inl 2, .inl 6, .inr (0, 5), .inr (0, 5)]
def ir79 : Nat → Nat → Value := am_zr ir78 41
def is50 (xs : Nat → Int32) : Nat → Nat → Int32 := am_zs (is49 xs) 41
def ir80 : Nat → Nat → Value := am_ur ir79 39 1 (.ref 41)
def ir81 : Nat → Nat → Value := am_ur ir80 1 1 (.ref 39)
def iT42 (L : Nat) : am_T := [.inr (9, L), .inl 8, .inl 5, .inl 7, .inr (2, 20), .inr (0, 20), .inr (0, 20), .inl 4, .inr (0, 21), .inr (0, 21), .inr (0, 21), .inl 4, .inr (0, 21), .inr (0, 21), .inr (0, 21), .inl 4, .inr (0, 21), .inr (0, 21), .inr (0, 21), .inl 2, .inl 2, .inl 2, .inl 2, .inl 2, .inl 2, .inl 2, .inl 2, .inl 2, .inl 2, .inl 2, .inl 2, .inl 2, .inl 2, .inl 2, .inl 2, .inl 2, .inl 2, .inl 2, .inl 2, .inl 6, .inr (0, 5), .inr (0, 5), .inl 0]
def ir82 : Nat → Nat → Value := am_zr ir81 42
def is51 (xs : Nat → Int32) : Nat → Nat → Int32 := am_zs (is50 xs) 42
def ir83 : Nat → Nat → Value := am_ur ir82 1 2 (.ref 42)
def iT43 (L : Nat) : am_T := [.inr (9, L), .inl 8, .inl 5, .inl 7, .inr (2, 20), .inr (0, 20), .inr (0, 20), .inl 4, .inr (0, 21), .inr (0, 21), .inr (0, 21), .inl 4, .inr (0, 21), .inr (0, 21), .inr (0, 21), .inl 4, .inr (0, 21), .inr (0, 21), .inr (0, 21), .inl 2, .inl 2, .inl 2, .inl 2, .inl 2, .inl 2, .inl 2, .inl 2, .inl 2, .inl 2, .inl 2, .inl 2, .inl 2, .inl 2, .inl 2, .inl 2, .inl 2, .inl 2, .inl 2, .inl 2, .inl 6, .inr (0, 5), .inr (0, 5), .inl 0, .inl 1]
def ir84 : Nat → Nat → Value := am_zr ir83 43
def is52 (xs : Nat → Int32) : Nat → Nat → Int32 := am_zs (is51 xs) 43
def iT44 (L : Nat) : am_T := [.inr (9, L), .inl 8, .inl 5, .inl 7, .inr (2, 20), .inr (0, 20), .inr (0, 20), .inl 4, .inr (0, 21), .inr (0, 21), .inr (0, 21), .inl 4, .inr (0, 21), .inr (0, 21), .inr (0, 21), .inl 4, .inr (0, 21), .inr (0, 21), .inr (0, 21), .inl 2, .inl 2, .inl 2, .inl 2, .inl 2, .inl 2, .inl 2, .inl 2, .inl 2, .inl 2, .inl 2, .inl 2, .inl 2, .inl 2, .inl 2, .inl 2, .inl 2, .inl 2, .inl 2, .inl 2, .inl 6, .inr (0, 5), .inr (0, 5), .inl 0, .inl 1, .inr (0, 20)]
def ir85 : Nat → Nat → Value := am_zr ir84 44
def is53 (xs : Nat → Int32) : Nat → Nat → Int32 := am_zs (is52 xs) 44
def ir86 : Nat → Nat → Value := am_ur ir85 43 4 (.ref 44)
def iT45 (L : Nat) : am_T := [.inr (9, L), .inl 8, .inl 5, .inl 7, .inr (2, 20), .inr (0, 20), .inr (0, 20), .inl 4, .inr (0, 21), .inr (0, 21), .inr (0, 21), .inl 4, .inr (0, 21), .inr (0, 21), .inr (0, 21), .inl 4, .inr (0, 21), .inr (0, 21), .inr (0, 21), .inl 2, .inl 2, .inl 2, .inl 2, .inl 2, .inl 2, .inl 2, .inl 2, .inl 2, .inl 2, .inl 2, .inl 2, .inl 2, .inl 2, .inl 2, .inl 2, .inl 2, .inl 2, .inl 2, .inl 2, .inl 6, .inr (0, 5), .inr (0, 5), .inl 0, .inl 1, .inr (0, 20), .inr (0, 20)]
def ir87 : Nat → Nat → Value := am_zr ir86 45
def is54 (xs : Nat → Int32) : Nat → Nat → Int32 := am_zs (is53 xs) 45
def ir88 : Nat → Nat → Value := am_ur ir87 43 5 (.ref 45)
def iT46 (L : Nat) : am_T := [.inr (9, L), .inl 8, .inl 5, .inl 7, .inr (2, 20), .inr (0, 20), .inr (0, 20), .inl 4, .inr (0, 21), .inr (0, 21), .inr (0, 21), .inl 4, .inr (0, 21), .inr (0, 21), .inr (0, 21), .inl 4, .inr (0, 21), .inr (0, 21), .inr (0, 21), .inl 2, .inl 2, .inl 2, .inl 2, .inl 2, .inl 2, .inl 2, .inl 2, .inl 2, .inl 2, .inl 2, .inl 2, .inl 2, .inl 2, .inl 2, .inl 2, .inl 2, .inl 2, .inl 2, .inl 2, .inl 6, .inr (0, 5), .inr (0, 5), .inl 0, .inl 1, .inr (0, 20), .inr (0, 20), .inr (0, 20)]
def ir89 : Nat → Nat → Value := am_zr ir88 46
def is55 (xs : Nat → Int32) : Nat → Nat → Int32 := am_zs (is54 xs) 46
def ir90 : Nat → Nat → Value := am_ur ir89 43 6 (.ref 46)
def ir91 : Nat → Nat → Value := am_ur ir90 1 3 (.ref 43)
def ir92 : Nat → Nat → Value := am_ur ir91 1 4 (.null)
def iT47 (L : Nat) : am_T := [.inr (9, L), .inl 8, .inl 5, .inl 7, .inr (2, 20), .inr (0, 20), .inr (0, 20), .inl 4, .inr (0, 21), .inr (0, 21), .inr (0, 21), .inl 4, .inr (0, 21), .inr (0, 21), .inr (0, 21), .inl 4, .inr (0, 21), .inr (0, 21), .inr (0, 21), .inl 2, .inl 2, .inl 2, .inl 2, .inl 2, .inl 2, .inl 2, .inl 2, .inl 2, .inl 2, .inl 2, .inl 2, .inl 2, .inl 2, .inl 2, .inl 2, .inl 2, .inl 2, .inl 2, .inl 2, .inl 6, .inr (0, 5), .inr (0, 5), .inl 0, .inl 1, .inr (0, 20), .inr (0, 20), .inr (0, 20), .inl 9]
def ir93 : Nat → Nat → Value := am_zr ir92 47
def is56 (xs : Nat → Int32) : Nat → Nat → Int32 := am_zs (is55 xs) 47
def iT48 (L : Nat) : am_T := [.inr (9, L), .inl 8, .inl 5, .inl 7, .inr (2, 20), .inr (0, 20), .inr (0, 20), .inl 4, .inr (0, 21), .inr (0, 21), .inr (0, 21), .inl 4, .inr (0, 21), .inr (0, 21), .inr (0, 21), .inl 4, .inr (0, 21), .inr (0, 21), .inr (0, 21), .inl 2, .inl 2, .inl 2, .inl 2, .inl 2, .inl 2, .inl 2, .inl 2, .inl 2, .inl 2, .inl 2, .inl 2, .inl 2, .inl 2, .inl 2, .inl 2, .inl 2, .inl 2, .inl 2, .inl 2, .inl 6, .inr (0, 5), .inr (0, 5), .inl 0, .inl 1, .inr (0, 20), .inr (0, 20), .inr (0, 20), .inl 9, .inr (0, 20)]
def ir94 : Nat → Nat → Value := am_zr ir93 48
def is57 (xs : Nat → Int32) : Nat → Nat → Int32 := am_zs (is56 xs) 48
def ir95 : Nat → Nat → Value := am_ur ir94 47 1 (.ref 48)
def iT49 (L : Nat) : am_T := [.inr (9, L), .inl 8, .inl 5, .inl 7, .inr (2, 20), .inr (0, 20), .inr (0, 20), .inl 4, .inr (0, 21), .inr (0, 21), .inr (0, 21), .inl 4, .inr (0, 21), .inr (0, 21), .inr (0, 21), .inl 4, .inr (0, 21), .inr (0, 21), .inr (0, 21), .inl 2, .inl 2, .inl 2, .inl 2, .inl 2, .inl 2, .inl 2, .inl 2, .inl 2, .inl 2, .inl 2, .inl 2, .inl 2, .inl 2, .inl 2, .inl 2, .inl 2, .inl 2, .inl 2, .inl 2, .inl 6, .inr (0, 5), .inr (0, 5), .inl 0, .inl 1, .inr (0, 20), .inr (0, 20), .inr (0, 20), .inl 9, .inr (0, 20), .inr (0, 20)]
def ir96 : Nat → Nat → Value := am_zr ir95 49
def is58 (xs : Nat → Int32) : Nat → Nat → Int32 := am_zs (is57 xs) 49
def ir97 : Nat → Nat → Value := am_ur ir96 47 2 (.ref 49)
def iT50 (L : Nat) : am_T := [.inr (9, L), .inl 8, .inl 5, .inl 7, .inr (2, 20), .inr (0, 20), .inr (0, 20), .inl 4, .inr (0, 21), .inr (0, 21), .inr (0, 21), .inl 4, .inr (0, 21), .inr (0, 21), .inr (0, 21), .inl 4, .inr (0, 21), .inr (0, 21), .inr (0, 21), .inl 2, .inl 2, .inl 2, .inl 2, .inl 2, .inl 2, .inl 2, .inl 2, .inl 2, .inl 2, .inl 2, .inl 2, .inl 2, .inl 2, .inl 2, .inl 2, .inl 2, .inl 2, .inl 2, .inl 2, .inl 6, .inr (0, 5), .inr (0, 5), .inl 0, .inl 1, .inr (0, 20), .inr (0, 20), .inr (0, 20), .inl 9, .inr (0, 20), .inr (0, 20), .inr (0, 20)]
def ir98 : Nat → Nat → Value := am_zr ir97 50
def is59 (xs : Nat → Int32) : Nat → Nat → Int32 := am_zs (is58 xs) 50
def ir99 : Nat → Nat → Value := am_ur ir98 47 3 (.ref 50)
def iT51 (L : Nat) : am_T := [.inr (9, L), .inl 8, .inl 5, .inl 7, .inr (2, 20), .inr (0, 20), .inr (0, 20), .inl 4, .inr (0, 21), .inr (0, 21), .inr (0, 21), .inl 4, .inr (0, 21), .inr (0, 21), .inr (0, 21), .inl 4, .inr (0, 21), .inr (0, 21), .inr (0, 21), .inl 2, .inl 2, .inl 2, .inl 2, .inl 2, .inl 2, .inl 2, .inl 2, .inl 2, .inl 2, .inl 2, .inl 2, .inl 2, .inl 2, .inl 2, .inl 2, .inl 2, .inl 2, .inl 2, .inl 2, .inl 6, .inr (0, 5), .inr (0, 5), .inl 0, .inl 1, .inr (0, 20), .inr (0, 20), .inr (0, 20), .inl 9, .inr (0, 20), .inr (0, 20), .inr (0, 20), .inr (0, 20)]
def ir100 : Nat → Nat → Value := am_zr ir99 51
def is60 (xs : Nat → Int32) : Nat → Nat → Int32 := am_zs (is59 xs) 51
def ir101 : Nat → Nat → Value := am_ur ir100 47 4 (.ref 51)
def iT52 (L : Nat) : am_T := [.inr (9, L), .inl 8, .inl 5, .inl 7, .inr (2, 20), .inr (0, 20), .inr (0, 20), .inl 4, .inr (0, 21), .inr (0, 21), .inr (0, 21), .inl 4, .inr (0, 21), .inr (0, 21), .inr (0, 21), .inl 4, .inr (0, 21), .inr (0, 21), .inr (0, 21), .inl 2, .inl 2, .inl 2, .inl 2, .inl 2, .inl 2, .inl 2, .inl 2, .inl 2, .inl 2, .inl 2, .inl 2, .inl 2, .inl 2, .inl 2, .inl 2, .inl 2, .inl 2, .inl 2, .inl 2, .inl 6, .inr (0, 5), .inr (0, 5), .inl 0, .inl 1, .inr (0, 20), .inr (0, 20), .inr (0, 20), .inl 9, .inr (0, 20), .inr (0, 20), .inr (0, 20), .inr (0, 20), .inr (0, 20)]
def ir102 : Nat → Nat → Value := am_zr ir101 52
def is61 (xs : Nat → Int32) : Nat → Nat → Int32 := am_zs (is60 xs) 52
def ir103 : Nat → Nat → Value := am_ur ir102 47 5 (.ref 52)
def iT53 (L : Nat) : am_T := [.inr (9, L), .inl 8, .inl 5, .inl 7, .inr (2, 20), .inr (0, 20), .inr (0, 20), .inl 4, .inr (0, 21), .inr (0, 21), .inr (0, 21), .inl 4, .inr (0, 21), .inr (0, 21), .inr (0, 21), .inl 4, .inr (0, 21), .inr (0, 21), .inr (0, 21), .inl 2, .inl 2, .inl 2, .inl 2, .inl 2, .inl 2, .inl 2, .inl 2, .inl 2, .inl 2, .inl 2, .inl 2, .inl 2, .inl 2, .inl 2, .inl 2, .inl 2, .inl 2, .inl 2, .inl 2, .inl 6, .inr (0, 5), .inr (0, 5), .inl 0, .inl 1, .inr (0, 20), .inr (0, 20), .inr (0, 20), .inl 9, .inr (0, 20), .inr (0, 20), .inr (0, 20), .inr (0, 20), .inr (0, 20), .inr (0, 20)]
def ir104 : Nat → Nat → Value := am_zr ir103 53
def is62 (xs : Nat → Int32) : Nat → Nat → Int32 := am_zs (is61 xs) 53
def ir105 : Nat → Nat → Value := am_ur ir104 47 6 (.ref 53)
def iT54 (L : Nat) : am_T := [.inr (9, L), .inl 8, .inl 5, .inl 7, .inr (2, 20), .inr (0, 20), .inr (0, 20), .inl 4, .inr (0, 21), .inr (0, 21), .inr (0, 21), .inl 4, .inr (0, 21), .inr (0, 21), .inr (0, 21), .inl 4, .inr (0, 21), .inr (0, 21), .inr (0, 21), .inl 2, .inl 2, .inl 2, .inl 2, .inl 2, .inl 2, .inl 2, .inl 2, .inl 2, .inl 2, .inl 2, .inl 2, .inl 2, .inl 2, .inl 2, .inl 2, .inl 2, .inl 2, .inl 2, .inl 2, .inl 6, .inr (0, 5), .inr (0, 5), .inl 0, .inl 1, .inr (0, 20), .inr (0, 20), .inr (0, 20), .inl 9, .inr (0, 20), .inr (0, 20), .inr (0, 20), .inr (0, 20), .inr (0, 20), .inr (0, 20), .inr (1, 20)]
def ir106 : Nat → Nat → Value := am_zr ir105 54
def is63 (xs : Nat → Int32) : Nat → Nat → Int32 := am_zs (is62 xs) 54
def ir107 : Nat → Nat → Value := am_ur ir106 47 7 (.ref 54)
def iT55 (L : Nat) : am_T := [.inr (9, L), .inl 8, .inl 5, .inl 7, .inr (2, 20), .inr (0, 20), .inr (0, 20), .inl 4, .inr (0, 21), .inr (0, 21), .inr (0, 21), .inl 4, .inr (0, 21), .inr (0, 21), .inr (0, 21), .inl 4, .inr (0, 21), .inr (0, 21), .inr (0, 21), .inl 2, .inl 2, .inl 2, .inl 2, .inl 2, .inl 2, .inl 2, .inl 2, .inl 2, .inl 2, .inl 2, .inl 2, .inl 2, .inl 2, .inl 2, .inl 2, .inl 2, .inl 2, .inl 2, .inl 2, .inl 6, .inr (0, 5), .inr (0, 5), .inl 0, .inl 1, .inr (0, 20), .inr (0, 20), .inr (0, 20), .inl 9, .inr (0, 20), .inr (0, 20), .inr (0, 20), .inr (0, 20), .inr (0, 20), .inr (0, 20), .inr (1, 20), .inr (0, 20)]
def ir108 : Nat → Nat → Value := am_zr ir107 55
def is64 (xs : Nat → Int32) : Nat → Nat → Int32 := am_zs (is63 xs) 55
def ir109 : Nat → Nat → Value := am_ur ir108 47 8 (.ref 55)
def iT56 (L : Nat) : am_T := [.inr (9, L), .inl 8, .inl 5, .inl 7, .inr (2, 20), .inr (0, 20), .inr (0, 20), .inl 4, .inr (0, 21), .inr (0, 21), .inr (0, 21), .inl 4, .inr (0, 21), .inr (0, 21), .inr (0, 21), .inl 4, .inr (0, 21), .inr (0, 21), .inr (0, 21), .inl 2, .inl 2, .inl 2, .inl 2, .inl 2, .inl 2, .inl 2, .inl 2, .inl 2, .inl 2, .inl 2, .inl 2, .inl 2, .inl 2, .inl 2, .inl 2, .inl 2, .inl 2, .inl 2, .inl 2, .inl 6, .inr (0, 5), .inr (0, 5), .inl 0, .inl 1, .inr (0, 20), .inr (0, 20), .inr (0, 20), .inl 9, .inr (0, 20), .inr (0, 20), .inr (0, 20), .inr (0, 20), .inr (0, 20), .inr (0, 20), .inr (1, 20), .inr (0, 20), .inr (1, 20)]
def ir110 : Nat → Nat → Value := am_zr ir109 56
def is65 (xs : Nat → Int32) : Nat → Nat → Int32 := am_zs (is64 xs) 56
def ir111 : Nat → Nat → Value := am_ur ir110 47 9 (.ref 56)
def iT57 (L : Nat) : am_T := [.inr (9, L), .inl 8, .inl 5, .inl 7, .inr (2, 20), .inr (0, 20), .inr (0, 20), .inl 4, .inr (0, 21), .inr (0, 21), .inr (0, 21), .inl 4, .inr (0, 21), .inr (0, 21), .inr (0, 21), .inl 4, .inr (0, 21), .inr (0, 21), .inr (0, 21), .inl 2, .inl 2, .inl 2, .inl 2, .inl 2, .inl 2, .inl 2, .inl 2, .inl 2, .inl 2, .inl 2, .inl 2, .inl 2, .inl 2, .inl 2, .inl 2, .inl 2, .inl 2, .inl 2, .inl 2, .inl 6, .inr (0, 5), .inr (0, 5), .inl 0, .inl 1, .inr (0, 20), .inr (0, 20), .inr (0, 20), .inl 9, .inr (0, 20), .inr (0, 20), .inr (0, 20), .inr (0, 20), .inr (0, 20), .inr (0, 20), .inr (1, 20), .inr (0, 20), .inr (1, 20), .inr (0, 20)]
def ir112 : Nat → Nat → Value := am_zr ir111 57
def is66 (xs : Nat → Int32) : Nat → Nat → Int32 := am_zs (is65 xs) 57
def ir113 : Nat → Nat → Value := am_ur ir112 47 10 (.ref 57)
def iT58 (L : Nat) : am_T := [.inr (9, L), .inl 8, .inl 5, .inl 7, .inr (2, 20), .inr (0, 20), .inr (0, 20), .inl 4, .inr (0, 21), .inr (0, 21), .inr (0, 21), .inl 4, .inr (0, 21), .inr (0, 21), .inr (0, 21), .inl 4, .inr (0, 21), .inr (0, 21), .inr (0, 21), .inl 2, .inl 2, .inl 2, .inl 2, .inl 2, .inl 2, .inl 2, .inl 2, .inl 2, .inl 2, .inl 2, .inl 2, .inl 2, .inl 2, .inl 2, .inl 2, .inl 2, .inl 2, .inl 2, .inl 2, .inl 6, .inr (0, 5), .inr (0, 5), .inl 0, .inl 1, .inr (0, 20), .inr (0, 20), .inr (0, 20), .inl 9, .inr (0, 20), .inr (0, 20), .inr (0, 20), .inr (0, 20), .inr (0, 20), .inr (0, 20), .inr (1, 20), .inr (0, 20), .inr (1, 20), .inr (0, 20), .inr (0, 20)]
def ir114 : Nat → Nat → Value := am_zr ir113 58
def is67 (xs : Nat → Int32) : Nat → Nat → Int32 := am_zs (is66 xs) 58
def ir115 : Nat → Nat → Value := am_ur ir114 47 11 (.ref 58)
def iT59 (L : Nat) : am_T := [.inr (9, L), .inl 8, .inl 5, .inl 7, .inr (2, 20), .inr (0, 20), .inr (0, 20), .inl 4, .inr (0, 21), .inr (0, 21), .inr (0, 21), .inl 4, .inr (0, 21), .inr (0, 21), .inr (0, 21), .inl 4, .inr (0, 21), .inr (0, 21), .inr (0, 21), .inl 2, .inl 2, .inl 2, .inl 2, .inl 2, .inl 2, .inl 2, .inl 2, .inl 2, .inl 2, .inl 2, .inl 2, .inl 2, .inl 2, .inl 2, .inl 2, .inl 2, .inl 2, .inl 2, .inl 2, .inl 6, .inr (0, 5), .inr (0, 5), .inl 0, .inl 1, .inr (0, 20), .inr (0, 20), .inr (0, 20), .inl 9, .inr (0, 20), .inr (0, 20), .inr (0, 20), .inr (0, 20), .inr (0, 20), .inr (0, 20), .inr (1, 20), .inr (0, 20), .inr (1, 20), .inr (0, 20), .inr (0, 20), .inr (0, 20)]
def ir116 : Nat → Nat → Value := am_zr ir115 59
def is68 (xs : Nat → Int32) : Nat → Nat → Int32 := am_zs (is67 xs) 59
def ir117 : Nat → Nat → Value := am_ur ir116 47 12 (.ref 59)
def iT60 (L : Nat) : am_T := [.inr (9, L), .inl 8, .inl 5, .inl 7, .inr (2, 20), .inr (0, 20), .inr (0, 20), .inl 4, .inr (0, 21), .inr (0, 21), .inr (0, 21), .inl 4, .inr (0, 21), .inr (0, 21), .inr (0, 21), .inl 4, .inr (0, 21), .inr (0, 21), .inr (0, 21), .inl 2, .inl 2, .inl 2, .inl 2, .inl 2, .inl 2, .inl 2, .inl 2, .inl 2, .inl 2, .inl 2, .inl 2, .inl 2, .inl 2, .inl 2, .inl 2, .inl 2, .inl 2, .inl 2, .inl 2, .inl 6, .inr (0, 5), .inr (0, 5), .inl 0, .inl 1, .inr (0, 20), .inr (0, 20), .inr (0, 20), .inl 9, .inr (0, 20), .inr (0, 20), .inr (0, 20), .inr (0, 20), .inr (0, 20), .inr (0, 20), .inr (1, 20), .inr (0, 20), .inr (1, 20), .inr (0, 20), .inr (0, 20), .inr (0, 20), .inr (1, 20)]
def ir118 : Nat → Nat → Value := am_zr ir117 60
def is69 (xs : Nat → Int32) : Nat → Nat → Int32 := am_zs (is68 xs) 60
def ir119 : Nat → Nat → Value := am_ur ir118 47 13 (.ref 60)
def is70 (xs : Nat → Int32) : Nat → Nat → Int32 := am_us (is69 xs) 47 14 10
def is71 (xs : Nat → Int32) : Nat → Nat → Int32 := am_us (is70 xs) 47 15 4
def is72 (xs : Nat → Int32) : Nat → Nat → Int32 := am_us (is71 xs) 47 16 4
def is73 (xs : Nat → Int32) : Nat → Nat → Int32 := am_us (is72 xs) 47 17 70
def is74 (xs : Nat → Int32) : Nat → Nat → Int32 := am_us (is73 xs) 47 18 2
def is75 (xs : Nat → Int32) : Nat → Nat → Int32 := am_us (is74 xs) 47 19 8
def is76 (xs : Nat → Int32) : Nat → Nat → Int32 := am_us (is75 xs) 47 20 100000
def is77 (xs : Nat → Int32) : Nat → Nat → Int32 := am_us (is76 xs) 47 21 100000
def is78 (xs : Nat → Int32) : Nat → Nat → Int32 := am_us (is77 xs) 47 22 100
def iT61 (L : Nat) : am_T := [.inr (9, L), .inl 8, .inl 5, .inl 7, .inr (2, 20), .inr (0, 20), .inr (0, 20), .inl 4, .inr (0, 21), .inr (0, 21), .inr (0, 21), .inl 4, .inr (0, 21), .inr (0, 21), .inr (0, 21), .inl 4, .inr (0, 21), .inr (0, 21), .inr (0, 21), .inl 2, .inl 2, .inl 2, .inl 2, .inl 2, .inl 2, .inl 2, .inl 2, .inl 2, .inl 2, .inl 2, .inl 2, .inl 2, .inl 2, .inl 2, .inl 2, .inl 2, .inl 2, .inl 2, .inl 2, .inl 6, .inr (0, 5), .inr (0, 5), .inl 0, .inl 1, .inr (0, 20), .inr (0, 20), .inr (0, 20), .inl 9, .inr (0, 20), .inr (0, 20), .inr (0, 20), .inr (0, 20), .inr (0, 20), .inr (0, 20), .inr (1, 20), .inr (0, 20), .inr (1, 20), .inr (0, 20), .inr (0, 20), .inr (0, 20), .inr (1, 20), .inr (0, 20)]
def ir120 : Nat → Nat → Value := am_zr ir119 61
def is79 (xs : Nat → Int32) : Nat → Nat → Int32 := am_zs (is78 xs) 61
def ir121 : Nat → Nat → Value := am_ur ir120 47 23 (.ref 61)
def iT62 (L : Nat) : am_T := [.inr (9, L), .inl 8, .inl 5, .inl 7, .inr (2, 20), .inr (0, 20), .inr (0, 20), .inl 4, .inr (0, 21), .inr (0, 21), .inr (0, 21), .inl 4, .inr (0, 21), .inr (0, 21), .inr (0, 21), .inl 4, .inr (0, 21), .inr (0, 21), .inr (0, 21), .inl 2, .inl 2, .inl 2, .inl 2, .inl 2, .inl 2, .inl 2, .inl 2, .inl 2, .inl 2, .inl 2, .inl 2, .inl 2, .inl 2, .inl 2, .inl 2, .inl 2, .inl 2, .inl 2, .inl 2, .inl 6, .inr (0, 5), .inr (0, 5), .inl 0, .inl 1, .inr (0, 20), .inr (0, 20), .inr (0, 20), .inl 9, .inr (0, 20), .inr (0, 20), .inr (0, 20), .inr (0, 20), .inr (0, 20), .inr (0, 20), .inr (1, 20), .inr (0, 20), .inr (1, 20), .inr (0, 20), .inr (0, 20), .inr (0, 20), .inr (1, 20), .inr (0, 20), .inr (0, 4913)]
def ir122 : Nat → Nat → Value := am_zr ir121 62
def is80 (xs : Nat → Int32) : Nat → Nat → Int32 := am_zs (is79 xs) 62
def ir123 : Nat → Nat → Value := am_ur ir122 47 27 (.ref 62)
def is81 (xs : Nat → Int32) : Nat → Nat → Int32 := am_us (is80 xs) 47 28 (-1)
def iT63 (L : Nat) : am_T := [.inr (9, L), .inl 8, .inl 5, .inl 7, .inr (2, 20), .inr (0, 20), .inr (0, 20), .inl 4, .inr (0, 21), .inr (0, 21), .inr (0, 21), .inl 4, .inr (0, 21), .inr (0, 21), .inr (0, 21), .inl 4, .inr (0, 21), .inr (0, 21), .inr (0, 21), .inl 2, .inl 2, .inl 2, .inl 2, .inl 2, .inl 2, .inl 2, .inl 2, .inl 2, .inl 2, .inl 2, .inl 2, .inl 2, .inl 2, .inl 2, .inl 2, .inl 2, .inl 2, .inl 2, .inl 2, .inl 6, .inr (0, 5), .inr (0, 5), .inl 0, .inl 1, .inr (0, 20), .inr (0, 20), .inr (0, 20), .inl 9, .inr (0, 20), .inr (0, 20), .inr (0, 20), .inr (0, 20), .inr (0, 20), .inr (0, 20), .inr (1, 20), .inr (0, 20), .inr (1, 20), .inr (0, 20), .inr (0, 20), .inr (0, 20), .inr (1, 20), .inr (0, 20), .inr (0, 4913), .inr (0, 4096)]
def ir124 : Nat → Nat → Value := am_zr ir123 63
def is82 (xs : Nat → Int32) : Nat → Nat → Int32 := am_zs (is81 xs) 63
def ir125 : Nat → Nat → Value := am_ur ir124 47 29 (.ref 63)
def iT64 (L : Nat) : am_T := [.inr (9, L), .inl 8, .inl 5, .inl 7, .inr (2, 20), .inr (0, 20), .inr (0, 20), .inl 4, .inr (0, 21), .inr (0, 21), .inr (0, 21), .inl 4, .inr (0, 21), .inr (0, 21), .inr (0, 21), .inl 4, .inr (0, 21), .inr (0, 21), .inr (0, 21), .inl 2, .inl 2, .inl 2, .inl 2, .inl 2, .inl 2, .inl 2, .inl 2, .inl 2, .inl 2, .inl 2, .inl 2, .inl 2, .inl 2, .inl 2, .inl 2, .inl 2, .inl 2, .inl 2, .inl 2, .inl 6, .inr (0, 5), .inr (0, 5), .inl 0, .inl 1, .inr (0, 20), .inr (0, 20), .inr (0, 20), .inl 9, .inr (0, 20), .inr (0, 20), .inr (0, 20), .inr (0, 20), .inr (0, 20), .inr (0, 20), .inr (1, 20), .inr (0, 20), .inr (1, 20), .inr (0, 20), .inr (0, 20), .inr (0, 20), .inr (1, 20), .inr (0, 20), .inr (0, 4913), .inr (0, 4096), .inr (0, 4096)]
def ir126 : Nat → Nat → Value := am_zr ir125 64
def is83 (xs : Nat → Int32) : Nat → Nat → Int32 := am_zs (is82 xs) 64
def ir127 : Nat → Nat → Value := am_ur ir126 47 30 (.ref 64)
def iT65 (L : Nat) : am_T := [.inr (9, L), .inl 8, .inl 5, .inl 7, .inr (2, 20), .inr (0, 20), .inr (0, 20), .inl 4, .inr (0, 21), .inr (0, 21), .inr (0, 21), .inl 4, .inr (0, 21), .inr (0, 21), .inr (0, 21), .inl 4, .inr (0, 21), .inr (0, 21), .inr (0, 21), .inl 2, .inl 2, .inl 2, .inl 2, .inl 2, .inl 2, .inl 2, .inl 2, .inl 2, .inl 2, .inl 2, .inl 2, .inl 2, .inl 2, .inl 2, .inl 2, .inl 2, .inl 2, .inl 2, .inl 2, .inl 6, .inr (0, 5), .inr (0, 5), .inl 0, .inl 1, .inr (0, 20), .inr (0, 20), .inr (0, 20), .inl 9, .inr (0, 20), .inr (0, 20), .inr (0, 20), .inr (0, 20), .inr (0, 20), .inr (0, 20), .inr (1, 20), .inr (0, 20), .inr (1, 20), .inr (0, 20), .inr (0, 20), .inr (0, 20), .inr (1, 20), .inr (0, 20), .inr (0, 4913), .inr (0, 4096), .inr (0, 4096), .inr (0, 4096)]
def ir128 : Nat → Nat → Value := am_zr ir127 65
def is84 (xs : Nat → Int32) : Nat → Nat → Int32 := am_zs (is83 xs) 65
def ir129 : Nat → Nat → Value := am_ur ir128 47 31 (.ref 65)
def iT66 (L : Nat) : am_T := [.inr (9, L), .inl 8, .inl 5, .inl 7, .inr (2, 20), .inr (0, 20), .inr (0, 20), .inl 4, .inr (0, 21), .inr (0, 21), .inr (0, 21), .inl 4, .inr (0, 21), .inr (0, 21), .inr (0, 21), .inl 4, .inr (0, 21), .inr (0, 21), .inr (0, 21), .inl 2, .inl 2, .inl 2, .inl 2, .inl 2, .inl 2, .inl 2, .inl 2, .inl 2, .inl 2, .inl 2, .inl 2, .inl 2, .inl 2, .inl 2, .inl 2, .inl 2, .inl 2, .inl 2, .inl 2, .inl 6, .inr (0, 5), .inr (0, 5), .inl 0, .inl 1, .inr (0, 20), .inr (0, 20), .inr (0, 20), .inl 9, .inr (0, 20), .inr (0, 20), .inr (0, 20), .inr (0, 20), .inr (0, 20), .inr (0, 20), .inr (1, 20), .inr (0, 20), .inr (1, 20), .inr (0, 20), .inr (0, 20), .inr (0, 20), .inr (1, 20), .inr (0, 20), .inr (0, 4913), .inr (0, 4096), .inr (0, 4096), .inr (0, 4096), .inr (0, 4096)]
def ir130 : Nat → Nat → Value := am_zr ir129 66
def is85 (xs : Nat → Int32) : Nat → Nat → Int32 := am_zs (is84 xs) 66
def ir131 : Nat → Nat → Value := am_ur ir130 47 32 (.ref 66)
def iT67 (L : Nat) : am_T := [.inr (9, L), .inl 8, .inl 5, .inl 7, .inr (2, 20), .inr (0, 20), .inr (0, 20), .inl 4, .inr (0, 21), .inr (0, 21), .inr (0, 21), .inl 4, .inr (0, 21), .inr (0, 21), .inr (0, 21), .inl 4, .inr (0, 21), .inr (0, 21), .inr (0, 21), .inl 2, .inl 2, .inl 2, .inl 2, .inl 2, .inl 2, .inl 2, .inl 2, .inl 2, .inl 2, .inl 2, .inl 2, .inl 2, .inl 2, .inl 2, .inl 2, .inl 2, .inl 2, .inl 2, .inl 2, .inl 6, .inr (0, 5), .inr (0, 5), .inl 0, .inl 1, .inr (0, 20), .inr (0, 20), .inr (0, 20), .inl 9, .inr (0, 20), .inr (0, 20), .inr (0, 20), .inr (0, 20), .inr (0, 20), .inr (0, 20), .inr (1, 20), .inr (0, 20), .inr (1, 20), .inr (0, 20), .inr (0, 20), .inr (0, 20), .inr (1, 20), .inr (0, 20), .inr (0, 4913), .inr (0, 4096), .inr (0, 4096), .inr (0, 4096), .inr (0, 4096), .inr (1, 4096)]
def ir132 : Nat → Nat → Value := am_zr ir131 67
def is86 (xs : Nat → Int32) : Nat → Nat → Int32 := am_zs (is85 xs) 67
def ir133 : Nat → Nat → Value := am_ur ir132 47 33 (.ref 67)
def iT68 (L : Nat) : am_T := [.inr (9, L), .inl 8, .inl 5, .inl 7, .inr (2, 20), .inr (0, 20), .inr (0, 20), .inl 4, .inr (0, 21), .inr (0, 21), .inr (0, 21), .inl 4, .inr (0, 21), .inr (0, 21), .inr (0, 21), .inl 4, .inr (0, 21), .inr (0, 21), .inr (0, 21), .inl 2, .inl 2, .inl 2, .inl 2, .inl 2, .inl 2, .inl 2, .inl 2, .inl 2, .inl 2, .inl 2, .inl 2, .inl 2, .inl 2, .inl 2, .inl 2, .inl 2, .inl 2, .inl 2, .inl 2, .inl 6, .inr (0, 5), .inr (0, 5), .inl 0, .inl 1, .inr (0, 20), .inr (0, 20), .inr (0, 20), .inl 9, .inr (0, 20), .inr (0, 20), .inr (0, 20), .inr (0, 20), .inr (0, 20), .inr (0, 20), .inr (1, 20), .inr (0, 20), .inr (1, 20), .inr (0, 20), .inr (0, 20), .inr (0, 20), .inr (1, 20), .inr (0, 20), .inr (0, 4913), .inr (0, 4096), .inr (0, 4096), .inr (0, 4096), .inr (0, 4096), .inr (1, 4096), .inr (0, 20)]
def ir134 : Nat → Nat → Value := am_zr ir133 68
def is87 (xs : Nat → Int32) : Nat → Nat → Int32 := am_zs (is86 xs) 68
def ir135 : Nat → Nat → Value := am_ur ir134 47 34 (.ref 68)
def is88 (xs : Nat → Int32) : Nat → Nat → Int32 := am_us (is87 xs) 47 37 (-1)
def is89 (xs : Nat → Int32) : Nat → Nat → Int32 := am_us (is88 xs) 47 38 (-1)
def is90 (xs : Nat → Int32) : Nat → Nat → Int32 := am_us (is89 xs) 47 39 (-1)
set_option maxRecDepth 100000 in
theorem ini_1 {l : Launch} {D : va_G} {DA : Nat → ClassId} {b sz d L : Nat} {xs : Nat → Int32} : am_Go l D DA b sz (d + 0) M_Truck_new (0, [some (.ref 3)], [], (iT3 L, ir3, is3 xs)) none (iT3 L, ir3, is12 xs) := by
  refine go_steps (st' := (10, [some (.ref 3)], [], (iT3 L, ir3, is4 xs))) q_Truck_new kc_Truck_new 5 rfl ?_
  refine go_steps (st' := (15, [some (.ref 3)], [], (iT3 L, ir3, is5 xs))) q_Truck_new kc_Truck_new 3 rfl ?_
  refine go_steps (st' := (20, [some (.ref 3)], [], (iT3 L, ir3, is6 xs))) q_Truck_new kc_Truck_new 3 rfl ?_
  refine go_steps (st' := (26, [some (.ref 3)], [], (iT3 L, ir3, is7 xs))) q_Truck_new kc_Truck_new 3 rfl ?_
  refine go_steps (st' := (31, [some (.ref 3)], [], (iT3 L, ir3, is8 xs))) q_Truck_new kc_Truck_new 3 rfl ?_
  refine go_steps (st' := (37, [some (.ref 3)], [], (iT3 L, ir3, is9 xs))) q_Truck_new kc_Truck_new 3 rfl ?_
  refine go_steps (st' := (43, [some (.ref 3)], [], (iT3 L, ir3, is10 xs))) q_Truck_new kc_Truck_new 3 rfl ?_
  refine go_steps (st' := (49, [some (.ref 3)], [], (iT3 L, ir3, is11 xs))) q_Truck_new kc_Truck_new 3 rfl ?_
  refine go_steps (st' := (55, [some (.ref 3)], [], (iT3 L, ir3, is12 xs))) q_Truck_new kc_Truck_new 3 rfl ?_
  exact go_retV q_Truck_new kc_Truck_new rfl rfl
set_option maxRecDepth 100000 in
theorem ini_2 {l : Launch} {D : va_G} {DA : Nat → ClassId} {b sz d L : Nat} {xs : Nat → Int32} : am_Go l D DA b sz (d + 0) M_Edges_new (0, [some (.ref 7)], [], (iT7 L, ir11, is16 xs)) none (iT10 L, ir17, is19 xs) := by
  refine go_steps (st' := (9, [some (.ref 7)], [.ref 8, .ref 7], (iT8 L, ir12, is17 xs))) q_Edges_new kc_Edges_new 5 rfl ?_
  refine go_steps (st' := (12, [some (.ref 7)], [], (iT8 L, ir13, is17 xs))) q_Edges_new kc_Edges_new 1 rfl ?_
  refine go_steps (st' := (17, [some (.ref 7)], [.ref 9, .ref 7], (iT9 L, ir14, is18 xs))) q_Edges_new kc_Edges_new 3 rfl ?_
  refine go_steps (st' := (20, [some (.ref 7)], [], (iT9 L, ir15, is18 xs))) q_Edges_new kc_Edges_new 1 rfl ?_
  refine go_steps (st' := (25, [some (.ref 7)], [.ref 10, .ref 7], (iT10 L, ir16, is19 xs))) q_Edges_new kc_Edges_new 3 rfl ?_
  refine go_steps (st' := (28, [some (.ref 7)], [], (iT10 L, ir17, is19 xs))) q_Edges_new kc_Edges_new 1 rfl ?_
  exact go_retV q_Edges_new kc_Edges_new rfl rfl
set_option maxRecDepth 100000 in
theorem ini_3 {l : Launch} {D : va_G} {DA : Nat → ClassId} {b sz d L : Nat} {xs : Nat → Int32} : am_Go l D DA b sz (d + 0) M_Edges_new (0, [some (.ref 11)], [], (iT11 L, ir19, is20 xs)) none (iT14 L, ir25, is23 xs) := by
  refine go_steps (st' := (9, [some (.ref 11)], [.ref 12, .ref 11], (iT12 L, ir20, is21 xs))) q_Edges_new kc_Edges_new 5 rfl ?_
  refine go_steps (st' := (12, [some (.ref 11)], [], (iT12 L, ir21, is21 xs))) q_Edges_new kc_Edges_new 1 rfl ?_
  refine go_steps (st' := (17, [some (.ref 11)], [.ref 13, .ref 11], (iT13 L, ir22, is22 xs))) q_Edges_new kc_Edges_new 3 rfl ?_
  refine go_steps (st' := (20, [some (.ref 11)], [], (iT13 L, ir23, is22 xs))) q_Edges_new kc_Edges_new 1 rfl ?_
  refine go_steps (st' := (25, [some (.ref 11)], [.ref 14, .ref 11], (iT14 L, ir24, is23 xs))) q_Edges_new kc_Edges_new 3 rfl ?_
  refine go_steps (st' := (28, [some (.ref 11)], [], (iT14 L, ir25, is23 xs))) q_Edges_new kc_Edges_new 1 rfl ?_
  exact go_retV q_Edges_new kc_Edges_new rfl rfl
set_option maxRecDepth 100000 in
theorem ini_4 {l : Launch} {D : va_G} {DA : Nat → ClassId} {b sz d L : Nat} {xs : Nat → Int32} : am_Go l D DA b sz (d + 0) M_Edges_new (0, [some (.ref 15)], [], (iT15 L, ir27, is24 xs)) none (iT18 L, ir33, is27 xs) := by
  refine go_steps (st' := (9, [some (.ref 15)], [.ref 16, .ref 15], (iT16 L, ir28, is25 xs))) q_Edges_new kc_Edges_new 5 rfl ?_
  refine go_steps (st' := (12, [some (.ref 15)], [], (iT16 L, ir29, is25 xs))) q_Edges_new kc_Edges_new 1 rfl ?_
  refine go_steps (st' := (17, [some (.ref 15)], [.ref 17, .ref 15], (iT17 L, ir30, is26 xs))) q_Edges_new kc_Edges_new 3 rfl ?_
  refine go_steps (st' := (20, [some (.ref 15)], [], (iT17 L, ir31, is26 xs))) q_Edges_new kc_Edges_new 1 rfl ?_
  refine go_steps (st' := (25, [some (.ref 15)], [.ref 18, .ref 15], (iT18 L, ir32, is27 xs))) q_Edges_new kc_Edges_new 3 rfl ?_
  refine go_steps (st' := (28, [some (.ref 15)], [], (iT18 L, ir33, is27 xs))) q_Edges_new kc_Edges_new 1 rfl ?_
  exact go_retV q_Edges_new kc_Edges_new rfl rfl
set_option maxRecDepth 100000 in
theorem ini_5 {l : Launch} {D : va_G} {DA : Nat → ClassId} {b sz d L : Nat} {xs : Nat → Int32} : am_Go l D DA b sz (d + 0) M_Box_new (0, [some (.ref 19)], [], (iT19 L, ir35, is28 xs)) none (iT19 L, ir35, is28 xs) := by
  refine go_steps (st' := (4, [some (.ref 19)], [], (iT19 L, ir35, is28 xs))) q_Box_new kc_Box_new 2 rfl ?_
  exact go_retV q_Box_new kc_Box_new rfl rfl
set_option maxRecDepth 100000 in
theorem ini_6 {l : Launch} {D : va_G} {DA : Nat → ClassId} {b sz d L : Nat} {xs : Nat → Int32} : am_Go l D DA b sz (d + 0) M_Box_new (0, [some (.ref 20)], [], (iT20 L, ir37, is29 xs)) none (iT20 L, ir37, is29 xs) := by
  refine go_steps (st' := (4, [some (.ref 20)], [], (iT20 L, ir37, is29 xs))) q_Box_new kc_Box_new 2 rfl ?_
  exact go_retV q_Box_new kc_Box_new rfl rfl
set_option maxRecDepth 100000 in
theorem ini_7 {l : Launch} {D : va_G} {DA : Nat → ClassId} {b sz d L : Nat} {xs : Nat → Int32} : am_Go l D DA b sz (d + 0) M_Box_new (0, [some (.ref 21)], [], (iT21 L, ir39, is30 xs)) none (iT21 L, ir39, is30 xs) := by
  refine go_steps (st' := (4, [some (.ref 21)], [], (iT21 L, ir39, is30 xs))) q_Box_new kc_Box_new 2 rfl ?_
  exact go_retV q_Box_new kc_Box_new rfl rfl
set_option maxRecDepth 100000 in
theorem ini_8 {l : Launch} {D : va_G} {DA : Nat → ClassId} {b sz d L : Nat} {xs : Nat → Int32} : am_Go l D DA b sz (d + 0) M_Box_new (0, [some (.ref 22)], [], (iT22 L, ir41, is31 xs)) none (iT22 L, ir41, is31 xs) := by
  refine go_steps (st' := (4, [some (.ref 22)], [], (iT22 L, ir41, is31 xs))) q_Box_new kc_Box_new 2 rfl ?_
  exact go_retV q_Box_new kc_Box_new rfl rfl
set_option maxRecDepth 100000 in
theorem ini_9 {l : Launch} {D : va_G} {DA : Nat → ClassId} {b sz d L : Nat} {xs : Nat → Int32} : am_Go l D DA b sz (d + 0) M_Box_new (0, [some (.ref 23)], [], (iT23 L, ir43, is32 xs)) none (iT23 L, ir43, is32 xs) := by
  refine go_steps (st' := (4, [some (.ref 23)], [], (iT23 L, ir43, is32 xs))) q_Box_new kc_Box_new 2 rfl ?_
  exact go_retV q_Box_new kc_Box_new rfl rfl
set_option maxRecDepth 100000 in
theorem ini_10 {l : Launch} {D : va_G} {DA : Nat → ClassId} {b sz d L : Nat} {xs : Nat → Int32} : am_Go l D DA b sz (d + 0) M_Box_new (0, [some (.ref 24)], [], (iT24 L, ir45, is33 xs)) none (iT24 L, ir45, is33 xs) := by
  refine go_steps (st' := (4, [some (.ref 24)], [], (iT24 L, ir45, is33 xs))) q_Box_new kc_Box_new 2 rfl ?_
  exact go_retV q_Box_new kc_Box_new rfl rfl
set_option maxRecDepth 100000 in
theorem ini_11 {l : Launch} {D : va_G} {DA : Nat → ClassId} {b sz d L : Nat} {xs : Nat → Int32} : am_Go l D DA b sz (d + 0) M_Box_new (0, [some (.ref 25)], [], (iT25 L, ir47, is34 xs)) none (iT25 L, ir47, is34 xs) := by
  refine go_steps (st' := (4, [some (.ref 25)], [], (iT25 L, ir47, is34 xs))) q_Box_new kc_Box_new 2 rfl ?_
  exact go_retV q_Box_new kc_Box_new rfl rfl
set_option maxRecDepth 100000 in
theorem ini_12 {l : Launch} {D : va_G} {DA : Nat → ClassId} {b sz d L : Nat} {xs : Nat → Int32} : am_Go l D DA b sz (d + 0) M_Box_new (0, [some (.ref 26)], [], (iT26 L, ir49, is35 xs)) none (iT26 L, ir49, is35 xs) := by
  refine go_steps (st' := (4, [some (.ref 26)], [], (iT26 L, ir49, is35 xs))) q_Box_new kc_Box_new 2 rfl ?_
  exact go_retV q_Box_new kc_Box_new rfl rfl
set_option maxRecDepth 100000 in
theorem ini_13 {l : Launch} {D : va_G} {DA : Nat → ClassId} {b sz d L : Nat} {xs : Nat → Int32} : am_Go l D DA b sz (d + 0) M_Box_new (0, [some (.ref 27)], [], (iT27 L, ir51, is36 xs)) none (iT27 L, ir51, is36 xs) := by
  refine go_steps (st' := (4, [some (.ref 27)], [], (iT27 L, ir51, is36 xs))) q_Box_new kc_Box_new 2 rfl ?_
  exact go_retV q_Box_new kc_Box_new rfl rfl
set_option maxRecDepth 100000 in
theorem ini_14 {l : Launch} {D : va_G} {DA : Nat → ClassId} {b sz d L : Nat} {xs : Nat → Int32} : am_Go l D DA b sz (d + 0) M_Box_new (0, [some (.ref 28)], [], (iT28 L, ir53, is37 xs)) none (iT28 L, ir53, is37 xs) := by
  refine go_steps (st' := (4, [some (.ref 28)], [], (iT28 L, ir53, is37 xs))) q_Box_new kc_Box_new 2 rfl ?_
  exact go_retV q_Box_new kc_Box_new rfl rfl
set_option maxRecDepth 100000 in
theorem ini_15 {l : Launch} {D : va_G} {DA : Nat → ClassId} {b sz d L : Nat} {xs : Nat → Int32} : am_Go l D DA b sz (d + 0) M_Box_new (0, [some (.ref 29)], [], (iT29 L, ir55, is38 xs)) none (iT29 L, ir55, is38 xs) := by
  refine go_steps (st' := (4, [some (.ref 29)], [], (iT29 L, ir55, is38 xs))) q_Box_new kc_Box_new 2 rfl ?_
  exact go_retV q_Box_new kc_Box_new rfl rfl
set_option maxRecDepth 100000 in
theorem ini_16 {l : Launch} {D : va_G} {DA : Nat → ClassId} {b sz d L : Nat} {xs : Nat → Int32} : am_Go l D DA b sz (d + 0) M_Box_new (0, [some (.ref 30)], [], (iT30 L, ir57, is39 xs)) none (iT30 L, ir57, is39 xs) := by
  refine go_steps (st' := (4, [some (.ref 30)], [], (iT30 L, ir57, is39 xs))) q_Box_new kc_Box_new 2 rfl ?_
  exact go_retV q_Box_new kc_Box_new rfl rfl
set_option maxRecDepth 100000 in
theorem ini_17 {l : Launch} {D : va_G} {DA : Nat → ClassId} {b sz d L : Nat} {xs : Nat → Int32} : am_Go l D DA b sz (d + 0) M_Box_new (0, [some (.ref 31)], [], (iT31 L, ir59, is40 xs)) none (iT31 L, ir59, is40 xs) := by
  refine go_steps (st' := (4, [some (.ref 31)], [], (iT31 L, ir59, is40 xs))) q_Box_new kc_Box_new 2 rfl ?_
  exact go_retV q_Box_new kc_Box_new rfl rfl
set_option maxRecDepth 100000 in
theorem ini_18 {l : Launch} {D : va_G} {DA : Nat → ClassId} {b sz d L : Nat} {xs : Nat → Int32} : am_Go l D DA b sz (d + 0) M_Box_new (0, [some (.ref 32)], [], (iT32 L, ir61, is41 xs)) none (iT32 L, ir61, is41 xs) := by
  refine go_steps (st' := (4, [some (.ref 32)], [], (iT32 L, ir61, is41 xs))) q_Box_new kc_Box_new 2 rfl ?_
  exact go_retV q_Box_new kc_Box_new rfl rfl
set_option maxRecDepth 100000 in
theorem ini_19 {l : Launch} {D : va_G} {DA : Nat → ClassId} {b sz d L : Nat} {xs : Nat → Int32} : am_Go l D DA b sz (d + 0) M_Box_new (0, [some (.ref 33)], [], (iT33 L, ir63, is42 xs)) none (iT33 L, ir63, is42 xs) := by
  refine go_steps (st' := (4, [some (.ref 33)], [], (iT33 L, ir63, is42 xs))) q_Box_new kc_Box_new 2 rfl ?_
  exact go_retV q_Box_new kc_Box_new rfl rfl
set_option maxRecDepth 100000 in
theorem ini_20 {l : Launch} {D : va_G} {DA : Nat → ClassId} {b sz d L : Nat} {xs : Nat → Int32} : am_Go l D DA b sz (d + 0) M_Box_new (0, [some (.ref 34)], [], (iT34 L, ir65, is43 xs)) none (iT34 L, ir65, is43 xs) := by
  refine go_steps (st' := (4, [some (.ref 34)], [], (iT34 L, ir65, is43 xs))) q_Box_new kc_Box_new 2 rfl ?_
  exact go_retV q_Box_new kc_Box_new rfl rfl
set_option maxRecDepth 100000 in
theorem ini_21 {l : Launch} {D : va_G} {DA : Nat → ClassId} {b sz d L : Nat} {xs : Nat → Int32} : am_Go l D DA b sz (d + 0) M_Box_new (0, [some (.ref 35)], [], (iT35 L, ir67, is44 xs)) none (iT35 L, ir67, is44 xs) := by
  refine go_steps (st' := (4, [some (.ref 35)], [], (iT35 L, ir67, is44 xs))) q_Box_new kc_Box_new 2 rfl ?_
  exact go_retV q_Box_new kc_Box_new rfl rfl
set_option maxRecDepth 100000 in
theorem ini_22 {l : Launch} {D : va_G} {DA : Nat → ClassId} {b sz d L : Nat} {xs : Nat → Int32} : am_Go l D DA b sz (d + 0) M_Box_new (0, [some (.ref 36)], [], (iT36 L, ir69, is45 xs)) none (iT36 L, ir69, is45 xs) := by
  refine go_steps (st' := (4, [some (.ref 36)], [], (iT36 L, ir69, is45 xs))) q_Box_new kc_Box_new 2 rfl ?_
  exact go_retV q_Box_new kc_Box_new rfl rfl
set_option maxRecDepth 100000 in
theorem ini_23 {l : Launch} {D : va_G} {DA : Nat → ClassId} {b sz d L : Nat} {xs : Nat → Int32} : am_Go l D DA b sz (d + 0) M_Box_new (0, [some (.ref 37)], [], (iT37 L, ir71, is46 xs)) none (iT37 L, ir71, is46 xs) := by
  refine go_steps (st' := (4, [some (.ref 37)], [], (iT37 L, ir71, is46 xs))) q_Box_new kc_Box_new 2 rfl ?_
  exact go_retV q_Box_new kc_Box_new rfl rfl
set_option maxRecDepth 100000 in
theorem ini_24 {l : Launch} {D : va_G} {DA : Nat → ClassId} {b sz d L : Nat} {xs : Nat → Int32} : am_Go l D DA b sz (d + 0) M_Box_new (0, [some (.ref 38)], [], (iT38 L, ir73, is47 xs)) none (iT38 L, ir73, is47 xs) := by
  refine go_steps (st' := (4, [some (.ref 38)], [], (iT38 L, ir73, is47 xs))) q_Box_new kc_Box_new 2 rfl ?_
  exact go_retV q_Box_new kc_Box_new rfl rfl
set_option maxRecDepth 100000 in
theorem ini_25 {l : Launch} {D : va_G} {DA : Nat → ClassId} {b sz d L : Nat} {xs : Nat → Int32} : am_Go l D DA b sz (d + 1) M_Hold_new (0, [some (.ref 2), none], [], (iT2 L, ir2, is2 xs)) none (iT38 L, ir74, is47 xs) := by
  refine go_steps (st' := (8, [some (.ref 2), none], [.ref 3, .ref 2], (iT3 L, ir3, is3 xs))) q_Hold_new kc_Hold_new 4 rfl ?_
  refine go_steps (st' := (9, [some (.ref 2), none], [.ref 3, .ref 3, .ref 2], (iT3 L, ir3, is3 xs))) q_Hold_new kc_Hold_new 1 rfl ?_
  refine go_callI (X1 := (iT3 L, ir3, is12 xs)) (r1 := none) q_Hold_new kc_Hold_new rfl (by decide) q_Truck_new am_k2 ⟨rfl, rfl⟩ rfl rfl (Nat.le_of_ble_eq_true rfl) (Nat.le_of_ble_eq_true rfl) rfl (go_mono (by omega) (ini_1 (d := 0))) ?_
  show am_Go l D DA b sz _ M_Hold_new (12, [some (.ref 2), none], [.ref 3, .ref 2], (iT3 L, ir3, is12 xs)) _ _
  refine go_steps (st' := (15, [some (.ref 2), none], [], (iT3 L, ir4, is12 xs))) q_Hold_new kc_Hold_new 1 rfl ?_
  refine go_steps (st' := (21, [some (.ref 2), none], [.ref 4, .ref 2], (iT4 L, ir5, is13 xs))) q_Hold_new kc_Hold_new 3 rfl ?_
  refine go_steps (st' := (24, [some (.ref 2), none], [], (iT4 L, ir6, is13 xs))) q_Hold_new kc_Hold_new 1 rfl ?_
  refine go_steps (st' := (29, [some (.ref 2), none], [.ref 5, .ref 2], (iT5 L, ir7, is14 xs))) q_Hold_new kc_Hold_new 3 rfl ?_
  refine go_steps (st' := (32, [some (.ref 2), none], [], (iT5 L, ir8, is14 xs))) q_Hold_new kc_Hold_new 1 rfl ?_
  refine go_steps (st' := (37, [some (.ref 2), none], [.ref 6, .ref 2], (iT6 L, ir9, is15 xs))) q_Hold_new kc_Hold_new 3 rfl ?_
  refine go_steps (st' := (40, [some (.ref 2), none], [], (iT6 L, ir10, is15 xs))) q_Hold_new kc_Hold_new 1 rfl ?_
  refine go_steps (st' := (44, [some (.ref 2), none], [.ref 7, .ref 2], (iT7 L, ir11, is16 xs))) q_Hold_new kc_Hold_new 2 rfl ?_
  refine go_steps (st' := (45, [some (.ref 2), none], [.ref 7, .ref 7, .ref 2], (iT7 L, ir11, is16 xs))) q_Hold_new kc_Hold_new 1 rfl ?_
  refine go_callI (X1 := (iT10 L, ir17, is19 xs)) (r1 := none) q_Hold_new kc_Hold_new rfl (by decide) q_Edges_new am_k3 ⟨rfl, rfl⟩ rfl rfl (Nat.le_of_ble_eq_true rfl) (Nat.le_of_ble_eq_true rfl) rfl (go_mono (by omega) (ini_2 (d := 0))) ?_
  show am_Go l D DA b sz _ M_Hold_new (48, [some (.ref 2), none], [.ref 7, .ref 2], (iT10 L, ir17, is19 xs)) _ _
  refine go_steps (st' := (51, [some (.ref 2), none], [], (iT10 L, ir18, is19 xs))) q_Hold_new kc_Hold_new 1 rfl ?_
  refine go_steps (st' := (55, [some (.ref 2), none], [.ref 11, .ref 2], (iT11 L, ir19, is20 xs))) q_Hold_new kc_Hold_new 2 rfl ?_
  refine go_steps (st' := (56, [some (.ref 2), none], [.ref 11, .ref 11, .ref 2], (iT11 L, ir19, is20 xs))) q_Hold_new kc_Hold_new 1 rfl ?_
  refine go_callI (X1 := (iT14 L, ir25, is23 xs)) (r1 := none) q_Hold_new kc_Hold_new rfl (by decide) q_Edges_new am_k3 ⟨rfl, rfl⟩ rfl rfl (Nat.le_of_ble_eq_true rfl) (Nat.le_of_ble_eq_true rfl) rfl (go_mono (by omega) (ini_3 (d := 0))) ?_
  show am_Go l D DA b sz _ M_Hold_new (59, [some (.ref 2), none], [.ref 11, .ref 2], (iT14 L, ir25, is23 xs)) _ _
  refine go_steps (st' := (62, [some (.ref 2), none], [], (iT14 L, ir26, is23 xs))) q_Hold_new kc_Hold_new 1 rfl ?_
  refine go_steps (st' := (66, [some (.ref 2), none], [.ref 15, .ref 2], (iT15 L, ir27, is24 xs))) q_Hold_new kc_Hold_new 2 rfl ?_
  refine go_steps (st' := (67, [some (.ref 2), none], [.ref 15, .ref 15, .ref 2], (iT15 L, ir27, is24 xs))) q_Hold_new kc_Hold_new 1 rfl ?_
  refine go_callI (X1 := (iT18 L, ir33, is27 xs)) (r1 := none) q_Hold_new kc_Hold_new rfl (by decide) q_Edges_new am_k3 ⟨rfl, rfl⟩ rfl rfl (Nat.le_of_ble_eq_true rfl) (Nat.le_of_ble_eq_true rfl) rfl (go_mono (by omega) (ini_4 (d := 0))) ?_
  show am_Go l D DA b sz _ M_Hold_new (70, [some (.ref 2), none], [.ref 15, .ref 2], (iT18 L, ir33, is27 xs)) _ _
  refine go_steps (st' := (73, [some (.ref 2), none], [], (iT18 L, ir34, is27 xs))) q_Hold_new kc_Hold_new 1 rfl ?_
  refine go_steps (st' := (81, [some (.ref 2), some (.int 0)], [], (iT18 L, ir34, is27 xs))) q_Hold_new kc_Hold_new 5 rfl ?_
  refine go_steps (st' := (89, [some (.ref 2), some (.int 0)], [.ref 19, .int 0, .ref 4], (iT19 L, ir35, is28 xs))) q_Hold_new kc_Hold_new 4 rfl ?_
  refine go_steps (st' := (90, [some (.ref 2), some (.int 0)], [.ref 19, .ref 19, .int 0, .ref 4], (iT19 L, ir35, is28 xs))) q_Hold_new kc_Hold_new 1 rfl ?_
  refine go_callI (X1 := (iT19 L, ir35, is28 xs)) (r1 := none) q_Hold_new kc_Hold_new rfl (by decide) q_Box_new am_k4 ⟨rfl, rfl⟩ rfl rfl (Nat.le_of_ble_eq_true rfl) (Nat.le_of_ble_eq_true rfl) rfl (go_mono (by omega) (ini_5 (d := 0))) ?_
  show am_Go l D DA b sz _ M_Hold_new (93, [some (.ref 2), some (.int 0)], [.ref 19, .int 0, .ref 4], (iT19 L, ir35, is28 xs)) _ _
  refine go_steps (st' := (94, [some (.ref 2), some (.int 0)], [], (iT19 L, ir36, is28 xs))) q_Hold_new kc_Hold_new 1 rfl ?_
  refine go_steps (st' := (81, [some (.ref 2), some (.int 1)], [], (iT19 L, ir36, is28 xs))) q_Hold_new kc_Hold_new 5 rfl ?_
  refine go_steps (st' := (89, [some (.ref 2), some (.int 1)], [.ref 20, .int 1, .ref 4], (iT20 L, ir37, is29 xs))) q_Hold_new kc_Hold_new 4 rfl ?_
  refine go_steps (st' := (90, [some (.ref 2), some (.int 1)], [.ref 20, .ref 20, .int 1, .ref 4], (iT20 L, ir37, is29 xs))) q_Hold_new kc_Hold_new 1 rfl ?_
  refine go_callI (X1 := (iT20 L, ir37, is29 xs)) (r1 := none) q_Hold_new kc_Hold_new rfl (by decide) q_Box_new am_k4 ⟨rfl, rfl⟩ rfl rfl (Nat.le_of_ble_eq_true rfl) (Nat.le_of_ble_eq_true rfl) rfl (go_mono (by omega) (ini_6 (d := 0))) ?_
  show am_Go l D DA b sz _ M_Hold_new (93, [some (.ref 2), some (.int 1)], [.ref 20, .int 1, .ref 4], (iT20 L, ir37, is29 xs)) _ _
  refine go_steps (st' := (94, [some (.ref 2), some (.int 1)], [], (iT20 L, ir38, is29 xs))) q_Hold_new kc_Hold_new 1 rfl ?_
  refine go_steps (st' := (81, [some (.ref 2), some (.int 2)], [], (iT20 L, ir38, is29 xs))) q_Hold_new kc_Hold_new 5 rfl ?_
  refine go_steps (st' := (89, [some (.ref 2), some (.int 2)], [.ref 21, .int 2, .ref 4], (iT21 L, ir39, is30 xs))) q_Hold_new kc_Hold_new 4 rfl ?_
  refine go_steps (st' := (90, [some (.ref 2), some (.int 2)], [.ref 21, .ref 21, .int 2, .ref 4], (iT21 L, ir39, is30 xs))) q_Hold_new kc_Hold_new 1 rfl ?_
  refine go_callI (X1 := (iT21 L, ir39, is30 xs)) (r1 := none) q_Hold_new kc_Hold_new rfl (by decide) q_Box_new am_k4 ⟨rfl, rfl⟩ rfl rfl (Nat.le_of_ble_eq_true rfl) (Nat.le_of_ble_eq_true rfl) rfl (go_mono (by omega) (ini_7 (d := 0))) ?_
  show am_Go l D DA b sz _ M_Hold_new (93, [some (.ref 2), some (.int 2)], [.ref 21, .int 2, .ref 4], (iT21 L, ir39, is30 xs)) _ _
  refine go_steps (st' := (94, [some (.ref 2), some (.int 2)], [], (iT21 L, ir40, is30 xs))) q_Hold_new kc_Hold_new 1 rfl ?_
  refine go_steps (st' := (81, [some (.ref 2), some (.int 3)], [], (iT21 L, ir40, is30 xs))) q_Hold_new kc_Hold_new 5 rfl ?_
  refine go_steps (st' := (89, [some (.ref 2), some (.int 3)], [.ref 22, .int 3, .ref 4], (iT22 L, ir41, is31 xs))) q_Hold_new kc_Hold_new 4 rfl ?_
  refine go_steps (st' := (90, [some (.ref 2), some (.int 3)], [.ref 22, .ref 22, .int 3, .ref 4], (iT22 L, ir41, is31 xs))) q_Hold_new kc_Hold_new 1 rfl ?_
  refine go_callI (X1 := (iT22 L, ir41, is31 xs)) (r1 := none) q_Hold_new kc_Hold_new rfl (by decide) q_Box_new am_k4 ⟨rfl, rfl⟩ rfl rfl (Nat.le_of_ble_eq_true rfl) (Nat.le_of_ble_eq_true rfl) rfl (go_mono (by omega) (ini_8 (d := 0))) ?_
  show am_Go l D DA b sz _ M_Hold_new (93, [some (.ref 2), some (.int 3)], [.ref 22, .int 3, .ref 4], (iT22 L, ir41, is31 xs)) _ _
  refine go_steps (st' := (94, [some (.ref 2), some (.int 3)], [], (iT22 L, ir42, is31 xs))) q_Hold_new kc_Hold_new 1 rfl ?_
  refine go_steps (st' := (81, [some (.ref 2), some (.int 4)], [], (iT22 L, ir42, is31 xs))) q_Hold_new kc_Hold_new 5 rfl ?_
  refine go_steps (st' := (89, [some (.ref 2), some (.int 4)], [.ref 23, .int 4, .ref 4], (iT23 L, ir43, is32 xs))) q_Hold_new kc_Hold_new 4 rfl ?_
  refine go_steps (st' := (90, [some (.ref 2), some (.int 4)], [.ref 23, .ref 23, .int 4, .ref 4], (iT23 L, ir43, is32 xs))) q_Hold_new kc_Hold_new 1 rfl ?_
  refine go_callI (X1 := (iT23 L, ir43, is32 xs)) (r1 := none) q_Hold_new kc_Hold_new rfl (by decide) q_Box_new am_k4 ⟨rfl, rfl⟩ rfl rfl (Nat.le_of_ble_eq_true rfl) (Nat.le_of_ble_eq_true rfl) rfl (go_mono (by omega) (ini_9 (d := 0))) ?_
  show am_Go l D DA b sz _ M_Hold_new (93, [some (.ref 2), some (.int 4)], [.ref 23, .int 4, .ref 4], (iT23 L, ir43, is32 xs)) _ _
  refine go_steps (st' := (94, [some (.ref 2), some (.int 4)], [], (iT23 L, ir44, is32 xs))) q_Hold_new kc_Hold_new 1 rfl ?_
  refine go_steps (st' := (81, [some (.ref 2), some (.int 5)], [], (iT23 L, ir44, is32 xs))) q_Hold_new kc_Hold_new 5 rfl ?_
  refine go_steps (st' := (89, [some (.ref 2), some (.int 5)], [.ref 24, .int 5, .ref 4], (iT24 L, ir45, is33 xs))) q_Hold_new kc_Hold_new 4 rfl ?_
  refine go_steps (st' := (90, [some (.ref 2), some (.int 5)], [.ref 24, .ref 24, .int 5, .ref 4], (iT24 L, ir45, is33 xs))) q_Hold_new kc_Hold_new 1 rfl ?_
  refine go_callI (X1 := (iT24 L, ir45, is33 xs)) (r1 := none) q_Hold_new kc_Hold_new rfl (by decide) q_Box_new am_k4 ⟨rfl, rfl⟩ rfl rfl (Nat.le_of_ble_eq_true rfl) (Nat.le_of_ble_eq_true rfl) rfl (go_mono (by omega) (ini_10 (d := 0))) ?_
  show am_Go l D DA b sz _ M_Hold_new (93, [some (.ref 2), some (.int 5)], [.ref 24, .int 5, .ref 4], (iT24 L, ir45, is33 xs)) _ _
  refine go_steps (st' := (94, [some (.ref 2), some (.int 5)], [], (iT24 L, ir46, is33 xs))) q_Hold_new kc_Hold_new 1 rfl ?_
  refine go_steps (st' := (81, [some (.ref 2), some (.int 6)], [], (iT24 L, ir46, is33 xs))) q_Hold_new kc_Hold_new 5 rfl ?_
  refine go_steps (st' := (89, [some (.ref 2), some (.int 6)], [.ref 25, .int 6, .ref 4], (iT25 L, ir47, is34 xs))) q_Hold_new kc_Hold_new 4 rfl ?_
  refine go_steps (st' := (90, [some (.ref 2), some (.int 6)], [.ref 25, .ref 25, .int 6, .ref 4], (iT25 L, ir47, is34 xs))) q_Hold_new kc_Hold_new 1 rfl ?_
  refine go_callI (X1 := (iT25 L, ir47, is34 xs)) (r1 := none) q_Hold_new kc_Hold_new rfl (by decide) q_Box_new am_k4 ⟨rfl, rfl⟩ rfl rfl (Nat.le_of_ble_eq_true rfl) (Nat.le_of_ble_eq_true rfl) rfl (go_mono (by omega) (ini_11 (d := 0))) ?_
  show am_Go l D DA b sz _ M_Hold_new (93, [some (.ref 2), some (.int 6)], [.ref 25, .int 6, .ref 4], (iT25 L, ir47, is34 xs)) _ _
  refine go_steps (st' := (94, [some (.ref 2), some (.int 6)], [], (iT25 L, ir48, is34 xs))) q_Hold_new kc_Hold_new 1 rfl ?_
  refine go_steps (st' := (81, [some (.ref 2), some (.int 7)], [], (iT25 L, ir48, is34 xs))) q_Hold_new kc_Hold_new 5 rfl ?_
  refine go_steps (st' := (89, [some (.ref 2), some (.int 7)], [.ref 26, .int 7, .ref 4], (iT26 L, ir49, is35 xs))) q_Hold_new kc_Hold_new 4 rfl ?_
  refine go_steps (st' := (90, [some (.ref 2), some (.int 7)], [.ref 26, .ref 26, .int 7, .ref 4], (iT26 L, ir49, is35 xs))) q_Hold_new kc_Hold_new 1 rfl ?_
  refine go_callI (X1 := (iT26 L, ir49, is35 xs)) (r1 := none) q_Hold_new kc_Hold_new rfl (by decide) q_Box_new am_k4 ⟨rfl, rfl⟩ rfl rfl (Nat.le_of_ble_eq_true rfl) (Nat.le_of_ble_eq_true rfl) rfl (go_mono (by omega) (ini_12 (d := 0))) ?_
  show am_Go l D DA b sz _ M_Hold_new (93, [some (.ref 2), some (.int 7)], [.ref 26, .int 7, .ref 4], (iT26 L, ir49, is35 xs)) _ _
  refine go_steps (st' := (94, [some (.ref 2), some (.int 7)], [], (iT26 L, ir50, is35 xs))) q_Hold_new kc_Hold_new 1 rfl ?_
  refine go_steps (st' := (81, [some (.ref 2), some (.int 8)], [], (iT26 L, ir50, is35 xs))) q_Hold_new kc_Hold_new 5 rfl ?_
  refine go_steps (st' := (89, [some (.ref 2), some (.int 8)], [.ref 27, .int 8, .ref 4], (iT27 L, ir51, is36 xs))) q_Hold_new kc_Hold_new 4 rfl ?_
  refine go_steps (st' := (90, [some (.ref 2), some (.int 8)], [.ref 27, .ref 27, .int 8, .ref 4], (iT27 L, ir51, is36 xs))) q_Hold_new kc_Hold_new 1 rfl ?_
  refine go_callI (X1 := (iT27 L, ir51, is36 xs)) (r1 := none) q_Hold_new kc_Hold_new rfl (by decide) q_Box_new am_k4 ⟨rfl, rfl⟩ rfl rfl (Nat.le_of_ble_eq_true rfl) (Nat.le_of_ble_eq_true rfl) rfl (go_mono (by omega) (ini_13 (d := 0))) ?_
  show am_Go l D DA b sz _ M_Hold_new (93, [some (.ref 2), some (.int 8)], [.ref 27, .int 8, .ref 4], (iT27 L, ir51, is36 xs)) _ _
  refine go_steps (st' := (94, [some (.ref 2), some (.int 8)], [], (iT27 L, ir52, is36 xs))) q_Hold_new kc_Hold_new 1 rfl ?_
  refine go_steps (st' := (81, [some (.ref 2), some (.int 9)], [], (iT27 L, ir52, is36 xs))) q_Hold_new kc_Hold_new 5 rfl ?_
  refine go_steps (st' := (89, [some (.ref 2), some (.int 9)], [.ref 28, .int 9, .ref 4], (iT28 L, ir53, is37 xs))) q_Hold_new kc_Hold_new 4 rfl ?_
  refine go_steps (st' := (90, [some (.ref 2), some (.int 9)], [.ref 28, .ref 28, .int 9, .ref 4], (iT28 L, ir53, is37 xs))) q_Hold_new kc_Hold_new 1 rfl ?_
  refine go_callI (X1 := (iT28 L, ir53, is37 xs)) (r1 := none) q_Hold_new kc_Hold_new rfl (by decide) q_Box_new am_k4 ⟨rfl, rfl⟩ rfl rfl (Nat.le_of_ble_eq_true rfl) (Nat.le_of_ble_eq_true rfl) rfl (go_mono (by omega) (ini_14 (d := 0))) ?_
  show am_Go l D DA b sz _ M_Hold_new (93, [some (.ref 2), some (.int 9)], [.ref 28, .int 9, .ref 4], (iT28 L, ir53, is37 xs)) _ _
  refine go_steps (st' := (94, [some (.ref 2), some (.int 9)], [], (iT28 L, ir54, is37 xs))) q_Hold_new kc_Hold_new 1 rfl ?_
  refine go_steps (st' := (81, [some (.ref 2), some (.int 10)], [], (iT28 L, ir54, is37 xs))) q_Hold_new kc_Hold_new 5 rfl ?_
  refine go_steps (st' := (89, [some (.ref 2), some (.int 10)], [.ref 29, .int 10, .ref 4], (iT29 L, ir55, is38 xs))) q_Hold_new kc_Hold_new 4 rfl ?_
  refine go_steps (st' := (90, [some (.ref 2), some (.int 10)], [.ref 29, .ref 29, .int 10, .ref 4], (iT29 L, ir55, is38 xs))) q_Hold_new kc_Hold_new 1 rfl ?_
  refine go_callI (X1 := (iT29 L, ir55, is38 xs)) (r1 := none) q_Hold_new kc_Hold_new rfl (by decide) q_Box_new am_k4 ⟨rfl, rfl⟩ rfl rfl (Nat.le_of_ble_eq_true rfl) (Nat.le_of_ble_eq_true rfl) rfl (go_mono (by omega) (ini_15 (d := 0))) ?_
  show am_Go l D DA b sz _ M_Hold_new (93, [some (.ref 2), some (.int 10)], [.ref 29, .int 10, .ref 4], (iT29 L, ir55, is38 xs)) _ _
  refine go_steps (st' := (94, [some (.ref 2), some (.int 10)], [], (iT29 L, ir56, is38 xs))) q_Hold_new kc_Hold_new 1 rfl ?_
  refine go_steps (st' := (81, [some (.ref 2), some (.int 11)], [], (iT29 L, ir56, is38 xs))) q_Hold_new kc_Hold_new 5 rfl ?_
  refine go_steps (st' := (89, [some (.ref 2), some (.int 11)], [.ref 30, .int 11, .ref 4], (iT30 L, ir57, is39 xs))) q_Hold_new kc_Hold_new 4 rfl ?_
  refine go_steps (st' := (90, [some (.ref 2), some (.int 11)], [.ref 30, .ref 30, .int 11, .ref 4], (iT30 L, ir57, is39 xs))) q_Hold_new kc_Hold_new 1 rfl ?_
  refine go_callI (X1 := (iT30 L, ir57, is39 xs)) (r1 := none) q_Hold_new kc_Hold_new rfl (by decide) q_Box_new am_k4 ⟨rfl, rfl⟩ rfl rfl (Nat.le_of_ble_eq_true rfl) (Nat.le_of_ble_eq_true rfl) rfl (go_mono (by omega) (ini_16 (d := 0))) ?_
  show am_Go l D DA b sz _ M_Hold_new (93, [some (.ref 2), some (.int 11)], [.ref 30, .int 11, .ref 4], (iT30 L, ir57, is39 xs)) _ _
  refine go_steps (st' := (94, [some (.ref 2), some (.int 11)], [], (iT30 L, ir58, is39 xs))) q_Hold_new kc_Hold_new 1 rfl ?_
  refine go_steps (st' := (81, [some (.ref 2), some (.int 12)], [], (iT30 L, ir58, is39 xs))) q_Hold_new kc_Hold_new 5 rfl ?_
  refine go_steps (st' := (89, [some (.ref 2), some (.int 12)], [.ref 31, .int 12, .ref 4], (iT31 L, ir59, is40 xs))) q_Hold_new kc_Hold_new 4 rfl ?_
  refine go_steps (st' := (90, [some (.ref 2), some (.int 12)], [.ref 31, .ref 31, .int 12, .ref 4], (iT31 L, ir59, is40 xs))) q_Hold_new kc_Hold_new 1 rfl ?_
  refine go_callI (X1 := (iT31 L, ir59, is40 xs)) (r1 := none) q_Hold_new kc_Hold_new rfl (by decide) q_Box_new am_k4 ⟨rfl, rfl⟩ rfl rfl (Nat.le_of_ble_eq_true rfl) (Nat.le_of_ble_eq_true rfl) rfl (go_mono (by omega) (ini_17 (d := 0))) ?_
  show am_Go l D DA b sz _ M_Hold_new (93, [some (.ref 2), some (.int 12)], [.ref 31, .int 12, .ref 4], (iT31 L, ir59, is40 xs)) _ _
  refine go_steps (st' := (94, [some (.ref 2), some (.int 12)], [], (iT31 L, ir60, is40 xs))) q_Hold_new kc_Hold_new 1 rfl ?_
  refine go_steps (st' := (81, [some (.ref 2), some (.int 13)], [], (iT31 L, ir60, is40 xs))) q_Hold_new kc_Hold_new 5 rfl ?_
  refine go_steps (st' := (89, [some (.ref 2), some (.int 13)], [.ref 32, .int 13, .ref 4], (iT32 L, ir61, is41 xs))) q_Hold_new kc_Hold_new 4 rfl ?_
  refine go_steps (st' := (90, [some (.ref 2), some (.int 13)], [.ref 32, .ref 32, .int 13, .ref 4], (iT32 L, ir61, is41 xs))) q_Hold_new kc_Hold_new 1 rfl ?_
  refine go_callI (X1 := (iT32 L, ir61, is41 xs)) (r1 := none) q_Hold_new kc_Hold_new rfl (by decide) q_Box_new am_k4 ⟨rfl, rfl⟩ rfl rfl (Nat.le_of_ble_eq_true rfl) (Nat.le_of_ble_eq_true rfl) rfl (go_mono (by omega) (ini_18 (d := 0))) ?_
  show am_Go l D DA b sz _ M_Hold_new (93, [some (.ref 2), some (.int 13)], [.ref 32, .int 13, .ref 4], (iT32 L, ir61, is41 xs)) _ _
  refine go_steps (st' := (94, [some (.ref 2), some (.int 13)], [], (iT32 L, ir62, is41 xs))) q_Hold_new kc_Hold_new 1 rfl ?_
  refine go_steps (st' := (81, [some (.ref 2), some (.int 14)], [], (iT32 L, ir62, is41 xs))) q_Hold_new kc_Hold_new 5 rfl ?_
  refine go_steps (st' := (89, [some (.ref 2), some (.int 14)], [.ref 33, .int 14, .ref 4], (iT33 L, ir63, is42 xs))) q_Hold_new kc_Hold_new 4 rfl ?_
  refine go_steps (st' := (90, [some (.ref 2), some (.int 14)], [.ref 33, .ref 33, .int 14, .ref 4], (iT33 L, ir63, is42 xs))) q_Hold_new kc_Hold_new 1 rfl ?_
  refine go_callI (X1 := (iT33 L, ir63, is42 xs)) (r1 := none) q_Hold_new kc_Hold_new rfl (by decide) q_Box_new am_k4 ⟨rfl, rfl⟩ rfl rfl (Nat.le_of_ble_eq_true rfl) (Nat.le_of_ble_eq_true rfl) rfl (go_mono (by omega) (ini_19 (d := 0))) ?_
  show am_Go l D DA b sz _ M_Hold_new (93, [some (.ref 2), some (.int 14)], [.ref 33, .int 14, .ref 4], (iT33 L, ir63, is42 xs)) _ _
  refine go_steps (st' := (94, [some (.ref 2), some (.int 14)], [], (iT33 L, ir64, is42 xs))) q_Hold_new kc_Hold_new 1 rfl ?_
  refine go_steps (st' := (81, [some (.ref 2), some (.int 15)], [], (iT33 L, ir64, is42 xs))) q_Hold_new kc_Hold_new 5 rfl ?_
  refine go_steps (st' := (89, [some (.ref 2), some (.int 15)], [.ref 34, .int 15, .ref 4], (iT34 L, ir65, is43 xs))) q_Hold_new kc_Hold_new 4 rfl ?_
  refine go_steps (st' := (90, [some (.ref 2), some (.int 15)], [.ref 34, .ref 34, .int 15, .ref 4], (iT34 L, ir65, is43 xs))) q_Hold_new kc_Hold_new 1 rfl ?_
  refine go_callI (X1 := (iT34 L, ir65, is43 xs)) (r1 := none) q_Hold_new kc_Hold_new rfl (by decide) q_Box_new am_k4 ⟨rfl, rfl⟩ rfl rfl (Nat.le_of_ble_eq_true rfl) (Nat.le_of_ble_eq_true rfl) rfl (go_mono (by omega) (ini_20 (d := 0))) ?_
  show am_Go l D DA b sz _ M_Hold_new (93, [some (.ref 2), some (.int 15)], [.ref 34, .int 15, .ref 4], (iT34 L, ir65, is43 xs)) _ _
  refine go_steps (st' := (94, [some (.ref 2), some (.int 15)], [], (iT34 L, ir66, is43 xs))) q_Hold_new kc_Hold_new 1 rfl ?_
  refine go_steps (st' := (81, [some (.ref 2), some (.int 16)], [], (iT34 L, ir66, is43 xs))) q_Hold_new kc_Hold_new 5 rfl ?_
  refine go_steps (st' := (89, [some (.ref 2), some (.int 16)], [.ref 35, .int 16, .ref 4], (iT35 L, ir67, is44 xs))) q_Hold_new kc_Hold_new 4 rfl ?_
  refine go_steps (st' := (90, [some (.ref 2), some (.int 16)], [.ref 35, .ref 35, .int 16, .ref 4], (iT35 L, ir67, is44 xs))) q_Hold_new kc_Hold_new 1 rfl ?_
  refine go_callI (X1 := (iT35 L, ir67, is44 xs)) (r1 := none) q_Hold_new kc_Hold_new rfl (by decide) q_Box_new am_k4 ⟨rfl, rfl⟩ rfl rfl (Nat.le_of_ble_eq_true rfl) (Nat.le_of_ble_eq_true rfl) rfl (go_mono (by omega) (ini_21 (d := 0))) ?_
  show am_Go l D DA b sz _ M_Hold_new (93, [some (.ref 2), some (.int 16)], [.ref 35, .int 16, .ref 4], (iT35 L, ir67, is44 xs)) _ _
  refine go_steps (st' := (94, [some (.ref 2), some (.int 16)], [], (iT35 L, ir68, is44 xs))) q_Hold_new kc_Hold_new 1 rfl ?_
  refine go_steps (st' := (81, [some (.ref 2), some (.int 17)], [], (iT35 L, ir68, is44 xs))) q_Hold_new kc_Hold_new 5 rfl ?_
  refine go_steps (st' := (89, [some (.ref 2), some (.int 17)], [.ref 36, .int 17, .ref 4], (iT36 L, ir69, is45 xs))) q_Hold_new kc_Hold_new 4 rfl ?_
  refine go_steps (st' := (90, [some (.ref 2), some (.int 17)], [.ref 36, .ref 36, .int 17, .ref 4], (iT36 L, ir69, is45 xs))) q_Hold_new kc_Hold_new 1 rfl ?_
  refine go_callI (X1 := (iT36 L, ir69, is45 xs)) (r1 := none) q_Hold_new kc_Hold_new rfl (by decide) q_Box_new am_k4 ⟨rfl, rfl⟩ rfl rfl (Nat.le_of_ble_eq_true rfl) (Nat.le_of_ble_eq_true rfl) rfl (go_mono (by omega) (ini_22 (d := 0))) ?_
  show am_Go l D DA b sz _ M_Hold_new (93, [some (.ref 2), some (.int 17)], [.ref 36, .int 17, .ref 4], (iT36 L, ir69, is45 xs)) _ _
  refine go_steps (st' := (94, [some (.ref 2), some (.int 17)], [], (iT36 L, ir70, is45 xs))) q_Hold_new kc_Hold_new 1 rfl ?_
  refine go_steps (st' := (81, [some (.ref 2), some (.int 18)], [], (iT36 L, ir70, is45 xs))) q_Hold_new kc_Hold_new 5 rfl ?_
  refine go_steps (st' := (89, [some (.ref 2), some (.int 18)], [.ref 37, .int 18, .ref 4], (iT37 L, ir71, is46 xs))) q_Hold_new kc_Hold_new 4 rfl ?_
  refine go_steps (st' := (90, [some (.ref 2), some (.int 18)], [.ref 37, .ref 37, .int 18, .ref 4], (iT37 L, ir71, is46 xs))) q_Hold_new kc_Hold_new 1 rfl ?_
  refine go_callI (X1 := (iT37 L, ir71, is46 xs)) (r1 := none) q_Hold_new kc_Hold_new rfl (by decide) q_Box_new am_k4 ⟨rfl, rfl⟩ rfl rfl (Nat.le_of_ble_eq_true rfl) (Nat.le_of_ble_eq_true rfl) rfl (go_mono (by omega) (ini_23 (d := 0))) ?_
  show am_Go l D DA b sz _ M_Hold_new (93, [some (.ref 2), some (.int 18)], [.ref 37, .int 18, .ref 4], (iT37 L, ir71, is46 xs)) _ _
  refine go_steps (st' := (94, [some (.ref 2), some (.int 18)], [], (iT37 L, ir72, is46 xs))) q_Hold_new kc_Hold_new 1 rfl ?_
  refine go_steps (st' := (81, [some (.ref 2), some (.int 19)], [], (iT37 L, ir72, is46 xs))) q_Hold_new kc_Hold_new 5 rfl ?_
  refine go_steps (st' := (89, [some (.ref 2), some (.int 19)], [.ref 38, .int 19, .ref 4], (iT38 L, ir73, is47 xs))) q_Hold_new kc_Hold_new 4 rfl ?_
  refine go_steps (st' := (90, [some (.ref 2), some (.int 19)], [.ref 38, .ref 38, .int 19, .ref 4], (iT38 L, ir73, is47 xs))) q_Hold_new kc_Hold_new 1 rfl ?_
  refine go_callI (X1 := (iT38 L, ir73, is47 xs)) (r1 := none) q_Hold_new kc_Hold_new rfl (by decide) q_Box_new am_k4 ⟨rfl, rfl⟩ rfl rfl (Nat.le_of_ble_eq_true rfl) (Nat.le_of_ble_eq_true rfl) rfl (go_mono (by omega) (ini_24 (d := 0))) ?_
  show am_Go l D DA b sz _ M_Hold_new (93, [some (.ref 2), some (.int 19)], [.ref 38, .int 19, .ref 4], (iT38 L, ir73, is47 xs)) _ _
  refine go_steps (st' := (94, [some (.ref 2), some (.int 19)], [], (iT38 L, ir74, is47 xs))) q_Hold_new kc_Hold_new 1 rfl ?_
  refine go_steps (st' := (100, [some (.ref 2), some (.int 20)], [], (iT38 L, ir74, is47 xs))) q_Hold_new kc_Hold_new 5 rfl ?_
  exact go_retV q_Hold_new kc_Hold_new rfl rfl
set_option maxRecDepth 100000 in
theorem ini_26 {l : Launch} {D : va_G} {DA : Nat → ClassId} {b sz d L : Nat} {xs : Nat → Int32} : am_Go l D DA b sz (d + 0) M_Orders_new (0, [some (.ref 39)], [], (iT39 L, ir76, is48 xs)) none (iT41 L, ir80, is50 xs) := by
  refine go_steps (st' := (8, [some (.ref 39)], [.ref 40, .ref 39], (iT40 L, ir77, is49 xs))) q_Orders_new kc_Orders_new 5 rfl ?_
  refine go_steps (st' := (11, [some (.ref 39)], [], (iT40 L, ir78, is49 xs))) q_Orders_new kc_Orders_new 1 rfl ?_
  refine go_steps (st' := (15, [some (.ref 39)], [.ref 41, .ref 39], (iT41 L, ir79, is50 xs))) q_Orders_new kc_Orders_new 3 rfl ?_
  refine go_steps (st' := (18, [some (.ref 39)], [], (iT41 L, ir80, is50 xs))) q_Orders_new kc_Orders_new 1 rfl ?_
  exact go_retV q_Orders_new kc_Orders_new rfl rfl
set_option maxRecDepth 100000 in
theorem ini_27 {l : Launch} {D : va_G} {DA : Nat → ClassId} {b sz d L : Nat} {xs : Nat → Int32} : am_Go l D DA b sz (d + 0) M_Balance_new (0, [some (.ref 42)], [], (iT42 L, ir82, is51 xs)) none (iT42 L, ir82, is51 xs) := by
  refine go_steps (st' := (4, [some (.ref 42)], [], (iT42 L, ir82, is51 xs))) q_Balance_new kc_Balance_new 2 rfl ?_
  exact go_retV q_Balance_new kc_Balance_new rfl rfl
set_option maxRecDepth 100000 in
theorem ini_28 {l : Launch} {D : va_G} {DA : Nat → ClassId} {b sz d L : Nat} {xs : Nat → Int32} : am_Go l D DA b sz (d + 0) M_Bounds_new (0, [some (.ref 43)], [], (iT43 L, ir84, is52 xs)) none (iT46 L, ir90, is55 xs) := by
  refine go_steps (st' := (9, [some (.ref 43)], [.ref 44, .ref 43], (iT44 L, ir85, is53 xs))) q_Bounds_new kc_Bounds_new 5 rfl ?_
  refine go_steps (st' := (12, [some (.ref 43)], [], (iT44 L, ir86, is53 xs))) q_Bounds_new kc_Bounds_new 1 rfl ?_
  refine go_steps (st' := (17, [some (.ref 43)], [.ref 45, .ref 43], (iT45 L, ir87, is54 xs))) q_Bounds_new kc_Bounds_new 3 rfl ?_
  refine go_steps (st' := (20, [some (.ref 43)], [], (iT45 L, ir88, is54 xs))) q_Bounds_new kc_Bounds_new 1 rfl ?_
  refine go_steps (st' := (25, [some (.ref 43)], [.ref 46, .ref 43], (iT46 L, ir89, is55 xs))) q_Bounds_new kc_Bounds_new 3 rfl ?_
  refine go_steps (st' := (28, [some (.ref 43)], [], (iT46 L, ir90, is55 xs))) q_Bounds_new kc_Bounds_new 1 rfl ?_
  exact go_retV q_Bounds_new kc_Bounds_new rfl rfl
set_option maxRecDepth 100000 in
theorem ini_29 {l : Launch} {D : va_G} {DA : Nat → ClassId} {b sz d L : Nat} {xs : Nat → Int32} : am_Go l D DA b sz (d + 2) M_B_new (0, [some (.ref 1)], [], (iT1 L, ir1, is1 xs)) none (iT46 L, ir92, is55 xs) := by
  refine go_steps (st' := (8, [some (.ref 1)], [.ref 2, .ref 1], (iT2 L, ir2, is2 xs))) q_B_new kc_B_new 4 rfl ?_
  refine go_steps (st' := (9, [some (.ref 1)], [.ref 2, .ref 2, .ref 1], (iT2 L, ir2, is2 xs))) q_B_new kc_B_new 1 rfl ?_
  refine go_callI (X1 := (iT38 L, ir74, is47 xs)) (r1 := none) q_B_new kc_B_new rfl (by decide) q_Hold_new am_k1 ⟨rfl, rfl⟩ rfl rfl (Nat.le_of_ble_eq_true rfl) (Nat.le_of_ble_eq_true rfl) rfl (go_mono (by omega) (ini_25 (d := 0))) ?_
  show am_Go l D DA b sz _ M_B_new (12, [some (.ref 1)], [.ref 2, .ref 1], (iT38 L, ir74, is47 xs)) _ _
  refine go_steps (st' := (15, [some (.ref 1)], [], (iT38 L, ir75, is47 xs))) q_B_new kc_B_new 1 rfl ?_
  refine go_steps (st' := (19, [some (.ref 1)], [.ref 39, .ref 1], (iT39 L, ir76, is48 xs))) q_B_new kc_B_new 2 rfl ?_
  refine go_steps (st' := (20, [some (.ref 1)], [.ref 39, .ref 39, .ref 1], (iT39 L, ir76, is48 xs))) q_B_new kc_B_new 1 rfl ?_
  refine go_callI (X1 := (iT41 L, ir80, is50 xs)) (r1 := none) q_B_new kc_B_new rfl (by decide) q_Orders_new am_k5 ⟨rfl, rfl⟩ rfl rfl (Nat.le_of_ble_eq_true rfl) (Nat.le_of_ble_eq_true rfl) rfl (go_mono (by omega) (ini_26 (d := 0))) ?_
  show am_Go l D DA b sz _ M_B_new (23, [some (.ref 1)], [.ref 39, .ref 1], (iT41 L, ir80, is50 xs)) _ _
  refine go_steps (st' := (26, [some (.ref 1)], [], (iT41 L, ir81, is50 xs))) q_B_new kc_B_new 1 rfl ?_
  refine go_steps (st' := (30, [some (.ref 1)], [.ref 42, .ref 1], (iT42 L, ir82, is51 xs))) q_B_new kc_B_new 2 rfl ?_
  refine go_steps (st' := (31, [some (.ref 1)], [.ref 42, .ref 42, .ref 1], (iT42 L, ir82, is51 xs))) q_B_new kc_B_new 1 rfl ?_
  refine go_callI (X1 := (iT42 L, ir82, is51 xs)) (r1 := none) q_B_new kc_B_new rfl (by decide) q_Balance_new am_k6 ⟨rfl, rfl⟩ rfl rfl (Nat.le_of_ble_eq_true rfl) (Nat.le_of_ble_eq_true rfl) rfl (go_mono (by omega) (ini_27 (d := 0))) ?_
  show am_Go l D DA b sz _ M_B_new (34, [some (.ref 1)], [.ref 42, .ref 1], (iT42 L, ir82, is51 xs)) _ _
  refine go_steps (st' := (37, [some (.ref 1)], [], (iT42 L, ir83, is51 xs))) q_B_new kc_B_new 1 rfl ?_
  refine go_steps (st' := (41, [some (.ref 1)], [.ref 43, .ref 1], (iT43 L, ir84, is52 xs))) q_B_new kc_B_new 2 rfl ?_
  refine go_steps (st' := (42, [some (.ref 1)], [.ref 43, .ref 43, .ref 1], (iT43 L, ir84, is52 xs))) q_B_new kc_B_new 1 rfl ?_
  refine go_callI (X1 := (iT46 L, ir90, is55 xs)) (r1 := none) q_B_new kc_B_new rfl (by decide) q_Bounds_new am_k7 ⟨rfl, rfl⟩ rfl rfl (Nat.le_of_ble_eq_true rfl) (Nat.le_of_ble_eq_true rfl) rfl (go_mono (by omega) (ini_28 (d := 0))) ?_
  show am_Go l D DA b sz _ M_B_new (45, [some (.ref 1)], [.ref 43, .ref 1], (iT46 L, ir90, is55 xs)) _ _
  refine go_steps (st' := (48, [some (.ref 1)], [], (iT46 L, ir91, is55 xs))) q_B_new kc_B_new 1 rfl ?_
  refine go_steps (st' := (53, [some (.ref 1)], [], (iT46 L, ir92, is55 xs))) q_B_new kc_B_new 3 rfl ?_
  exact go_retV q_B_new kc_B_new rfl rfl
set_option maxRecDepth 100000 in
theorem ini_30 {l : Launch} {D : va_G} {DA : Nat → ClassId} {b sz d L : Nat} {xs : Nat → Int32} : am_Go l D DA b sz (d + 0) M_R_new (0, [some (.ref 47)], [], (iT47 L, ir93, is56 xs)) none (iT68 L, ir135, is90 xs) := by
  refine go_steps (st' := (9, [some (.ref 47)], [.ref 48, .ref 47], (iT48 L, ir94, is57 xs))) q_R_new kc_R_new 5 rfl ?_
  refine go_steps (st' := (12, [some (.ref 47)], [], (iT48 L, ir95, is57 xs))) q_R_new kc_R_new 1 rfl ?_
  refine go_steps (st' := (17, [some (.ref 47)], [.ref 49, .ref 47], (iT49 L, ir96, is58 xs))) q_R_new kc_R_new 3 rfl ?_
  refine go_steps (st' := (20, [some (.ref 47)], [], (iT49 L, ir97, is58 xs))) q_R_new kc_R_new 1 rfl ?_
  refine go_steps (st' := (25, [some (.ref 47)], [.ref 50, .ref 47], (iT50 L, ir98, is59 xs))) q_R_new kc_R_new 3 rfl ?_
  refine go_steps (st' := (28, [some (.ref 47)], [], (iT50 L, ir99, is59 xs))) q_R_new kc_R_new 1 rfl ?_
  refine go_steps (st' := (33, [some (.ref 47)], [.ref 51, .ref 47], (iT51 L, ir100, is60 xs))) q_R_new kc_R_new 3 rfl ?_
  refine go_steps (st' := (36, [some (.ref 47)], [], (iT51 L, ir101, is60 xs))) q_R_new kc_R_new 1 rfl ?_
  refine go_steps (st' := (41, [some (.ref 47)], [.ref 52, .ref 47], (iT52 L, ir102, is61 xs))) q_R_new kc_R_new 3 rfl ?_
  refine go_steps (st' := (44, [some (.ref 47)], [], (iT52 L, ir103, is61 xs))) q_R_new kc_R_new 1 rfl ?_
  refine go_steps (st' := (49, [some (.ref 47)], [.ref 53, .ref 47], (iT53 L, ir104, is62 xs))) q_R_new kc_R_new 3 rfl ?_
  refine go_steps (st' := (52, [some (.ref 47)], [], (iT53 L, ir105, is62 xs))) q_R_new kc_R_new 1 rfl ?_
  refine go_steps (st' := (57, [some (.ref 47)], [.ref 54, .ref 47], (iT54 L, ir106, is63 xs))) q_R_new kc_R_new 3 rfl ?_
  refine go_steps (st' := (60, [some (.ref 47)], [], (iT54 L, ir107, is63 xs))) q_R_new kc_R_new 1 rfl ?_
  refine go_steps (st' := (65, [some (.ref 47)], [.ref 55, .ref 47], (iT55 L, ir108, is64 xs))) q_R_new kc_R_new 3 rfl ?_
  refine go_steps (st' := (68, [some (.ref 47)], [], (iT55 L, ir109, is64 xs))) q_R_new kc_R_new 1 rfl ?_
  refine go_steps (st' := (73, [some (.ref 47)], [.ref 56, .ref 47], (iT56 L, ir110, is65 xs))) q_R_new kc_R_new 3 rfl ?_
  refine go_steps (st' := (76, [some (.ref 47)], [], (iT56 L, ir111, is65 xs))) q_R_new kc_R_new 1 rfl ?_
  refine go_steps (st' := (81, [some (.ref 47)], [.ref 57, .ref 47], (iT57 L, ir112, is66 xs))) q_R_new kc_R_new 3 rfl ?_
  refine go_steps (st' := (84, [some (.ref 47)], [], (iT57 L, ir113, is66 xs))) q_R_new kc_R_new 1 rfl ?_
  refine go_steps (st' := (89, [some (.ref 47)], [.ref 58, .ref 47], (iT58 L, ir114, is67 xs))) q_R_new kc_R_new 3 rfl ?_
  refine go_steps (st' := (92, [some (.ref 47)], [], (iT58 L, ir115, is67 xs))) q_R_new kc_R_new 1 rfl ?_
  refine go_steps (st' := (97, [some (.ref 47)], [.ref 59, .ref 47], (iT59 L, ir116, is68 xs))) q_R_new kc_R_new 3 rfl ?_
  refine go_steps (st' := (100, [some (.ref 47)], [], (iT59 L, ir117, is68 xs))) q_R_new kc_R_new 1 rfl ?_
  refine go_steps (st' := (105, [some (.ref 47)], [.ref 60, .ref 47], (iT60 L, ir118, is69 xs))) q_R_new kc_R_new 3 rfl ?_
  refine go_steps (st' := (108, [some (.ref 47)], [], (iT60 L, ir119, is69 xs))) q_R_new kc_R_new 1 rfl ?_
  refine go_steps (st' := (114, [some (.ref 47)], [], (iT60 L, ir119, is70 xs))) q_R_new kc_R_new 3 rfl ?_
  refine go_steps (st' := (119, [some (.ref 47)], [], (iT60 L, ir119, is71 xs))) q_R_new kc_R_new 3 rfl ?_
  refine go_steps (st' := (124, [some (.ref 47)], [], (iT60 L, ir119, is72 xs))) q_R_new kc_R_new 3 rfl ?_
  refine go_steps (st' := (130, [some (.ref 47)], [], (iT60 L, ir119, is73 xs))) q_R_new kc_R_new 3 rfl ?_
  refine go_steps (st' := (135, [some (.ref 47)], [], (iT60 L, ir119, is74 xs))) q_R_new kc_R_new 3 rfl ?_
  refine go_steps (st' := (141, [some (.ref 47)], [], (iT60 L, ir119, is75 xs))) q_R_new kc_R_new 3 rfl ?_
  refine go_steps (st' := (147, [some (.ref 47)], [], (iT60 L, ir119, is76 xs))) q_R_new kc_R_new 3 rfl ?_
  refine go_steps (st' := (153, [some (.ref 47)], [], (iT60 L, ir119, is77 xs))) q_R_new kc_R_new 3 rfl ?_
  refine go_steps (st' := (159, [some (.ref 47)], [], (iT60 L, ir119, is78 xs))) q_R_new kc_R_new 3 rfl ?_
  refine go_steps (st' := (164, [some (.ref 47)], [.ref 61, .ref 47], (iT61 L, ir120, is79 xs))) q_R_new kc_R_new 3 rfl ?_
  refine go_steps (st' := (167, [some (.ref 47)], [], (iT61 L, ir121, is79 xs))) q_R_new kc_R_new 1 rfl ?_
  refine go_steps (st' := (173, [some (.ref 47)], [.ref 62, .ref 47], (iT62 L, ir122, is80 xs))) q_R_new kc_R_new 3 rfl ?_
  refine go_steps (st' := (176, [some (.ref 47)], [], (iT62 L, ir123, is80 xs))) q_R_new kc_R_new 1 rfl ?_
  refine go_steps (st' := (181, [some (.ref 47)], [], (iT62 L, ir123, is81 xs))) q_R_new kc_R_new 3 rfl ?_
  refine go_steps (st' := (187, [some (.ref 47)], [.ref 63, .ref 47], (iT63 L, ir124, is82 xs))) q_R_new kc_R_new 3 rfl ?_
  refine go_steps (st' := (190, [some (.ref 47)], [], (iT63 L, ir125, is82 xs))) q_R_new kc_R_new 1 rfl ?_
  refine go_steps (st' := (196, [some (.ref 47)], [.ref 64, .ref 47], (iT64 L, ir126, is83 xs))) q_R_new kc_R_new 3 rfl ?_
  refine go_steps (st' := (199, [some (.ref 47)], [], (iT64 L, ir127, is83 xs))) q_R_new kc_R_new 1 rfl ?_
  refine go_steps (st' := (205, [some (.ref 47)], [.ref 65, .ref 47], (iT65 L, ir128, is84 xs))) q_R_new kc_R_new 3 rfl ?_
  refine go_steps (st' := (208, [some (.ref 47)], [], (iT65 L, ir129, is84 xs))) q_R_new kc_R_new 1 rfl ?_
  refine go_steps (st' := (214, [some (.ref 47)], [.ref 66, .ref 47], (iT66 L, ir130, is85 xs))) q_R_new kc_R_new 3 rfl ?_
  refine go_steps (st' := (217, [some (.ref 47)], [], (iT66 L, ir131, is85 xs))) q_R_new kc_R_new 1 rfl ?_
  refine go_steps (st' := (223, [some (.ref 47)], [.ref 67, .ref 47], (iT67 L, ir132, is86 xs))) q_R_new kc_R_new 3 rfl ?_
  refine go_steps (st' := (226, [some (.ref 47)], [], (iT67 L, ir133, is86 xs))) q_R_new kc_R_new 1 rfl ?_
  refine go_steps (st' := (231, [some (.ref 47)], [.ref 68, .ref 47], (iT68 L, ir134, is87 xs))) q_R_new kc_R_new 3 rfl ?_
  refine go_steps (st' := (234, [some (.ref 47)], [], (iT68 L, ir135, is87 xs))) q_R_new kc_R_new 1 rfl ?_
  refine go_steps (st' := (239, [some (.ref 47)], [], (iT68 L, ir135, is88 xs))) q_R_new kc_R_new 3 rfl ?_
  refine go_steps (st' := (244, [some (.ref 47)], [], (iT68 L, ir135, is89 xs))) q_R_new kc_R_new 3 rfl ?_
  refine go_steps (st' := (249, [some (.ref 47)], [], (iT68 L, ir135, is90 xs))) q_R_new kc_R_new 3 rfl ?_
  exact go_retV q_R_new kc_R_new rfl rfl
set_option maxRecDepth 100000 in
theorem am_init0 {l : Launch} {D : va_G} {DA : Nat → ClassId} {b sz d L : Nat} {xs : Nat → Int32} {r : Option Value} {X' : am_X}
    (G : am_Go l D DA b sz (d + 3) M_L_law (18, [some (.ref 0), some (.ref 1), some (.ref 47), some (.int 0)], [], (iT68 L, ir135, is90 xs)) r X') :
    am_Go l D DA b sz (d + 3) M_L_law (0, [some (.ref 0), none, none, none], [], am_X0 L xs) r X' := by
  show am_Go l D DA b sz (d + 2 + 1) M_L_law (0, [some (.ref 0), none, none, none], [], (iT0 L, ir0, is0 xs)) r X'
  refine go_steps (st' := (3, [some (.ref 0), none, none, none], [.ref 1], (iT1 L, ir1, is1 xs))) q_L_law kc_L_law 1 rfl ?_
  refine go_steps (st' := (4, [some (.ref 0), none, none, none], [.ref 1, .ref 1], (iT1 L, ir1, is1 xs))) q_L_law kc_L_law 1 rfl ?_
  refine go_callI (X1 := (iT46 L, ir92, is55 xs)) (r1 := none) q_L_law kc_L_law rfl (by decide) q_B_new am_k0 ⟨rfl, rfl⟩ rfl rfl (Nat.le_of_ble_eq_true rfl) (Nat.le_of_ble_eq_true rfl) rfl (go_mono (by omega) (ini_29 (d := 0))) ?_
  show am_Go l D DA b sz _ M_L_law (7, [some (.ref 0), none, none, none], [.ref 1], (iT46 L, ir92, is55 xs)) _ _
  refine go_steps (st' := (11, [some (.ref 0), some (.ref 1), none, none], [.ref 47], (iT47 L, ir93, is56 xs))) q_L_law kc_L_law 2 rfl ?_
  refine go_steps (st' := (12, [some (.ref 0), some (.ref 1), none, none], [.ref 47, .ref 47], (iT47 L, ir93, is56 xs))) q_L_law kc_L_law 1 rfl ?_
  refine go_callI (X1 := (iT68 L, ir135, is90 xs)) (r1 := none) q_L_law kc_L_law rfl (by decide) q_R_new am_k98 ⟨rfl, rfl⟩ rfl rfl (Nat.le_of_ble_eq_true rfl) (Nat.le_of_ble_eq_true rfl) rfl (go_mono (by omega) (ini_30 (d := 0))) ?_
  show am_Go l D DA b sz _ M_L_law (15, [some (.ref 0), some (.ref 1), none, none], [.ref 47], (iT68 L, ir135, is90 xs)) _ _
  refine go_steps (st' := (18, [some (.ref 0), some (.ref 1), some (.ref 47), some (.int 0)], [], (iT68 L, ir135, is90 xs))) q_L_law kc_L_law 3 rfl ?_
  exact G
