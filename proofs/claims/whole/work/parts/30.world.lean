/-! the cells of the class and of the reference, as the constructors lay them (written by tools/vc.py) -/
def am_TT (cu : Bool) (L : Nat) : am_T := [.inr (9, L), .inl 8, .inl 5, .inl 7, .inr (2, 20), .inr (0, 20), .inr (0, 20), .inl 4, .inr (0, 21), .inr (0, 21), .inr (0, 21), .inl 4, .inr (0, 21), .inr (0, 21), .inr (0, 21), .inl 4, .inr (0, 21), .inr (0, 21), .inr (0, 21), .inl 2, .inl 2, .inl 2, .inl 2, .inl 2, .inl 2, .inl 2, .inl 2, .inl 2, .inl 2, .inl 2, .inl 2, .inl 2, .inl 2, .inl 2, .inl 2, .inl 2, .inl 2, .inl 2, .inl 2, .inl 6, .inr (0, 5), .inr (0, 5), .inl 0, .inl 1, .inr (0, 20), .inr (0, 20), .inr (0, 20), .inl 9, .inr (0, 20), .inr (0, 20), .inr (0, 20), .inr (0, 20), .inr (0, 20), .inr (0, 20), .inr (1, 20), .inr (0, 20), .inr (1, 20), .inr (0, 20), .inr (0, 20), .inr (0, 20), .inr (1, 20), .inr (0, 20), .inr (0, 4913), .inr (0, 4096), .inr (0, 4096), .inr (0, 4096), .inr (0, 4096), .inr (1, 4096), .inr (0, 20)] ++ (if cu = true then [.inl 3, .inr (0, 4096), .inr (0, 4096)] else [])
def am_RR (cu : Bool) : Nat → Nat → Value := fun c k => match c with
  | 1 => (match k with | 0 => .ref 2 | 1 => .ref 39 | 2 => .ref 42 | 3 => .ref 43 | 4 => (if cu = true then .ref 69 else .null) | _ => .null)
  | 2 => (match k with | 0 => .ref 3 | 1 => .ref 4 | 4 => .ref 5 | 5 => .ref 6 | 6 => .ref 7 | 7 => .ref 11 | 8 => .ref 15 | _ => .null)
  | 7 => (match k with | 0 => .ref 8 | 1 => .ref 9 | 2 => .ref 10 | _ => .null)
  | 11 => (match k with | 0 => .ref 12 | 1 => .ref 13 | 2 => .ref 14 | _ => .null)
  | 15 => (match k with | 0 => .ref 16 | 1 => .ref 17 | 2 => .ref 18 | _ => .null)
  | 39 => (match k with | 0 => .ref 40 | 1 => .ref 41 | _ => .null)
  | 43 => (match k with | 4 => .ref 44 | 5 => .ref 45 | 6 => .ref 46 | _ => .null)
  | 47 => (match k with | 1 => .ref 48 | 2 => .ref 49 | 3 => .ref 50 | 4 => .ref 51 | 5 => .ref 52 | 6 => .ref 53 | 7 => .ref 54 | 8 => .ref 55 | 9 => .ref 56 | 10 => .ref 57 | 11 => .ref 58 | 12 => .ref 59 | 13 => .ref 60 | 23 => .ref 61 | 27 => .ref 62 | 29 => .ref 63 | 30 => .ref 64 | 31 => .ref 65 | 32 => .ref 66 | 33 => .ref 67 | 34 => .ref 68 | _ => .null)
  | 69 => if cu = true then (match k with | 0 => .ref 70 | 1 => .ref 71 | _ => .null) else .null
  | 4 => (if k < 20 then .ref (19 + k) else .null)
  | _ => .null
theorem am_tt_box {cu : Bool} {L n : Nat} (h : n < 20) : (am_TT cu L)[19 + n]? = some (.inl 2) := by
  have h9 : n = 0 ∨ n = 1 ∨ n = 2 ∨ n = 3 ∨ n = 4 ∨ n = 5 ∨ n = 6 ∨ n = 7 ∨ n = 8 ∨ n = 9 ∨ n = 10 ∨ n = 11 ∨ n = 12 ∨ n = 13 ∨ n = 14 ∨ n = 15 ∨ n = 16 ∨ n = 17 ∨ n = 18 ∨ n = 19 := by omega
  rcases h9 with rfl | rfl | rfl | rfl | rfl | rfl | rfl | rfl | rfl | rfl | rfl | rfl | rfl | rfl | rfl | rfl | rfl | rfl | rfl | rfl <;> rfl
theorem am_rr4 {cu : Bool} {n : Nat} (h : n < 20) : am_RR cu 4 n = .ref (19 + n) := if_pos h
