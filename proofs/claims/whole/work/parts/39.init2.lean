/-! the cells behind the constructors are am_TT false, am_RR false, am_σI (written by tools/mkinit3.py) -/
set_option maxRecDepth 100000 in
theorem ie_0 (xs : Nat → Int32) : is90 xs 0 = am_σI xs 0 := funext fun k => rfl
set_option maxRecDepth 100000 in
theorem ie_1 (xs : Nat → Int32) : ∀ k, k < 5 → am_val ir135 (is90 xs) 8 1 k = am_val (am_RR false) (am_σI xs) 8 1 k := fun k hk => match k, hk with | 0, _ => rfl | 1, _ => rfl | 2, _ => rfl | 3, _ => rfl | 4, _ => rfl | n + 5, h => absurd h (by omega)
set_option maxRecDepth 100000 in
theorem ie_2 (xs : Nat → Int32) : ∀ k, k < 13 → am_val ir135 (is90 xs) 5 2 k = am_val (am_RR false) (am_σI xs) 5 2 k := fun k hk => match k, hk with | 0, _ => rfl | 1, _ => rfl | 2, _ => rfl | 3, _ => rfl | 4, _ => rfl | 5, _ => rfl | 6, _ => rfl | 7, _ => rfl | 8, _ => rfl | 9, _ => rfl | 10, _ => rfl | 11, _ => rfl | 12, _ => rfl | n + 13, h => absurd h (by omega)
set_option maxRecDepth 100000 in
theorem ie_3 (xs : Nat → Int32) : ∀ k, k < 9 → am_val ir135 (is90 xs) 7 3 k = am_val (am_RR false) (am_σI xs) 7 3 k := fun k hk => match k, hk with | 0, _ => rfl | 1, _ => rfl | 2, _ => rfl | 3, _ => rfl | 4, _ => rfl | 5, _ => rfl | 6, _ => rfl | 7, _ => rfl | 8, _ => rfl | n + 9, h => absurd h (by omega)
set_option maxRecDepth 100000 in
theorem ie_4 : ∀ k, k < 20 → ir135 4 k = am_RR false 4 k := fun k hk => match k, hk with | 0, _ => rfl | 1, _ => rfl | 2, _ => rfl | 3, _ => rfl | 4, _ => rfl | 5, _ => rfl | 6, _ => rfl | 7, _ => rfl | 8, _ => rfl | 9, _ => rfl | 10, _ => rfl | 11, _ => rfl | 12, _ => rfl | 13, _ => rfl | 14, _ => rfl | 15, _ => rfl | 16, _ => rfl | 17, _ => rfl | 18, _ => rfl | 19, _ => rfl | n + 20, h => absurd h (by omega)
set_option maxRecDepth 100000 in
theorem ie_5 (xs : Nat → Int32) : is90 xs 5 = am_σI xs 5 := funext fun k => rfl
set_option maxRecDepth 100000 in
theorem ie_6 (xs : Nat → Int32) : is90 xs 6 = am_σI xs 6 := funext fun k => rfl
set_option maxRecDepth 100000 in
theorem ie_7 (xs : Nat → Int32) : ∀ k, k < 4 → am_val ir135 (is90 xs) 4 7 k = am_val (am_RR false) (am_σI xs) 4 7 k := fun k hk => match k, hk with | 0, _ => rfl | 1, _ => rfl | 2, _ => rfl | 3, _ => rfl | n + 4, h => absurd h (by omega)
set_option maxRecDepth 100000 in
theorem ie_8 (xs : Nat → Int32) : is90 xs 8 = am_σI xs 8 := funext fun k => rfl
set_option maxRecDepth 100000 in
theorem ie_9 (xs : Nat → Int32) : is90 xs 9 = am_σI xs 9 := funext fun k => rfl
set_option maxRecDepth 100000 in
theorem ie_10 (xs : Nat → Int32) : is90 xs 10 = am_σI xs 10 := funext fun k => rfl
set_option maxRecDepth 100000 in
theorem ie_11 (xs : Nat → Int32) : ∀ k, k < 4 → am_val ir135 (is90 xs) 4 11 k = am_val (am_RR false) (am_σI xs) 4 11 k := fun k hk => match k, hk with | 0, _ => rfl | 1, _ => rfl | 2, _ => rfl | 3, _ => rfl | n + 4, h => absurd h (by omega)
set_option maxRecDepth 100000 in
theorem ie_12 (xs : Nat → Int32) : is90 xs 12 = am_σI xs 12 := funext fun k => rfl
set_option maxRecDepth 100000 in
theorem ie_13 (xs : Nat → Int32) : is90 xs 13 = am_σI xs 13 := funext fun k => rfl
set_option maxRecDepth 100000 in
theorem ie_14 (xs : Nat → Int32) : is90 xs 14 = am_σI xs 14 := funext fun k => rfl
set_option maxRecDepth 100000 in
theorem ie_15 (xs : Nat → Int32) : ∀ k, k < 4 → am_val ir135 (is90 xs) 4 15 k = am_val (am_RR false) (am_σI xs) 4 15 k := fun k hk => match k, hk with | 0, _ => rfl | 1, _ => rfl | 2, _ => rfl | 3, _ => rfl | n + 4, h => absurd h (by omega)
set_option maxRecDepth 100000 in
theorem ie_16 (xs : Nat → Int32) : is90 xs 16 = am_σI xs 16 := funext fun k => rfl
set_option maxRecDepth 100000 in
theorem ie_17 (xs : Nat → Int32) : is90 xs 17 = am_σI xs 17 := funext fun k => rfl
set_option maxRecDepth 100000 in
theorem ie_18 (xs : Nat → Int32) : is90 xs 18 = am_σI xs 18 := funext fun k => rfl
set_option maxRecDepth 100000 in
theorem ie_19 (xs : Nat → Int32) : ∀ k, k < 15 → am_val ir135 (is90 xs) 2 19 k = am_val (am_RR false) (am_σI xs) 2 19 k := fun k hk => match k, hk with | 0, _ => rfl | 1, _ => rfl | 2, _ => rfl | 3, _ => rfl | 4, _ => rfl | 5, _ => rfl | 6, _ => rfl | 7, _ => rfl | 8, _ => rfl | 9, _ => rfl | 10, _ => rfl | 11, _ => rfl | 12, _ => rfl | 13, _ => rfl | 14, _ => rfl | n + 15, h => absurd h (by omega)
set_option maxRecDepth 100000 in
theorem ie_20 (xs : Nat → Int32) : ∀ k, k < 15 → am_val ir135 (is90 xs) 2 20 k = am_val (am_RR false) (am_σI xs) 2 20 k := fun k hk => match k, hk with | 0, _ => rfl | 1, _ => rfl | 2, _ => rfl | 3, _ => rfl | 4, _ => rfl | 5, _ => rfl | 6, _ => rfl | 7, _ => rfl | 8, _ => rfl | 9, _ => rfl | 10, _ => rfl | 11, _ => rfl | 12, _ => rfl | 13, _ => rfl | 14, _ => rfl | n + 15, h => absurd h (by omega)
set_option maxRecDepth 100000 in
theorem ie_21 (xs : Nat → Int32) : ∀ k, k < 15 → am_val ir135 (is90 xs) 2 21 k = am_val (am_RR false) (am_σI xs) 2 21 k := fun k hk => match k, hk with | 0, _ => rfl | 1, _ => rfl | 2, _ => rfl | 3, _ => rfl | 4, _ => rfl | 5, _ => rfl | 6, _ => rfl | 7, _ => rfl | 8, _ => rfl | 9, _ => rfl | 10, _ => rfl | 11, _ => rfl | 12, _ => rfl | 13, _ => rfl | 14, _ => rfl | n + 15, h => absurd h (by omega)
set_option maxRecDepth 100000 in
theorem ie_22 (xs : Nat → Int32) : ∀ k, k < 15 → am_val ir135 (is90 xs) 2 22 k = am_val (am_RR false) (am_σI xs) 2 22 k := fun k hk => match k, hk with | 0, _ => rfl | 1, _ => rfl | 2, _ => rfl | 3, _ => rfl | 4, _ => rfl | 5, _ => rfl | 6, _ => rfl | 7, _ => rfl | 8, _ => rfl | 9, _ => rfl | 10, _ => rfl | 11, _ => rfl | 12, _ => rfl | 13, _ => rfl | 14, _ => rfl | n + 15, h => absurd h (by omega)
set_option maxRecDepth 100000 in
theorem ie_23 (xs : Nat → Int32) : ∀ k, k < 15 → am_val ir135 (is90 xs) 2 23 k = am_val (am_RR false) (am_σI xs) 2 23 k := fun k hk => match k, hk with | 0, _ => rfl | 1, _ => rfl | 2, _ => rfl | 3, _ => rfl | 4, _ => rfl | 5, _ => rfl | 6, _ => rfl | 7, _ => rfl | 8, _ => rfl | 9, _ => rfl | 10, _ => rfl | 11, _ => rfl | 12, _ => rfl | 13, _ => rfl | 14, _ => rfl | n + 15, h => absurd h (by omega)
set_option maxRecDepth 100000 in
theorem ie_24 (xs : Nat → Int32) : ∀ k, k < 15 → am_val ir135 (is90 xs) 2 24 k = am_val (am_RR false) (am_σI xs) 2 24 k := fun k hk => match k, hk with | 0, _ => rfl | 1, _ => rfl | 2, _ => rfl | 3, _ => rfl | 4, _ => rfl | 5, _ => rfl | 6, _ => rfl | 7, _ => rfl | 8, _ => rfl | 9, _ => rfl | 10, _ => rfl | 11, _ => rfl | 12, _ => rfl | 13, _ => rfl | 14, _ => rfl | n + 15, h => absurd h (by omega)
set_option maxRecDepth 100000 in
theorem ie_25 (xs : Nat → Int32) : ∀ k, k < 15 → am_val ir135 (is90 xs) 2 25 k = am_val (am_RR false) (am_σI xs) 2 25 k := fun k hk => match k, hk with | 0, _ => rfl | 1, _ => rfl | 2, _ => rfl | 3, _ => rfl | 4, _ => rfl | 5, _ => rfl | 6, _ => rfl | 7, _ => rfl | 8, _ => rfl | 9, _ => rfl | 10, _ => rfl | 11, _ => rfl | 12, _ => rfl | 13, _ => rfl | 14, _ => rfl | n + 15, h => absurd h (by omega)
set_option maxRecDepth 100000 in
theorem ie_26 (xs : Nat → Int32) : ∀ k, k < 15 → am_val ir135 (is90 xs) 2 26 k = am_val (am_RR false) (am_σI xs) 2 26 k := fun k hk => match k, hk with | 0, _ => rfl | 1, _ => rfl | 2, _ => rfl | 3, _ => rfl | 4, _ => rfl | 5, _ => rfl | 6, _ => rfl | 7, _ => rfl | 8, _ => rfl | 9, _ => rfl | 10, _ => rfl | 11, _ => rfl | 12, _ => rfl | 13, _ => rfl | 14, _ => rfl | n + 15, h => absurd h (by omega)
set_option maxRecDepth 100000 in
theorem ie_27 (xs : Nat → Int32) : ∀ k, k < 15 → am_val ir135 (is90 xs) 2 27 k = am_val (am_RR false) (am_σI xs) 2 27 k := fun k hk => match k, hk with | 0, _ => rfl | 1, _ => rfl | 2, _ => rfl | 3, _ => rfl | 4, _ => rfl | 5, _ => rfl | 6, _ => rfl | 7, _ => rfl | 8, _ => rfl | 9, _ => rfl | 10, _ => rfl | 11, _ => rfl | 12, _ => rfl | 13, _ => rfl | 14, _ => rfl | n + 15, h => absurd h (by omega)
set_option maxRecDepth 100000 in
theorem ie_28 (xs : Nat → Int32) : ∀ k, k < 15 → am_val ir135 (is90 xs) 2 28 k = am_val (am_RR false) (am_σI xs) 2 28 k := fun k hk => match k, hk with | 0, _ => rfl | 1, _ => rfl | 2, _ => rfl | 3, _ => rfl | 4, _ => rfl | 5, _ => rfl | 6, _ => rfl | 7, _ => rfl | 8, _ => rfl | 9, _ => rfl | 10, _ => rfl | 11, _ => rfl | 12, _ => rfl | 13, _ => rfl | 14, _ => rfl | n + 15, h => absurd h (by omega)
set_option maxRecDepth 100000 in
theorem ie_29 (xs : Nat → Int32) : ∀ k, k < 15 → am_val ir135 (is90 xs) 2 29 k = am_val (am_RR false) (am_σI xs) 2 29 k := fun k hk => match k, hk with | 0, _ => rfl | 1, _ => rfl | 2, _ => rfl | 3, _ => rfl | 4, _ => rfl | 5, _ => rfl | 6, _ => rfl | 7, _ => rfl | 8, _ => rfl | 9, _ => rfl | 10, _ => rfl | 11, _ => rfl | 12, _ => rfl | 13, _ => rfl | 14, _ => rfl | n + 15, h => absurd h (by omega)
set_option maxRecDepth 100000 in
theorem ie_30 (xs : Nat → Int32) : ∀ k, k < 15 → am_val ir135 (is90 xs) 2 30 k = am_val (am_RR false) (am_σI xs) 2 30 k := fun k hk => match k, hk with | 0, _ => rfl | 1, _ => rfl | 2, _ => rfl | 3, _ => rfl | 4, _ => rfl | 5, _ => rfl | 6, _ => rfl | 7, _ => rfl | 8, _ => rfl | 9, _ => rfl | 10, _ => rfl | 11, _ => rfl | 12, _ => rfl | 13, _ => rfl | 14, _ => rfl | n + 15, h => absurd h (by omega)
set_option maxRecDepth 100000 in
theorem ie_31 (xs : Nat → Int32) : ∀ k, k < 15 → am_val ir135 (is90 xs) 2 31 k = am_val (am_RR false) (am_σI xs) 2 31 k := fun k hk => match k, hk with | 0, _ => rfl | 1, _ => rfl | 2, _ => rfl | 3, _ => rfl | 4, _ => rfl | 5, _ => rfl | 6, _ => rfl | 7, _ => rfl | 8, _ => rfl | 9, _ => rfl | 10, _ => rfl | 11, _ => rfl | 12, _ => rfl | 13, _ => rfl | 14, _ => rfl | n + 15, h => absurd h (by omega)
set_option maxRecDepth 100000 in
theorem ie_32 (xs : Nat → Int32) : ∀ k, k < 15 → am_val ir135 (is90 xs) 2 32 k = am_val (am_RR false) (am_σI xs) 2 32 k := fun k hk => match k, hk with | 0, _ => rfl | 1, _ => rfl | 2, _ => rfl | 3, _ => rfl | 4, _ => rfl | 5, _ => rfl | 6, _ => rfl | 7, _ => rfl | 8, _ => rfl | 9, _ => rfl | 10, _ => rfl | 11, _ => rfl | 12, _ => rfl | 13, _ => rfl | 14, _ => rfl | n + 15, h => absurd h (by omega)
set_option maxRecDepth 100000 in
theorem ie_33 (xs : Nat → Int32) : ∀ k, k < 15 → am_val ir135 (is90 xs) 2 33 k = am_val (am_RR false) (am_σI xs) 2 33 k := fun k hk => match k, hk with | 0, _ => rfl | 1, _ => rfl | 2, _ => rfl | 3, _ => rfl | 4, _ => rfl | 5, _ => rfl | 6, _ => rfl | 7, _ => rfl | 8, _ => rfl | 9, _ => rfl | 10, _ => rfl | 11, _ => rfl | 12, _ => rfl | 13, _ => rfl | 14, _ => rfl | n + 15, h => absurd h (by omega)
set_option maxRecDepth 100000 in
theorem ie_34 (xs : Nat → Int32) : ∀ k, k < 15 → am_val ir135 (is90 xs) 2 34 k = am_val (am_RR false) (am_σI xs) 2 34 k := fun k hk => match k, hk with | 0, _ => rfl | 1, _ => rfl | 2, _ => rfl | 3, _ => rfl | 4, _ => rfl | 5, _ => rfl | 6, _ => rfl | 7, _ => rfl | 8, _ => rfl | 9, _ => rfl | 10, _ => rfl | 11, _ => rfl | 12, _ => rfl | 13, _ => rfl | 14, _ => rfl | n + 15, h => absurd h (by omega)
set_option maxRecDepth 100000 in
theorem ie_35 (xs : Nat → Int32) : ∀ k, k < 15 → am_val ir135 (is90 xs) 2 35 k = am_val (am_RR false) (am_σI xs) 2 35 k := fun k hk => match k, hk with | 0, _ => rfl | 1, _ => rfl | 2, _ => rfl | 3, _ => rfl | 4, _ => rfl | 5, _ => rfl | 6, _ => rfl | 7, _ => rfl | 8, _ => rfl | 9, _ => rfl | 10, _ => rfl | 11, _ => rfl | 12, _ => rfl | 13, _ => rfl | 14, _ => rfl | n + 15, h => absurd h (by omega)
set_option maxRecDepth 100000 in
theorem ie_36 (xs : Nat → Int32) : ∀ k, k < 15 → am_val ir135 (is90 xs) 2 36 k = am_val (am_RR false) (am_σI xs) 2 36 k := fun k hk => match k, hk with | 0, _ => rfl | 1, _ => rfl | 2, _ => rfl | 3, _ => rfl | 4, _ => rfl | 5, _ => rfl | 6, _ => rfl | 7, _ => rfl | 8, _ => rfl | 9, _ => rfl | 10, _ => rfl | 11, _ => rfl | 12, _ => rfl | 13, _ => rfl | 14, _ => rfl | n + 15, h => absurd h (by omega)
set_option maxRecDepth 100000 in
theorem ie_37 (xs : Nat → Int32) : ∀ k, k < 15 → am_val ir135 (is90 xs) 2 37 k = am_val (am_RR false) (am_σI xs) 2 37 k := fun k hk => match k, hk with | 0, _ => rfl | 1, _ => rfl | 2, _ => rfl | 3, _ => rfl | 4, _ => rfl | 5, _ => rfl | 6, _ => rfl | 7, _ => rfl | 8, _ => rfl | 9, _ => rfl | 10, _ => rfl | 11, _ => rfl | 12, _ => rfl | 13, _ => rfl | 14, _ => rfl | n + 15, h => absurd h (by omega)
set_option maxRecDepth 100000 in
theorem ie_38 (xs : Nat → Int32) : ∀ k, k < 15 → am_val ir135 (is90 xs) 2 38 k = am_val (am_RR false) (am_σI xs) 2 38 k := fun k hk => match k, hk with | 0, _ => rfl | 1, _ => rfl | 2, _ => rfl | 3, _ => rfl | 4, _ => rfl | 5, _ => rfl | 6, _ => rfl | 7, _ => rfl | 8, _ => rfl | 9, _ => rfl | 10, _ => rfl | 11, _ => rfl | 12, _ => rfl | 13, _ => rfl | 14, _ => rfl | n + 15, h => absurd h (by omega)
set_option maxRecDepth 100000 in
theorem ie_39 (xs : Nat → Int32) : ∀ k, k < 5 → am_val ir135 (is90 xs) 6 39 k = am_val (am_RR false) (am_σI xs) 6 39 k := fun k hk => match k, hk with | 0, _ => rfl | 1, _ => rfl | 2, _ => rfl | 3, _ => rfl | 4, _ => rfl | n + 5, h => absurd h (by omega)
set_option maxRecDepth 100000 in
theorem ie_40 (xs : Nat → Int32) : is90 xs 40 = am_σI xs 40 := funext fun k => rfl
set_option maxRecDepth 100000 in
theorem ie_41 (xs : Nat → Int32) : is90 xs 41 = am_σI xs 41 := funext fun k => rfl
set_option maxRecDepth 100000 in
theorem ie_42 (xs : Nat → Int32) : ∀ k, k < 4 → am_val ir135 (is90 xs) 0 42 k = am_val (am_RR false) (am_σI xs) 0 42 k := fun k hk => match k, hk with | 0, _ => rfl | 1, _ => rfl | 2, _ => rfl | 3, _ => rfl | n + 4, h => absurd h (by omega)
set_option maxRecDepth 100000 in
theorem ie_43 (xs : Nat → Int32) : ∀ k, k < 7 → am_val ir135 (is90 xs) 1 43 k = am_val (am_RR false) (am_σI xs) 1 43 k := fun k hk => match k, hk with | 0, _ => rfl | 1, _ => rfl | 2, _ => rfl | 3, _ => rfl | 4, _ => rfl | 5, _ => rfl | 6, _ => rfl | n + 7, h => absurd h (by omega)
set_option maxRecDepth 100000 in
theorem ie_44 (xs : Nat → Int32) : is90 xs 44 = am_σI xs 44 := funext fun k => rfl
set_option maxRecDepth 100000 in
theorem ie_45 (xs : Nat → Int32) : is90 xs 45 = am_σI xs 45 := funext fun k => rfl
set_option maxRecDepth 100000 in
theorem ie_46 (xs : Nat → Int32) : is90 xs 46 = am_σI xs 46 := funext fun k => rfl
set_option maxRecDepth 100000 in
theorem ie_47 (xs : Nat → Int32) : ∀ k, k < 40 → am_val ir135 (is90 xs) 9 47 k = am_val (am_RR false) (am_σI xs) 9 47 k := fun k hk => match k, hk with | 0, _ => rfl | 1, _ => rfl | 2, _ => rfl | 3, _ => rfl | 4, _ => rfl | 5, _ => rfl | 6, _ => rfl | 7, _ => rfl | 8, _ => rfl | 9, _ => rfl | 10, _ => rfl | 11, _ => rfl | 12, _ => rfl | 13, _ => rfl | 14, _ => rfl | 15, _ => rfl | 16, _ => rfl | 17, _ => rfl | 18, _ => rfl | 19, _ => rfl | 20, _ => rfl | 21, _ => rfl | 22, _ => rfl | 23, _ => rfl | 24, _ => rfl | 25, _ => rfl | 26, _ => rfl | 27, _ => rfl | 28, _ => rfl | 29, _ => rfl | 30, _ => rfl | 31, _ => rfl | 32, _ => rfl | 33, _ => rfl | 34, _ => rfl | 35, _ => rfl | 36, _ => rfl | 37, _ => rfl | 38, _ => rfl | 39, _ => rfl | n + 40, h => absurd h (by omega)
set_option maxRecDepth 100000 in
theorem ie_48 (xs : Nat → Int32) : is90 xs 48 = am_σI xs 48 := funext fun k => rfl
set_option maxRecDepth 100000 in
theorem ie_49 (xs : Nat → Int32) : is90 xs 49 = am_σI xs 49 := funext fun k => rfl
set_option maxRecDepth 100000 in
theorem ie_50 (xs : Nat → Int32) : is90 xs 50 = am_σI xs 50 := funext fun k => rfl
set_option maxRecDepth 100000 in
theorem ie_51 (xs : Nat → Int32) : is90 xs 51 = am_σI xs 51 := funext fun k => rfl
set_option maxRecDepth 100000 in
theorem ie_52 (xs : Nat → Int32) : is90 xs 52 = am_σI xs 52 := funext fun k => rfl
set_option maxRecDepth 100000 in
theorem ie_53 (xs : Nat → Int32) : is90 xs 53 = am_σI xs 53 := funext fun k => rfl
set_option maxRecDepth 100000 in
theorem ie_54 (xs : Nat → Int32) : is90 xs 54 = am_σI xs 54 := funext fun k => rfl
set_option maxRecDepth 100000 in
theorem ie_55 (xs : Nat → Int32) : is90 xs 55 = am_σI xs 55 := funext fun k => rfl
set_option maxRecDepth 100000 in
theorem ie_56 (xs : Nat → Int32) : is90 xs 56 = am_σI xs 56 := funext fun k => rfl
set_option maxRecDepth 100000 in
theorem ie_57 (xs : Nat → Int32) : is90 xs 57 = am_σI xs 57 := funext fun k => rfl
set_option maxRecDepth 100000 in
theorem ie_58 (xs : Nat → Int32) : is90 xs 58 = am_σI xs 58 := funext fun k => rfl
set_option maxRecDepth 100000 in
theorem ie_59 (xs : Nat → Int32) : is90 xs 59 = am_σI xs 59 := funext fun k => rfl
set_option maxRecDepth 100000 in
theorem ie_60 (xs : Nat → Int32) : is90 xs 60 = am_σI xs 60 := funext fun k => rfl
set_option maxRecDepth 100000 in
theorem ie_61 (xs : Nat → Int32) : is90 xs 61 = am_σI xs 61 := funext fun k => rfl
set_option maxRecDepth 100000 in
theorem ie_62 (xs : Nat → Int32) : is90 xs 62 = am_σI xs 62 := funext fun k => rfl
set_option maxRecDepth 100000 in
theorem ie_63 (xs : Nat → Int32) : is90 xs 63 = am_σI xs 63 := funext fun k => rfl
set_option maxRecDepth 100000 in
theorem ie_64 (xs : Nat → Int32) : is90 xs 64 = am_σI xs 64 := funext fun k => rfl
set_option maxRecDepth 100000 in
theorem ie_65 (xs : Nat → Int32) : is90 xs 65 = am_σI xs 65 := funext fun k => rfl
set_option maxRecDepth 100000 in
theorem ie_66 (xs : Nat → Int32) : is90 xs 66 = am_σI xs 66 := funext fun k => rfl
set_option maxRecDepth 100000 in
theorem ie_67 (xs : Nat → Int32) : is90 xs 67 = am_σI xs 67 := funext fun k => rfl
set_option maxRecDepth 100000 in
theorem ie_68 (xs : Nat → Int32) : is90 xs 68 = am_σI xs 68 := funext fun k => rfl
set_option maxRecDepth 1000000 in
set_option maxHeartbeats 4000000 in
theorem ie_all (L : Nat) (xs : Nat → Int32) : am_eqv (iT68 L, ir135, is90 xs) (am_TT false L, am_RR false, am_σI xs) := by
  refine ⟨rfl, fun c x hx => ?_⟩
  match c, hx with
  | 0, hx => cases hx; exact ⟨fun _ => ie_0 xs, fun h => absurd h (by decide)⟩
  | 1, hx => cases hx; exact ie_1 xs
  | 2, hx => cases hx; exact ie_2 xs
  | 3, hx => cases hx; exact ie_3 xs
  | 4, hx => cases hx; exact ⟨fun h => absurd rfl h, fun _ => ie_4⟩
  | 5, hx => cases hx; exact ⟨fun _ => ie_5 xs, fun h => absurd h (by decide)⟩
  | 6, hx => cases hx; exact ⟨fun _ => ie_6 xs, fun h => absurd h (by decide)⟩
  | 7, hx => cases hx; exact ie_7 xs
  | 8, hx => cases hx; exact ⟨fun _ => ie_8 xs, fun h => absurd h (by decide)⟩
  | 9, hx => cases hx; exact ⟨fun _ => ie_9 xs, fun h => absurd h (by decide)⟩
  | 10, hx => cases hx; exact ⟨fun _ => ie_10 xs, fun h => absurd h (by decide)⟩
  | 11, hx => cases hx; exact ie_11 xs
  | 12, hx => cases hx; exact ⟨fun _ => ie_12 xs, fun h => absurd h (by decide)⟩
  | 13, hx => cases hx; exact ⟨fun _ => ie_13 xs, fun h => absurd h (by decide)⟩
  | 14, hx => cases hx; exact ⟨fun _ => ie_14 xs, fun h => absurd h (by decide)⟩
  | 15, hx => cases hx; exact ie_15 xs
  | 16, hx => cases hx; exact ⟨fun _ => ie_16 xs, fun h => absurd h (by decide)⟩
  | 17, hx => cases hx; exact ⟨fun _ => ie_17 xs, fun h => absurd h (by decide)⟩
  | 18, hx => cases hx; exact ⟨fun _ => ie_18 xs, fun h => absurd h (by decide)⟩
  | 19, hx => cases hx; exact ie_19 xs
  | 20, hx => cases hx; exact ie_20 xs
  | 21, hx => cases hx; exact ie_21 xs
  | 22, hx => cases hx; exact ie_22 xs
  | 23, hx => cases hx; exact ie_23 xs
  | 24, hx => cases hx; exact ie_24 xs
  | 25, hx => cases hx; exact ie_25 xs
  | 26, hx => cases hx; exact ie_26 xs
  | 27, hx => cases hx; exact ie_27 xs
  | 28, hx => cases hx; exact ie_28 xs
  | 29, hx => cases hx; exact ie_29 xs
  | 30, hx => cases hx; exact ie_30 xs
  | 31, hx => cases hx; exact ie_31 xs
  | 32, hx => cases hx; exact ie_32 xs
  | 33, hx => cases hx; exact ie_33 xs
  | 34, hx => cases hx; exact ie_34 xs
  | 35, hx => cases hx; exact ie_35 xs
  | 36, hx => cases hx; exact ie_36 xs
  | 37, hx => cases hx; exact ie_37 xs
  | 38, hx => cases hx; exact ie_38 xs
  | 39, hx => cases hx; exact ie_39 xs
  | 40, hx => cases hx; exact ⟨fun _ => ie_40 xs, fun h => absurd h (by decide)⟩
  | 41, hx => cases hx; exact ⟨fun _ => ie_41 xs, fun h => absurd h (by decide)⟩
  | 42, hx => cases hx; exact ie_42 xs
  | 43, hx => cases hx; exact ie_43 xs
  | 44, hx => cases hx; exact ⟨fun _ => ie_44 xs, fun h => absurd h (by decide)⟩
  | 45, hx => cases hx; exact ⟨fun _ => ie_45 xs, fun h => absurd h (by decide)⟩
  | 46, hx => cases hx; exact ⟨fun _ => ie_46 xs, fun h => absurd h (by decide)⟩
  | 47, hx => cases hx; exact ie_47 xs
  | 48, hx => cases hx; exact ⟨fun _ => ie_48 xs, fun h => absurd h (by decide)⟩
  | 49, hx => cases hx; exact ⟨fun _ => ie_49 xs, fun h => absurd h (by decide)⟩
  | 50, hx => cases hx; exact ⟨fun _ => ie_50 xs, fun h => absurd h (by decide)⟩
  | 51, hx => cases hx; exact ⟨fun _ => ie_51 xs, fun h => absurd h (by decide)⟩
  | 52, hx => cases hx; exact ⟨fun _ => ie_52 xs, fun h => absurd h (by decide)⟩
  | 53, hx => cases hx; exact ⟨fun _ => ie_53 xs, fun h => absurd h (by decide)⟩
  | 54, hx => cases hx; exact ⟨fun _ => ie_54 xs, fun h => absurd h (by decide)⟩
  | 55, hx => cases hx; exact ⟨fun _ => ie_55 xs, fun h => absurd h (by decide)⟩
  | 56, hx => cases hx; exact ⟨fun _ => ie_56 xs, fun h => absurd h (by decide)⟩
  | 57, hx => cases hx; exact ⟨fun _ => ie_57 xs, fun h => absurd h (by decide)⟩
  | 58, hx => cases hx; exact ⟨fun _ => ie_58 xs, fun h => absurd h (by decide)⟩
  | 59, hx => cases hx; exact ⟨fun _ => ie_59 xs, fun h => absurd h (by decide)⟩
  | 60, hx => cases hx; exact ⟨fun _ => ie_60 xs, fun h => absurd h (by decide)⟩
  | 61, hx => cases hx; exact ⟨fun _ => ie_61 xs, fun h => absurd h (by decide)⟩
  | 62, hx => cases hx; exact ⟨fun _ => ie_62 xs, fun h => absurd h (by decide)⟩
  | 63, hx => cases hx; exact ⟨fun _ => ie_63 xs, fun h => absurd h (by decide)⟩
  | 64, hx => cases hx; exact ⟨fun _ => ie_64 xs, fun h => absurd h (by decide)⟩
  | 65, hx => cases hx; exact ⟨fun _ => ie_65 xs, fun h => absurd h (by decide)⟩
  | 66, hx => cases hx; exact ⟨fun _ => ie_66 xs, fun h => absurd h (by decide)⟩
  | 67, hx => cases hx; exact ⟨fun _ => ie_67 xs, fun h => absurd h (by decide)⟩
  | 68, hx => cases hx; exact ⟨fun _ => ie_68 xs, fun h => absurd h (by decide)⟩
  | n + 69, hx => cases hx
theorem am_init {l : Launch} {D : va_G} {DA : Nat → ClassId} {b sz d L : Nat} {xs : Nat → Int32} {r : Option Value} {X' : am_X}
    (G : am_Go l D DA b sz (d + 3) M_L_law (18, [some (.ref 0), some (.ref 1), some (.ref 47), some (.int 0)], [], (am_TT false L, am_RR false, am_σI xs)) r X') :
    am_Go l D DA b sz (d + 3) M_L_law (0, [some (.ref 0), none, none, none], [], am_X0 L xs) r X' := am_init0 (go_eqv (ie_all L xs) G)
