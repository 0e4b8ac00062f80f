/-! THE LAYOUT: the class's object and its parts at the places 0 to 47, the reference's at 48 to 69, each further TEXT at two places behind; what they hold is one function: place, number of the slot -/
def px_nm (n : Nat) (w : Nat → Int32) : Nat → Int32 := fun j => if j < n then w j else 0
abbrev px_ia (n : Nat) (w : Nat → Int32) : px_C := .inr (.inl (0, n, px_nm n w))
abbrev px_za (n : Nat) (w : Nat → Int32) : px_C := .inr (.inl (1, n, px_nm n w))
def px_on (x : Int32) : Option Nat := if x < 0 then none else some x.toNatClampNeg
def px_house (a : Nat) (w : Nat → Int32) : px_C := .inl (0, [.ref (a + 1), .ref (a + 2), .ref (a + 3), .ref (a + 4), .int (w 4), .int (w 5), .int (w 6), .int (w 7), .int (w 8), .int (w 9)])
def px_sheet (a : Nat) (w : Nat → Int32) : px_C := .inl (3, [.ref (a + 1), .int (w 1), .int (w 2)])
def px_text (a : Nat) (w : Nat → Int32) : px_C := .inl (4, [.ref (a + 1), .int (w 1), .int (w 2)])
abbrev px_code (w : Nat → Int32) : px_C := px_ia (w 100000).toNatClampNeg w
def px_f0 (w : Nat → Int32) : List Value := [.ref 1, .ref 6, .ref 11, .ref 31, .ref 36, .ref 37, .int (w 6), .int (w 7)]
def px_f11 (w : Nat → Int32) : List Value := [.ref 12, .ref (w 1).toNatClampNeg, .ref 19, .ref 20, .int (w 4), .ref 21, .ref 22, .ref 23, .ref 24, .ref 25, .ref 26, .ref 27, .int (w 12), .ref 28, .ref 29, .ref 30]
def px_f31 (w : Nat → Int32) : List Value := [.ref 32, .int (w 1), .ref 33, .ref 34, .int (w 4), .int (w 5), .ref 35, .int (w 7)]
def px_f48 (w : Nat → Int32) : List Value := [.int (w 0), .ref 49, .ref 50, .int (w 3), .int (w 4), .ref 51, .int (w 6), .ref 52, .ref 53, .ref 54, .ref 55, .int (w 11), .int (w 12), .int (w 13), .int (w 14), .int (w 15), .int (w 16), .int (w 17), .int (w 18), .int (w 19), .int (w 20), .int (w 21), .int (w 22), .int (w 23), .int (w 24), .int (w 25), .int (w 26), .long (w 27).toInt64, .int (w 28), .int (w 29), .int (w 30), .int (w 31), .ref 56, .ref 57, .ref 58, .int (w 35), .int (w 36), .int (w 37), .ref 59, .ref 60, .ref 61, .ref 62, .int (w 42), .int (w 43), .int (w 44), .ref 63, .ref 64, .ref 65, .int (w 48), .int (w 49), .int (w 50), .int (w 51), .int (w 52), .int (w 53), .ref 66, .ref 67, .ref 68, .ref 69]
def px_cell (k : Nat) (w : Nat → Int32) : px_C := match k with
  | 0 => .inl (5, px_f0 w)
  | 1 => px_house 1 w
  | 2 => px_ia 7 w
  | 3 => px_ia 7 w
  | 4 => px_ia 49 w
  | 5 => px_ia 7 w
  | 6 => px_house 6 w
  | 7 => px_ia 7 w
  | 8 => px_ia 7 w
  | 9 => px_ia 49 w
  | 10 => px_ia 7 w
  | 11 => .inl (1, px_f11 w)
  | 12 => px_house 12 w
  | 13 => px_ia 7 w
  | 14 => px_ia 7 w
  | 15 => px_ia 49 w
  | 16 => px_ia 7 w
  | 17 => px_text 17 w
  | 18 => px_code w
  | 19 => px_ia 6 w
  | 20 => px_ia 160 w
  | 21 => px_ia 49 w
  | 22 => px_ia 7 w
  | 23 => px_ia 7 w
  | 24 => px_ia 896 w
  | 25 => px_ia 128 w
  | 26 => px_ia 128 w
  | 27 => px_ia 35 w
  | 28 => px_ia 7 w
  | 29 => px_ia 3 w
  | 30 => px_ia 3 w
  | 31 => .inl (2, px_f31 w)
  | 32 => px_ia 160 w
  | 33 => px_ia 160 w
  | 34 => px_ia 160 w
  | 35 => px_ia 160 w
  | 36 => .inr (.inr (2, 6, fun j => if j < 6 then px_on (w j) else none))
  | 37 => .inr (.inr (3, 4, fun j => if j < 4 then some (38 + 2 * j) else none))
  | 38 => px_sheet 38 w
  | 39 => px_ia 40 w
  | 40 => px_sheet 40 w
  | 41 => px_ia 40 w
  | 42 => px_sheet 42 w
  | 43 => px_ia 40 w
  | 44 => px_sheet 44 w
  | 45 => px_ia 40 w
  | 46 => px_text 46 w
  | 47 => px_code w
  | 48 => .inl (6, px_f48 w)
  | 49 => px_ia 960 w
  | 50 => px_ia 6 w
  | 51 => px_ia 160 w
  | 52 => px_ia 7 w
  | 53 => px_ia 7 w
  | 54 => px_ia 49 w
  | 55 => px_ia 7 w
  | 56 => px_ia 49 w
  | 57 => px_ia 49 w
  | 58 => px_ia 49 w
  | 59 => px_ia 7 w
  | 60 => px_ia 128 w
  | 61 => px_ia 896 w
  | 62 => px_ia 128 w
  | 63 => px_ia 49 w
  | 64 => px_ia 7 w
  | 65 => px_ia 7 w
  | 66 => px_za 4 w
  | 67 => px_ia 4 w
  | 68 => px_ia 4 w
  | 69 => px_ia 160 w
  | k => if k % 2 = 0 then px_text k w else px_code w
theorem c0 (w : Nat → Int32) : px_cell 0 w = .inl (5, px_f0 w) := rfl
theorem c2 (w : Nat → Int32) : px_cell 2 w = px_ia 7 w := rfl
theorem c3 (w : Nat → Int32) : px_cell 3 w = px_ia 7 w := rfl
theorem c4 (w : Nat → Int32) : px_cell 4 w = px_ia 49 w := rfl
theorem c5 (w : Nat → Int32) : px_cell 5 w = px_ia 7 w := rfl
theorem c7 (w : Nat → Int32) : px_cell 7 w = px_ia 7 w := rfl
theorem c8 (w : Nat → Int32) : px_cell 8 w = px_ia 7 w := rfl
theorem c9 (w : Nat → Int32) : px_cell 9 w = px_ia 49 w := rfl
theorem c10 (w : Nat → Int32) : px_cell 10 w = px_ia 7 w := rfl
theorem c11 (w : Nat → Int32) : px_cell 11 w = .inl (1, px_f11 w) := rfl
theorem c13 (w : Nat → Int32) : px_cell 13 w = px_ia 7 w := rfl
theorem c14 (w : Nat → Int32) : px_cell 14 w = px_ia 7 w := rfl
theorem c15 (w : Nat → Int32) : px_cell 15 w = px_ia 49 w := rfl
theorem c16 (w : Nat → Int32) : px_cell 16 w = px_ia 7 w := rfl
theorem c19 (w : Nat → Int32) : px_cell 19 w = px_ia 6 w := rfl
theorem c20 (w : Nat → Int32) : px_cell 20 w = px_ia 160 w := rfl
theorem c21 (w : Nat → Int32) : px_cell 21 w = px_ia 49 w := rfl
theorem c22 (w : Nat → Int32) : px_cell 22 w = px_ia 7 w := rfl
theorem c23 (w : Nat → Int32) : px_cell 23 w = px_ia 7 w := rfl
theorem c24 (w : Nat → Int32) : px_cell 24 w = px_ia 896 w := rfl
theorem c25 (w : Nat → Int32) : px_cell 25 w = px_ia 128 w := rfl
theorem c26 (w : Nat → Int32) : px_cell 26 w = px_ia 128 w := rfl
theorem c27 (w : Nat → Int32) : px_cell 27 w = px_ia 35 w := rfl
theorem c28 (w : Nat → Int32) : px_cell 28 w = px_ia 7 w := rfl
theorem c29 (w : Nat → Int32) : px_cell 29 w = px_ia 3 w := rfl
theorem c30 (w : Nat → Int32) : px_cell 30 w = px_ia 3 w := rfl
theorem c31 (w : Nat → Int32) : px_cell 31 w = .inl (2, px_f31 w) := rfl
theorem c32 (w : Nat → Int32) : px_cell 32 w = px_ia 160 w := rfl
theorem c33 (w : Nat → Int32) : px_cell 33 w = px_ia 160 w := rfl
theorem c34 (w : Nat → Int32) : px_cell 34 w = px_ia 160 w := rfl
theorem c35 (w : Nat → Int32) : px_cell 35 w = px_ia 160 w := rfl
theorem c39 (w : Nat → Int32) : px_cell 39 w = px_ia 40 w := rfl
theorem c41 (w : Nat → Int32) : px_cell 41 w = px_ia 40 w := rfl
theorem c43 (w : Nat → Int32) : px_cell 43 w = px_ia 40 w := rfl
theorem c45 (w : Nat → Int32) : px_cell 45 w = px_ia 40 w := rfl
theorem c48 (w : Nat → Int32) : px_cell 48 w = .inl (6, px_f48 w) := rfl
theorem c49 (w : Nat → Int32) : px_cell 49 w = px_ia 960 w := rfl
theorem c50 (w : Nat → Int32) : px_cell 50 w = px_ia 6 w := rfl
theorem c51 (w : Nat → Int32) : px_cell 51 w = px_ia 160 w := rfl
theorem c52 (w : Nat → Int32) : px_cell 52 w = px_ia 7 w := rfl
theorem c53 (w : Nat → Int32) : px_cell 53 w = px_ia 7 w := rfl
theorem c54 (w : Nat → Int32) : px_cell 54 w = px_ia 49 w := rfl
theorem c55 (w : Nat → Int32) : px_cell 55 w = px_ia 7 w := rfl
theorem c56 (w : Nat → Int32) : px_cell 56 w = px_ia 49 w := rfl
theorem c57 (w : Nat → Int32) : px_cell 57 w = px_ia 49 w := rfl
theorem c58 (w : Nat → Int32) : px_cell 58 w = px_ia 49 w := rfl
theorem c59 (w : Nat → Int32) : px_cell 59 w = px_ia 7 w := rfl
theorem c60 (w : Nat → Int32) : px_cell 60 w = px_ia 128 w := rfl
theorem c61 (w : Nat → Int32) : px_cell 61 w = px_ia 896 w := rfl
theorem c62 (w : Nat → Int32) : px_cell 62 w = px_ia 128 w := rfl
theorem c63 (w : Nat → Int32) : px_cell 63 w = px_ia 49 w := rfl
theorem c64 (w : Nat → Int32) : px_cell 64 w = px_ia 7 w := rfl
theorem c65 (w : Nat → Int32) : px_cell 65 w = px_ia 7 w := rfl
theorem c67 (w : Nat → Int32) : px_cell 67 w = px_ia 4 w := rfl
theorem c68 (w : Nat → Int32) : px_cell 68 w = px_ia 4 w := rfl
theorem c69 (w : Nat → Int32) : px_cell 69 w = px_ia 160 w := rfl
theorem c66 (w : Nat → Int32) : px_cell 66 w = px_za 4 w := rfl
theorem s0_6 (w : Nat → Int32) (x : Int32) : px_cell 0 (upd w 6 x) = .inl (5, (px_f0 w).set 6 (.int x)) := rfl
theorem s0_7 (w : Nat → Int32) (x : Int32) : px_cell 0 (upd w 7 x) = .inl (5, (px_f0 w).set 7 (.int x)) := rfl
theorem s11_4 (w : Nat → Int32) (x : Int32) : px_cell 11 (upd w 4 x) = .inl (1, (px_f11 w).set 4 (.int x)) := rfl
theorem s11_12 (w : Nat → Int32) (x : Int32) : px_cell 11 (upd w 12 x) = .inl (1, (px_f11 w).set 12 (.int x)) := rfl
theorem s31_1 (w : Nat → Int32) (x : Int32) : px_cell 31 (upd w 1 x) = .inl (2, (px_f31 w).set 1 (.int x)) := rfl
theorem s31_4 (w : Nat → Int32) (x : Int32) : px_cell 31 (upd w 4 x) = .inl (2, (px_f31 w).set 4 (.int x)) := rfl
theorem s31_5 (w : Nat → Int32) (x : Int32) : px_cell 31 (upd w 5 x) = .inl (2, (px_f31 w).set 5 (.int x)) := rfl
theorem s31_7 (w : Nat → Int32) (x : Int32) : px_cell 31 (upd w 7 x) = .inl (2, (px_f31 w).set 7 (.int x)) := rfl
theorem s48_0 (w : Nat → Int32) (x : Int32) : px_cell 48 (upd w 0 x) = .inl (6, (px_f48 w).set 0 (.int x)) := rfl
theorem s48_3 (w : Nat → Int32) (x : Int32) : px_cell 48 (upd w 3 x) = .inl (6, (px_f48 w).set 3 (.int x)) := rfl
theorem s48_4 (w : Nat → Int32) (x : Int32) : px_cell 48 (upd w 4 x) = .inl (6, (px_f48 w).set 4 (.int x)) := rfl
theorem s48_6 (w : Nat → Int32) (x : Int32) : px_cell 48 (upd w 6 x) = .inl (6, (px_f48 w).set 6 (.int x)) := rfl
theorem s48_11 (w : Nat → Int32) (x : Int32) : px_cell 48 (upd w 11 x) = .inl (6, (px_f48 w).set 11 (.int x)) := rfl
theorem s48_12 (w : Nat → Int32) (x : Int32) : px_cell 48 (upd w 12 x) = .inl (6, (px_f48 w).set 12 (.int x)) := rfl
theorem s48_13 (w : Nat → Int32) (x : Int32) : px_cell 48 (upd w 13 x) = .inl (6, (px_f48 w).set 13 (.int x)) := rfl
theorem s48_14 (w : Nat → Int32) (x : Int32) : px_cell 48 (upd w 14 x) = .inl (6, (px_f48 w).set 14 (.int x)) := rfl
theorem s48_15 (w : Nat → Int32) (x : Int32) : px_cell 48 (upd w 15 x) = .inl (6, (px_f48 w).set 15 (.int x)) := rfl
theorem s48_16 (w : Nat → Int32) (x : Int32) : px_cell 48 (upd w 16 x) = .inl (6, (px_f48 w).set 16 (.int x)) := rfl
theorem s48_17 (w : Nat → Int32) (x : Int32) : px_cell 48 (upd w 17 x) = .inl (6, (px_f48 w).set 17 (.int x)) := rfl
theorem s48_18 (w : Nat → Int32) (x : Int32) : px_cell 48 (upd w 18 x) = .inl (6, (px_f48 w).set 18 (.int x)) := rfl
theorem s48_19 (w : Nat → Int32) (x : Int32) : px_cell 48 (upd w 19 x) = .inl (6, (px_f48 w).set 19 (.int x)) := rfl
theorem s48_20 (w : Nat → Int32) (x : Int32) : px_cell 48 (upd w 20 x) = .inl (6, (px_f48 w).set 20 (.int x)) := rfl
theorem s48_21 (w : Nat → Int32) (x : Int32) : px_cell 48 (upd w 21 x) = .inl (6, (px_f48 w).set 21 (.int x)) := rfl
theorem s48_22 (w : Nat → Int32) (x : Int32) : px_cell 48 (upd w 22 x) = .inl (6, (px_f48 w).set 22 (.int x)) := rfl
theorem s48_23 (w : Nat → Int32) (x : Int32) : px_cell 48 (upd w 23 x) = .inl (6, (px_f48 w).set 23 (.int x)) := rfl
theorem s48_24 (w : Nat → Int32) (x : Int32) : px_cell 48 (upd w 24 x) = .inl (6, (px_f48 w).set 24 (.int x)) := rfl
theorem s48_25 (w : Nat → Int32) (x : Int32) : px_cell 48 (upd w 25 x) = .inl (6, (px_f48 w).set 25 (.int x)) := rfl
theorem s48_26 (w : Nat → Int32) (x : Int32) : px_cell 48 (upd w 26 x) = .inl (6, (px_f48 w).set 26 (.int x)) := rfl
theorem s48_27 (w : Nat → Int32) (x : Int32) : px_cell 48 (upd w 27 x) = .inl (6, (px_f48 w).set 27 (.long x.toInt64)) := rfl
theorem s48_28 (w : Nat → Int32) (x : Int32) : px_cell 48 (upd w 28 x) = .inl (6, (px_f48 w).set 28 (.int x)) := rfl
theorem s48_29 (w : Nat → Int32) (x : Int32) : px_cell 48 (upd w 29 x) = .inl (6, (px_f48 w).set 29 (.int x)) := rfl
theorem s48_30 (w : Nat → Int32) (x : Int32) : px_cell 48 (upd w 30 x) = .inl (6, (px_f48 w).set 30 (.int x)) := rfl
theorem s48_31 (w : Nat → Int32) (x : Int32) : px_cell 48 (upd w 31 x) = .inl (6, (px_f48 w).set 31 (.int x)) := rfl
theorem s48_35 (w : Nat → Int32) (x : Int32) : px_cell 48 (upd w 35 x) = .inl (6, (px_f48 w).set 35 (.int x)) := rfl
theorem s48_36 (w : Nat → Int32) (x : Int32) : px_cell 48 (upd w 36 x) = .inl (6, (px_f48 w).set 36 (.int x)) := rfl
theorem s48_37 (w : Nat → Int32) (x : Int32) : px_cell 48 (upd w 37 x) = .inl (6, (px_f48 w).set 37 (.int x)) := rfl
theorem s48_42 (w : Nat → Int32) (x : Int32) : px_cell 48 (upd w 42 x) = .inl (6, (px_f48 w).set 42 (.int x)) := rfl
theorem s48_43 (w : Nat → Int32) (x : Int32) : px_cell 48 (upd w 43 x) = .inl (6, (px_f48 w).set 43 (.int x)) := rfl
theorem s48_44 (w : Nat → Int32) (x : Int32) : px_cell 48 (upd w 44 x) = .inl (6, (px_f48 w).set 44 (.int x)) := rfl
theorem s48_48 (w : Nat → Int32) (x : Int32) : px_cell 48 (upd w 48 x) = .inl (6, (px_f48 w).set 48 (.int x)) := rfl
theorem s48_49 (w : Nat → Int32) (x : Int32) : px_cell 48 (upd w 49 x) = .inl (6, (px_f48 w).set 49 (.int x)) := rfl
theorem s48_50 (w : Nat → Int32) (x : Int32) : px_cell 48 (upd w 50 x) = .inl (6, (px_f48 w).set 50 (.int x)) := rfl
theorem s48_51 (w : Nat → Int32) (x : Int32) : px_cell 48 (upd w 51 x) = .inl (6, (px_f48 w).set 51 (.int x)) := rfl
theorem s48_52 (w : Nat → Int32) (x : Int32) : px_cell 48 (upd w 52 x) = .inl (6, (px_f48 w).set 52 (.int x)) := rfl
theorem s48_53 (w : Nat → Int32) (x : Int32) : px_cell 48 (upd w 53 x) = .inl (6, (px_f48 w).set 53 (.int x)) := rfl
theorem s11_1 (w : Nat → Int32) (x : Int32) : px_cell 11 (upd w 1 x) = .inl (1, (px_f11 w).set 1 (.ref x.toNatClampNeg)) := rfl
abbrev px_isH (a : Nat) : Prop := a = 1 ∨ a = 6 ∨ a = 12
abbrev px_isS (a : Nat) : Prop := a = 38 ∨ a = 40 ∨ a = 42 ∨ a = 44
abbrev px_isT (T a : Nat) : Prop := a = 17 ∨ (a = 46 ∧ 1 ≤ T) ∨ (70 ≤ a ∧ a < 66 + 2 * T ∧ a % 2 = 0)
theorem cH {a : Nat} (ha : px_isH a) (w : Nat → Int32) : px_cell a w = px_house a w := by rcases ha with rfl | rfl | rfl <;> rfl
theorem cH1 {a : Nat} (ha : px_isH a) (w : Nat → Int32) : px_cell (a + 1) w = px_ia 7 w := by rcases ha with rfl | rfl | rfl <;> rfl
theorem cH2 {a : Nat} (ha : px_isH a) (w : Nat → Int32) : px_cell (a + 2) w = px_ia 7 w := by rcases ha with rfl | rfl | rfl <;> rfl
theorem cH3 {a : Nat} (ha : px_isH a) (w : Nat → Int32) : px_cell (a + 3) w = px_ia 49 w := by rcases ha with rfl | rfl | rfl <;> rfl
theorem cH4 {a : Nat} (ha : px_isH a) (w : Nat → Int32) : px_cell (a + 4) w = px_ia 7 w := by rcases ha with rfl | rfl | rfl <;> rfl
theorem sH_4 {a : Nat} (ha : px_isH a) (w : Nat → Int32) (x : Int32) : px_cell a (upd w 4 x) = .inl (0, ([.ref (a + 1), .ref (a + 2), .ref (a + 3), .ref (a + 4), .int (w 4), .int (w 5), .int (w 6), .int (w 7), .int (w 8), .int (w 9)] : List Value).set 4 (.int x)) := by rcases ha with rfl | rfl | rfl <;> rfl
theorem sH_5 {a : Nat} (ha : px_isH a) (w : Nat → Int32) (x : Int32) : px_cell a (upd w 5 x) = .inl (0, ([.ref (a + 1), .ref (a + 2), .ref (a + 3), .ref (a + 4), .int (w 4), .int (w 5), .int (w 6), .int (w 7), .int (w 8), .int (w 9)] : List Value).set 5 (.int x)) := by rcases ha with rfl | rfl | rfl <;> rfl
theorem sH_6 {a : Nat} (ha : px_isH a) (w : Nat → Int32) (x : Int32) : px_cell a (upd w 6 x) = .inl (0, ([.ref (a + 1), .ref (a + 2), .ref (a + 3), .ref (a + 4), .int (w 4), .int (w 5), .int (w 6), .int (w 7), .int (w 8), .int (w 9)] : List Value).set 6 (.int x)) := by rcases ha with rfl | rfl | rfl <;> rfl
theorem sH_7 {a : Nat} (ha : px_isH a) (w : Nat → Int32) (x : Int32) : px_cell a (upd w 7 x) = .inl (0, ([.ref (a + 1), .ref (a + 2), .ref (a + 3), .ref (a + 4), .int (w 4), .int (w 5), .int (w 6), .int (w 7), .int (w 8), .int (w 9)] : List Value).set 7 (.int x)) := by rcases ha with rfl | rfl | rfl <;> rfl
theorem sH_8 {a : Nat} (ha : px_isH a) (w : Nat → Int32) (x : Int32) : px_cell a (upd w 8 x) = .inl (0, ([.ref (a + 1), .ref (a + 2), .ref (a + 3), .ref (a + 4), .int (w 4), .int (w 5), .int (w 6), .int (w 7), .int (w 8), .int (w 9)] : List Value).set 8 (.int x)) := by rcases ha with rfl | rfl | rfl <;> rfl
theorem sH_9 {a : Nat} (ha : px_isH a) (w : Nat → Int32) (x : Int32) : px_cell a (upd w 9 x) = .inl (0, ([.ref (a + 1), .ref (a + 2), .ref (a + 3), .ref (a + 4), .int (w 4), .int (w 5), .int (w 6), .int (w 7), .int (w 8), .int (w 9)] : List Value).set 9 (.int x)) := by rcases ha with rfl | rfl | rfl <;> rfl
theorem cS {a : Nat} (ha : px_isS a) (w : Nat → Int32) : px_cell a w = px_sheet a w := by rcases ha with rfl | rfl | rfl | rfl <;> rfl
theorem cS1 {a : Nat} (ha : px_isS a) (w : Nat → Int32) : px_cell (a + 1) w = px_ia 40 w := by rcases ha with rfl | rfl | rfl | rfl <;> rfl
theorem sS_1 {a : Nat} (ha : px_isS a) (w : Nat → Int32) (x : Int32) : px_cell a (upd w 1 x) = .inl (3, ([.ref (a + 1), .int (w 1), .int (w 2)] : List Value).set 1 (.int x)) := by rcases ha with rfl | rfl | rfl | rfl <;> rfl
theorem sS_2 {a : Nat} (ha : px_isS a) (w : Nat → Int32) (x : Int32) : px_cell a (upd w 2 x) = .inl (3, ([.ref (a + 1), .int (w 1), .int (w 2)] : List Value).set 2 (.int x)) := by rcases ha with rfl | rfl | rfl | rfl <;> rfl
theorem px_cell_hi (k : Nat) (w : Nat → Int32) : px_cell (k + 70) w = if (k + 70) % 2 = 0 then px_text (k + 70) w else px_code w := rfl
theorem cT {T a : Nat} (ha : px_isT T a) (w : Nat → Int32) : px_cell a w = px_text a w := by
  rcases ha with rfl | ⟨rfl, h0⟩ | ⟨h1, h2, h3⟩
  · rfl
  · rfl
  · obtain ⟨k, rfl⟩ : ∃ k, a = k + 70 := ⟨a - 70, by omega⟩
    rw [px_cell_hi, if_pos h3]
theorem cT1 {T a : Nat} (ha : px_isT T a) (w : Nat → Int32) : px_cell (a + 1) w = px_code w := by
  rcases ha with rfl | ⟨rfl, h0⟩ | ⟨h1, h2, h3⟩
  · rfl
  · rfl
  · obtain ⟨k, rfl⟩ : ∃ k, a = k + 70 := ⟨a - 70, by omega⟩
    rw [show k + 70 + 1 = (k + 1) + 70 by omega, px_cell_hi, if_neg (by omega)]
abbrev px_S : Type := Nat → Nat → Int32
/-- how many places there are: 0 while the class's object is made, 1 behind its TEXT 0, 2 and on with the reference's object and further TEXTS -/
def px_n (T : Nat) : Nat := if T = 0 then 46 else if T = 1 then 48 else 66 + 2 * T
theorem px_n_ge (T : Nat) : 46 ≤ px_n T := by unfold px_n; split <;> (try split) <;> omega
def HP (T : Nat) (st : px_S) : List px_C := (List.range (px_n T)).map (fun k => px_cell k (st k))
def upr (st : px_S) (a : Nat) (w : Nat → Int32) : px_S := fun b => if b = a then w else st b
def up (st : px_S) (a j : Nat) (x : Int32) : px_S := upr st a (upd (st a) j x)
theorem hp_len (T : Nat) (st : px_S) : (HP T st).length = px_n T := by simp [HP]
theorem hp_get {T a : Nat} (st : px_S) (ha : a < px_n T) : (HP T st)[a]? = some (px_cell a (st a)) := by
  simp [HP, List.getElem?_map, List.getElem?_range ha]
theorem px_map_set (f : Nat → (Nat → Int32) → px_C) (N : Nat) (st : px_S) (a : Nat) (w : Nat → Int32) : ((List.range N).map (fun k => f k (st k))).set a (f a w) = (List.range N).map (fun k => f k (upr st a w k)) := by
  apply List.ext_getElem?
  intro i
  rw [List.getElem?_set]
  by_cases hl : i < N
  · have e1 : ((List.range N).map (fun k => f k (upr st a w k)))[i]? = some (f i (upr st a w i)) := by rw [List.getElem?_map, List.getElem?_range hl]; rfl
    have e2 : ((List.range N).map (fun k => f k (st k)))[i]? = some (f i (st i)) := by rw [List.getElem?_map, List.getElem?_range hl]; rfl
    have e3 : ((List.range N).map (fun k => f k (st k))).length = N := by rw [List.length_map, List.length_range]
    rw [e1, e2, e3]
    by_cases hi : a = i
    · subst hi
      rw [if_pos rfl, if_pos hl]
      simp only [upr, if_true]
    · rw [if_neg hi]
      have e : upr st a w i = st i := by simp only [upr, Ne.symm hi, if_false]
      rw [e]
  · have e1 : ((List.range N).map (fun k => f k (upr st a w k)))[i]? = none := List.getElem?_eq_none (by rw [List.length_map, List.length_range]; omega)
    have e2 : ((List.range N).map (fun k => f k (st k)))[i]? = none := List.getElem?_eq_none (by rw [List.length_map, List.length_range]; omega)
    have e3 : ((List.range N).map (fun k => f k (st k))).length = N := by rw [List.length_map, List.length_range]
    rw [e1, e2, e3]
    by_cases hi : a = i
    · rw [if_pos hi, if_neg (by omega)]
    · rw [if_neg hi]
theorem hp_set (T : Nat) (st : px_S) {a : Nat} {w : Nat → Int32} {c : px_C} (hc : px_cell a w = c) : (HP T st).set a c = HP T (upr st a w) := by
  rw [← hc]
  exact px_map_set px_cell (px_n T) st a w
theorem px_nm_upd {n i : Nat} (w : Nat → Int32) (x : Int32) (hi : i < n) : upd (px_nm n w) i x = px_nm n (upd w i x) := by
  funext j
  by_cases hj : j = i
  · subst hj; simp [upd, px_nm, hi]
  · simp [upd, px_nm, hj]
abbrev px_in (i : Int32) (n : Nat) : Prop := 0 ≤ i ∧ i.toNatClampNeg < n
theorem px_in_vp {i : Int32} {n : Nat} (h : px_in i n) : vp_in i n := by
  rintro (q | q)
  · exact Int32.not_lt.mpr h.1 q
  · exact absurd h.2 (Nat.not_lt.mpr q)
theorem px_nm_at {n i : Nat} (w : Nat → Int32) (hi : i < n) : px_nm n w i = w i := by simp [px_nm, hi]
def px_gi (T : Nat) (b : Int32 × px_S) : Option Value × List px_C := (some (.int b.1), HP T b.2)
def px_gl (T : Nat) (b : Int64 × px_S) : Option Value × List px_C := (some (.long b.1), HP T b.2)
def px_gv (T : Nat) (b : px_S) : Option Value × List px_C := (none, HP T b)
def px_gr (T a : Nat) (b : px_S) : Option Value × List px_C := (some (.ref a), HP T b)
def px_g0 (h : List px_C) (b : Int32) : Option Value × List px_C := (some (.int b), h)
/-- fewer locals known -/
def px_le : List (Option Value) → List (Option Value) → Prop
  | [], _ => True
  | none :: a, [] => px_le a []
  | some _ :: _, [] => False
  | none :: a, _ :: b => px_le a b
  | some v :: a, o :: b => o = some v ∧ px_le a b
theorem px_le_at : ∀ (a b : List (Option Value)) (i : Nat) (v : Value), px_le a b → a[i]? = some (some v) → b[i]? = some (some v)
  | [], _, _, _, _, h => by simp at h
  | none :: a, [], 0, _, _, h => by simp at h
  | none :: a, [], i + 1, v, hl, h => by
    have := px_le_at a [] i v hl (by simpa using h)
    simp at this
  | some _ :: _, [], _, _, hl, _ => by cases hl
  | none :: a, o :: b, 0, v, hl, h => by simp at h
  | none :: a, o :: b, i + 1, v, hl, h => by simpa using px_le_at a b i v hl (by simpa using h)
  | some u :: a, o :: b, 0, v, hl, h => by simp at h; subst h; simpa using hl.1
  | some u :: a, o :: b, i + 1, v, hl, h => by simpa using px_le_at a b i v hl.2 (by simpa using h)
section PXH
variable {β : Type} {Z : px_Z} {g : β → Option Value × List px_C} {res A B : Option β} {pc idx : Nat} {L : List (Option Value)} {S S1 : List Value} {T : Nat} {st : px_S} {kc ks : Nat}
theorem o_weak {L' : List (Option Value)} {h : List px_C} (hl : px_le L' L) (K : px_O Z g res pc L' S h kc ks) : px_O Z g res pc L S h kc ks := by
  intro b hb p l e s m args below meth c D ty r0 adV r H locs ls C X Lc
  exact K b hb _ _ _ _ _ _ _ _ _ _ _ _ _ _ _ _ _ C X ⟨Lc.1, Lc.2.1, fun i v hv => Lc.2.2 i v (px_le_at _ _ i v hl hv)⟩
def px_PF (q : vw_C) (k : Nat) (ty : FieldType) : Prop := k < q.2.2 ∧ (q.2.1 k).2.2.2 = false ∧ parseFieldDescriptor (q.2.1 k).2.2.1 = some ty
variable {a ci k n : Nat} {fs : List Value} {q : vw_C}
theorem h_get {v : Value} (hd : decode Z.2.2.2.2.2.1 pc = .ok (.getfield idx, 3)) (hq : vwCl[ci]? = some q) (hl : px_FL Z.2.2.2.2.1.cls idx q k) (hk : k < q.2.2) (ha : a < px_n T) (hc : px_cell a (st a) = .inl (ci, fs)) (hv : fs[k]? = some v) (K : px_O Z g res (pc + 3) L (v :: S) (HP T st) kc ks) : px_O Z g res pc L (.ref a :: S) (HP T st) kc ks :=
  o_get hd hq hl hk (by rw [hp_get st ha, hc]) hv K
theorem h_puti {x : Int32} (hd : decode Z.2.2.2.2.2.1 pc = .ok (.putfield idx, 3)) (hq : vwCl[ci]? = some q) (hl : px_FL Z.2.2.2.2.1.cls idx q k) (hp : px_PF q k .int) (ha : a < px_n T) (hc : px_cell a (st a) = .inl (ci, fs)) (hlen : k < fs.length) (hs : px_cell a (upd (st a) k x) = .inl (ci, fs.set k (.int x))) (K : px_O Z g res (pc + 3) L S (HP T (up st a k x)) kc ks) : px_O Z g res pc L (.int x :: .ref a :: S) (HP T st) kc ks :=
  o_put hd hq hl hp.1 hp.2.1 hp.2.2 (fun _ => rfl) (fun _ => rfl) (by rw [hp_get st ha, hc]) hlen (hp_set T st hs) K
theorem h_putz {x : Int32} (hd : decode Z.2.2.2.2.2.1 pc = .ok (.putfield idx, 3)) (hq : vwCl[ci]? = some q) (hl : px_FL Z.2.2.2.2.1.cls idx q k) (hp : px_PF q k .boolean) (hx : x = 0 ∨ x = 1) (ha : a < px_n T) (hc : px_cell a (st a) = .inl (ci, fs)) (hlen : k < fs.length) (hs : px_cell a (upd (st a) k x) = .inl (ci, fs.set k (.int x))) (K : px_O Z g res (pc + 3) L S (HP T (up st a k x)) kc ks) : px_O Z g res pc L (.int x :: .ref a :: S) (HP T st) kc ks :=
  o_put hd hq hl hp.1 hp.2.1 hp.2.2 (fun _ => by rcases hx with rfl | rfl <;> rfl) (fun _ => by rcases hx with rfl | rfl <;> rfl) (by rw [hp_get st ha, hc]) hlen (hp_set T st hs) K
theorem h_putl {x : Int32} {v : Int64} (hv : x.toInt64 = v) (hd : decode Z.2.2.2.2.2.1 pc = .ok (.putfield idx, 3)) (hq : vwCl[ci]? = some q) (hl : px_FL Z.2.2.2.2.1.cls idx q k) (hp : px_PF q k .long) (ha : a < px_n T) (hc : px_cell a (st a) = .inl (ci, fs)) (hlen : k < fs.length) (hs : px_cell a (upd (st a) k x) = .inl (ci, fs.set k (.long x.toInt64))) (K : px_O Z g res (pc + 3) L S (HP T (up st a k x)) kc ks) : px_O Z g res pc L (.long v :: .ref a :: S) (HP T st) kc ks := by
  subst hv
  exact o_put hd hq hl hp.1 hp.2.1 hp.2.2 (fun _ => rfl) (fun _ => rfl) (by rw [hp_get st ha, hc]) hlen (hp_set T st hs) K
theorem h_putr {x : Int32} {C : String} (hd : decode Z.2.2.2.2.2.1 pc = .ok (.putfield idx, 3)) (hq : vwCl[ci]? = some q) (hl : px_FL Z.2.2.2.2.1.cls idx q k) (hp : px_PF q k (.object C)) (ha : a < px_n T) (hc : px_cell a (st a) = .inl (ci, fs)) (hlen : k < fs.length) (hs : px_cell a (upd (st a) k x) = .inl (ci, fs.set k (.ref x.toNatClampNeg))) (K : px_O Z g res (pc + 3) L S (HP T (up st a k x)) kc ks) : px_O Z g res pc L (.ref x.toNatClampNeg :: .ref a :: S) (HP T st) kc ks :=
  o_put hd hq hl hp.1 hp.2.1 hp.2.2 (fun _ => rfl) (fun _ => rfl) (by rw [hp_get st ha, hc]) hlen (hp_set T st hs) K
theorem h_ald {i : Int32} (hd : decode Z.2.2.2.2.2.1 pc = .ok (.iaload, 1)) (ha : a < px_n T) (hc : px_cell a (st a) = px_ia n (st a)) (hi : px_in i n) (K : px_O Z g res (pc + 1) L (.int (st a i.toNatClampNeg) :: S) (HP T st) kc ks) : px_O Z g res pc L (.int i :: .ref a :: S) (HP T st) kc ks :=
  o_iald (n := n) (f := px_nm n (st a)) hd (by rw [hp_get st ha, hc]) (px_in_vp hi) (by rw [px_nm_at _ hi.2]; exact K)
theorem h_iald {i : Int32} (hd : decode Z.2.2.2.2.2.1 pc = .ok (.iaload, 1)) (ha : a < px_n T) (hc : px_cell a (st a) = px_ia n (st a)) (K : px_in i n → px_O Z g A (pc + 1) L (.int (st a i.toNatClampNeg) :: S) (HP T st) kc ks) : px_O Z g (if px_in i n then A else none) pc L (.int i :: .ref a :: S) (HP T st) kc ks :=
  o_ite (fun hi => h_ald hd ha hc hi (K hi)) (fun _ => o_none)
theorem h_ast {i x : Int32} (hd : decode Z.2.2.2.2.2.1 pc = .ok (.iastore, 1)) (ha : a < px_n T) (hc : ∀ w, px_cell a w = px_ia n w) (hi : px_in i n) (K : px_O Z g res (pc + 1) L S (HP T (up st a i.toNatClampNeg x)) kc ks) : px_O Z g res pc L (.int x :: .int i :: .ref a :: S) (HP T st) kc ks :=
  o_iast (n := n) (f := px_nm n (st a)) hd (by rw [hp_get st ha, hc]) (px_in_vp hi) (hp_set T st (w := upd (st a) i.toNatClampNeg x) (by rw [hc, px_nm_upd _ _ hi.2])) K
theorem h_iast {i x : Int32} (hd : decode Z.2.2.2.2.2.1 pc = .ok (.iastore, 1)) (ha : a < px_n T) (hc : ∀ w, px_cell a w = px_ia n w) (K : px_in i n → px_O Z g A (pc + 1) L S (HP T (up st a i.toNatClampNeg x)) kc ks) : px_O Z g (if px_in i n then A else none) pc L (.int x :: .int i :: .ref a :: S) (HP T st) kc ks :=
  o_ite (fun hi => h_ast hd ha hc hi (K hi)) (fun _ => o_none)
theorem h_zald {i : Int32} (hd : decode Z.2.2.2.2.2.1 pc = .ok (.baload, 1)) (ha : a < px_n T) (hc : px_cell a (st a) = px_za n (st a)) (K : px_in i n → px_O Z g A (pc + 1) L (.int (st a i.toNatClampNeg) :: S) (HP T st) kc ks) : px_O Z g (if px_in i n then A else none) pc L (.int i :: .ref a :: S) (HP T st) kc ks :=
  o_ite (fun hi => o_zald (n := n) (f := px_nm n (st a)) hd (by rw [hp_get st ha, hc]) (px_in_vp hi) (by rw [px_nm_at _ hi.2]; exact K hi)) (fun _ => o_none)
theorem h_zast {i x : Int32} (hd : decode Z.2.2.2.2.2.1 pc = .ok (.bastore, 1)) (ha : a < px_n T) (hc : ∀ w, px_cell a w = px_za n w) (hx : vp_nar .boolean x = x) (K : px_in i n → px_O Z g A (pc + 1) L S (HP T (up st a i.toNatClampNeg x)) kc ks) : px_O Z g (if px_in i n then A else none) pc L (.int x :: .int i :: .ref a :: S) (HP T st) kc ks :=
  o_ite (fun hi => o_zast (n := n) (f := px_nm n (st a)) hd (by rw [hp_get st ha, hc]) (px_in_vp hi) (hp_set T st (w := upd (st a) i.toNatClampNeg x) (by rw [hc, hx, px_nm_upd _ _ hi.2])) (K hi)) (fun _ => o_none)
theorem h_alen {v : Int32} (hd : decode Z.2.2.2.2.2.1 pc = .ok (.arraylength, 1)) (ha : a < px_n T) (hc : px_cell a (st a) = px_ia n (st a)) (hv : Int32.ofNat n = v) (K : px_O Z g res (pc + 1) L (.int v :: S) (HP T st) kc ks) : px_O Z g res pc L (.ref a :: S) (HP T st) kc ks :=
  o_alen (Or.inl rfl) hd (by rw [hp_get st ha, hc]) hv K
/-- sheets[i] -/
theorem h_sald {i : Int32} (hd : decode Z.2.2.2.2.2.1 pc = .ok (.aaload, 1)) (K : px_in i 4 → px_isS (38 + 2 * i.toNatClampNeg) → px_O Z g A (pc + 1) L (.ref (38 + 2 * i.toNatClampNeg) :: S) (HP T st) kc ks) : px_O Z g (if px_in i 4 then A else none) pc L (.int i :: .ref 37 :: S) (HP T st) kc ks :=
  o_ite (fun hi => o_aald (v := .ref (38 + 2 * i.toNatClampNeg)) (Or.inr rfl) hd (by rw [hp_get st (Nat.lt_of_lt_of_le (by decide) (px_n_ge T))]; rfl) (px_in_vp hi) (by simp [hi.2, va_rf]) (K hi (by have := hi.2; unfold px_isS; omega))) (fun _ => o_none)
/-- texts[i] -/
theorem h_tald {i : Int32} (hd : decode Z.2.2.2.2.2.1 pc = .ok (.aaload, 1)) (K : px_in i 6 → ∀ x, x = st 36 i.toNatClampNeg → px_O Z g A (pc + 1) L (va_rf (px_on x) :: S) (HP T st) kc ks) : px_O Z g (if px_in i 6 then A else none) pc L (.int i :: .ref 36 :: S) (HP T st) kc ks :=
  o_ite (fun hi => o_aald (v := va_rf (px_on (st 36 i.toNatClampNeg))) (Or.inl rfl) hd (by rw [hp_get st (Nat.lt_of_lt_of_le (by decide) (px_n_ge T))]; rfl) (px_in_vp hi) (by simp [hi.2]) (K hi _ rfl)) (fun _ => o_none)
theorem px_nm_cpy {n sp dp m : Nat} (w w1 : Nat → Int32) {n1 : Nat} (h1 : sp + m ≤ n) (h2 : dp + m ≤ n1) : va_cpy (px_nm n w) (px_nm n1 w1) sp dp m = px_nm n1 (va_cpy w w1 sp dp m) := by
  funext j
  simp only [va_cpy, px_nm]
  by_cases hj : dp ≤ j ∧ j < dp + m
  · rw [if_pos hj, if_pos hj, if_pos (by omega), if_pos (by omega)]
  · rw [if_neg hj, if_neg hj]
theorem h_copy {a0 n0 n1 : Nat} {sp dp m : Int32} (hd : decode Z.2.2.2.2.2.1 pc = .ok (.invokestatic idx, 3)) (w1 : Cond.methodLink Z.2.2.2.2.1.cls idx arraycopyName ∈ px_T) (w2 : Cond.native arraycopyName ∈ px_T) (w3 : Cond.static arraycopyName ∈ px_T) (w4 : Cond.initialized "java/lang/System" ∈ px_T) (ha0 : a0 < px_n T) (ha : a < px_n T) (hc0 : px_cell a0 (st a0) = px_ia n0 (st a0)) (hc1 : ∀ w, px_cell a w = px_ia n1 w) (hz : 1 ≤ Z.1) (hw : (S.map fun v => v.category).sum ≤ 8) (K : px_O Z g A (pc + 3) L S (HP T (upr st a (va_cpy (st a0) (st a) sp.toNatClampNeg dp.toNatClampNeg m.toNatClampNeg))) kc ks) : px_O Z g (if (¬ sp < 0 ∧ ¬ dp < 0 ∧ ¬ m < 0) ∧ sp.toNatClampNeg + m.toNatClampNeg ≤ n0 ∧ dp.toNatClampNeg + m.toNatClampNeg ≤ n1 then A else none) pc L (.int m :: .int dp :: .ref a :: .int sp :: .ref a0 :: S) (HP T st) kc ks :=
  o_ite (fun q => o_copy (n0 := n0) (n1 := n1) hd w1 w2 w3 w4 (by rw [hp_get st ha0, hc0]) (by rw [hp_get st ha, hc1]) q.1.1 q.1.2.1 q.1.2.2 q.2.1 q.2.2 hz hw (hp_set T st (by rw [hc1, px_nm_cpy _ _ q.2.1 q.2.2])) K) (fun _ => o_none)
end PXH
theorem px_KofH {β : Type} {g : β → Option Value × List px_C} {f : Option β} {b : β} {d mc ms n T : Nat} {st : px_S} {M : px_M} {as : List Value} {L : List (Option Value)} (hf : f = some b) (hm : px_MF M n) (hn : (px_ex as).length ≤ M.2.2.1) (hL : px_ex as ++ List.replicate (M.2.2.1 - (px_ex as).length) none = L) (K : px_O (d, mc, ms, px_n T, M) g f 0 L [] (HP T st) 0 0) : px_K d mc ms M as (HP T st) (g b).1 (g b).2 :=
  px_Kof hf hm hn hL (by rw [hp_len]; exact K)
theorem px_lt {T a : Nat} (h : a < 46) : a < px_n T := Nat.lt_of_lt_of_le h (px_n_ge T)
theorem px_ltM {T a : Nat} (h : a < 70) : a < px_n (T + 2) := by unfold px_n; rw [if_neg (by omega), if_neg (by omega)]; omega
theorem px_ltH {T a : Nat} (j : Nat) (hj : j < 5) (h : px_isH a) : a + j < px_n T := px_lt (by unfold px_isH at h; omega)
theorem px_ltS {T a : Nat} (j : Nat) (hj : j < 2) (h : px_isS a) : a + j < px_n T := px_lt (by unfold px_isS at h; omega)
theorem px_ltT {T a : Nat} (j : Nat) (hj : j < 2) (h : px_isT T a) : a + j < px_n T := by
  rcases h with h | h | h
  · exact px_lt (by omega)
  · unfold px_n; split <;> (try split) <;> omega
  · unfold px_n; rw [if_neg (by omega), if_neg (by omega)]; omega
