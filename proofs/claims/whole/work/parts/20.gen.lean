/-! ThreeOfThem.bit(I)I: P, depth 0 -/
def f_X5_bit (x0 : Int32) : Option (Int32) := (some ((1 : Int32) <<< (x0 &&& 31)))
set_option maxRecDepth 20000 in
theorem t_X5_bit {h : List px_C} (x0 : Int32) : px_O (0, 0, 0, h.length, m_X5_bit) (px_g0 h) (f_X5_bit x0) 0 [some (.int x0)] [] h 0 0 := by
  rw [f_X5_bit]
  refine o_iconst (v := 1) dX5_bit_0 (by decide) ?_
  refine o_iload_n dX5_bit_1 rfl ?_
  refine o_ishl dX5_bit_2 ?_
  exact o_iret (rt := .int) rfl rfl dX5_bit_3 rfl (Nat.zero_le _) (Nat.zero_le _)
theorem k_X5_bit_o {h : List px_C} {x0 : Int32} {b : Int32} (hf : f_X5_bit x0 = some b) : px_K (0) 0 0 m_X5_bit [.int x0] h (some (.int b)) h := px_Kof (g := px_g0 h) hf mf_X5_bit (Nat.le_of_ble_eq_true rfl) rfl (t_X5_bit (h := h) x0)
def p_X5_bit (x0 : Int32) : Int32 := ((1 : Int32) <<< (x0 &&& 31))
theorem e_X5_bit (x0 : Int32) : f_X5_bit x0 = some (p_X5_bit x0) := by
  unfold f_X5_bit p_X5_bit
  simp only [px_ite_some]
theorem k_X5_bit {h : List px_C} {x0 : Int32} : px_K (0) 0 0 m_X5_bit [.int x0] h (some (.int (p_X5_bit x0))) h := k_X5_bit_o (e_X5_bit x0)
/-! ThreeOfThem.has(II)Z: P, depth 0 -/
def f_X5_has (x0 : Int32) (x1 : Int32) : Option (Int32) := (if ((x0.toUInt32 >>> (x1.toUInt32 &&& Int32.toUInt32 31)).toInt32 &&& 1) = 1 then (some 1) else (some 0))
set_option maxRecDepth 20000 in
theorem t_X5_has {h : List px_C} (x0 : Int32) (x1 : Int32) : px_O (0, 0, 0, h.length, m_X5_has) (px_g0 h) (f_X5_has x0 x1) 0 [some (.int x0), some (.int x1)] [] h 0 0 := by
  rw [f_X5_has]
  refine o_iload_n dX5_has_0 rfl ?_
  refine o_iload_n dX5_has_1 rfl ?_
  refine o_iushr dX5_has_2 ?_
  refine o_iconst (v := 1) dX5_has_3 (by decide) ?_
  refine o_iand dX5_has_4 ?_
  refine o_iconst (v := 1) dX5_has_5 (by decide) ?_
  refine o_icmpne (tgt := 13) dX5_has_6 (by decide) (fun u1 => ?_) (fun u1 => ?_)
  · refine o_iconst (v := 0) dX5_has_13 (by decide) ?_
    exact o_iret (rt := .boolean) rfl rfl dX5_has_14 rfl (Nat.zero_le _) (Nat.zero_le _)
  · refine o_iconst (v := 1) dX5_has_9 (by decide) ?_
    refine o_goto (tgt := 14) dX5_has_10 (by decide) ?_
    exact o_iret (rt := .boolean) rfl rfl dX5_has_14 rfl (Nat.zero_le _) (Nat.zero_le _)
theorem k_X5_has_o {h : List px_C} {x0 : Int32} {x1 : Int32} {b : Int32} (hf : f_X5_has x0 x1 = some b) : px_K (0) 0 0 m_X5_has [.int x0, .int x1] h (some (.int b)) h := px_Kof (g := px_g0 h) hf mf_X5_has (Nat.le_of_ble_eq_true rfl) rfl (t_X5_has (h := h) x0 x1)
def p_X5_has (x0 : Int32) (x1 : Int32) : Int32 := (if ((x0.toUInt32 >>> (x1.toUInt32 &&& Int32.toUInt32 31)).toInt32 &&& 1) = 1 then 1 else 0)
theorem e_X5_has (x0 : Int32) (x1 : Int32) : f_X5_has x0 x1 = some (p_X5_has x0 x1) := by
  unfold f_X5_has p_X5_has
  simp only [px_ite_some]
theorem k_X5_has {h : List px_C} {x0 : Int32} {x1 : Int32} : px_K (0) 0 0 m_X5_has [.int x0, .int x1] h (some (.int (p_X5_has x0 x1))) h := k_X5_has_o (e_X5_has x0 x1)
/-! java/lang/Integer.bitCount(I)I: P, depth 0 -/
def f_J6_bitCount_0f7a4 (x0 : Int32) : Option (Int32) := (some ((((((((x0 - ((x0.toUInt32 >>> ((1 : Int32).toUInt32 &&& Int32.toUInt32 31)).toInt32 &&& 1431655765)) &&& 858993459) + (((x0 - ((x0.toUInt32 >>> ((1 : Int32).toUInt32 &&& Int32.toUInt32 31)).toInt32 &&& 1431655765)).toUInt32 >>> ((2 : Int32).toUInt32 &&& Int32.toUInt32 31)).toInt32 &&& 858993459)) + ((((x0 - ((x0.toUInt32 >>> ((1 : Int32).toUInt32 &&& Int32.toUInt32 31)).toInt32 &&& 1431655765)) &&& 858993459) + (((x0 - ((x0.toUInt32 >>> ((1 : Int32).toUInt32 &&& Int32.toUInt32 31)).toInt32 &&& 1431655765)).toUInt32 >>> ((2 : Int32).toUInt32 &&& Int32.toUInt32 31)).toInt32 &&& 858993459)).toUInt32 >>> ((4 : Int32).toUInt32 &&& Int32.toUInt32 31)).toInt32) &&& 252645135) + ((((((x0 - ((x0.toUInt32 >>> ((1 : Int32).toUInt32 &&& Int32.toUInt32 31)).toInt32 &&& 1431655765)) &&& 858993459) + (((x0 - ((x0.toUInt32 >>> ((1 : Int32).toUInt32 &&& Int32.toUInt32 31)).toInt32 &&& 1431655765)).toUInt32 >>> ((2 : Int32).toUInt32 &&& Int32.toUInt32 31)).toInt32 &&& 858993459)) + ((((x0 - ((x0.toUInt32 >>> ((1 : Int32).toUInt32 &&& Int32.toUInt32 31)).toInt32 &&& 1431655765)) &&& 858993459) + (((x0 - ((x0.toUInt32 >>> ((1 : Int32).toUInt32 &&& Int32.toUInt32 31)).toInt32 &&& 1431655765)).toUInt32 >>> ((2 : Int32).toUInt32 &&& Int32.toUInt32 31)).toInt32 &&& 858993459)).toUInt32 >>> ((4 : Int32).toUInt32 &&& Int32.toUInt32 31)).toInt32) &&& 252645135).toUInt32 >>> ((8 : Int32).toUInt32 &&& Int32.toUInt32 31)).toInt32) + (((((((x0 - ((x0.toUInt32 >>> ((1 : Int32).toUInt32 &&& Int32.toUInt32 31)).toInt32 &&& 1431655765)) &&& 858993459) + (((x0 - ((x0.toUInt32 >>> ((1 : Int32).toUInt32 &&& Int32.toUInt32 31)).toInt32 &&& 1431655765)).toUInt32 >>> ((2 : Int32).toUInt32 &&& Int32.toUInt32 31)).toInt32 &&& 858993459)) + ((((x0 - ((x0.toUInt32 >>> ((1 : Int32).toUInt32 &&& Int32.toUInt32 31)).toInt32 &&& 1431655765)) &&& 858993459) + (((x0 - ((x0.toUInt32 >>> ((1 : Int32).toUInt32 &&& Int32.toUInt32 31)).toInt32 &&& 1431655765)).toUInt32 >>> ((2 : Int32).toUInt32 &&& Int32.toUInt32 31)).toInt32 &&& 858993459)).toUInt32 >>> ((4 : Int32).toUInt32 &&& Int32.toUInt32 31)).toInt32) &&& 252645135) + ((((((x0 - ((x0.toUInt32 >>> ((1 : Int32).toUInt32 &&& Int32.toUInt32 31)).toInt32 &&& 1431655765)) &&& 858993459) + (((x0 - ((x0.toUInt32 >>> ((1 : Int32).toUInt32 &&& Int32.toUInt32 31)).toInt32 &&& 1431655765)).toUInt32 >>> ((2 : Int32).toUInt32 &&& Int32.toUInt32 31)).toInt32 &&& 858993459)) + ((((x0 - ((x0.toUInt32 >>> ((1 : Int32).toUInt32 &&& Int32.toUInt32 31)).toInt32 &&& 1431655765)) &&& 858993459) + (((x0 - ((x0.toUInt32 >>> ((1 : Int32).toUInt32 &&& Int32.toUInt32 31)).toInt32 &&& 1431655765)).toUInt32 >>> ((2 : Int32).toUInt32 &&& Int32.toUInt32 31)).toInt32 &&& 858993459)).toUInt32 >>> ((4 : Int32).toUInt32 &&& Int32.toUInt32 31)).toInt32) &&& 252645135).toUInt32 >>> ((8 : Int32).toUInt32 &&& Int32.toUInt32 31)).toInt32).toUInt32 >>> ((16 : Int32).toUInt32 &&& Int32.toUInt32 31)).toInt32) &&& 63))
set_option maxRecDepth 20000 in
theorem t_J6_bitCount_0f7a4 {h : List px_C} (x0 : Int32) : px_O (0, 0, 0, h.length, m_J6_bitCount_0f7a4) (px_g0 h) (f_J6_bitCount_0f7a4 x0) 0 [some (.int x0)] [] h 0 0 := by
  rw [f_J6_bitCount_0f7a4]
  refine o_iload_n dJ6_bitCount_0f7a4_0 rfl ?_
  refine o_iload_n dJ6_bitCount_0f7a4_1 rfl ?_
  refine o_iconst (v := 1) dJ6_bitCount_0f7a4_2 (by decide) ?_
  refine o_iushr dJ6_bitCount_0f7a4_3 ?_
  refine o_ldcw (v := 1431655765) dJ6_bitCount_0f7a4_4 cst_J6_265 ?_
  refine o_iand dJ6_bitCount_0f7a4_7 ?_
  refine o_isub dJ6_bitCount_0f7a4_8 ?_
  refine o_istore_n (L' := [some (.int (x0 - ((x0.toUInt32 >>> ((1 : Int32).toUInt32 &&& Int32.toUInt32 31)).toInt32 &&& 1431655765)))]) dJ6_bitCount_0f7a4_9 (Nat.le_of_ble_eq_true rfl) rfl rfl ?_
  refine o_iload_n dJ6_bitCount_0f7a4_10 rfl ?_
  refine o_ldcw (v := 858993459) dJ6_bitCount_0f7a4_11 cst_J6_266 ?_
  refine o_iand dJ6_bitCount_0f7a4_14 ?_
  refine o_iload_n dJ6_bitCount_0f7a4_15 rfl ?_
  refine o_iconst (v := 2) dJ6_bitCount_0f7a4_16 (by decide) ?_
  refine o_iushr dJ6_bitCount_0f7a4_17 ?_
  refine o_ldcw (v := 858993459) dJ6_bitCount_0f7a4_18 cst_J6_266 ?_
  refine o_iand dJ6_bitCount_0f7a4_21 ?_
  refine o_iadd dJ6_bitCount_0f7a4_22 ?_
  refine o_istore_n (L' := [some (.int (((x0 - ((x0.toUInt32 >>> ((1 : Int32).toUInt32 &&& Int32.toUInt32 31)).toInt32 &&& 1431655765)) &&& 858993459) + (((x0 - ((x0.toUInt32 >>> ((1 : Int32).toUInt32 &&& Int32.toUInt32 31)).toInt32 &&& 1431655765)).toUInt32 >>> ((2 : Int32).toUInt32 &&& Int32.toUInt32 31)).toInt32 &&& 858993459)))]) dJ6_bitCount_0f7a4_23 (Nat.le_of_ble_eq_true rfl) rfl rfl ?_
  refine o_iload_n dJ6_bitCount_0f7a4_24 rfl ?_
  refine o_iload_n dJ6_bitCount_0f7a4_25 rfl ?_
  refine o_iconst (v := 4) dJ6_bitCount_0f7a4_26 (by decide) ?_
  refine o_iushr dJ6_bitCount_0f7a4_27 ?_
  refine o_iadd dJ6_bitCount_0f7a4_28 ?_
  refine o_ldcw (v := 252645135) dJ6_bitCount_0f7a4_29 cst_J6_267 ?_
  refine o_iand dJ6_bitCount_0f7a4_32 ?_
  refine o_istore_n (L' := [some (.int (((((x0 - ((x0.toUInt32 >>> ((1 : Int32).toUInt32 &&& Int32.toUInt32 31)).toInt32 &&& 1431655765)) &&& 858993459) + (((x0 - ((x0.toUInt32 >>> ((1 : Int32).toUInt32 &&& Int32.toUInt32 31)).toInt32 &&& 1431655765)).toUInt32 >>> ((2 : Int32).toUInt32 &&& Int32.toUInt32 31)).toInt32 &&& 858993459)) + ((((x0 - ((x0.toUInt32 >>> ((1 : Int32).toUInt32 &&& Int32.toUInt32 31)).toInt32 &&& 1431655765)) &&& 858993459) + (((x0 - ((x0.toUInt32 >>> ((1 : Int32).toUInt32 &&& Int32.toUInt32 31)).toInt32 &&& 1431655765)).toUInt32 >>> ((2 : Int32).toUInt32 &&& Int32.toUInt32 31)).toInt32 &&& 858993459)).toUInt32 >>> ((4 : Int32).toUInt32 &&& Int32.toUInt32 31)).toInt32) &&& 252645135))]) dJ6_bitCount_0f7a4_33 (Nat.le_of_ble_eq_true rfl) rfl rfl ?_
  refine o_iload_n dJ6_bitCount_0f7a4_34 rfl ?_
  refine o_iload_n dJ6_bitCount_0f7a4_35 rfl ?_
  refine o_bipush (v := 8) dJ6_bitCount_0f7a4_36 (by decide) ?_
  refine o_iushr dJ6_bitCount_0f7a4_38 ?_
  refine o_iadd dJ6_bitCount_0f7a4_39 ?_
  refine o_istore_n (L' := [some (.int ((((((x0 - ((x0.toUInt32 >>> ((1 : Int32).toUInt32 &&& Int32.toUInt32 31)).toInt32 &&& 1431655765)) &&& 858993459) + (((x0 - ((x0.toUInt32 >>> ((1 : Int32).toUInt32 &&& Int32.toUInt32 31)).toInt32 &&& 1431655765)).toUInt32 >>> ((2 : Int32).toUInt32 &&& Int32.toUInt32 31)).toInt32 &&& 858993459)) + ((((x0 - ((x0.toUInt32 >>> ((1 : Int32).toUInt32 &&& Int32.toUInt32 31)).toInt32 &&& 1431655765)) &&& 858993459) + (((x0 - ((x0.toUInt32 >>> ((1 : Int32).toUInt32 &&& Int32.toUInt32 31)).toInt32 &&& 1431655765)).toUInt32 >>> ((2 : Int32).toUInt32 &&& Int32.toUInt32 31)).toInt32 &&& 858993459)).toUInt32 >>> ((4 : Int32).toUInt32 &&& Int32.toUInt32 31)).toInt32) &&& 252645135) + ((((((x0 - ((x0.toUInt32 >>> ((1 : Int32).toUInt32 &&& Int32.toUInt32 31)).toInt32 &&& 1431655765)) &&& 858993459) + (((x0 - ((x0.toUInt32 >>> ((1 : Int32).toUInt32 &&& Int32.toUInt32 31)).toInt32 &&& 1431655765)).toUInt32 >>> ((2 : Int32).toUInt32 &&& Int32.toUInt32 31)).toInt32 &&& 858993459)) + ((((x0 - ((x0.toUInt32 >>> ((1 : Int32).toUInt32 &&& Int32.toUInt32 31)).toInt32 &&& 1431655765)) &&& 858993459) + (((x0 - ((x0.toUInt32 >>> ((1 : Int32).toUInt32 &&& Int32.toUInt32 31)).toInt32 &&& 1431655765)).toUInt32 >>> ((2 : Int32).toUInt32 &&& Int32.toUInt32 31)).toInt32 &&& 858993459)).toUInt32 >>> ((4 : Int32).toUInt32 &&& Int32.toUInt32 31)).toInt32) &&& 252645135).toUInt32 >>> ((8 : Int32).toUInt32 &&& Int32.toUInt32 31)).toInt32))]) dJ6_bitCount_0f7a4_40 (Nat.le_of_ble_eq_true rfl) rfl rfl ?_
  refine o_iload_n dJ6_bitCount_0f7a4_41 rfl ?_
  refine o_iload_n dJ6_bitCount_0f7a4_42 rfl ?_
  refine o_bipush (v := 16) dJ6_bitCount_0f7a4_43 (by decide) ?_
  refine o_iushr dJ6_bitCount_0f7a4_45 ?_
  refine o_iadd dJ6_bitCount_0f7a4_46 ?_
  refine o_istore_n (L' := [some (.int (((((((x0 - ((x0.toUInt32 >>> ((1 : Int32).toUInt32 &&& Int32.toUInt32 31)).toInt32 &&& 1431655765)) &&& 858993459) + (((x0 - ((x0.toUInt32 >>> ((1 : Int32).toUInt32 &&& Int32.toUInt32 31)).toInt32 &&& 1431655765)).toUInt32 >>> ((2 : Int32).toUInt32 &&& Int32.toUInt32 31)).toInt32 &&& 858993459)) + ((((x0 - ((x0.toUInt32 >>> ((1 : Int32).toUInt32 &&& Int32.toUInt32 31)).toInt32 &&& 1431655765)) &&& 858993459) + (((x0 - ((x0.toUInt32 >>> ((1 : Int32).toUInt32 &&& Int32.toUInt32 31)).toInt32 &&& 1431655765)).toUInt32 >>> ((2 : Int32).toUInt32 &&& Int32.toUInt32 31)).toInt32 &&& 858993459)).toUInt32 >>> ((4 : Int32).toUInt32 &&& Int32.toUInt32 31)).toInt32) &&& 252645135) + ((((((x0 - ((x0.toUInt32 >>> ((1 : Int32).toUInt32 &&& Int32.toUInt32 31)).toInt32 &&& 1431655765)) &&& 858993459) + (((x0 - ((x0.toUInt32 >>> ((1 : Int32).toUInt32 &&& Int32.toUInt32 31)).toInt32 &&& 1431655765)).toUInt32 >>> ((2 : Int32).toUInt32 &&& Int32.toUInt32 31)).toInt32 &&& 858993459)) + ((((x0 - ((x0.toUInt32 >>> ((1 : Int32).toUInt32 &&& Int32.toUInt32 31)).toInt32 &&& 1431655765)) &&& 858993459) + (((x0 - ((x0.toUInt32 >>> ((1 : Int32).toUInt32 &&& Int32.toUInt32 31)).toInt32 &&& 1431655765)).toUInt32 >>> ((2 : Int32).toUInt32 &&& Int32.toUInt32 31)).toInt32 &&& 858993459)).toUInt32 >>> ((4 : Int32).toUInt32 &&& Int32.toUInt32 31)).toInt32) &&& 252645135).toUInt32 >>> ((8 : Int32).toUInt32 &&& Int32.toUInt32 31)).toInt32) + (((((((x0 - ((x0.toUInt32 >>> ((1 : Int32).toUInt32 &&& Int32.toUInt32 31)).toInt32 &&& 1431655765)) &&& 858993459) + (((x0 - ((x0.toUInt32 >>> ((1 : Int32).toUInt32 &&& Int32.toUInt32 31)).toInt32 &&& 1431655765)).toUInt32 >>> ((2 : Int32).toUInt32 &&& Int32.toUInt32 31)).toInt32 &&& 858993459)) + ((((x0 - ((x0.toUInt32 >>> ((1 : Int32).toUInt32 &&& Int32.toUInt32 31)).toInt32 &&& 1431655765)) &&& 858993459) + (((x0 - ((x0.toUInt32 >>> ((1 : Int32).toUInt32 &&& Int32.toUInt32 31)).toInt32 &&& 1431655765)).toUInt32 >>> ((2 : Int32).toUInt32 &&& Int32.toUInt32 31)).toInt32 &&& 858993459)).toUInt32 >>> ((4 : Int32).toUInt32 &&& Int32.toUInt32 31)).toInt32) &&& 252645135) + ((((((x0 - ((x0.toUInt32 >>> ((1 : Int32).toUInt32 &&& Int32.toUInt32 31)).toInt32 &&& 1431655765)) &&& 858993459) + (((x0 - ((x0.toUInt32 >>> ((1 : Int32).toUInt32 &&& Int32.toUInt32 31)).toInt32 &&& 1431655765)).toUInt32 >>> ((2 : Int32).toUInt32 &&& Int32.toUInt32 31)).toInt32 &&& 858993459)) + ((((x0 - ((x0.toUInt32 >>> ((1 : Int32).toUInt32 &&& Int32.toUInt32 31)).toInt32 &&& 1431655765)) &&& 858993459) + (((x0 - ((x0.toUInt32 >>> ((1 : Int32).toUInt32 &&& Int32.toUInt32 31)).toInt32 &&& 1431655765)).toUInt32 >>> ((2 : Int32).toUInt32 &&& Int32.toUInt32 31)).toInt32 &&& 858993459)).toUInt32 >>> ((4 : Int32).toUInt32 &&& Int32.toUInt32 31)).toInt32) &&& 252645135).toUInt32 >>> ((8 : Int32).toUInt32 &&& Int32.toUInt32 31)).toInt32).toUInt32 >>> ((16 : Int32).toUInt32 &&& Int32.toUInt32 31)).toInt32))]) dJ6_bitCount_0f7a4_47 (Nat.le_of_ble_eq_true rfl) rfl rfl ?_
  refine o_iload_n dJ6_bitCount_0f7a4_48 rfl ?_
  refine o_bipush (v := 63) dJ6_bitCount_0f7a4_49 (by decide) ?_
  refine o_iand dJ6_bitCount_0f7a4_51 ?_
  exact o_iret (rt := .int) rfl rfl dJ6_bitCount_0f7a4_52 rfl (Nat.zero_le _) (Nat.zero_le _)
theorem k_J6_bitCount_0f7a4_o {h : List px_C} {x0 : Int32} {b : Int32} (hf : f_J6_bitCount_0f7a4 x0 = some b) : px_K (0) 0 0 m_J6_bitCount_0f7a4 [.int x0] h (some (.int b)) h := px_Kof (g := px_g0 h) hf mf_J6_bitCount_0f7a4 (Nat.le_of_ble_eq_true rfl) rfl (t_J6_bitCount_0f7a4 (h := h) x0)
def p_J6_bitCount_0f7a4 (x0 : Int32) : Int32 := ((((((((x0 - ((x0.toUInt32 >>> ((1 : Int32).toUInt32 &&& Int32.toUInt32 31)).toInt32 &&& 1431655765)) &&& 858993459) + (((x0 - ((x0.toUInt32 >>> ((1 : Int32).toUInt32 &&& Int32.toUInt32 31)).toInt32 &&& 1431655765)).toUInt32 >>> ((2 : Int32).toUInt32 &&& Int32.toUInt32 31)).toInt32 &&& 858993459)) + ((((x0 - ((x0.toUInt32 >>> ((1 : Int32).toUInt32 &&& Int32.toUInt32 31)).toInt32 &&& 1431655765)) &&& 858993459) + (((x0 - ((x0.toUInt32 >>> ((1 : Int32).toUInt32 &&& Int32.toUInt32 31)).toInt32 &&& 1431655765)).toUInt32 >>> ((2 : Int32).toUInt32 &&& Int32.toUInt32 31)).toInt32 &&& 858993459)).toUInt32 >>> ((4 : Int32).toUInt32 &&& Int32.toUInt32 31)).toInt32) &&& 252645135) + ((((((x0 - ((x0.toUInt32 >>> ((1 : Int32).toUInt32 &&& Int32.toUInt32 31)).toInt32 &&& 1431655765)) &&& 858993459) + (((x0 - ((x0.toUInt32 >>> ((1 : Int32).toUInt32 &&& Int32.toUInt32 31)).toInt32 &&& 1431655765)).toUInt32 >>> ((2 : Int32).toUInt32 &&& Int32.toUInt32 31)).toInt32 &&& 858993459)) + ((((x0 - ((x0.toUInt32 >>> ((1 : Int32).toUInt32 &&& Int32.toUInt32 31)).toInt32 &&& 1431655765)) &&& 858993459) + (((x0 - ((x0.toUInt32 >>> ((1 : Int32).toUInt32 &&& Int32.toUInt32 31)).toInt32 &&& 1431655765)).toUInt32 >>> ((2 : Int32).toUInt32 &&& Int32.toUInt32 31)).toInt32 &&& 858993459)).toUInt32 >>> ((4 : Int32).toUInt32 &&& Int32.toUInt32 31)).toInt32) &&& 252645135).toUInt32 >>> ((8 : Int32).toUInt32 &&& Int32.toUInt32 31)).toInt32) + (((((((x0 - ((x0.toUInt32 >>> ((1 : Int32).toUInt32 &&& Int32.toUInt32 31)).toInt32 &&& 1431655765)) &&& 858993459) + (((x0 - ((x0.toUInt32 >>> ((1 : Int32).toUInt32 &&& Int32.toUInt32 31)).toInt32 &&& 1431655765)).toUInt32 >>> ((2 : Int32).toUInt32 &&& Int32.toUInt32 31)).toInt32 &&& 858993459)) + ((((x0 - ((x0.toUInt32 >>> ((1 : Int32).toUInt32 &&& Int32.toUInt32 31)).toInt32 &&& 1431655765)) &&& 858993459) + (((x0 - ((x0.toUInt32 >>> ((1 : Int32).toUInt32 &&& Int32.toUInt32 31)).toInt32 &&& 1431655765)).toUInt32 >>> ((2 : Int32).toUInt32 &&& Int32.toUInt32 31)).toInt32 &&& 858993459)).toUInt32 >>> ((4 : Int32).toUInt32 &&& Int32.toUInt32 31)).toInt32) &&& 252645135) + ((((((x0 - ((x0.toUInt32 >>> ((1 : Int32).toUInt32 &&& Int32.toUInt32 31)).toInt32 &&& 1431655765)) &&& 858993459) + (((x0 - ((x0.toUInt32 >>> ((1 : Int32).toUInt32 &&& Int32.toUInt32 31)).toInt32 &&& 1431655765)).toUInt32 >>> ((2 : Int32).toUInt32 &&& Int32.toUInt32 31)).toInt32 &&& 858993459)) + ((((x0 - ((x0.toUInt32 >>> ((1 : Int32).toUInt32 &&& Int32.toUInt32 31)).toInt32 &&& 1431655765)) &&& 858993459) + (((x0 - ((x0.toUInt32 >>> ((1 : Int32).toUInt32 &&& Int32.toUInt32 31)).toInt32 &&& 1431655765)).toUInt32 >>> ((2 : Int32).toUInt32 &&& Int32.toUInt32 31)).toInt32 &&& 858993459)).toUInt32 >>> ((4 : Int32).toUInt32 &&& Int32.toUInt32 31)).toInt32) &&& 252645135).toUInt32 >>> ((8 : Int32).toUInt32 &&& Int32.toUInt32 31)).toInt32).toUInt32 >>> ((16 : Int32).toUInt32 &&& Int32.toUInt32 31)).toInt32) &&& 63)
theorem e_J6_bitCount_0f7a4 (x0 : Int32) : f_J6_bitCount_0f7a4 x0 = some (p_J6_bitCount_0f7a4 x0) := by
  unfold f_J6_bitCount_0f7a4 p_J6_bitCount_0f7a4
  simp only [px_ite_some]
theorem k_J6_bitCount_0f7a4 {h : List px_C} {x0 : Int32} : px_K (0) 0 0 m_J6_bitCount_0f7a4 [.int x0] h (some (.int (p_J6_bitCount_0f7a4 x0))) h := k_J6_bitCount_0f7a4_o (e_J6_bitCount_0f7a4 x0)
/-! ThreeOfThem.bringsAs(III)I: L, depth 4 -/
def f_X5_bringsAs_b (rf : Int32 → Int32 → Int32 → Option Int32) (x0 : Int32) (x1 : Int32) (x2 : Int32) : Option (Int32) := (if x0 = 1 then (some (x1 + x2)) else (if x0 = 2 then (if x2 < 4 then (some x1) else ((rf 0 x1 x2).bind fun b4 => (some b4))) else (if x0 = 3 then ((rf 1 x1 x2).bind fun b6 => (some ((2 : Int32) * b6))) else (if x0 = 4 then ((rf 2 x1 x2).bind fun b8 => (some (b8 - 3))) else (if x0 = 5 then ((rf 1 x1 x2).bind fun b10 => (some (b10 - 12))) else (some 0))))))
set_option maxRecDepth 20000 in
theorem t_X5_bringsAs_b {dR : Nat} {h : List px_C} (rf : Int32 → Int32 → Int32 → Option Int32) (hr : ∀ (x0 x1 x2 b : Int32), rf x0 x1 x2 = some b → px_K dR 0 0 m_X5_bringsAs [.int x0, .int x1, .int x2] h (some (.int b)) h) (x0 : Int32) (x1 : Int32) (x2 : Int32) : px_O (dR + 1, 0, 0, h.length, m_X5_bringsAs) (px_g0 h) (f_X5_bringsAs_b rf x0 x1 x2) 0 [some (.int x0), some (.int x1), some (.int x2)] [] h 0 0 := by
  rw [f_X5_bringsAs_b]
  refine o_iload_n dX5_bringsAs_0 rfl ?_
  refine o_ite (fun u1 => ?_) (fun u1 => ?_)
  · refine o_tabIn (tgt := 36) dX5_bringsAs_1 (by rw [u1]; decide) (by rw [u1]; decide) (by rw [u1]; rfl) (by decide) ?_
    refine o_iload_n dX5_bringsAs_36 rfl ?_
    refine o_iload_n dX5_bringsAs_37 rfl ?_
    refine o_iadd dX5_bringsAs_38 ?_
    exact o_iret (rt := .int) rfl rfl dX5_bringsAs_39 rfl (Nat.zero_le _) (Nat.zero_le _)
  · refine o_ite (fun u2 => ?_) (fun u2 => ?_)
    · refine o_tabIn (tgt := 40) dX5_bringsAs_1 (by rw [u2]; decide) (by rw [u2]; decide) (by rw [u2]; rfl) (by decide) ?_
      refine o_iload_n dX5_bringsAs_40 rfl ?_
      refine o_iconst (v := 4) dX5_bringsAs_41 (by decide) ?_
      refine o_icmpge (tgt := 49) dX5_bringsAs_42 (by decide) (fun u3 => ?_) (fun u3 => ?_)
      · refine o_iconst (v := 0) dX5_bringsAs_49 (by decide) ?_
        refine o_iload_n dX5_bringsAs_50 rfl ?_
        refine o_iload_n dX5_bringsAs_51 rfl ?_
        refine h_cS0 (as := [.int 0, .int x1, .int x2]) (S1 := []) (d' := (dR)) dX5_bringsAs_52 mf_X5_bringsAs ml_X5_315 ms_X5_bringsAs rfl (show dR + 1 ≤ dR + 1 by omega) rfl (Nat.le_of_ble_eq_true rfl) ⟨Nat.zero_le _, Nat.zero_le _⟩ (fun b hb => hr _ _ _ b hb) (fun b4 hb4 => ?_)
        exact o_iret (rt := .int) rfl rfl dX5_bringsAs_55 rfl (Nat.zero_le _) (Nat.zero_le _)
      · refine o_iload_n dX5_bringsAs_45 rfl ?_
        refine o_goto (tgt := 55) dX5_bringsAs_46 (by decide) ?_
        exact o_iret (rt := .int) rfl rfl dX5_bringsAs_55 rfl (Nat.zero_le _) (Nat.zero_le _)
    · refine o_ite (fun u5 => ?_) (fun u5 => ?_)
      · refine o_tabIn (tgt := 56) dX5_bringsAs_1 (by rw [u5]; decide) (by rw [u5]; decide) (by rw [u5]; rfl) (by decide) ?_
        refine o_iconst (v := 2) dX5_bringsAs_56 (by decide) ?_
        refine o_iconst (v := 1) dX5_bringsAs_57 (by decide) ?_
        refine o_iload_n dX5_bringsAs_58 rfl ?_
        refine o_iload_n dX5_bringsAs_59 rfl ?_
        refine h_cS0 (as := [.int 1, .int x1, .int x2]) (S1 := [.int 2]) (d' := (dR)) dX5_bringsAs_60 mf_X5_bringsAs ml_X5_315 ms_X5_bringsAs rfl (show dR + 1 ≤ dR + 1 by omega) rfl (Nat.le_of_ble_eq_true rfl) ⟨Nat.zero_le _, Nat.zero_le _⟩ (fun b hb => hr _ _ _ b hb) (fun b6 hb6 => ?_)
        refine o_imul dX5_bringsAs_63 ?_
        exact o_iret (rt := .int) rfl rfl dX5_bringsAs_64 rfl (Nat.zero_le _) (Nat.zero_le _)
      · refine o_ite (fun u7 => ?_) (fun u7 => ?_)
        · refine o_tabIn (tgt := 65) dX5_bringsAs_1 (by rw [u7]; decide) (by rw [u7]; decide) (by rw [u7]; rfl) (by decide) ?_
          refine o_iconst (v := 2) dX5_bringsAs_65 (by decide) ?_
          refine o_iload_n dX5_bringsAs_66 rfl ?_
          refine o_iload_n dX5_bringsAs_67 rfl ?_
          refine h_cS0 (as := [.int 2, .int x1, .int x2]) (S1 := []) (d' := (dR)) dX5_bringsAs_68 mf_X5_bringsAs ml_X5_315 ms_X5_bringsAs rfl (show dR + 1 ≤ dR + 1 by omega) rfl (Nat.le_of_ble_eq_true rfl) ⟨Nat.zero_le _, Nat.zero_le _⟩ (fun b hb => hr _ _ _ b hb) (fun b8 hb8 => ?_)
          refine o_iconst (v := 3) dX5_bringsAs_71 (by decide) ?_
          refine o_isub dX5_bringsAs_72 ?_
          exact o_iret (rt := .int) rfl rfl dX5_bringsAs_73 rfl (Nat.zero_le _) (Nat.zero_le _)
        · refine o_ite (fun u9 => ?_) (fun u9 => ?_)
          · refine o_tabIn (tgt := 74) dX5_bringsAs_1 (by rw [u9]; decide) (by rw [u9]; decide) (by rw [u9]; rfl) (by decide) ?_
            refine o_iconst (v := 1) dX5_bringsAs_74 (by decide) ?_
            refine o_iload_n dX5_bringsAs_75 rfl ?_
            refine o_iload_n dX5_bringsAs_76 rfl ?_
            refine h_cS0 (as := [.int 1, .int x1, .int x2]) (S1 := []) (d' := (dR)) dX5_bringsAs_77 mf_X5_bringsAs ml_X5_315 ms_X5_bringsAs rfl (show dR + 1 ≤ dR + 1 by omega) rfl (Nat.le_of_ble_eq_true rfl) ⟨Nat.zero_le _, Nat.zero_le _⟩ (fun b hb => hr _ _ _ b hb) (fun b10 hb10 => ?_)
            refine o_bipush (v := 12) dX5_bringsAs_80 (by decide) ?_
            refine o_isub dX5_bringsAs_82 ?_
            exact o_iret (rt := .int) rfl rfl dX5_bringsAs_83 rfl (Nat.zero_le _) (Nat.zero_le _)
          · refine o_tabOut (tgt := 84) dX5_bringsAs_1 (by
              have z := px_out (x := x0) 1 5 (by decide) (by decide) (fun k hk => by
                rcases (show k = 0 ∨ k = 1 ∨ k = 2 ∨ k = 3 ∨ k = 4 by omega) with rfl | rfl | rfl | rfl | rfl
                · exact u1
                · exact u2
                · exact u5
                · exact u7
                · exact u9)
              omega) (by decide) ?_
            refine o_iconst (v := 0) dX5_bringsAs_84 (by decide) ?_
            exact o_iret (rt := .int) rfl rfl dX5_bringsAs_85 rfl (Nat.zero_le _) (Nat.zero_le _)
theorem k_X5_bringsAs_b_o {dR : Nat} {h : List px_C} {rf : Int32 → Int32 → Int32 → Option Int32} {x0 : Int32} {x1 : Int32} {x2 : Int32} {b : Int32} (hr : ∀ (x0 x1 x2 b : Int32), rf x0 x1 x2 = some b → px_K dR 0 0 m_X5_bringsAs [.int x0, .int x1, .int x2] h (some (.int b)) h) (hf : f_X5_bringsAs_b rf x0 x1 x2 = some b) : px_K (dR + 1) 0 0 m_X5_bringsAs [.int x0, .int x1, .int x2] h (some (.int b)) h := px_Kof (g := px_g0 h) hf mf_X5_bringsAs (Nat.le_of_ble_eq_true rfl) rfl (t_X5_bringsAs_b (h := h) rf hr x0 x1 x2)
theorem k_X5_bringsAs_b {dR : Nat} {h : List px_C} {rf : Int32 → Int32 → Int32 → Option Int32} {x0 : Int32} {x1 : Int32} {x2 : Int32} {b : Int32} (hr : ∀ (x0 x1 x2 b : Int32), rf x0 x1 x2 = some b → px_K dR 0 0 m_X5_bringsAs [.int x0, .int x1, .int x2] h (some (.int b)) h) (hf : f_X5_bringsAs_b rf x0 x1 x2 = some b) : px_K (dR + 1) 0 0 m_X5_bringsAs [.int x0, .int x1, .int x2] h (some (.int b)) h := k_X5_bringsAs_b_o hr hf
def f_X5_bringsAs (x0 x1 x2 : Int32) : Option Int32 := f_X5_bringsAs_b (f_X5_bringsAs_b (f_X5_bringsAs_b (f_X5_bringsAs_b (fun _ _ _ => none)))) x0 x1 x2
theorem k_X5_bringsAs {h : List px_C} {x0 x1 x2 b : Int32} (hf : f_X5_bringsAs x0 x1 x2 = some b) : px_K 4 0 0 m_X5_bringsAs [.int x0, .int x1, .int x2] h (some (.int b)) h := k_X5_bringsAs_b (dR := 3) (fun _ _ _ b hb => k_X5_bringsAs_b (dR := 2) (fun _ _ _ b hb => k_X5_bringsAs_b (dR := 1) (fun _ _ _ b hb => k_X5_bringsAs_b (dR := 0) (rf := fun _ _ _ => none) (fun _ _ _ b hb => by cases hb) hb) hb) hb) hf
/-! ThreeOfThem.wantsAs(IIIZ)I: L, depth 4 -/
def f_X5_wantsAs_b_81 (rf : Int32 → Int32 → Int32 → Int32 → Option Int32) (y1 : Int32) (y2 : Int32) (y3 : Int32) (z0 : Int32) : Option (Int32) := ((rf 2 y1 y2 y3).bind fun b1 => (some (z0 * b1)))
set_option maxRecDepth 20000 in
theorem t_X5_wantsAs_b_81 {dR : Nat} {h : List px_C} (rf : Int32 → Int32 → Int32 → Int32 → Option Int32) (hr : ∀ (x0 x1 x2 x3 b : Int32), rf x0 x1 x2 x3 = some b → px_K dR 0 0 m_X5_wantsAs [.int x0, .int x1, .int x2, .int x3] h (some (.int b)) h) (y1 : Int32) (y2 : Int32) (y3 : Int32) (z0 : Int32) : px_O (dR + 1, 0, 0, h.length, m_X5_wantsAs) (px_g0 h) (f_X5_wantsAs_b_81 rf y1 y2 y3 z0) 81 [none, some (.int y1), some (.int y2), some (.int y3)] [.int z0] h 0 0 := by
  rw [f_X5_wantsAs_b_81]
  refine o_iconst (v := 2) dX5_wantsAs_81 (by decide) ?_
  refine o_iload_n dX5_wantsAs_82 rfl ?_
  refine o_iload_n dX5_wantsAs_83 rfl ?_
  refine o_iload_n dX5_wantsAs_84 rfl ?_
  refine h_cS0 (as := [.int 2, .int y1, .int y2, .int y3]) (S1 := [.int z0]) (d' := (dR)) dX5_wantsAs_85 mf_X5_wantsAs ml_X5_318 ms_X5_wantsAs rfl (show dR + 1 ≤ dR + 1 by omega) rfl (Nat.le_of_ble_eq_true rfl) ⟨Nat.zero_le _, Nat.zero_le _⟩ (fun b hb => hr _ _ _ _ b hb) (fun b1 hb1 => ?_)
  refine o_imul dX5_wantsAs_88 ?_
  exact o_iret (rt := .int) rfl rfl dX5_wantsAs_89 rfl (Nat.zero_le _) (Nat.zero_le _)
def f_X5_wantsAs_b (rf : Int32 → Int32 → Int32 → Int32 → Option Int32) (x0 : Int32) (x1 : Int32) (x2 : Int32) (x3 : Int32) : Option (Int32) := (if x0 = 1 then ((rf 0 x1 x2 x3).bind fun b3 => (some (b3 + x2))) else (if x0 = 2 then ((rf 0 x1 x2 x3).bind fun b5 => (some (b5 + x1))) else (if x0 = 3 then (if x3 = 0 then (some 0) else ((rf 1 x1 x2 1).bind fun b8 => (some b8))) else (if x0 = 4 then (if x3 = 0 then (f_X5_wantsAs_b_81 rf x1 x2 x3 1) else (f_X5_wantsAs_b_81 rf x1 x2 x3 2)) else (if x0 = 5 then ((rf 1 x1 x2 x3).bind fun b12 => (some (b12 - 5))) else (some 1))))))
set_option maxRecDepth 20000 in
theorem t_X5_wantsAs_b {dR : Nat} {h : List px_C} (rf : Int32 → Int32 → Int32 → Int32 → Option Int32) (hr : ∀ (x0 x1 x2 x3 b : Int32), rf x0 x1 x2 x3 = some b → px_K dR 0 0 m_X5_wantsAs [.int x0, .int x1, .int x2, .int x3] h (some (.int b)) h) (x0 : Int32) (x1 : Int32) (x2 : Int32) (x3 : Int32) : px_O (dR + 1, 0, 0, h.length, m_X5_wantsAs) (px_g0 h) (f_X5_wantsAs_b rf x0 x1 x2 x3) 0 [some (.int x0), some (.int x1), some (.int x2), some (.int x3)] [] h 0 0 := by
  rw [f_X5_wantsAs_b]
  refine o_iload_n dX5_wantsAs_0 rfl ?_
  refine o_ite (fun u2 => ?_) (fun u2 => ?_)
  · refine o_tabIn (tgt := 36) dX5_wantsAs_1 (by rw [u2]; decide) (by rw [u2]; decide) (by rw [u2]; rfl) (by decide) ?_
    refine o_iconst (v := 0) dX5_wantsAs_36 (by decide) ?_
    refine o_iload_n dX5_wantsAs_37 rfl ?_
    refine o_iload_n dX5_wantsAs_38 rfl ?_
    refine o_iload_n dX5_wantsAs_39 rfl ?_
    refine h_cS0 (as := [.int 0, .int x1, .int x2, .int x3]) (S1 := []) (d' := (dR)) dX5_wantsAs_40 mf_X5_wantsAs ml_X5_318 ms_X5_wantsAs rfl (show dR + 1 ≤ dR + 1 by omega) rfl (Nat.le_of_ble_eq_true rfl) ⟨Nat.zero_le _, Nat.zero_le _⟩ (fun b hb => hr _ _ _ _ b hb) (fun b3 hb3 => ?_)
    refine o_iload_n dX5_wantsAs_43 rfl ?_
    refine o_iadd dX5_wantsAs_44 ?_
    exact o_iret (rt := .int) rfl rfl dX5_wantsAs_45 rfl (Nat.zero_le _) (Nat.zero_le _)
  · refine o_ite (fun u4 => ?_) (fun u4 => ?_)
    · refine o_tabIn (tgt := 46) dX5_wantsAs_1 (by rw [u4]; decide) (by rw [u4]; decide) (by rw [u4]; rfl) (by decide) ?_
      refine o_iconst (v := 0) dX5_wantsAs_46 (by decide) ?_
      refine o_iload_n dX5_wantsAs_47 rfl ?_
      refine o_iload_n dX5_wantsAs_48 rfl ?_
      refine o_iload_n dX5_wantsAs_49 rfl ?_
      refine h_cS0 (as := [.int 0, .int x1, .int x2, .int x3]) (S1 := []) (d' := (dR)) dX5_wantsAs_50 mf_X5_wantsAs ml_X5_318 ms_X5_wantsAs rfl (show dR + 1 ≤ dR + 1 by omega) rfl (Nat.le_of_ble_eq_true rfl) ⟨Nat.zero_le _, Nat.zero_le _⟩ (fun b hb => hr _ _ _ _ b hb) (fun b5 hb5 => ?_)
      refine o_iload_n dX5_wantsAs_53 rfl ?_
      refine o_iadd dX5_wantsAs_54 ?_
      exact o_iret (rt := .int) rfl rfl dX5_wantsAs_55 rfl (Nat.zero_le _) (Nat.zero_le _)
    · refine o_ite (fun u6 => ?_) (fun u6 => ?_)
      · refine o_tabIn (tgt := 56) dX5_wantsAs_1 (by rw [u6]; decide) (by rw [u6]; decide) (by rw [u6]; rfl) (by decide) ?_
        refine o_iload_n dX5_wantsAs_56 rfl ?_
        refine o_ifeq (tgt := 70) dX5_wantsAs_57 (by decide) (fun u7 => ?_) (fun u7 => ?_)
        · refine o_iconst (v := 0) dX5_wantsAs_70 (by decide) ?_
          exact o_iret (rt := .int) rfl rfl dX5_wantsAs_71 rfl (Nat.zero_le _) (Nat.zero_le _)
        · refine o_iconst (v := 1) dX5_wantsAs_60 (by decide) ?_
          refine o_iload_n dX5_wantsAs_61 rfl ?_
          refine o_iload_n dX5_wantsAs_62 rfl ?_
          refine o_iconst (v := 1) dX5_wantsAs_63 (by decide) ?_
          refine h_cS0 (as := [.int 1, .int x1, .int x2, .int 1]) (S1 := []) (d' := (dR)) dX5_wantsAs_64 mf_X5_wantsAs ml_X5_318 ms_X5_wantsAs rfl (show dR + 1 ≤ dR + 1 by omega) rfl (Nat.le_of_ble_eq_true rfl) ⟨Nat.zero_le _, Nat.zero_le _⟩ (fun b hb => hr _ _ _ _ b hb) (fun b8 hb8 => ?_)
          refine o_goto (tgt := 71) dX5_wantsAs_67 (by decide) ?_
          exact o_iret (rt := .int) rfl rfl dX5_wantsAs_71 rfl (Nat.zero_le _) (Nat.zero_le _)
      · refine o_ite (fun u9 => ?_) (fun u9 => ?_)
        · refine o_tabIn (tgt := 72) dX5_wantsAs_1 (by rw [u9]; decide) (by rw [u9]; decide) (by rw [u9]; rfl) (by decide) ?_
          refine o_iload_n dX5_wantsAs_72 rfl ?_
          refine o_ifeq (tgt := 80) dX5_wantsAs_73 (by decide) (fun u10 => ?_) (fun u10 => ?_)
          · refine o_iconst (v := 1) dX5_wantsAs_80 (by decide) ?_
            exact o_weak (L' := [none, some (.int x1), some (.int x2), some (.int x3)]) ⟨rfl, ⟨rfl, ⟨rfl, trivial⟩⟩⟩ (t_X5_wantsAs_b_81 (h := h) rf hr x1 x2 x3 1)
          · refine o_iconst (v := 2) dX5_wantsAs_76 (by decide) ?_
            refine o_goto (tgt := 81) dX5_wantsAs_77 (by decide) ?_
            exact o_weak (L' := [none, some (.int x1), some (.int x2), some (.int x3)]) ⟨rfl, ⟨rfl, ⟨rfl, trivial⟩⟩⟩ (t_X5_wantsAs_b_81 (h := h) rf hr x1 x2 x3 2)
        · refine o_ite (fun u11 => ?_) (fun u11 => ?_)
          · refine o_tabIn (tgt := 90) dX5_wantsAs_1 (by rw [u11]; decide) (by rw [u11]; decide) (by rw [u11]; rfl) (by decide) ?_
            refine o_iconst (v := 1) dX5_wantsAs_90 (by decide) ?_
            refine o_iload_n dX5_wantsAs_91 rfl ?_
            refine o_iload_n dX5_wantsAs_92 rfl ?_
            refine o_iload_n dX5_wantsAs_93 rfl ?_
            refine h_cS0 (as := [.int 1, .int x1, .int x2, .int x3]) (S1 := []) (d' := (dR)) dX5_wantsAs_94 mf_X5_wantsAs ml_X5_318 ms_X5_wantsAs rfl (show dR + 1 ≤ dR + 1 by omega) rfl (Nat.le_of_ble_eq_true rfl) ⟨Nat.zero_le _, Nat.zero_le _⟩ (fun b hb => hr _ _ _ _ b hb) (fun b12 hb12 => ?_)
            refine o_iconst (v := 5) dX5_wantsAs_97 (by decide) ?_
            refine o_isub dX5_wantsAs_98 ?_
            exact o_iret (rt := .int) rfl rfl dX5_wantsAs_99 rfl (Nat.zero_le _) (Nat.zero_le _)
          · refine o_tabOut (tgt := 100) dX5_wantsAs_1 (by
              have z := px_out (x := x0) 1 5 (by decide) (by decide) (fun k hk => by
                rcases (show k = 0 ∨ k = 1 ∨ k = 2 ∨ k = 3 ∨ k = 4 by omega) with rfl | rfl | rfl | rfl | rfl
                · exact u2
                · exact u4
                · exact u6
                · exact u9
                · exact u11)
              omega) (by decide) ?_
            refine o_iconst (v := 1) dX5_wantsAs_100 (by decide) ?_
            exact o_iret (rt := .int) rfl rfl dX5_wantsAs_101 rfl (Nat.zero_le _) (Nat.zero_le _)
theorem k_X5_wantsAs_b_o {dR : Nat} {h : List px_C} {rf : Int32 → Int32 → Int32 → Int32 → Option Int32} {x0 : Int32} {x1 : Int32} {x2 : Int32} {x3 : Int32} {b : Int32} (hr : ∀ (x0 x1 x2 x3 b : Int32), rf x0 x1 x2 x3 = some b → px_K dR 0 0 m_X5_wantsAs [.int x0, .int x1, .int x2, .int x3] h (some (.int b)) h) (hf : f_X5_wantsAs_b rf x0 x1 x2 x3 = some b) : px_K (dR + 1) 0 0 m_X5_wantsAs [.int x0, .int x1, .int x2, .int x3] h (some (.int b)) h := px_Kof (g := px_g0 h) hf mf_X5_wantsAs (Nat.le_of_ble_eq_true rfl) rfl (t_X5_wantsAs_b (h := h) rf hr x0 x1 x2 x3)
theorem k_X5_wantsAs_b {dR : Nat} {h : List px_C} {rf : Int32 → Int32 → Int32 → Int32 → Option Int32} {x0 : Int32} {x1 : Int32} {x2 : Int32} {x3 : Int32} {b : Int32} (hr : ∀ (x0 x1 x2 x3 b : Int32), rf x0 x1 x2 x3 = some b → px_K dR 0 0 m_X5_wantsAs [.int x0, .int x1, .int x2, .int x3] h (some (.int b)) h) (hf : f_X5_wantsAs_b rf x0 x1 x2 x3 = some b) : px_K (dR + 1) 0 0 m_X5_wantsAs [.int x0, .int x1, .int x2, .int x3] h (some (.int b)) h := k_X5_wantsAs_b_o hr hf
def f_X5_wantsAs (x0 x1 x2 x3 : Int32) : Option Int32 := f_X5_wantsAs_b (f_X5_wantsAs_b (f_X5_wantsAs_b (f_X5_wantsAs_b (fun _ _ _ _ => none)))) x0 x1 x2 x3
theorem k_X5_wantsAs {h : List px_C} {x0 x1 x2 x3 b : Int32} (hf : f_X5_wantsAs x0 x1 x2 x3 = some b) : px_K 4 0 0 m_X5_wantsAs [.int x0, .int x1, .int x2, .int x3] h (some (.int b)) h := k_X5_wantsAs_b (dR := 3) (fun _ _ _ _ b hb => k_X5_wantsAs_b (dR := 2) (fun _ _ _ _ b hb => k_X5_wantsAs_b (dR := 1) (fun _ _ _ _ b hb => k_X5_wantsAs_b (dR := 0) (rf := fun _ _ _ _ => none) (fun _ _ _ _ b hb => by cases hb) hb) hb) hb) hf
/-! ThreeOfThem$Text.join(III)I: P, depth 0 -/
def f_X4_join (x0 : Int32) (x1 : Int32) (x2 : Int32) : Option (Int32) := (if x0 = (-13) then (some (x1 - x2)) else (if x0 = (-12) then (some (x1 + x2)) else (if x0 = (-11) then (if x1 = x2 then (some 1) else (some 0)) else (if x0 = (-10) then (if x1 < x2 then (some 1) else (some 0)) else (if x0 = (-9) then (some (x1 * x2)) else (if x0 = (-8) then (if x1 = 0 then (some 0) else (if x2 = 0 then (some 0) else (some 1))) else (if x0 = (-7) then (if x1 = 0 then (if x2 = 0 then (some 0) else (some 1)) else (some 1)) else (some (x1 * x2)))))))))
set_option maxRecDepth 20000 in
theorem t_X4_join {h : List px_C} (x0 : Int32) (x1 : Int32) (x2 : Int32) : px_O (0, 0, 0, h.length, m_X4_join) (px_g0 h) (f_X4_join x0 x1 x2) 0 [some (.int x0), some (.int x1), some (.int x2)] [] h 0 0 := by
  rw [f_X4_join]
  refine o_iload_n dX4_join_0 rfl ?_
  refine o_ite (fun u1 => ?_) (fun u1 => ?_)
  · refine o_tabIn (tgt := 98) dX4_join_1 (by rw [u1]; decide) (by rw [u1]; decide) (by rw [u1]; rfl) (by decide) ?_
    refine o_iload_n dX4_join_98 rfl ?_
    refine o_iload_n dX4_join_99 rfl ?_
    refine o_isub dX4_join_100 ?_
    exact o_iret (rt := .int) rfl rfl dX4_join_101 rfl (Nat.zero_le _) (Nat.zero_le _)
  · refine o_ite (fun u2 => ?_) (fun u2 => ?_)
    · refine o_tabIn (tgt := 94) dX4_join_1 (by rw [u2]; decide) (by rw [u2]; decide) (by rw [u2]; rfl) (by decide) ?_
      refine o_iload_n dX4_join_94 rfl ?_
      refine o_iload_n dX4_join_95 rfl ?_
      refine o_iadd dX4_join_96 ?_
      exact o_iret (rt := .int) rfl rfl dX4_join_97 rfl (Nat.zero_le _) (Nat.zero_le _)
    · refine o_ite (fun u3 => ?_) (fun u3 => ?_)
      · refine o_tabIn (tgt := 83) dX4_join_1 (by rw [u3]; decide) (by rw [u3]; decide) (by rw [u3]; rfl) (by decide) ?_
        refine o_iload_n dX4_join_83 rfl ?_
        refine o_iload_n dX4_join_84 rfl ?_
        refine o_icmpne (tgt := 92) dX4_join_85 (by decide) (fun u4 => ?_) (fun u4 => ?_)
        · refine o_iconst (v := 0) dX4_join_92 (by decide) ?_
          exact o_iret (rt := .int) rfl rfl dX4_join_93 rfl (Nat.zero_le _) (Nat.zero_le _)
        · refine o_iconst (v := 1) dX4_join_88 (by decide) ?_
          refine o_goto (tgt := 93) dX4_join_89 (by decide) ?_
          exact o_iret (rt := .int) rfl rfl dX4_join_93 rfl (Nat.zero_le _) (Nat.zero_le _)
      · refine o_ite (fun u5 => ?_) (fun u5 => ?_)
        · refine o_tabIn (tgt := 72) dX4_join_1 (by rw [u5]; decide) (by rw [u5]; decide) (by rw [u5]; rfl) (by decide) ?_
          refine o_iload_n dX4_join_72 rfl ?_
          refine o_iload_n dX4_join_73 rfl ?_
          refine o_icmpge (tgt := 81) dX4_join_74 (by decide) (fun u6 => ?_) (fun u6 => ?_)
          · refine o_iconst (v := 0) dX4_join_81 (by decide) ?_
            exact o_iret (rt := .int) rfl rfl dX4_join_82 rfl (Nat.zero_le _) (Nat.zero_le _)
          · refine o_iconst (v := 1) dX4_join_77 (by decide) ?_
            refine o_goto (tgt := 82) dX4_join_78 (by decide) ?_
            exact o_iret (rt := .int) rfl rfl dX4_join_82 rfl (Nat.zero_le _) (Nat.zero_le _)
        · refine o_ite (fun u7 => ?_) (fun u7 => ?_)
          · refine o_tabIn (tgt := 102) dX4_join_1 (by rw [u7]; decide) (by rw [u7]; decide) (by rw [u7]; rfl) (by decide) ?_
            refine o_iload_n dX4_join_102 rfl ?_
            refine o_iload_n dX4_join_103 rfl ?_
            refine o_imul dX4_join_104 ?_
            exact o_iret (rt := .int) rfl rfl dX4_join_105 rfl (Nat.zero_le _) (Nat.zero_le _)
          · refine o_ite (fun u8 => ?_) (fun u8 => ?_)
            · refine o_tabIn (tgt := 58) dX4_join_1 (by rw [u8]; decide) (by rw [u8]; decide) (by rw [u8]; rfl) (by decide) ?_
              refine o_iload_n dX4_join_58 rfl ?_
              refine o_ifeq (tgt := 70) dX4_join_59 (by decide) (fun u9 => ?_) (fun u9 => ?_)
              · refine o_iconst (v := 0) dX4_join_70 (by decide) ?_
                exact o_iret (rt := .int) rfl rfl dX4_join_71 rfl (Nat.zero_le _) (Nat.zero_le _)
              · refine o_iload_n dX4_join_62 rfl ?_
                refine o_ifeq (tgt := 70) dX4_join_63 (by decide) (fun u10 => ?_) (fun u10 => ?_)
                · refine o_iconst (v := 0) dX4_join_70 (by decide) ?_
                  exact o_iret (rt := .int) rfl rfl dX4_join_71 rfl (Nat.zero_le _) (Nat.zero_le _)
                · refine o_iconst (v := 1) dX4_join_66 (by decide) ?_
                  refine o_goto (tgt := 71) dX4_join_67 (by decide) ?_
                  exact o_iret (rt := .int) rfl rfl dX4_join_71 rfl (Nat.zero_le _) (Nat.zero_le _)
            · refine o_ite (fun u11 => ?_) (fun u11 => ?_)
              · refine o_tabIn (tgt := 44) dX4_join_1 (by rw [u11]; decide) (by rw [u11]; decide) (by rw [u11]; rfl) (by decide) ?_
                refine o_iload_n dX4_join_44 rfl ?_
                refine o_ifne (tgt := 52) dX4_join_45 (by decide) (fun u12 => ?_) (fun u12 => ?_)
                · refine o_iconst (v := 1) dX4_join_52 (by decide) ?_
                  refine o_goto (tgt := 57) dX4_join_53 (by decide) ?_
                  exact o_iret (rt := .int) rfl rfl dX4_join_57 rfl (Nat.zero_le _) (Nat.zero_le _)
                · refine o_iload_n dX4_join_48 rfl ?_
                  refine o_ifeq (tgt := 56) dX4_join_49 (by decide) (fun u13 => ?_) (fun u13 => ?_)
                  · refine o_iconst (v := 0) dX4_join_56 (by decide) ?_
                    exact o_iret (rt := .int) rfl rfl dX4_join_57 rfl (Nat.zero_le _) (Nat.zero_le _)
                  · refine o_iconst (v := 1) dX4_join_52 (by decide) ?_
                    refine o_goto (tgt := 57) dX4_join_53 (by decide) ?_
                    exact o_iret (rt := .int) rfl rfl dX4_join_57 rfl (Nat.zero_le _) (Nat.zero_le _)
              · refine o_tabOut (tgt := 102) dX4_join_1 (by
                  have z := px_out (x := x0) (-13) 7 (by decide) (by decide) (fun k hk => by
                    rcases (show k = 0 ∨ k = 1 ∨ k = 2 ∨ k = 3 ∨ k = 4 ∨ k = 5 ∨ k = 6 by omega) with rfl | rfl | rfl | rfl | rfl | rfl | rfl
                    · exact u1
                    · exact u2
                    · exact u3
                    · exact u5
                    · exact u7
                    · exact u8
                    · exact u11)
                  omega) (by decide) ?_
                refine o_iload_n dX4_join_102 rfl ?_
                refine o_iload_n dX4_join_103 rfl ?_
                refine o_imul dX4_join_104 ?_
                exact o_iret (rt := .int) rfl rfl dX4_join_105 rfl (Nat.zero_le _) (Nat.zero_le _)
theorem k_X4_join_o {h : List px_C} {x0 : Int32} {x1 : Int32} {x2 : Int32} {b : Int32} (hf : f_X4_join x0 x1 x2 = some b) : px_K (0) 0 0 m_X4_join [.int x0, .int x1, .int x2] h (some (.int b)) h := px_Kof (g := px_g0 h) hf mf_X4_join (Nat.le_of_ble_eq_true rfl) rfl (t_X4_join (h := h) x0 x1 x2)
def p_X4_join (x0 : Int32) (x1 : Int32) (x2 : Int32) : Int32 := (if x0 = (-13) then (x1 - x2) else (if x0 = (-12) then (x1 + x2) else (if x0 = (-11) then (if x1 = x2 then 1 else 0) else (if x0 = (-10) then (if x1 < x2 then 1 else 0) else (if x0 = (-9) then (x1 * x2) else (if x0 = (-8) then (if x1 = 0 then 0 else (if x2 = 0 then 0 else 1)) else (if x0 = (-7) then (if x1 = 0 then (if x2 = 0 then 0 else 1) else 1) else (x1 * x2))))))))
theorem e_X4_join (x0 : Int32) (x1 : Int32) (x2 : Int32) : f_X4_join x0 x1 x2 = some (p_X4_join x0 x1 x2) := by
  unfold f_X4_join p_X4_join
  simp only [px_ite_some]
theorem k_X4_join {h : List px_C} {x0 : Int32} {x1 : Int32} {x2 : Int32} : px_K (0) 0 0 m_X4_join [.int x0, .int x1, .int x2] h (some (.int (p_X4_join x0 x1 x2))) h := k_X4_join_o (e_X4_join x0 x1 x2)
/-! ThreeOfThem.clamp(III)I: P, depth 1 -/
def f_X5_clamp (x0 : Int32) (x1 : Int32) (x2 : Int32) : Option (Int32) := (some (if x1 < (if x0 < x2 then x0 else x2) then (if x0 < x2 then x0 else x2) else x1))
set_option maxRecDepth 20000 in
theorem t_X5_clamp {h : List px_C} (x0 : Int32) (x1 : Int32) (x2 : Int32) : px_O (1, 0, 0, h.length, m_X5_clamp) (px_g0 h) (f_X5_clamp x0 x1 x2) 0 [some (.int x0), some (.int x1), some (.int x2)] [] h 0 0 := by
  rw [f_X5_clamp]
  refine o_iload_n dX5_clamp_0 rfl ?_
  refine o_iload_n dX5_clamp_1 rfl ?_
  refine o_iload_n dX5_clamp_2 rfl ?_
  refine o_min dX5_clamp_3 ml_X5_304 w_min_s w_math_i w_min_c (Nat.le_of_ble_eq_true rfl) (Nat.le_of_ble_eq_true rfl) ⟨Nat.zero_le _, Nat.zero_le _⟩ ?_
  refine o_max dX5_clamp_6 ml_X5_309 w_max_s w_math_i w_max_c (Nat.le_of_ble_eq_true rfl) (Nat.le_of_ble_eq_true rfl) ⟨Nat.zero_le _, Nat.zero_le _⟩ ?_
  exact o_iret (rt := .int) rfl rfl dX5_clamp_9 rfl (Nat.zero_le _) (Nat.zero_le _)
theorem k_X5_clamp_o {h : List px_C} {x0 : Int32} {x1 : Int32} {x2 : Int32} {b : Int32} (hf : f_X5_clamp x0 x1 x2 = some b) : px_K (1) 0 0 m_X5_clamp [.int x0, .int x1, .int x2] h (some (.int b)) h := px_Kof (g := px_g0 h) hf mf_X5_clamp (Nat.le_of_ble_eq_true rfl) rfl (t_X5_clamp (h := h) x0 x1 x2)
def p_X5_clamp (x0 : Int32) (x1 : Int32) (x2 : Int32) : Int32 := (if x1 < (if x0 < x2 then x0 else x2) then (if x0 < x2 then x0 else x2) else x1)
theorem e_X5_clamp (x0 : Int32) (x1 : Int32) (x2 : Int32) : f_X5_clamp x0 x1 x2 = some (p_X5_clamp x0 x1 x2) := by
  unfold f_X5_clamp p_X5_clamp
  simp only [px_ite_some]
theorem k_X5_clamp {h : List px_C} {x0 : Int32} {x1 : Int32} {x2 : Int32} : px_K (1) 0 0 m_X5_clamp [.int x0, .int x1, .int x2] h (some (.int (p_X5_clamp x0 x1 x2))) h := k_X5_clamp_o (e_X5_clamp x0 x1 x2)
/-! ThreeOfThem.lowest(II)I: L, depth 0 -/
def f_X5_lowest_4 : Nat → Int32 → Int32 → Int32 → Int32 → Option (Int32)
  | 0, _, _, _, _ => none
  | n + 1, y0, y1, y2, y3 => (if y3 < y1 then (if y2 = 0 then (some (-1)) else ((f_X5_lowest_4 n) y0 y1 (y2 &&& (y2 - 1)) (y3 + 1))) else (some (y0 ^^^ y2)))
set_option maxRecDepth 20000 in
theorem t_X5_lowest_4 {h : List px_C} : ∀ (n : Nat) (y0 : Int32) (y1 : Int32) (y2 : Int32) (y3 : Int32), px_O (0, 0, 0, h.length, m_X5_lowest) (px_g0 h) (f_X5_lowest_4 n y0 y1 y2 y3) 4 [some (.int y0), some (.int y1), some (.int y2), some (.int y3)] [] h 0 0 := by
  intro n
  induction n with
  | zero => intro y0 y1 y2 y3; rw [f_X5_lowest_4]; exact o_none
  | succ n ih =>
    intro y0 y1 y2 y3
    rw [f_X5_lowest_4]
    refine o_iload_n dX5_lowest_4 rfl ?_
    refine o_iload_n dX5_lowest_5 rfl ?_
    refine o_icmpge (tgt := 27) dX5_lowest_6 (by decide) (fun u1 => ?_) (fun u1 => ?_)
    · refine o_iload_n dX5_lowest_27 rfl ?_
      refine o_iload_n dX5_lowest_28 rfl ?_
      refine o_ixor dX5_lowest_29 ?_
      exact o_iret (rt := .int) rfl rfl dX5_lowest_30 rfl (Nat.zero_le _) (Nat.zero_le _)
    · refine o_iload_n dX5_lowest_9 rfl ?_
      refine o_ifne (tgt := 15) dX5_lowest_10 (by decide) (fun u2 => ?_) (fun u2 => ?_)
      · refine o_iload_n dX5_lowest_15 rfl ?_
        refine o_iload_n dX5_lowest_16 rfl ?_
        refine o_iconst (v := 1) dX5_lowest_17 (by decide) ?_
        refine o_isub dX5_lowest_18 ?_
        refine o_iand dX5_lowest_19 ?_
        refine o_istore_n (L' := [some (.int y0), some (.int y1), some (.int (y2 &&& (y2 - 1))), some (.int y3)]) dX5_lowest_20 (Nat.le_of_ble_eq_true rfl) rfl rfl ?_
        refine o_iinc (v := (y3 + 1)) (L' := [some (.int y0), some (.int y1), some (.int (y2 &&& (y2 - 1))), some (.int (y3 + 1))]) dX5_lowest_21 rfl rfl (Nat.le_of_ble_eq_true rfl) rfl rfl ?_
        refine o_goto (tgt := 4) dX5_lowest_24 (by decide) ?_
        exact (ih y0 y1 (y2 &&& (y2 - 1)) (y3 + 1))
      · refine o_iconst (v := (-1)) dX5_lowest_13 (by decide) ?_
        exact o_iret (rt := .int) rfl rfl dX5_lowest_14 rfl (Nat.zero_le _) (Nat.zero_le _)
def f_X5_lowest (x0 : Int32) (x1 : Int32) : Option (Int32) := (f_X5_lowest_4 1000 x0 x1 x0 0)
set_option maxRecDepth 20000 in
theorem t_X5_lowest {h : List px_C} (x0 : Int32) (x1 : Int32) : px_O (0, 0, 0, h.length, m_X5_lowest) (px_g0 h) (f_X5_lowest x0 x1) 0 [some (.int x0), some (.int x1), none, none] [] h 0 0 := by
  rw [f_X5_lowest]
  refine o_iload_n dX5_lowest_0 rfl ?_
  refine o_istore_n (L' := [some (.int x0), some (.int x1), some (.int x0), none]) dX5_lowest_1 (Nat.le_of_ble_eq_true rfl) rfl rfl ?_
  refine o_iconst (v := 0) dX5_lowest_2 (by decide) ?_
  refine o_istore_n (L' := [some (.int x0), some (.int x1), some (.int x0), some (.int 0)]) dX5_lowest_3 (Nat.le_of_ble_eq_true rfl) rfl rfl ?_
  exact (t_X5_lowest_4 (h := h) 1000 x0 x1 x0 0)
theorem k_X5_lowest_o {h : List px_C} {x0 : Int32} {x1 : Int32} {b : Int32} (hf : f_X5_lowest x0 x1 = some b) : px_K (0) 0 0 m_X5_lowest [.int x0, .int x1] h (some (.int b)) h := px_Kof (g := px_g0 h) hf mf_X5_lowest (Nat.le_of_ble_eq_true rfl) rfl (t_X5_lowest (h := h) x0 x1)
theorem k_X5_lowest {h : List px_C} {x0 : Int32} {x1 : Int32} {b : Int32} (hf : f_X5_lowest x0 x1 = some b) : px_K (0) 0 0 m_X5_lowest [.int x0, .int x1] h (some (.int b)) h := k_X5_lowest_o hf
/-! ThreeOfThem.choose(II)I: L, depth 0 -/
def f_X5_choose_4 : Nat → Int32 → Int32 → Int32 → Int32 → Option (Int32)
  | 0, _, _, _, _ => none
  | n + 1, y0, y1, y2, y3 => (if y3 < y1 then (if (y3 + 1) = 0 then none else ((f_X5_choose_4 n) y0 y1 ((y2 * (y0 - y3)) / (y3 + 1)) (y3 + 1))) else (some y2))
set_option maxRecDepth 20000 in
theorem t_X5_choose_4 {h : List px_C} : ∀ (n : Nat) (y0 : Int32) (y1 : Int32) (y2 : Int32) (y3 : Int32), px_O (0, 0, 0, h.length, m_X5_choose) (px_g0 h) (f_X5_choose_4 n y0 y1 y2 y3) 4 [some (.int y0), some (.int y1), some (.int y2), some (.int y3)] [] h 0 0 := by
  intro n
  induction n with
  | zero => intro y0 y1 y2 y3; rw [f_X5_choose_4]; exact o_none
  | succ n ih =>
    intro y0 y1 y2 y3
    rw [f_X5_choose_4]
    refine o_iload_n dX5_choose_4 rfl ?_
    refine o_iload_n dX5_choose_5 rfl ?_
    refine o_icmpge (tgt := 25) dX5_choose_6 (by decide) (fun u1 => ?_) (fun u1 => ?_)
    · refine o_iload_n dX5_choose_25 rfl ?_
      exact o_iret (rt := .int) rfl rfl dX5_choose_26 rfl (Nat.zero_le _) (Nat.zero_le _)
    · refine o_iload_n dX5_choose_9 rfl ?_
      refine o_iload_n dX5_choose_10 rfl ?_
      refine o_iload_n dX5_choose_11 rfl ?_
      refine o_isub dX5_choose_12 ?_
      refine o_imul dX5_choose_13 ?_
      refine o_iload_n dX5_choose_14 rfl ?_
      refine o_iconst (v := 1) dX5_choose_15 (by decide) ?_
      refine o_iadd dX5_choose_16 ?_
      refine o_ite (fun _ => o_none) (fun u2 => ?_)
      refine o_idiv dX5_choose_17 u2 ?_
      refine o_istore_n (L' := [some (.int y0), some (.int y1), some (.int ((y2 * (y0 - y3)) / (y3 + 1))), some (.int y3)]) dX5_choose_18 (Nat.le_of_ble_eq_true rfl) rfl rfl ?_
      refine o_iinc (v := (y3 + 1)) (L' := [some (.int y0), some (.int y1), some (.int ((y2 * (y0 - y3)) / (y3 + 1))), some (.int (y3 + 1))]) dX5_choose_19 rfl rfl (Nat.le_of_ble_eq_true rfl) rfl rfl ?_
      refine o_goto (tgt := 4) dX5_choose_22 (by decide) ?_
      exact (ih y0 y1 ((y2 * (y0 - y3)) / (y3 + 1)) (y3 + 1))
def f_X5_choose (x0 : Int32) (x1 : Int32) : Option (Int32) := (f_X5_choose_4 1000 x0 x1 1 0)
set_option maxRecDepth 20000 in
theorem t_X5_choose {h : List px_C} (x0 : Int32) (x1 : Int32) : px_O (0, 0, 0, h.length, m_X5_choose) (px_g0 h) (f_X5_choose x0 x1) 0 [some (.int x0), some (.int x1), none, none] [] h 0 0 := by
  rw [f_X5_choose]
  refine o_iconst (v := 1) dX5_choose_0 (by decide) ?_
  refine o_istore_n (L' := [some (.int x0), some (.int x1), some (.int 1), none]) dX5_choose_1 (Nat.le_of_ble_eq_true rfl) rfl rfl ?_
  refine o_iconst (v := 0) dX5_choose_2 (by decide) ?_
  refine o_istore_n (L' := [some (.int x0), some (.int x1), some (.int 1), some (.int 0)]) dX5_choose_3 (Nat.le_of_ble_eq_true rfl) rfl rfl ?_
  exact (t_X5_choose_4 (h := h) 1000 x0 x1 1 0)
theorem k_X5_choose_o {h : List px_C} {x0 : Int32} {x1 : Int32} {b : Int32} (hf : f_X5_choose x0 x1 = some b) : px_K (0) 0 0 m_X5_choose [.int x0, .int x1] h (some (.int b)) h := px_Kof (g := px_g0 h) hf mf_X5_choose (Nat.le_of_ble_eq_true rfl) rfl (t_X5_choose (h := h) x0 x1)
theorem k_X5_choose {h : List px_C} {x0 : Int32} {x1 : Int32} {b : Int32} (hf : f_X5_choose x0 x1 = some b) : px_K (0) 0 0 m_X5_choose [.int x0, .int x1] h (some (.int b)) h := k_X5_choose_o hf
/-! ThreeOfThem$Judge.pairName(I)I: P, depth 0 -/
def f_X1_pairName (x0 : Int32) : Option (Int32) := (some (((10 : Int32) * (x0 / 7)) + (x0 - x0 / 7 * 7)))
set_option maxRecDepth 20000 in
theorem t_X1_pairName {h : List px_C} (x0 : Int32) : px_O (0, 0, 0, h.length, m_X1_pairName) (px_g0 h) (f_X1_pairName x0) 0 [some (.int x0)] [] h 0 0 := by
  rw [f_X1_pairName]
  refine o_bipush (v := 10) dX1_pairName_0 (by decide) ?_
  refine o_iload_n dX1_pairName_2 rfl ?_
  refine o_bipush (v := 7) dX1_pairName_3 (by decide) ?_
  refine o_idiv dX1_pairName_5 (by decide) ?_
  refine o_imul dX1_pairName_6 ?_
  refine o_iload_n dX1_pairName_7 rfl ?_
  refine o_bipush (v := 7) dX1_pairName_8 (by decide) ?_
  refine o_irem dX1_pairName_10 (by decide) ?_
  refine o_iadd dX1_pairName_11 ?_
  exact o_iret (rt := .int) rfl rfl dX1_pairName_12 rfl (Nat.zero_le _) (Nat.zero_le _)
theorem k_X1_pairName_o {h : List px_C} {x0 : Int32} {b : Int32} (hf : f_X1_pairName x0 = some b) : px_K (0) 0 0 m_X1_pairName [.int x0] h (some (.int b)) h := px_Kof (g := px_g0 h) hf mf_X1_pairName (Nat.le_of_ble_eq_true rfl) rfl (t_X1_pairName (h := h) x0)
def p_X1_pairName (x0 : Int32) : Int32 := (((10 : Int32) * (x0 / 7)) + (x0 - x0 / 7 * 7))
theorem e_X1_pairName (x0 : Int32) : f_X1_pairName x0 = some (p_X1_pairName x0) := by
  unfold f_X1_pairName p_X1_pairName
  simp only [px_ite_some]
theorem k_X1_pairName {h : List px_C} {x0 : Int32} : px_K (0) 0 0 m_X1_pairName [.int x0] h (some (.int (p_X1_pairName x0))) h := k_X1_pairName_o (e_X1_pairName x0)
/-! ThreeOfThem$Reader.isLetter(I)Z: P, depth 0 -/
def f_X2_isLetter (x0 : Int32) : Option (Int32) := (if x0 < 97 then (some 0) else (if 122 < x0 then (some 0) else (some 1)))
set_option maxRecDepth 20000 in
theorem t_X2_isLetter {h : List px_C} (x0 : Int32) : px_O (0, 0, 0, h.length, m_X2_isLetter) (px_g0 h) (f_X2_isLetter x0) 0 [some (.int x0)] [] h 0 0 := by
  rw [f_X2_isLetter]
  refine o_iload_n dX2_isLetter_0 rfl ?_
  refine o_bipush (v := 97) dX2_isLetter_1 (by decide) ?_
  refine o_icmplt (tgt := 16) dX2_isLetter_3 (by decide) (fun u1 => ?_) (fun u1 => ?_)
  · refine o_iconst (v := 0) dX2_isLetter_16 (by decide) ?_
    exact o_iret (rt := .boolean) rfl rfl dX2_isLetter_17 rfl (Nat.zero_le _) (Nat.zero_le _)
  · refine o_iload_n dX2_isLetter_6 rfl ?_
    refine o_bipush (v := 122) dX2_isLetter_7 (by decide) ?_
    refine o_icmpgt (tgt := 16) dX2_isLetter_9 (by decide) (fun u2 => ?_) (fun u2 => ?_)
    · refine o_iconst (v := 0) dX2_isLetter_16 (by decide) ?_
      exact o_iret (rt := .boolean) rfl rfl dX2_isLetter_17 rfl (Nat.zero_le _) (Nat.zero_le _)
    · refine o_iconst (v := 1) dX2_isLetter_12 (by decide) ?_
      refine o_goto (tgt := 17) dX2_isLetter_13 (by decide) ?_
      exact o_iret (rt := .boolean) rfl rfl dX2_isLetter_17 rfl (Nat.zero_le _) (Nat.zero_le _)
theorem k_X2_isLetter_o {h : List px_C} {x0 : Int32} {b : Int32} (hf : f_X2_isLetter x0 = some b) : px_K (0) 0 0 m_X2_isLetter [.int x0] h (some (.int b)) h := px_Kof (g := px_g0 h) hf mf_X2_isLetter (Nat.le_of_ble_eq_true rfl) rfl (t_X2_isLetter (h := h) x0)
def p_X2_isLetter (x0 : Int32) : Int32 := (if x0 < 97 then 0 else (if 122 < x0 then 0 else 1))
theorem e_X2_isLetter (x0 : Int32) : f_X2_isLetter x0 = some (p_X2_isLetter x0) := by
  unfold f_X2_isLetter p_X2_isLetter
  simp only [px_ite_some]
theorem k_X2_isLetter {h : List px_C} {x0 : Int32} : px_K (0) 0 0 m_X2_isLetter [.int x0] h (some (.int (p_X2_isLetter x0))) h := k_X2_isLetter_o (e_X2_isLetter x0)
/-! ThreeOfThem$Reader.isDigit(I)Z: P, depth 0 -/
def f_X2_isDigit (x0 : Int32) : Option (Int32) := (if x0 < 48 then (some 0) else (if 57 < x0 then (some 0) else (some 1)))
set_option maxRecDepth 20000 in
theorem t_X2_isDigit {h : List px_C} (x0 : Int32) : px_O (0, 0, 0, h.length, m_X2_isDigit) (px_g0 h) (f_X2_isDigit x0) 0 [some (.int x0)] [] h 0 0 := by
  rw [f_X2_isDigit]
  refine o_iload_n dX2_isDigit_0 rfl ?_
  refine o_bipush (v := 48) dX2_isDigit_1 (by decide) ?_
  refine o_icmplt (tgt := 16) dX2_isDigit_3 (by decide) (fun u1 => ?_) (fun u1 => ?_)
  · refine o_iconst (v := 0) dX2_isDigit_16 (by decide) ?_
    exact o_iret (rt := .boolean) rfl rfl dX2_isDigit_17 rfl (Nat.zero_le _) (Nat.zero_le _)
  · refine o_iload_n dX2_isDigit_6 rfl ?_
    refine o_bipush (v := 57) dX2_isDigit_7 (by decide) ?_
    refine o_icmpgt (tgt := 16) dX2_isDigit_9 (by decide) (fun u2 => ?_) (fun u2 => ?_)
    · refine o_iconst (v := 0) dX2_isDigit_16 (by decide) ?_
      exact o_iret (rt := .boolean) rfl rfl dX2_isDigit_17 rfl (Nat.zero_le _) (Nat.zero_le _)
    · refine o_iconst (v := 1) dX2_isDigit_12 (by decide) ?_
      refine o_goto (tgt := 17) dX2_isDigit_13 (by decide) ?_
      exact o_iret (rt := .boolean) rfl rfl dX2_isDigit_17 rfl (Nat.zero_le _) (Nat.zero_le _)
theorem k_X2_isDigit_o {h : List px_C} {x0 : Int32} {b : Int32} (hf : f_X2_isDigit x0 = some b) : px_K (0) 0 0 m_X2_isDigit [.int x0] h (some (.int b)) h := px_Kof (g := px_g0 h) hf mf_X2_isDigit (Nat.le_of_ble_eq_true rfl) rfl (t_X2_isDigit (h := h) x0)
def p_X2_isDigit (x0 : Int32) : Int32 := (if x0 < 48 then 0 else (if 57 < x0 then 0 else 1))
theorem e_X2_isDigit (x0 : Int32) : f_X2_isDigit x0 = some (p_X2_isDigit x0) := by
  unfold f_X2_isDigit p_X2_isDigit
  simp only [px_ite_some]
theorem k_X2_isDigit {h : List px_C} {x0 : Int32} : px_K (0) 0 0 m_X2_isDigit [.int x0] h (some (.int (p_X2_isDigit x0))) h := k_X2_isDigit_o (e_X2_isDigit x0)
/-! ThreeOfThem$Reader.signOf(I)I: P, depth 0 -/
def f_X2_signOf (x0 : Int32) : Option (Int32) := (if x0 = 40 then (some (-16)) else (if x0 = 41 then (some (-17)) else (if x0 = 42 then (some (-14)) else (if x0 = 43 then (some (-12)) else (if x0 = 44 then (some (-23)) else (if x0 = 45 then (some (-13)) else (if x0 = 46 then (some (-23)) else (if x0 = 47 then (some (-23)) else (if x0 = 48 then (some (-23)) else (if x0 = 49 then (some (-23)) else (if x0 = 50 then (some (-23)) else (if x0 = 51 then (some (-23)) else (if x0 = 52 then (some (-23)) else (if x0 = 53 then (some (-23)) else (if x0 = 54 then (some (-23)) else (if x0 = 55 then (some (-23)) else (if x0 = 56 then (some (-23)) else (if x0 = 57 then (some (-23)) else (if x0 = 58 then (some (-23)) else (if x0 = 59 then (some (-18)) else (if x0 = 60 then (some (-10)) else (if x0 = 61 then (some (-11)) else (some (-23))))))))))))))))))))))))
set_option maxRecDepth 20000 in
theorem t_X2_signOf {h : List px_C} (x0 : Int32) : px_O (0, 0, 0, h.length, m_X2_signOf) (px_g0 h) (f_X2_signOf x0) 0 [some (.int x0)] [] h 0 0 := by
  rw [f_X2_signOf]
  refine o_iload_n dX2_signOf_0 rfl ?_
  refine o_ite (fun u1 => ?_) (fun u1 => ?_)
  · refine o_tabIn (tgt := 104) dX2_signOf_1 (by rw [u1]; decide) (by rw [u1]; decide) (by rw [u1]; rfl) (by decide) ?_
    refine o_bipush (v := (-16)) dX2_signOf_104 (by decide) ?_
    exact o_iret (rt := .int) rfl rfl dX2_signOf_106 rfl (Nat.zero_le _) (Nat.zero_le _)
  · refine o_ite (fun u2 => ?_) (fun u2 => ?_)
    · refine o_tabIn (tgt := 107) dX2_signOf_1 (by rw [u2]; decide) (by rw [u2]; decide) (by rw [u2]; rfl) (by decide) ?_
      refine o_bipush (v := (-17)) dX2_signOf_107 (by decide) ?_
      exact o_iret (rt := .int) rfl rfl dX2_signOf_109 rfl (Nat.zero_le _) (Nat.zero_le _)
    · refine o_ite (fun u3 => ?_) (fun u3 => ?_)
      · refine o_tabIn (tgt := 119) dX2_signOf_1 (by rw [u3]; decide) (by rw [u3]; decide) (by rw [u3]; rfl) (by decide) ?_
        refine o_bipush (v := (-14)) dX2_signOf_119 (by decide) ?_
        exact o_iret (rt := .int) rfl rfl dX2_signOf_121 rfl (Nat.zero_le _) (Nat.zero_le _)
      · refine o_ite (fun u4 => ?_) (fun u4 => ?_)
        · refine o_tabIn (tgt := 113) dX2_signOf_1 (by rw [u4]; decide) (by rw [u4]; decide) (by rw [u4]; rfl) (by decide) ?_
          refine o_bipush (v := (-12)) dX2_signOf_113 (by decide) ?_
          exact o_iret (rt := .int) rfl rfl dX2_signOf_115 rfl (Nat.zero_le _) (Nat.zero_le _)
        · refine o_ite (fun u5 => ?_) (fun u5 => ?_)
          · refine o_tabIn (tgt := 128) dX2_signOf_1 (by rw [u5]; decide) (by rw [u5]; decide) (by rw [u5]; rfl) (by decide) ?_
            refine o_bipush (v := (-23)) dX2_signOf_128 (by decide) ?_
            exact o_iret (rt := .int) rfl rfl dX2_signOf_130 rfl (Nat.zero_le _) (Nat.zero_le _)
          · refine o_ite (fun u6 => ?_) (fun u6 => ?_)
            · refine o_tabIn (tgt := 116) dX2_signOf_1 (by rw [u6]; decide) (by rw [u6]; decide) (by rw [u6]; rfl) (by decide) ?_
              refine o_bipush (v := (-13)) dX2_signOf_116 (by decide) ?_
              exact o_iret (rt := .int) rfl rfl dX2_signOf_118 rfl (Nat.zero_le _) (Nat.zero_le _)
            · refine o_ite (fun u7 => ?_) (fun u7 => ?_)
              · refine o_tabIn (tgt := 128) dX2_signOf_1 (by rw [u7]; decide) (by rw [u7]; decide) (by rw [u7]; rfl) (by decide) ?_
                refine o_bipush (v := (-23)) dX2_signOf_128 (by decide) ?_
                exact o_iret (rt := .int) rfl rfl dX2_signOf_130 rfl (Nat.zero_le _) (Nat.zero_le _)
              · refine o_ite (fun u8 => ?_) (fun u8 => ?_)
                · refine o_tabIn (tgt := 128) dX2_signOf_1 (by rw [u8]; decide) (by rw [u8]; decide) (by rw [u8]; rfl) (by decide) ?_
                  refine o_bipush (v := (-23)) dX2_signOf_128 (by decide) ?_
                  exact o_iret (rt := .int) rfl rfl dX2_signOf_130 rfl (Nat.zero_le _) (Nat.zero_le _)
                · refine o_ite (fun u9 => ?_) (fun u9 => ?_)
                  · refine o_tabIn (tgt := 128) dX2_signOf_1 (by rw [u9]; decide) (by rw [u9]; decide) (by rw [u9]; rfl) (by decide) ?_
                    refine o_bipush (v := (-23)) dX2_signOf_128 (by decide) ?_
                    exact o_iret (rt := .int) rfl rfl dX2_signOf_130 rfl (Nat.zero_le _) (Nat.zero_le _)
                  · refine o_ite (fun u10 => ?_) (fun u10 => ?_)
                    · refine o_tabIn (tgt := 128) dX2_signOf_1 (by rw [u10]; decide) (by rw [u10]; decide) (by rw [u10]; rfl) (by decide) ?_
                      refine o_bipush (v := (-23)) dX2_signOf_128 (by decide) ?_
                      exact o_iret (rt := .int) rfl rfl dX2_signOf_130 rfl (Nat.zero_le _) (Nat.zero_le _)
                    · refine o_ite (fun u11 => ?_) (fun u11 => ?_)
                      · refine o_tabIn (tgt := 128) dX2_signOf_1 (by rw [u11]; decide) (by rw [u11]; decide) (by rw [u11]; rfl) (by decide) ?_
                        refine o_bipush (v := (-23)) dX2_signOf_128 (by decide) ?_
                        exact o_iret (rt := .int) rfl rfl dX2_signOf_130 rfl (Nat.zero_le _) (Nat.zero_le _)
                      · refine o_ite (fun u12 => ?_) (fun u12 => ?_)
                        · refine o_tabIn (tgt := 128) dX2_signOf_1 (by rw [u12]; decide) (by rw [u12]; decide) (by rw [u12]; rfl) (by decide) ?_
                          refine o_bipush (v := (-23)) dX2_signOf_128 (by decide) ?_
                          exact o_iret (rt := .int) rfl rfl dX2_signOf_130 rfl (Nat.zero_le _) (Nat.zero_le _)
                        · refine o_ite (fun u13 => ?_) (fun u13 => ?_)
                          · refine o_tabIn (tgt := 128) dX2_signOf_1 (by rw [u13]; decide) (by rw [u13]; decide) (by rw [u13]; rfl) (by decide) ?_
                            refine o_bipush (v := (-23)) dX2_signOf_128 (by decide) ?_
                            exact o_iret (rt := .int) rfl rfl dX2_signOf_130 rfl (Nat.zero_le _) (Nat.zero_le _)
                          · refine o_ite (fun u14 => ?_) (fun u14 => ?_)
                            · refine o_tabIn (tgt := 128) dX2_signOf_1 (by rw [u14]; decide) (by rw [u14]; decide) (by rw [u14]; rfl) (by decide) ?_
                              refine o_bipush (v := (-23)) dX2_signOf_128 (by decide) ?_
                              exact o_iret (rt := .int) rfl rfl dX2_signOf_130 rfl (Nat.zero_le _) (Nat.zero_le _)
                            · refine o_ite (fun u15 => ?_) (fun u15 => ?_)
                              · refine o_tabIn (tgt := 128) dX2_signOf_1 (by rw [u15]; decide) (by rw [u15]; decide) (by rw [u15]; rfl) (by decide) ?_
                                refine o_bipush (v := (-23)) dX2_signOf_128 (by decide) ?_
                                exact o_iret (rt := .int) rfl rfl dX2_signOf_130 rfl (Nat.zero_le _) (Nat.zero_le _)
                              · refine o_ite (fun u16 => ?_) (fun u16 => ?_)
                                · refine o_tabIn (tgt := 128) dX2_signOf_1 (by rw [u16]; decide) (by rw [u16]; decide) (by rw [u16]; rfl) (by decide) ?_
                                  refine o_bipush (v := (-23)) dX2_signOf_128 (by decide) ?_
                                  exact o_iret (rt := .int) rfl rfl dX2_signOf_130 rfl (Nat.zero_le _) (Nat.zero_le _)
                                · refine o_ite (fun u17 => ?_) (fun u17 => ?_)
                                  · refine o_tabIn (tgt := 128) dX2_signOf_1 (by rw [u17]; decide) (by rw [u17]; decide) (by rw [u17]; rfl) (by decide) ?_
                                    refine o_bipush (v := (-23)) dX2_signOf_128 (by decide) ?_
                                    exact o_iret (rt := .int) rfl rfl dX2_signOf_130 rfl (Nat.zero_le _) (Nat.zero_le _)
                                  · refine o_ite (fun u18 => ?_) (fun u18 => ?_)
                                    · refine o_tabIn (tgt := 128) dX2_signOf_1 (by rw [u18]; decide) (by rw [u18]; decide) (by rw [u18]; rfl) (by decide) ?_
                                      refine o_bipush (v := (-23)) dX2_signOf_128 (by decide) ?_
                                      exact o_iret (rt := .int) rfl rfl dX2_signOf_130 rfl (Nat.zero_le _) (Nat.zero_le _)
                                    · refine o_ite (fun u19 => ?_) (fun u19 => ?_)
                                      · refine o_tabIn (tgt := 128) dX2_signOf_1 (by rw [u19]; decide) (by rw [u19]; decide) (by rw [u19]; rfl) (by decide) ?_
                                        refine o_bipush (v := (-23)) dX2_signOf_128 (by decide) ?_
                                        exact o_iret (rt := .int) rfl rfl dX2_signOf_130 rfl (Nat.zero_le _) (Nat.zero_le _)
                                      · refine o_ite (fun u20 => ?_) (fun u20 => ?_)
                                        · refine o_tabIn (tgt := 110) dX2_signOf_1 (by rw [u20]; decide) (by rw [u20]; decide) (by rw [u20]; rfl) (by decide) ?_
                                          refine o_bipush (v := (-18)) dX2_signOf_110 (by decide) ?_
                                          exact o_iret (rt := .int) rfl rfl dX2_signOf_112 rfl (Nat.zero_le _) (Nat.zero_le _)
                                        · refine o_ite (fun u21 => ?_) (fun u21 => ?_)
                                          · refine o_tabIn (tgt := 122) dX2_signOf_1 (by rw [u21]; decide) (by rw [u21]; decide) (by rw [u21]; rfl) (by decide) ?_
                                            refine o_bipush (v := (-10)) dX2_signOf_122 (by decide) ?_
                                            exact o_iret (rt := .int) rfl rfl dX2_signOf_124 rfl (Nat.zero_le _) (Nat.zero_le _)
                                          · refine o_ite (fun u22 => ?_) (fun u22 => ?_)
                                            · refine o_tabIn (tgt := 125) dX2_signOf_1 (by rw [u22]; decide) (by rw [u22]; decide) (by rw [u22]; rfl) (by decide) ?_
                                              refine o_bipush (v := (-11)) dX2_signOf_125 (by decide) ?_
                                              exact o_iret (rt := .int) rfl rfl dX2_signOf_127 rfl (Nat.zero_le _) (Nat.zero_le _)
                                            · refine o_tabOut (tgt := 128) dX2_signOf_1 (by
                                                have z := px_out (x := x0) 40 22 (by decide) (by decide) (fun k hk => by
                                                  rcases (show k = 0 ∨ k = 1 ∨ k = 2 ∨ k = 3 ∨ k = 4 ∨ k = 5 ∨ k = 6 ∨ k = 7 ∨ k = 8 ∨ k = 9 ∨ k = 10 ∨ k = 11 ∨ k = 12 ∨ k = 13 ∨ k = 14 ∨ k = 15 ∨ k = 16 ∨ k = 17 ∨ k = 18 ∨ k = 19 ∨ k = 20 ∨ k = 21 by omega) with rfl | rfl | rfl | rfl | rfl | rfl | rfl | rfl | rfl | rfl | rfl | rfl | rfl | rfl | rfl | rfl | rfl | rfl | rfl | rfl | rfl | rfl
                                                  · exact u1
                                                  · exact u2
                                                  · exact u3
                                                  · exact u4
                                                  · exact u5
                                                  · exact u6
                                                  · exact u7
                                                  · exact u8
                                                  · exact u9
                                                  · exact u10
                                                  · exact u11
                                                  · exact u12
                                                  · exact u13
                                                  · exact u14
                                                  · exact u15
                                                  · exact u16
                                                  · exact u17
                                                  · exact u18
                                                  · exact u19
                                                  · exact u20
                                                  · exact u21
                                                  · exact u22)
                                                omega) (by decide) ?_
                                              refine o_bipush (v := (-23)) dX2_signOf_128 (by decide) ?_
                                              exact o_iret (rt := .int) rfl rfl dX2_signOf_130 rfl (Nat.zero_le _) (Nat.zero_le _)
theorem k_X2_signOf_o {h : List px_C} {x0 : Int32} {b : Int32} (hf : f_X2_signOf x0 = some b) : px_K (0) 0 0 m_X2_signOf [.int x0] h (some (.int b)) h := px_Kof (g := px_g0 h) hf mf_X2_signOf (Nat.le_of_ble_eq_true rfl) rfl (t_X2_signOf (h := h) x0)
def p_X2_signOf (x0 : Int32) : Int32 := (if x0 = 40 then (-16) else (if x0 = 41 then (-17) else (if x0 = 42 then (-14) else (if x0 = 43 then (-12) else (if x0 = 44 then (-23) else (if x0 = 45 then (-13) else (if x0 = 46 then (-23) else (if x0 = 47 then (-23) else (if x0 = 48 then (-23) else (if x0 = 49 then (-23) else (if x0 = 50 then (-23) else (if x0 = 51 then (-23) else (if x0 = 52 then (-23) else (if x0 = 53 then (-23) else (if x0 = 54 then (-23) else (if x0 = 55 then (-23) else (if x0 = 56 then (-23) else (if x0 = 57 then (-23) else (if x0 = 58 then (-23) else (if x0 = 59 then (-18) else (if x0 = 60 then (-10) else (if x0 = 61 then (-11) else (-23)))))))))))))))))))))))
theorem e_X2_signOf (x0 : Int32) : f_X2_signOf x0 = some (p_X2_signOf x0) := by
  unfold f_X2_signOf p_X2_signOf
  simp only [px_ite_some]
theorem k_X2_signOf {h : List px_C} {x0 : Int32} : px_K (0) 0 0 m_X2_signOf [.int x0] h (some (.int (p_X2_signOf x0))) h := k_X2_signOf_o (e_X2_signOf x0)
/-! ThreeOfThem$Reader.levelOf(I)I: P, depth 0 -/
def f_X2_levelOf (x0 : Int32) : Option (Int32) := (if x0 = (-14) then (some 4) else (if x0 = (-13) then (some 3) else (if x0 = (-12) then (some 3) else (if x0 = (-11) then (some 2) else (if x0 = (-10) then (some 2) else (if x0 = (-9) then (some (-1)) else (if x0 = (-8) then (some 1) else (if x0 = (-7) then (some 0) else (some (-1))))))))))
set_option maxRecDepth 20000 in
theorem t_X2_levelOf {h : List px_C} (x0 : Int32) : px_O (0, 0, 0, h.length, m_X2_levelOf) (px_g0 h) (f_X2_levelOf x0) 0 [some (.int x0)] [] h 0 0 := by
  rw [f_X2_levelOf]
  refine o_iload_n dX2_levelOf_0 rfl ?_
  refine o_ite (fun u1 => ?_) (fun u1 => ?_)
  · refine o_tabIn (tgt := 56) dX2_levelOf_1 (by rw [u1]; decide) (by rw [u1]; decide) (by rw [u1]; rfl) (by decide) ?_
    refine o_iconst (v := 4) dX2_levelOf_56 (by decide) ?_
    exact o_iret (rt := .int) rfl rfl dX2_levelOf_57 rfl (Nat.zero_le _) (Nat.zero_le _)
  · refine o_ite (fun u2 => ?_) (fun u2 => ?_)
    · refine o_tabIn (tgt := 54) dX2_levelOf_1 (by rw [u2]; decide) (by rw [u2]; decide) (by rw [u2]; rfl) (by decide) ?_
      refine o_iconst (v := 3) dX2_levelOf_54 (by decide) ?_
      exact o_iret (rt := .int) rfl rfl dX2_levelOf_55 rfl (Nat.zero_le _) (Nat.zero_le _)
    · refine o_ite (fun u3 => ?_) (fun u3 => ?_)
      · refine o_tabIn (tgt := 54) dX2_levelOf_1 (by rw [u3]; decide) (by rw [u3]; decide) (by rw [u3]; rfl) (by decide) ?_
        refine o_iconst (v := 3) dX2_levelOf_54 (by decide) ?_
        exact o_iret (rt := .int) rfl rfl dX2_levelOf_55 rfl (Nat.zero_le _) (Nat.zero_le _)
      · refine o_ite (fun u4 => ?_) (fun u4 => ?_)
        · refine o_tabIn (tgt := 52) dX2_levelOf_1 (by rw [u4]; decide) (by rw [u4]; decide) (by rw [u4]; rfl) (by decide) ?_
          refine o_iconst (v := 2) dX2_levelOf_52 (by decide) ?_
          exact o_iret (rt := .int) rfl rfl dX2_levelOf_53 rfl (Nat.zero_le _) (Nat.zero_le _)
        · refine o_ite (fun u5 => ?_) (fun u5 => ?_)
          · refine o_tabIn (tgt := 52) dX2_levelOf_1 (by rw [u5]; decide) (by rw [u5]; decide) (by rw [u5]; rfl) (by decide) ?_
            refine o_iconst (v := 2) dX2_levelOf_52 (by decide) ?_
            exact o_iret (rt := .int) rfl rfl dX2_levelOf_53 rfl (Nat.zero_le _) (Nat.zero_le _)
          · refine o_ite (fun u6 => ?_) (fun u6 => ?_)
            · refine o_tabIn (tgt := 58) dX2_levelOf_1 (by rw [u6]; decide) (by rw [u6]; decide) (by rw [u6]; rfl) (by decide) ?_
              refine o_iconst (v := (-1)) dX2_levelOf_58 (by decide) ?_
              exact o_iret (rt := .int) rfl rfl dX2_levelOf_59 rfl (Nat.zero_le _) (Nat.zero_le _)
            · refine o_ite (fun u7 => ?_) (fun u7 => ?_)
              · refine o_tabIn (tgt := 50) dX2_levelOf_1 (by rw [u7]; decide) (by rw [u7]; decide) (by rw [u7]; rfl) (by decide) ?_
                refine o_iconst (v := 1) dX2_levelOf_50 (by decide) ?_
                exact o_iret (rt := .int) rfl rfl dX2_levelOf_51 rfl (Nat.zero_le _) (Nat.zero_le _)
              · refine o_ite (fun u8 => ?_) (fun u8 => ?_)
                · refine o_tabIn (tgt := 48) dX2_levelOf_1 (by rw [u8]; decide) (by rw [u8]; decide) (by rw [u8]; rfl) (by decide) ?_
                  refine o_iconst (v := 0) dX2_levelOf_48 (by decide) ?_
                  exact o_iret (rt := .int) rfl rfl dX2_levelOf_49 rfl (Nat.zero_le _) (Nat.zero_le _)
                · refine o_tabOut (tgt := 58) dX2_levelOf_1 (by
                    have z := px_out (x := x0) (-14) 8 (by decide) (by decide) (fun k hk => by
                      rcases (show k = 0 ∨ k = 1 ∨ k = 2 ∨ k = 3 ∨ k = 4 ∨ k = 5 ∨ k = 6 ∨ k = 7 by omega) with rfl | rfl | rfl | rfl | rfl | rfl | rfl | rfl
                      · exact u1
                      · exact u2
                      · exact u3
                      · exact u4
                      · exact u5
                      · exact u6
                      · exact u7
                      · exact u8)
                    omega) (by decide) ?_
                  refine o_iconst (v := (-1)) dX2_levelOf_58 (by decide) ?_
                  exact o_iret (rt := .int) rfl rfl dX2_levelOf_59 rfl (Nat.zero_le _) (Nat.zero_le _)
theorem k_X2_levelOf_o {h : List px_C} {x0 : Int32} {b : Int32} (hf : f_X2_levelOf x0 = some b) : px_K (0) 0 0 m_X2_levelOf [.int x0] h (some (.int b)) h := px_Kof (g := px_g0 h) hf mf_X2_levelOf (Nat.le_of_ble_eq_true rfl) rfl (t_X2_levelOf (h := h) x0)
def p_X2_levelOf (x0 : Int32) : Int32 := (if x0 = (-14) then 4 else (if x0 = (-13) then 3 else (if x0 = (-12) then 3 else (if x0 = (-11) then 2 else (if x0 = (-10) then 2 else (if x0 = (-9) then (-1) else (if x0 = (-8) then 1 else (if x0 = (-7) then 0 else (-1)))))))))
theorem e_X2_levelOf (x0 : Int32) : f_X2_levelOf x0 = some (p_X2_levelOf x0) := by
  unfold f_X2_levelOf p_X2_levelOf
  simp only [px_ite_some]
theorem k_X2_levelOf {h : List px_C} {x0 : Int32} : px_K (0) 0 0 m_X2_levelOf [.int x0] h (some (.int (p_X2_levelOf x0))) h := k_X2_levelOf_o (e_X2_levelOf x0)
/-! ThreeOfThem.isSheet(I)Z: P, depth 0 -/
def f_X5_isSheet (x0 : Int32) : Option (Int32) := (if x0 < 0 then (some 0) else (if x0 < 4 then (some 1) else (some 0)))
set_option maxRecDepth 20000 in
theorem t_X5_isSheet {h : List px_C} (x0 : Int32) : px_O (0, 0, 0, h.length, m_X5_isSheet) (px_g0 h) (f_X5_isSheet x0) 0 [some (.int x0)] [] h 0 0 := by
  rw [f_X5_isSheet]
  refine o_iload_n dX5_isSheet_0 rfl ?_
  refine o_iflt (tgt := 13) dX5_isSheet_1 (by decide) (fun u1 => ?_) (fun u1 => ?_)
  · refine o_iconst (v := 0) dX5_isSheet_13 (by decide) ?_
    exact o_iret (rt := .boolean) rfl rfl dX5_isSheet_14 rfl (Nat.zero_le _) (Nat.zero_le _)
  · refine o_iload_n dX5_isSheet_4 rfl ?_
    refine o_iconst (v := 4) dX5_isSheet_5 (by decide) ?_
    refine o_icmpge (tgt := 13) dX5_isSheet_6 (by decide) (fun u2 => ?_) (fun u2 => ?_)
    · refine o_iconst (v := 0) dX5_isSheet_13 (by decide) ?_
      exact o_iret (rt := .boolean) rfl rfl dX5_isSheet_14 rfl (Nat.zero_le _) (Nat.zero_le _)
    · refine o_iconst (v := 1) dX5_isSheet_9 (by decide) ?_
      refine o_goto (tgt := 14) dX5_isSheet_10 (by decide) ?_
      exact o_iret (rt := .boolean) rfl rfl dX5_isSheet_14 rfl (Nat.zero_le _) (Nat.zero_le _)
theorem k_X5_isSheet_o {h : List px_C} {x0 : Int32} {b : Int32} (hf : f_X5_isSheet x0 = some b) : px_K (0) 0 0 m_X5_isSheet [.int x0] h (some (.int b)) h := px_Kof (g := px_g0 h) hf mf_X5_isSheet (Nat.le_of_ble_eq_true rfl) rfl (t_X5_isSheet (h := h) x0)
def p_X5_isSheet (x0 : Int32) : Int32 := (if x0 < 0 then 0 else (if x0 < 4 then 1 else 0))
theorem e_X5_isSheet (x0 : Int32) : f_X5_isSheet x0 = some (p_X5_isSheet x0) := by
  unfold f_X5_isSheet p_X5_isSheet
  simp only [px_ite_some]
theorem k_X5_isSheet {h : List px_C} {x0 : Int32} : px_K (0) 0 0 m_X5_isSheet [.int x0] h (some (.int (p_X5_isSheet x0))) h := k_X5_isSheet_o (e_X5_isSheet x0)
/-! ThreeOfThem.commonDivisor(II)I: L, depth 0 -/
def f_X5_commonDivisor_2 : Nat → Int32 → Int32 → Int32 → Option (Int32)
  | 0, _, _, _ => none
  | n + 1, y0, y1, y2 => (if 1 < y2 then (if y2 = 0 then none else (if (y0 - y0 / y2 * y2) = 0 then (if y2 = 0 then none else (if (y1 - y1 / y2 * y2) = 0 then (some y2) else ((f_X5_commonDivisor_2 n) y0 y1 (y2 + (-1))))) else ((f_X5_commonDivisor_2 n) y0 y1 (y2 + (-1))))) else (some 1))
set_option maxRecDepth 20000 in
theorem t_X5_commonDivisor_2 {h : List px_C} : ∀ (n : Nat) (y0 : Int32) (y1 : Int32) (y2 : Int32), px_O (0, 0, 0, h.length, m_X5_commonDivisor) (px_g0 h) (f_X5_commonDivisor_2 n y0 y1 y2) 2 [some (.int y0), some (.int y1), some (.int y2)] [] h 0 0 := by
  intro n
  induction n with
  | zero => intro y0 y1 y2; rw [f_X5_commonDivisor_2]; exact o_none
  | succ n ih =>
    intro y0 y1 y2
    rw [f_X5_commonDivisor_2]
    refine o_iload_n dX5_commonDivisor_2 rfl ?_
    refine o_iconst (v := 1) dX5_commonDivisor_3 (by decide) ?_
    refine o_icmple (tgt := 27) dX5_commonDivisor_4 (by decide) (fun u1 => ?_) (fun u1 => ?_)
    · refine o_iconst (v := 1) dX5_commonDivisor_27 (by decide) ?_
      exact o_iret (rt := .int) rfl rfl dX5_commonDivisor_28 rfl (Nat.zero_le _) (Nat.zero_le _)
    · refine o_iload_n dX5_commonDivisor_7 rfl ?_
      refine o_iload_n dX5_commonDivisor_8 rfl ?_
      refine o_ite (fun _ => o_none) (fun u2 => ?_)
      refine o_irem dX5_commonDivisor_9 u2 ?_
      refine o_ifne (tgt := 21) dX5_commonDivisor_10 (by decide) (fun u3 => ?_) (fun u3 => ?_)
      · refine o_iinc (v := (y2 + (-1))) (L' := [some (.int y0), some (.int y1), some (.int (y2 + (-1)))]) dX5_commonDivisor_21 rfl rfl (Nat.le_of_ble_eq_true rfl) rfl rfl ?_
        refine o_goto (tgt := 2) dX5_commonDivisor_24 (by decide) ?_
        exact (ih y0 y1 (y2 + (-1)))
      · refine o_iload_n dX5_commonDivisor_13 rfl ?_
        refine o_iload_n dX5_commonDivisor_14 rfl ?_
        refine o_ite (fun _ => o_none) (fun u4 => ?_)
        refine o_irem dX5_commonDivisor_15 u4 ?_
        refine o_ifne (tgt := 21) dX5_commonDivisor_16 (by decide) (fun u5 => ?_) (fun u5 => ?_)
        · refine o_iinc (v := (y2 + (-1))) (L' := [some (.int y0), some (.int y1), some (.int (y2 + (-1)))]) dX5_commonDivisor_21 rfl rfl (Nat.le_of_ble_eq_true rfl) rfl rfl ?_
          refine o_goto (tgt := 2) dX5_commonDivisor_24 (by decide) ?_
          exact (ih y0 y1 (y2 + (-1)))
        · refine o_iload_n dX5_commonDivisor_19 rfl ?_
          exact o_iret (rt := .int) rfl rfl dX5_commonDivisor_20 rfl (Nat.zero_le _) (Nat.zero_le _)
def f_X5_commonDivisor (x0 : Int32) (x1 : Int32) : Option (Int32) := (f_X5_commonDivisor_2 1000 x0 x1 x1)
set_option maxRecDepth 20000 in
theorem t_X5_commonDivisor {h : List px_C} (x0 : Int32) (x1 : Int32) : px_O (0, 0, 0, h.length, m_X5_commonDivisor) (px_g0 h) (f_X5_commonDivisor x0 x1) 0 [some (.int x0), some (.int x1), none] [] h 0 0 := by
  rw [f_X5_commonDivisor]
  refine o_iload_n dX5_commonDivisor_0 rfl ?_
  refine o_istore_n (L' := [some (.int x0), some (.int x1), some (.int x1)]) dX5_commonDivisor_1 (Nat.le_of_ble_eq_true rfl) rfl rfl ?_
  exact (t_X5_commonDivisor_2 (h := h) 1000 x0 x1 x1)
theorem k_X5_commonDivisor_o {h : List px_C} {x0 : Int32} {x1 : Int32} {b : Int32} (hf : f_X5_commonDivisor x0 x1 = some b) : px_K (0) 0 0 m_X5_commonDivisor [.int x0, .int x1] h (some (.int b)) h := px_Kof (g := px_g0 h) hf mf_X5_commonDivisor (Nat.le_of_ble_eq_true rfl) rfl (t_X5_commonDivisor (h := h) x0 x1)
theorem k_X5_commonDivisor {h : List px_C} {x0 : Int32} {x1 : Int32} {b : Int32} (hf : f_X5_commonDivisor x0 x1 = some b) : px_K (0) 0 0 m_X5_commonDivisor [.int x0, .int x1] h (some (.int b)) h := k_X5_commonDivisor_o hf
/-! ThreeOfThem.isUnder(II)Z: L, depth 0 -/
def f_X5_isUnder_4 : Nat → Int32 → Int32 → Int32 → Option (Int32)
  | 0, _, _, _ => none
  | n + 1, y1, y2, y3 => (if y3 < 6 then (if y2 < 0 then (some 0) else (if y2 < 6 then (if y2 = y1 then (some 1) else (if px_in y2 6 then ((f_X5_isUnder_4 n) y1 (px_und y2.toNatClampNeg) (y3 + 1)) else none)) else (some 0))) else (some 0))
set_option maxRecDepth 20000 in
theorem t_X5_isUnder_4 {h : List px_C} : ∀ (n : Nat) (y1 : Int32) (y2 : Int32) (y3 : Int32), px_O (0, 0, 0, h.length, m_X5_isUnder) (px_g0 h) (f_X5_isUnder_4 n y1 y2 y3) 4 [none, some (.int y1), some (.int y2), some (.int y3)] [] h 0 0 := by
  intro n
  induction n with
  | zero => intro y1 y2 y3; rw [f_X5_isUnder_4]; exact o_none
  | succ n ih =>
    intro y1 y2 y3
    rw [f_X5_isUnder_4]
    refine o_iload_n dX5_isUnder_4 rfl ?_
    refine o_bipush (v := 6) dX5_isUnder_5 (by decide) ?_
    refine o_icmpge (tgt := 39) dX5_isUnder_7 (by decide) (fun u1 => ?_) (fun u1 => ?_)
    · refine o_iconst (v := 0) dX5_isUnder_39 (by decide) ?_
      exact o_iret (rt := .boolean) rfl rfl dX5_isUnder_40 rfl (Nat.zero_le _) (Nat.zero_le _)
    · refine o_iload_n dX5_isUnder_10 rfl ?_
      refine o_iflt (tgt := 39) dX5_isUnder_11 (by decide) (fun u2 => ?_) (fun u2 => ?_)
      · refine o_iconst (v := 0) dX5_isUnder_39 (by decide) ?_
        exact o_iret (rt := .boolean) rfl rfl dX5_isUnder_40 rfl (Nat.zero_le _) (Nat.zero_le _)
      · refine o_iload_n dX5_isUnder_14 rfl ?_
        refine o_bipush (v := 6) dX5_isUnder_15 (by decide) ?_
        refine o_icmpge (tgt := 39) dX5_isUnder_17 (by decide) (fun u3 => ?_) (fun u3 => ?_)
        · refine o_iconst (v := 0) dX5_isUnder_39 (by decide) ?_
          exact o_iret (rt := .boolean) rfl rfl dX5_isUnder_40 rfl (Nat.zero_le _) (Nat.zero_le _)
        · refine o_iload_n dX5_isUnder_20 rfl ?_
          refine o_iload_n dX5_isUnder_21 rfl ?_
          refine o_icmpne (tgt := 27) dX5_isUnder_22 (by decide) (fun u4 => ?_) (fun u4 => ?_)
          · refine o_under dX5_isUnder_27 fu_X5_312 ?_
            refine o_iload_n dX5_isUnder_30 rfl ?_
            refine o_ite (fun u5 => ?_) (fun _ => o_none)
            refine o_uald dX5_isUnder_31 (px_in_vp u5) ?_
            refine o_istore_n (L' := [none, some (.int y1), some (.int (px_und y2.toNatClampNeg)), some (.int y3)]) dX5_isUnder_32 (Nat.le_of_ble_eq_true rfl) rfl rfl ?_
            refine o_iinc (v := (y3 + 1)) (L' := [none, some (.int y1), some (.int (px_und y2.toNatClampNeg)), some (.int (y3 + 1))]) dX5_isUnder_33 rfl rfl (Nat.le_of_ble_eq_true rfl) rfl rfl ?_
            refine o_goto (tgt := 4) dX5_isUnder_36 (by decide) ?_
            exact (ih y1 (px_und y2.toNatClampNeg) (y3 + 1))
          · refine o_iconst (v := 1) dX5_isUnder_25 (by decide) ?_
            exact o_iret (rt := .boolean) rfl rfl dX5_isUnder_26 rfl (Nat.zero_le _) (Nat.zero_le _)
def f_X5_isUnder (x0 : Int32) (x1 : Int32) : Option (Int32) := (f_X5_isUnder_4 1000 x1 x0 0)
set_option maxRecDepth 20000 in
theorem t_X5_isUnder {h : List px_C} (x0 : Int32) (x1 : Int32) : px_O (0, 0, 0, h.length, m_X5_isUnder) (px_g0 h) (f_X5_isUnder x0 x1) 0 [some (.int x0), some (.int x1), none, none] [] h 0 0 := by
  rw [f_X5_isUnder]
  refine o_iload_n dX5_isUnder_0 rfl ?_
  refine o_istore_n (L' := [some (.int x0), some (.int x1), some (.int x0), none]) dX5_isUnder_1 (Nat.le_of_ble_eq_true rfl) rfl rfl ?_
  refine o_iconst (v := 0) dX5_isUnder_2 (by decide) ?_
  refine o_istore_n (L' := [some (.int x0), some (.int x1), some (.int x0), some (.int 0)]) dX5_isUnder_3 (Nat.le_of_ble_eq_true rfl) rfl rfl ?_
  exact o_weak (L' := [none, some (.int x1), some (.int x0), some (.int 0)]) ⟨rfl, ⟨rfl, ⟨rfl, trivial⟩⟩⟩ (t_X5_isUnder_4 (h := h) 1000 x1 x0 0)
theorem k_X5_isUnder_o {h : List px_C} {x0 : Int32} {x1 : Int32} {b : Int32} (hf : f_X5_isUnder x0 x1 = some b) : px_K (0) 0 0 m_X5_isUnder [.int x0, .int x1] h (some (.int b)) h := px_Kof (g := px_g0 h) hf mf_X5_isUnder (Nat.le_of_ble_eq_true rfl) rfl (t_X5_isUnder (h := h) x0 x1)
theorem k_X5_isUnder {h : List px_C} {x0 : Int32} {x1 : Int32} {b : Int32} (hf : f_X5_isUnder x0 x1 = some b) : px_K (0) 0 0 m_X5_isUnder [.int x0, .int x1] h (some (.int b)) h := k_X5_isUnder_o hf
