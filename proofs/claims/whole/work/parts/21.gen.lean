/-! ThreeOfThemModel.in(JJJ)Z: P, depth 0 -/
def f_X6_in (x0 : Int64) (x1 : Int64) (x2 : Int64) : Option (Int32) := (if (lg_cmp x0 x1) < 0 then (some 0) else (if 0 < (lg_cmp x0 x2) then (some 0) else (some 1)))
set_option maxRecDepth 20000 in
theorem t_X6_in {h : List px_C} (x0 : Int64) (x1 : Int64) (x2 : Int64) : px_O (0, 0, 0, h.length, m_X6_in) (px_g0 h) (f_X6_in x0 x1 x2) 0 [some (.long x0), none, some (.long x1), none, some (.long x2), none] [] h 0 0 := by
  rw [f_X6_in]
  refine o_lload_n dX6_in_0 rfl ?_
  refine o_lload_n dX6_in_1 rfl ?_
  refine o_lcmp dX6_in_2 ?_
  refine o_iflt (tgt := 17) dX6_in_3 (by decide) (fun u1 => ?_) (fun u1 => ?_)
  · refine o_iconst (v := 0) dX6_in_17 (by decide) ?_
    exact o_iret (rt := .boolean) rfl rfl dX6_in_18 rfl (Nat.zero_le _) (Nat.zero_le _)
  · refine o_lload_n dX6_in_6 rfl ?_
    refine o_lload dX6_in_7 rfl ?_
    refine o_lcmp dX6_in_9 ?_
    refine o_ifgt (tgt := 17) dX6_in_10 (by decide) (fun u2 => ?_) (fun u2 => ?_)
    · refine o_iconst (v := 0) dX6_in_17 (by decide) ?_
      exact o_iret (rt := .boolean) rfl rfl dX6_in_18 rfl (Nat.zero_le _) (Nat.zero_le _)
    · refine o_iconst (v := 1) dX6_in_13 (by decide) ?_
      refine o_goto (tgt := 18) dX6_in_14 (by decide) ?_
      exact o_iret (rt := .boolean) rfl rfl dX6_in_18 rfl (Nat.zero_le _) (Nat.zero_le _)
theorem k_X6_in_o {h : List px_C} {x0 : Int64} {x1 : Int64} {x2 : Int64} {b : Int32} (hf : f_X6_in x0 x1 x2 = some b) : px_K (0) 0 0 m_X6_in [.long x0, .long x1, .long x2] h (some (.int b)) h := px_Kof (g := px_g0 h) hf mf_X6_in (Nat.le_of_ble_eq_true rfl) rfl (t_X6_in (h := h) x0 x1 x2)
def p_X6_in (x0 : Int64) (x1 : Int64) (x2 : Int64) : Int32 := (if (lg_cmp x0 x1) < 0 then 0 else (if 0 < (lg_cmp x0 x2) then 0 else 1))
theorem e_X6_in (x0 : Int64) (x1 : Int64) (x2 : Int64) : f_X6_in x0 x1 x2 = some (p_X6_in x0 x1 x2) := by
  unfold f_X6_in p_X6_in
  simp only [px_ite_some]
theorem k_X6_in {h : List px_C} {x0 : Int64} {x1 : Int64} {x2 : Int64} : px_K (0) 0 0 m_X6_in [.long x0, .long x1, .long x2] h (some (.int (p_X6_in x0 x1 x2))) h := k_X6_in_o (e_X6_in x0 x1 x2)
/-! ThreeOfThemModel.within(III)I: P, depth 0 -/
def f_X6_within (x0 : Int32) (x1 : Int32) (x2 : Int32) : Option (Int32) := (if x0 < x1 then (some x1) else (if x2 < x0 then (some x2) else (some x0)))
set_option maxRecDepth 20000 in
theorem t_X6_within {h : List px_C} (x0 : Int32) (x1 : Int32) (x2 : Int32) : px_O (0, 0, 0, h.length, m_X6_within) (px_g0 h) (f_X6_within x0 x1 x2) 0 [some (.int x0), some (.int x1), some (.int x2)] [] h 0 0 := by
  rw [f_X6_within]
  refine o_iload_n dX6_within_0 rfl ?_
  refine o_iload_n dX6_within_1 rfl ?_
  refine o_icmpge (tgt := 9) dX6_within_2 (by decide) (fun u1 => ?_) (fun u1 => ?_)
  · refine o_iload_n dX6_within_9 rfl ?_
    refine o_iload_n dX6_within_10 rfl ?_
    refine o_icmple (tgt := 18) dX6_within_11 (by decide) (fun u2 => ?_) (fun u2 => ?_)
    · refine o_iload_n dX6_within_18 rfl ?_
      exact o_iret (rt := .int) rfl rfl dX6_within_19 rfl (Nat.zero_le _) (Nat.zero_le _)
    · refine o_iload_n dX6_within_14 rfl ?_
      refine o_goto (tgt := 19) dX6_within_15 (by decide) ?_
      exact o_iret (rt := .int) rfl rfl dX6_within_19 rfl (Nat.zero_le _) (Nat.zero_le _)
  · refine o_iload_n dX6_within_5 rfl ?_
    refine o_goto (tgt := 19) dX6_within_6 (by decide) ?_
    exact o_iret (rt := .int) rfl rfl dX6_within_19 rfl (Nat.zero_le _) (Nat.zero_le _)
theorem k_X6_within_o {h : List px_C} {x0 : Int32} {x1 : Int32} {x2 : Int32} {b : Int32} (hf : f_X6_within x0 x1 x2 = some b) : px_K (0) 0 0 m_X6_within [.int x0, .int x1, .int x2] h (some (.int b)) h := px_Kof (g := px_g0 h) hf mf_X6_within (Nat.le_of_ble_eq_true rfl) rfl (t_X6_within (h := h) x0 x1 x2)
def p_X6_within (x0 : Int32) (x1 : Int32) (x2 : Int32) : Int32 := (if x0 < x1 then x1 else (if x2 < x0 then x2 else x0))
theorem e_X6_within (x0 : Int32) (x1 : Int32) (x2 : Int32) : f_X6_within x0 x1 x2 = some (p_X6_within x0 x1 x2) := by
  unfold f_X6_within p_X6_within
  simp only [px_ite_some]
theorem k_X6_within {h : List px_C} {x0 : Int32} {x1 : Int32} {x2 : Int32} : px_K (0) 0 0 m_X6_within [.int x0, .int x1, .int x2] h (some (.int (p_X6_within x0 x1 x2))) h := k_X6_within_o (e_X6_within x0 x1 x2)
/-! ThreeOfThemModel.bitsOf(I)I: L, depth 0 -/
def f_X6_bitsOf_4 : Nat → Int32 → Int32 → Option (Int32)
  | 0, _, _ => none
  | n + 1, y1, y2 => (if y2 = 0 then (some y1) else ((f_X6_bitsOf_4 n) (y1 + 1) (y2 &&& (y2 - 1))))
set_option maxRecDepth 20000 in
theorem t_X6_bitsOf_4 {h : List px_C} : ∀ (n : Nat) (y1 : Int32) (y2 : Int32), px_O (0, 0, 0, h.length, m_X6_bitsOf) (px_g0 h) (f_X6_bitsOf_4 n y1 y2) 4 [none, some (.int y1), some (.int y2)] [] h 0 0 := by
  intro n
  induction n with
  | zero => intro y1 y2; rw [f_X6_bitsOf_4]; exact o_none
  | succ n ih =>
    intro y1 y2
    rw [f_X6_bitsOf_4]
    refine o_iload_n dX6_bitsOf_4 rfl ?_
    refine o_ifeq (tgt := 20) dX6_bitsOf_5 (by decide) (fun u1 => ?_) (fun u1 => ?_)
    · refine o_iload_n dX6_bitsOf_20 rfl ?_
      exact o_iret (rt := .int) rfl rfl dX6_bitsOf_21 rfl (Nat.zero_le _) (Nat.zero_le _)
    · refine o_iinc (v := (y1 + 1)) (L' := [none, some (.int (y1 + 1)), some (.int y2)]) dX6_bitsOf_8 rfl rfl (Nat.le_of_ble_eq_true rfl) rfl rfl ?_
      refine o_iload_n dX6_bitsOf_11 rfl ?_
      refine o_iload_n dX6_bitsOf_12 rfl ?_
      refine o_iconst (v := 1) dX6_bitsOf_13 (by decide) ?_
      refine o_isub dX6_bitsOf_14 ?_
      refine o_iand dX6_bitsOf_15 ?_
      refine o_istore_n (L' := [none, some (.int (y1 + 1)), some (.int (y2 &&& (y2 - 1)))]) dX6_bitsOf_16 (Nat.le_of_ble_eq_true rfl) rfl rfl ?_
      refine o_goto (tgt := 4) dX6_bitsOf_17 (by decide) ?_
      exact (ih (y1 + 1) (y2 &&& (y2 - 1)))
def f_X6_bitsOf (x0 : Int32) : Option (Int32) := (f_X6_bitsOf_4 1000 0 x0)
set_option maxRecDepth 20000 in
theorem t_X6_bitsOf {h : List px_C} (x0 : Int32) : px_O (0, 0, 0, h.length, m_X6_bitsOf) (px_g0 h) (f_X6_bitsOf x0) 0 [some (.int x0), none, none] [] h 0 0 := by
  rw [f_X6_bitsOf]
  refine o_iconst (v := 0) dX6_bitsOf_0 (by decide) ?_
  refine o_istore_n (L' := [some (.int x0), some (.int 0), none]) dX6_bitsOf_1 (Nat.le_of_ble_eq_true rfl) rfl rfl ?_
  refine o_iload_n dX6_bitsOf_2 rfl ?_
  refine o_istore_n (L' := [some (.int x0), some (.int 0), some (.int x0)]) dX6_bitsOf_3 (Nat.le_of_ble_eq_true rfl) rfl rfl ?_
  exact o_weak (L' := [none, some (.int 0), some (.int x0)]) ⟨rfl, ⟨rfl, trivial⟩⟩ (t_X6_bitsOf_4 (h := h) 1000 0 x0)
theorem k_X6_bitsOf_o {h : List px_C} {x0 : Int32} {b : Int32} (hf : f_X6_bitsOf x0 = some b) : px_K (0) 0 0 m_X6_bitsOf [.int x0] h (some (.int b)) h := px_Kof (g := px_g0 h) hf mf_X6_bitsOf (Nat.le_of_ble_eq_true rfl) rfl (t_X6_bitsOf (h := h) x0)
theorem k_X6_bitsOf {h : List px_C} {x0 : Int32} {b : Int32} (hf : f_X6_bitsOf x0 = some b) : px_K (0) 0 0 m_X6_bitsOf [.int x0] h (some (.int b)) h := k_X6_bitsOf_o hf
/-! ThreeOfThemModel.isSheet(I)Z: L, depth 1 -/
def f_X6_isSheet (x0 : Int32) : Option (Int32) := (if (p_X6_in x0.toInt64 0 3) = 0 ∨ (p_X6_in x0.toInt64 0 3) = 1 then some (p_X6_in x0.toInt64 0 3) else none)
set_option maxRecDepth 20000 in
theorem t_X6_isSheet {h : List px_C} (x0 : Int32) : px_O (1, 0, 0, h.length, m_X6_isSheet) (px_g0 h) (f_X6_isSheet x0) 0 [some (.int x0)] [] h 0 0 := by
  rw [f_X6_isSheet]
  refine o_iload_n dX6_isSheet_0 rfl ?_
  refine o_i2l dX6_isSheet_1 ?_
  refine o_lconst (v := 0) dX6_isSheet_2 (by decide) ?_
  refine o_ldc2 (v := 3) dX6_isSheet_3 cst_X6_473 ?_
  refine h_cSP (as := [.long x0.toInt64, .long 0, .long 3]) (S1 := []) (d' := 0) dX6_isSheet_6 mf_X6_in ml_X6_97 ms_X6_in rfl (Nat.le_of_ble_eq_true rfl) rfl (Nat.le_of_ble_eq_true rfl) ⟨Nat.zero_le _, Nat.zero_le _⟩ (k_X6_in) ?_
  refine o_ite (fun u1 => ?_) (fun _ => o_none)
  exact o_iret (rt := .boolean) rfl (by rcases u1 with u1 | u1 <;> rw [u1] <;> rfl) dX6_isSheet_9 rfl (Nat.zero_le _) (Nat.zero_le _)
theorem k_X6_isSheet_o {h : List px_C} {x0 : Int32} {b : Int32} (hf : f_X6_isSheet x0 = some b) : px_K (1) 0 0 m_X6_isSheet [.int x0] h (some (.int b)) h := px_Kof (g := px_g0 h) hf mf_X6_isSheet (Nat.le_of_ble_eq_true rfl) rfl (t_X6_isSheet (h := h) x0)
theorem k_X6_isSheet {h : List px_C} {x0 : Int32} {b : Int32} (hf : f_X6_isSheet x0 = some b) : px_K (1) 0 0 m_X6_isSheet [.int x0] h (some (.int b)) h := k_X6_isSheet_o hf
/-! ThreeOfThemModel.over(I)I: P, depth 0 -/
def f_X6_over (x0 : Int32) : Option (Int32) := (if x0 = 0 then (some (-1)) else (if x0 = 3 then (some 1) else (if x0 = 5 then (some 1) else (if x0 = 4 then (some 2) else (some 0)))))
set_option maxRecDepth 20000 in
theorem t_X6_over {h : List px_C} (x0 : Int32) : px_O (0, 0, 0, h.length, m_X6_over) (px_g0 h) (f_X6_over x0) 0 [some (.int x0)] [] h 0 0 := by
  rw [f_X6_over]
  refine o_iload_n dX6_over_0 rfl ?_
  refine o_ifne (tgt := 8) dX6_over_1 (by decide) (fun u1 => ?_) (fun u1 => ?_)
  · refine o_iload_n dX6_over_8 rfl ?_
    refine o_iconst (v := 3) dX6_over_9 (by decide) ?_
    refine o_icmpeq (tgt := 18) dX6_over_10 (by decide) (fun u2 => ?_) (fun u2 => ?_)
    · refine o_iconst (v := 1) dX6_over_18 (by decide) ?_
      refine o_goto (tgt := 32) dX6_over_19 (by decide) ?_
      exact o_iret (rt := .int) rfl rfl dX6_over_32 rfl (Nat.zero_le _) (Nat.zero_le _)
    · refine o_iload_n dX6_over_13 rfl ?_
      refine o_iconst (v := 5) dX6_over_14 (by decide) ?_
      refine o_icmpne (tgt := 22) dX6_over_15 (by decide) (fun u3 => ?_) (fun u3 => ?_)
      · refine o_iload_n dX6_over_22 rfl ?_
        refine o_iconst (v := 4) dX6_over_23 (by decide) ?_
        refine o_icmpne (tgt := 31) dX6_over_24 (by decide) (fun u4 => ?_) (fun u4 => ?_)
        · refine o_iconst (v := 0) dX6_over_31 (by decide) ?_
          exact o_iret (rt := .int) rfl rfl dX6_over_32 rfl (Nat.zero_le _) (Nat.zero_le _)
        · refine o_iconst (v := 2) dX6_over_27 (by decide) ?_
          refine o_goto (tgt := 32) dX6_over_28 (by decide) ?_
          exact o_iret (rt := .int) rfl rfl dX6_over_32 rfl (Nat.zero_le _) (Nat.zero_le _)
      · refine o_iconst (v := 1) dX6_over_18 (by decide) ?_
        refine o_goto (tgt := 32) dX6_over_19 (by decide) ?_
        exact o_iret (rt := .int) rfl rfl dX6_over_32 rfl (Nat.zero_le _) (Nat.zero_le _)
  · refine o_iconst (v := (-1)) dX6_over_4 (by decide) ?_
    refine o_goto (tgt := 32) dX6_over_5 (by decide) ?_
    exact o_iret (rt := .int) rfl rfl dX6_over_32 rfl (Nat.zero_le _) (Nat.zero_le _)
theorem k_X6_over_o {h : List px_C} {x0 : Int32} {b : Int32} (hf : f_X6_over x0 = some b) : px_K (0) 0 0 m_X6_over [.int x0] h (some (.int b)) h := px_Kof (g := px_g0 h) hf mf_X6_over (Nat.le_of_ble_eq_true rfl) rfl (t_X6_over (h := h) x0)
def p_X6_over (x0 : Int32) : Int32 := (if x0 = 0 then (-1) else (if x0 = 3 then 1 else (if x0 = 5 then 1 else (if x0 = 4 then 2 else 0))))
theorem e_X6_over (x0 : Int32) : f_X6_over x0 = some (p_X6_over x0) := by
  unfold f_X6_over p_X6_over
  simp only [px_ite_some]
theorem k_X6_over {h : List px_C} {x0 : Int32} : px_K (0) 0 0 m_X6_over [.int x0] h (some (.int (p_X6_over x0))) h := k_X6_over_o (e_X6_over x0)
