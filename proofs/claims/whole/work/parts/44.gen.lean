/-! ThreeOfThem.setRent(I)I: S, depth 0 -/
def f_X5_setRent (T : Nat) (x0 : Int32) (st : px_S) : Option (Int32 × px_S) := (if x0 < 0 then (some ((-2), st)) else (if 9999 < x0 then (some ((-2), st)) else (some ((st 1 6), (up st 1 6 x0)))))
set_option maxRecDepth 20000 in
theorem t_X5_setRent (T : Nat) (x0 : Int32) (st : px_S) : px_O (0, 0, 0, px_n T, m_X5_setRent) (px_gi T) (f_X5_setRent T x0 st) 0 [some (.ref 0), some (.int x0), none] [] (HP T st) 0 0 := by
  rw [f_X5_setRent]
  refine o_iload_n dX5_setRent_0 rfl ?_
  refine o_iflt (tgt := 11) dX5_setRent_1 (by decide) (fun u1 => ?_) (fun u1 => ?_)
  · refine o_bipush (v := (-2)) dX5_setRent_11 (by decide) ?_
    exact o_iret (rt := .int) rfl rfl dX5_setRent_13 rfl (Nat.zero_le _) (Nat.zero_le _)
  · refine o_iload_n dX5_setRent_4 rfl ?_
    refine o_sipush (v := 9999) dX5_setRent_5 (by decide) ?_
    refine o_icmple (tgt := 14) dX5_setRent_8 (by decide) (fun u2 => ?_) (fun u2 => ?_)
    · refine o_aload_n dX5_setRent_14 rfl ?_
      refine h_get (v := .ref 1) dX5_setRent_15 q5 fl_X5_12 (by decide) (px_lt (by decide)) (c0 _) rfl ?_
      refine h_get (v := .int (st 1 6)) dX5_setRent_18 q0 fl_X5_115 (by decide) (px_ltH 0 (by decide) (Or.inl rfl)) (cH (Or.inl rfl) _) rfl ?_
      refine o_istore_n (L' := [some (.ref 0), some (.int x0), some (.int (st 1 6))]) dX5_setRent_21 (Nat.le_of_ble_eq_true rfl) rfl rfl ?_
      refine o_aload_n dX5_setRent_22 rfl ?_
      refine h_get (v := .ref 1) dX5_setRent_23 q5 fl_X5_12 (by decide) (px_lt (by decide)) (c0 _) rfl ?_
      refine o_iload_n dX5_setRent_26 rfl ?_
      refine h_puti dX5_setRent_27 q0 fl_X5_115 pf_X0_6 (px_ltH 0 (by decide) (Or.inl rfl)) (cH (Or.inl rfl) _) (Nat.le_of_ble_eq_true rfl) (sH_6 (Or.inl rfl) _ _) ?_
      refine o_iload_n dX5_setRent_30 rfl ?_
      exact o_iret (rt := .int) rfl rfl dX5_setRent_31 rfl (Nat.zero_le _) (Nat.zero_le _)
    · refine o_bipush (v := (-2)) dX5_setRent_11 (by decide) ?_
      exact o_iret (rt := .int) rfl rfl dX5_setRent_13 rfl (Nat.zero_le _) (Nat.zero_le _)
theorem k_X5_setRent {T : Nat} {st : px_S} {x0 : Int32} {b : Int32 × px_S} (hf : f_X5_setRent T x0 st = some b) : px_K (0) 0 0 m_X5_setRent [.ref 0, .int x0] (HP T st) ((px_gi T) b).1 ((px_gi T) b).2 := px_KofH hf mf_X5_setRent (Nat.le_of_ble_eq_true rfl) rfl (t_X5_setRent T x0 st)
/-! ThreeOfThem.setNeeded(I)I: S, depth 0 -/
def f_X5_setNeeded (T : Nat) (x0 : Int32) (st : px_S) : Option (Int32 × px_S) := (if x0 < 2 then (some ((-2), st)) else (if 5 < x0 then (some ((-2), st)) else (some ((st 1 7), (up st 1 7 x0)))))
set_option maxRecDepth 20000 in
theorem t_X5_setNeeded (T : Nat) (x0 : Int32) (st : px_S) : px_O (0, 0, 0, px_n T, m_X5_setNeeded) (px_gi T) (f_X5_setNeeded T x0 st) 0 [some (.ref 0), some (.int x0), none] [] (HP T st) 0 0 := by
  rw [f_X5_setNeeded]
  refine o_iload_n dX5_setNeeded_0 rfl ?_
  refine o_iconst (v := 2) dX5_setNeeded_1 (by decide) ?_
  refine o_icmplt (tgt := 10) dX5_setNeeded_2 (by decide) (fun u1 => ?_) (fun u1 => ?_)
  · refine o_bipush (v := (-2)) dX5_setNeeded_10 (by decide) ?_
    exact o_iret (rt := .int) rfl rfl dX5_setNeeded_12 rfl (Nat.zero_le _) (Nat.zero_le _)
  · refine o_iload_n dX5_setNeeded_5 rfl ?_
    refine o_iconst (v := 5) dX5_setNeeded_6 (by decide) ?_
    refine o_icmple (tgt := 13) dX5_setNeeded_7 (by decide) (fun u2 => ?_) (fun u2 => ?_)
    · refine o_aload_n dX5_setNeeded_13 rfl ?_
      refine h_get (v := .ref 1) dX5_setNeeded_14 q5 fl_X5_12 (by decide) (px_lt (by decide)) (c0 _) rfl ?_
      refine h_get (v := .int (st 1 7)) dX5_setNeeded_17 q0 fl_X5_118 (by decide) (px_ltH 0 (by decide) (Or.inl rfl)) (cH (Or.inl rfl) _) rfl ?_
      refine o_istore_n (L' := [some (.ref 0), some (.int x0), some (.int (st 1 7))]) dX5_setNeeded_20 (Nat.le_of_ble_eq_true rfl) rfl rfl ?_
      refine o_aload_n dX5_setNeeded_21 rfl ?_
      refine h_get (v := .ref 1) dX5_setNeeded_22 q5 fl_X5_12 (by decide) (px_lt (by decide)) (c0 _) rfl ?_
      refine o_iload_n dX5_setNeeded_25 rfl ?_
      refine h_puti dX5_setNeeded_26 q0 fl_X5_118 pf_X0_7 (px_ltH 0 (by decide) (Or.inl rfl)) (cH (Or.inl rfl) _) (Nat.le_of_ble_eq_true rfl) (sH_7 (Or.inl rfl) _ _) ?_
      refine o_iload_n dX5_setNeeded_29 rfl ?_
      exact o_iret (rt := .int) rfl rfl dX5_setNeeded_30 rfl (Nat.zero_le _) (Nat.zero_le _)
    · refine o_bipush (v := (-2)) dX5_setNeeded_10 (by decide) ?_
      exact o_iret (rt := .int) rfl rfl dX5_setNeeded_12 rfl (Nat.zero_le _) (Nat.zero_le _)
theorem k_X5_setNeeded {T : Nat} {st : px_S} {x0 : Int32} {b : Int32 × px_S} (hf : f_X5_setNeeded T x0 st = some b) : px_K (0) 0 0 m_X5_setNeeded [.ref 0, .int x0] (HP T st) ((px_gi T) b).1 ((px_gi T) b).2 := px_KofH hf mf_X5_setNeeded (Nat.le_of_ble_eq_true rfl) rfl (t_X5_setNeeded T x0 st)
/-! ThreeOfThem.setDay(I)I: S, depth 0 -/
def f_X5_setDay (T : Nat) (x0 : Int32) (st : px_S) : Option (Int32 × px_S) := (if x0 < 0 then (some ((-2), st)) else (if 999 < x0 then (some ((-2), st)) else (some ((st 1 8), (up st 1 8 x0)))))
set_option maxRecDepth 20000 in
theorem t_X5_setDay (T : Nat) (x0 : Int32) (st : px_S) : px_O (0, 0, 0, px_n T, m_X5_setDay) (px_gi T) (f_X5_setDay T x0 st) 0 [some (.ref 0), some (.int x0), none] [] (HP T st) 0 0 := by
  rw [f_X5_setDay]
  refine o_iload_n dX5_setDay_0 rfl ?_
  refine o_iflt (tgt := 11) dX5_setDay_1 (by decide) (fun u1 => ?_) (fun u1 => ?_)
  · refine o_bipush (v := (-2)) dX5_setDay_11 (by decide) ?_
    exact o_iret (rt := .int) rfl rfl dX5_setDay_13 rfl (Nat.zero_le _) (Nat.zero_le _)
  · refine o_iload_n dX5_setDay_4 rfl ?_
    refine o_sipush (v := 999) dX5_setDay_5 (by decide) ?_
    refine o_icmple (tgt := 14) dX5_setDay_8 (by decide) (fun u2 => ?_) (fun u2 => ?_)
    · refine o_aload_n dX5_setDay_14 rfl ?_
      refine h_get (v := .ref 1) dX5_setDay_15 q5 fl_X5_12 (by decide) (px_lt (by decide)) (c0 _) rfl ?_
      refine h_get (v := .int (st 1 8)) dX5_setDay_18 q0 fl_X5_121 (by decide) (px_ltH 0 (by decide) (Or.inl rfl)) (cH (Or.inl rfl) _) rfl ?_
      refine o_istore_n (L' := [some (.ref 0), some (.int x0), some (.int (st 1 8))]) dX5_setDay_21 (Nat.le_of_ble_eq_true rfl) rfl rfl ?_
      refine o_aload_n dX5_setDay_22 rfl ?_
      refine h_get (v := .ref 1) dX5_setDay_23 q5 fl_X5_12 (by decide) (px_lt (by decide)) (c0 _) rfl ?_
      refine o_iload_n dX5_setDay_26 rfl ?_
      refine h_puti dX5_setDay_27 q0 fl_X5_121 pf_X0_8 (px_ltH 0 (by decide) (Or.inl rfl)) (cH (Or.inl rfl) _) (Nat.le_of_ble_eq_true rfl) (sH_8 (Or.inl rfl) _ _) ?_
      refine o_iload_n dX5_setDay_30 rfl ?_
      exact o_iret (rt := .int) rfl rfl dX5_setDay_31 rfl (Nat.zero_le _) (Nat.zero_le _)
    · refine o_bipush (v := (-2)) dX5_setDay_11 (by decide) ?_
      exact o_iret (rt := .int) rfl rfl dX5_setDay_13 rfl (Nat.zero_le _) (Nat.zero_le _)
theorem k_X5_setDay {T : Nat} {st : px_S} {x0 : Int32} {b : Int32 × px_S} (hf : f_X5_setDay T x0 st = some b) : px_K (0) 0 0 m_X5_setDay [.ref 0, .int x0] (HP T st) ((px_gi T) b).1 ((px_gi T) b).2 := px_KofH hf mf_X5_setDay (Nat.le_of_ble_eq_true rfl) rfl (t_X5_setDay T x0 st)
/-! ThreeOfThem.setNumber(II)I: S, depth 1 -/
def f_X5_setNumber (T : Nat) (x0 : Int32) (x1 : Int32) (st : px_S) : Option (Int32 × px_S) := ((f_X0_knows T st 1 x0).bind fun b1 => (if b1 = 0 then (some ((-2), st)) else (if x1 < 0 then (some ((-2), st)) else (if 9 < x1 then (some ((-2), st)) else (if px_in x0 7 then (if px_in x0 7 then (some ((st 3 x0.toNatClampNeg), (up st 3 x0.toNatClampNeg x1))) else none) else none)))))
set_option maxRecDepth 20000 in
theorem t_X5_setNumber (T : Nat) (x0 : Int32) (x1 : Int32) (st : px_S) : px_O (1, 0, 0, px_n T, m_X5_setNumber) (px_gi T) (f_X5_setNumber T x0 x1 st) 0 [some (.ref 0), some (.int x0), some (.int x1), none] [] (HP T st) 0 0 := by
  rw [f_X5_setNumber]
  refine o_aload_n dX5_setNumber_0 rfl ?_
  refine h_get (v := .ref 1) dX5_setNumber_1 q5 fl_X5_12 (by decide) (px_lt (by decide)) (c0 _) rfl ?_
  refine o_iload_n dX5_setNumber_4 rfl ?_
  refine h_cV0 (as := [.int x0]) (S1 := []) (d' := 0) dX5_setNumber_5 mf_X0_knows ml_X5_124 mv_X0_knows q0 rfl (hp_at (px_ltH 0 (by decide) (Or.inl rfl)) (cH (Or.inl rfl) _)) rfl (Nat.le_of_ble_eq_true rfl) rfl (Nat.le_of_ble_eq_true rfl) ⟨Nat.zero_le _, Nat.zero_le _⟩ (fun b hb => k_X0_knows (Or.inl rfl) hb) (fun b1 hb1 => ?_)
  refine o_ifeq (tgt := 21) dX5_setNumber_8 (by decide) (fun u2 => ?_) (fun u2 => ?_)
  · refine o_bipush (v := (-2)) dX5_setNumber_21 (by decide) ?_
    exact o_iret (rt := .int) rfl rfl dX5_setNumber_23 rfl (Nat.zero_le _) (Nat.zero_le _)
  · refine o_iload_n dX5_setNumber_11 rfl ?_
    refine o_iflt (tgt := 21) dX5_setNumber_12 (by decide) (fun u3 => ?_) (fun u3 => ?_)
    · refine o_bipush (v := (-2)) dX5_setNumber_21 (by decide) ?_
      exact o_iret (rt := .int) rfl rfl dX5_setNumber_23 rfl (Nat.zero_le _) (Nat.zero_le _)
    · refine o_iload_n dX5_setNumber_15 rfl ?_
      refine o_bipush (v := 9) dX5_setNumber_16 (by decide) ?_
      refine o_icmple (tgt := 24) dX5_setNumber_18 (by decide) (fun u4 => ?_) (fun u4 => ?_)
      · refine o_aload_n dX5_setNumber_24 rfl ?_
        refine h_get (v := .ref 1) dX5_setNumber_25 q5 fl_X5_12 (by decide) (px_lt (by decide)) (c0 _) rfl ?_
        refine h_get (v := .ref 3) dX5_setNumber_28 q0 fl_X5_128 (by decide) (px_ltH 0 (by decide) (Or.inl rfl)) (cH (Or.inl rfl) _) rfl ?_
        refine o_iload_n dX5_setNumber_31 rfl ?_
        refine h_iald (n := 7) dX5_setNumber_32 (px_lt (by decide)) (c3 _) (fun u5 => ?_)
        refine o_istore_n (L' := [some (.ref 0), some (.int x0), some (.int x1), some (.int (st 3 x0.toNatClampNeg))]) dX5_setNumber_33 (Nat.le_of_ble_eq_true rfl) rfl rfl ?_
        refine o_aload_n dX5_setNumber_34 rfl ?_
        refine h_get (v := .ref 1) dX5_setNumber_35 q5 fl_X5_12 (by decide) (px_lt (by decide)) (c0 _) rfl ?_
        refine h_get (v := .ref 3) dX5_setNumber_38 q0 fl_X5_128 (by decide) (px_ltH 0 (by decide) (Or.inl rfl)) (cH (Or.inl rfl) _) rfl ?_
        refine o_iload_n dX5_setNumber_41 rfl ?_
        refine o_iload_n dX5_setNumber_42 rfl ?_
        refine h_iast (n := 7) dX5_setNumber_43 (px_lt (by decide)) c3 (fun u6 => ?_)
        refine o_iload_n dX5_setNumber_44 rfl ?_
        exact o_iret (rt := .int) rfl rfl dX5_setNumber_45 rfl (Nat.zero_le _) (Nat.zero_le _)
      · refine o_bipush (v := (-2)) dX5_setNumber_21 (by decide) ?_
        exact o_iret (rt := .int) rfl rfl dX5_setNumber_23 rfl (Nat.zero_le _) (Nat.zero_le _)
theorem k_X5_setNumber {T : Nat} {st : px_S} {x0 : Int32} {x1 : Int32} {b : Int32 × px_S} (hf : f_X5_setNumber T x0 x1 st = some b) : px_K (1) 0 0 m_X5_setNumber [.ref 0, .int x0, .int x1] (HP T st) ((px_gi T) b).1 ((px_gi T) b).2 := px_KofH hf mf_X5_setNumber (Nat.le_of_ble_eq_true rfl) rfl (t_X5_setNumber T x0 x1 st)
/-! ThreeOfThem.setIn(II)I: S, depth 2 -/
def f_X5_setIn_39 (T : Nat) (y1 : Int32) (y2 : Int32) (z0 : Int32) (st : px_S) : Option (Int32 × px_S) := (if y2 = 1 then (some (z0, (up st 1 5 ((st 1 5) ||| (p_X5_bit y1))))) else (some (z0, (up st 1 5 ((st 1 5) &&& ((p_X5_bit y1) ^^^ (-1)))))))
set_option maxRecDepth 20000 in
theorem t_X5_setIn_39 (T : Nat) (y1 : Int32) (y2 : Int32) (z0 : Int32) (st : px_S) : px_O (2, 0, 0, px_n T, m_X5_setIn) (px_gi T) (f_X5_setIn_39 T y1 y2 z0 st) 39 [some (.ref 0), some (.int y1), some (.int y2), none] [.int z0] (HP T st) 0 0 := by
  rw [f_X5_setIn_39]
  refine o_istore_n (L' := [some (.ref 0), some (.int y1), some (.int y2), some (.int z0)]) dX5_setIn_39 (Nat.le_of_ble_eq_true rfl) rfl rfl ?_
  refine o_aload_n dX5_setIn_40 rfl ?_
  refine h_get (v := .ref 1) dX5_setIn_41 q5 fl_X5_12 (by decide) (px_lt (by decide)) (c0 _) rfl ?_
  refine o_iload_n dX5_setIn_44 rfl ?_
  refine o_iconst (v := 1) dX5_setIn_45 (by decide) ?_
  refine o_icmpne (tgt := 64) dX5_setIn_46 (by decide) (fun u1 => ?_) (fun u1 => ?_)
  · refine o_aload_n dX5_setIn_64 rfl ?_
    refine h_get (v := .ref 1) dX5_setIn_65 q5 fl_X5_12 (by decide) (px_lt (by decide)) (c0 _) rfl ?_
    refine h_get (v := .int (st 1 5)) dX5_setIn_68 q0 fl_X5_134 (by decide) (px_ltH 0 (by decide) (Or.inl rfl)) (cH (Or.inl rfl) _) rfl ?_
    refine o_iload_n dX5_setIn_71 rfl ?_
    refine h_cSP (as := [.int y1]) (S1 := [.int (st 1 5), .ref 1]) (d' := 0) dX5_setIn_72 mf_X5_bit ml_X5_137 ms_X5_bit rfl (Nat.le_of_ble_eq_true rfl) rfl (Nat.le_of_ble_eq_true rfl) ⟨Nat.zero_le _, Nat.zero_le _⟩ (k_X5_bit) ?_
    refine o_iconst (v := (-1)) dX5_setIn_75 (by decide) ?_
    refine o_ixor dX5_setIn_76 ?_
    refine o_iand dX5_setIn_77 ?_
    refine h_puti dX5_setIn_78 q0 fl_X5_134 pf_X0_5 (px_ltH 0 (by decide) (Or.inl rfl)) (cH (Or.inl rfl) _) (Nat.le_of_ble_eq_true rfl) (sH_5 (Or.inl rfl) _ _) ?_
    refine o_iload_n dX5_setIn_81 rfl ?_
    exact o_iret (rt := .int) rfl rfl dX5_setIn_82 rfl (Nat.zero_le _) (Nat.zero_le _)
  · refine o_aload_n dX5_setIn_49 rfl ?_
    refine h_get (v := .ref 1) dX5_setIn_50 q5 fl_X5_12 (by decide) (px_lt (by decide)) (c0 _) rfl ?_
    refine h_get (v := .int (st 1 5)) dX5_setIn_53 q0 fl_X5_134 (by decide) (px_ltH 0 (by decide) (Or.inl rfl)) (cH (Or.inl rfl) _) rfl ?_
    refine o_iload_n dX5_setIn_56 rfl ?_
    refine h_cSP (as := [.int y1]) (S1 := [.int (st 1 5), .ref 1]) (d' := 0) dX5_setIn_57 mf_X5_bit ml_X5_137 ms_X5_bit rfl (Nat.le_of_ble_eq_true rfl) rfl (Nat.le_of_ble_eq_true rfl) ⟨Nat.zero_le _, Nat.zero_le _⟩ (k_X5_bit) ?_
    refine o_ior dX5_setIn_60 ?_
    refine o_goto (tgt := 78) dX5_setIn_61 (by decide) ?_
    refine h_puti dX5_setIn_78 q0 fl_X5_134 pf_X0_5 (px_ltH 0 (by decide) (Or.inl rfl)) (cH (Or.inl rfl) _) (Nat.le_of_ble_eq_true rfl) (sH_5 (Or.inl rfl) _ _) ?_
    refine o_iload_n dX5_setIn_81 rfl ?_
    exact o_iret (rt := .int) rfl rfl dX5_setIn_82 rfl (Nat.zero_le _) (Nat.zero_le _)
def f_X5_setIn (T : Nat) (x0 : Int32) (x1 : Int32) (st : px_S) : Option (Int32 × px_S) := ((f_X0_knows T st 1 x0).bind fun b2 => (if b2 = 0 then (some ((-2), st)) else (if x1 < 0 then (some ((-2), st)) else (if 1 < x1 then (some ((-2), st)) else ((f_X0_isIn T st 1 x0).bind fun b6 => (if b6 = 0 then (f_X5_setIn_39 T x0 x1 0 st) else (f_X5_setIn_39 T x0 x1 1 st)))))))
set_option maxRecDepth 20000 in
theorem t_X5_setIn (T : Nat) (x0 : Int32) (x1 : Int32) (st : px_S) : px_O (2, 0, 0, px_n T, m_X5_setIn) (px_gi T) (f_X5_setIn T x0 x1 st) 0 [some (.ref 0), some (.int x0), some (.int x1), none] [] (HP T st) 0 0 := by
  rw [f_X5_setIn]
  refine o_aload_n dX5_setIn_0 rfl ?_
  refine h_get (v := .ref 1) dX5_setIn_1 q5 fl_X5_12 (by decide) (px_lt (by decide)) (c0 _) rfl ?_
  refine o_iload_n dX5_setIn_4 rfl ?_
  refine h_cV0 (as := [.int x0]) (S1 := []) (d' := 0) dX5_setIn_5 mf_X0_knows ml_X5_124 mv_X0_knows q0 rfl (hp_at (px_ltH 0 (by decide) (Or.inl rfl)) (cH (Or.inl rfl) _)) rfl (Nat.le_of_ble_eq_true rfl) rfl (Nat.le_of_ble_eq_true rfl) ⟨Nat.zero_le _, Nat.zero_le _⟩ (fun b hb => k_X0_knows (Or.inl rfl) hb) (fun b2 hb2 => ?_)
  refine o_ifeq (tgt := 20) dX5_setIn_8 (by decide) (fun u3 => ?_) (fun u3 => ?_)
  · refine o_bipush (v := (-2)) dX5_setIn_20 (by decide) ?_
    exact o_iret (rt := .int) rfl rfl dX5_setIn_22 rfl (Nat.zero_le _) (Nat.zero_le _)
  · refine o_iload_n dX5_setIn_11 rfl ?_
    refine o_iflt (tgt := 20) dX5_setIn_12 (by decide) (fun u4 => ?_) (fun u4 => ?_)
    · refine o_bipush (v := (-2)) dX5_setIn_20 (by decide) ?_
      exact o_iret (rt := .int) rfl rfl dX5_setIn_22 rfl (Nat.zero_le _) (Nat.zero_le _)
    · refine o_iload_n dX5_setIn_15 rfl ?_
      refine o_iconst (v := 1) dX5_setIn_16 (by decide) ?_
      refine o_icmple (tgt := 23) dX5_setIn_17 (by decide) (fun u5 => ?_) (fun u5 => ?_)
      · refine o_aload_n dX5_setIn_23 rfl ?_
        refine h_get (v := .ref 1) dX5_setIn_24 q5 fl_X5_12 (by decide) (px_lt (by decide)) (c0 _) rfl ?_
        refine o_iload_n dX5_setIn_27 rfl ?_
        refine h_cV0 (as := [.int x0]) (S1 := []) (d' := 1) dX5_setIn_28 mf_X0_isIn ml_X5_131 mv_X0_isIn q0 rfl (hp_at (px_ltH 0 (by decide) (Or.inl rfl)) (cH (Or.inl rfl) _)) rfl (Nat.le_of_ble_eq_true rfl) rfl (Nat.le_of_ble_eq_true rfl) ⟨Nat.zero_le _, Nat.zero_le _⟩ (fun b hb => k_X0_isIn (Or.inl rfl) hb) (fun b6 hb6 => ?_)
        refine o_ifeq (tgt := 38) dX5_setIn_31 (by decide) (fun u7 => ?_) (fun u7 => ?_)
        · refine o_iconst (v := 0) dX5_setIn_38 (by decide) ?_
          exact (t_X5_setIn_39 T x0 x1 0 st)
        · refine o_iconst (v := 1) dX5_setIn_34 (by decide) ?_
          refine o_goto (tgt := 39) dX5_setIn_35 (by decide) ?_
          exact (t_X5_setIn_39 T x0 x1 1 st)
      · refine o_bipush (v := (-2)) dX5_setIn_20 (by decide) ?_
        exact o_iret (rt := .int) rfl rfl dX5_setIn_22 rfl (Nat.zero_le _) (Nat.zero_le _)
theorem k_X5_setIn {T : Nat} {st : px_S} {x0 : Int32} {x1 : Int32} {b : Int32 × px_S} (hf : f_X5_setIn T x0 x1 st = some b) : px_K (2) 0 0 m_X5_setIn [.ref 0, .int x0, .int x1] (HP T st) ((px_gi T) b).1 ((px_gi T) b).2 := px_KofH hf mf_X5_setIn (Nat.le_of_ble_eq_true rfl) rfl (t_X5_setIn T x0 x1 st)
/-! ThreeOfThem.set(III)I: S, depth 3 -/
def f_X5_set (T : Nat) (x0 : Int32) (x1 : Int32) (x2 : Int32) (st : px_S) : Option (Int32 × px_S) := (if x0 = 0 then ((f_X5_setRent T x2 st).bind fun b2 => (some (b2.1, b2.2))) else (if x0 = 1 then ((f_X5_setNeeded T x2 st).bind fun b4 => (some (b4.1, b4.2))) else (if x0 = 2 then ((f_X5_setDay T x2 st).bind fun b6 => (some (b6.1, b6.2))) else (if x0 = 3 then ((f_X5_setNumber T x1 x2 st).bind fun b8 => (some (b8.1, b8.2))) else (if x0 = 4 then ((f_X5_setIn T x1 x2 st).bind fun b10 => (some (b10.1, b10.2))) else (some ((-2), st)))))))
set_option maxRecDepth 20000 in
theorem t_X5_set (T : Nat) (x0 : Int32) (x1 : Int32) (x2 : Int32) (st : px_S) : px_O (3, 0, 0, px_n T, m_X5_set) (px_gi T) (f_X5_set T x0 x1 x2 st) 0 [some (.ref 0), some (.int x0), some (.int x1), some (.int x2)] [] (HP T st) 0 0 := by
  rw [f_X5_set]
  refine o_iload_n dX5_set_0 rfl ?_
  refine o_ite (fun u1 => ?_) (fun u1 => ?_)
  · refine o_tabIn (tgt := 36) dX5_set_1 (by rw [u1]; decide) (by rw [u1]; decide) (by rw [u1]; rfl) (by decide) ?_
    refine o_aload_n dX5_set_36 rfl ?_
    refine o_iload_n dX5_set_37 rfl ?_
    refine h_cVi (as := [.int x2]) (S1 := []) (d' := 0) dX5_set_38 mf_X5_setRent ml_X5_99 mv_X5_setRent q5 rfl (hp_at (px_lt (by decide)) (c0 _)) rfl (Nat.le_of_ble_eq_true rfl) rfl (Nat.le_of_ble_eq_true rfl) (fun b hb => k_X5_setRent hb) (fun b2 hb2 => ?_)
    exact o_iret (rt := .int) rfl rfl dX5_set_41 rfl (Nat.zero_le _) (Nat.zero_le _)
  · refine o_ite (fun u3 => ?_) (fun u3 => ?_)
    · refine o_tabIn (tgt := 42) dX5_set_1 (by rw [u3]; decide) (by rw [u3]; decide) (by rw [u3]; rfl) (by decide) ?_
      refine o_aload_n dX5_set_42 rfl ?_
      refine o_iload_n dX5_set_43 rfl ?_
      refine h_cVi (as := [.int x2]) (S1 := []) (d' := 0) dX5_set_44 mf_X5_setNeeded ml_X5_103 mv_X5_setNeeded q5 rfl (hp_at (px_lt (by decide)) (c0 _)) rfl (Nat.le_of_ble_eq_true rfl) rfl (Nat.le_of_ble_eq_true rfl) (fun b hb => k_X5_setNeeded hb) (fun b4 hb4 => ?_)
      exact o_iret (rt := .int) rfl rfl dX5_set_47 rfl (Nat.zero_le _) (Nat.zero_le _)
    · refine o_ite (fun u5 => ?_) (fun u5 => ?_)
      · refine o_tabIn (tgt := 48) dX5_set_1 (by rw [u5]; decide) (by rw [u5]; decide) (by rw [u5]; rfl) (by decide) ?_
        refine o_aload_n dX5_set_48 rfl ?_
        refine o_iload_n dX5_set_49 rfl ?_
        refine h_cVi (as := [.int x2]) (S1 := []) (d' := 0) dX5_set_50 mf_X5_setDay ml_X5_106 mv_X5_setDay q5 rfl (hp_at (px_lt (by decide)) (c0 _)) rfl (Nat.le_of_ble_eq_true rfl) rfl (Nat.le_of_ble_eq_true rfl) (fun b hb => k_X5_setDay hb) (fun b6 hb6 => ?_)
        exact o_iret (rt := .int) rfl rfl dX5_set_53 rfl (Nat.zero_le _) (Nat.zero_le _)
      · refine o_ite (fun u7 => ?_) (fun u7 => ?_)
        · refine o_tabIn (tgt := 54) dX5_set_1 (by rw [u7]; decide) (by rw [u7]; decide) (by rw [u7]; rfl) (by decide) ?_
          refine o_aload_n dX5_set_54 rfl ?_
          refine o_iload_n dX5_set_55 rfl ?_
          refine o_iload_n dX5_set_56 rfl ?_
          refine h_cVi (as := [.int x1, .int x2]) (S1 := []) (d' := 1) dX5_set_57 mf_X5_setNumber ml_X5_109 mv_X5_setNumber q5 rfl (hp_at (px_lt (by decide)) (c0 _)) rfl (Nat.le_of_ble_eq_true rfl) rfl (Nat.le_of_ble_eq_true rfl) (fun b hb => k_X5_setNumber hb) (fun b8 hb8 => ?_)
          exact o_iret (rt := .int) rfl rfl dX5_set_60 rfl (Nat.zero_le _) (Nat.zero_le _)
        · refine o_ite (fun u9 => ?_) (fun u9 => ?_)
          · refine o_tabIn (tgt := 61) dX5_set_1 (by rw [u9]; decide) (by rw [u9]; decide) (by rw [u9]; rfl) (by decide) ?_
            refine o_aload_n dX5_set_61 rfl ?_
            refine o_iload_n dX5_set_62 rfl ?_
            refine o_iload_n dX5_set_63 rfl ?_
            refine h_cVi (as := [.int x1, .int x2]) (S1 := []) (d' := 2) dX5_set_64 mf_X5_setIn ml_X5_112 mv_X5_setIn q5 rfl (hp_at (px_lt (by decide)) (c0 _)) rfl (Nat.le_of_ble_eq_true rfl) rfl (Nat.le_of_ble_eq_true rfl) (fun b hb => k_X5_setIn hb) (fun b10 hb10 => ?_)
            exact o_iret (rt := .int) rfl rfl dX5_set_67 rfl (Nat.zero_le _) (Nat.zero_le _)
          · refine o_tabOut (tgt := 68) dX5_set_1 (by
              have z := px_out (x := x0) 0 5 (by decide) (by decide) (fun k hk => by
                rcases (show k = 0 ∨ k = 1 ∨ k = 2 ∨ k = 3 ∨ k = 4 by omega) with rfl | rfl | rfl | rfl | rfl
                · exact u1
                · exact u3
                · exact u5
                · exact u7
                · exact u9)
              omega) (by decide) ?_
            refine o_bipush (v := (-2)) dX5_set_68 (by decide) ?_
            exact o_iret (rt := .int) rfl rfl dX5_set_70 rfl (Nat.zero_le _) (Nat.zero_le _)
theorem k_X5_set {T : Nat} {st : px_S} {x0 : Int32} {x1 : Int32} {x2 : Int32} {b : Int32 × px_S} (hf : f_X5_set T x0 x1 x2 st = some b) : px_K (3) 0 0 m_X5_set [.ref 0, .int x0, .int x1, .int x2] (HP T st) ((px_gi T) b).1 ((px_gi T) b).2 := px_KofH hf mf_X5_set (Nat.le_of_ble_eq_true rfl) rfl (t_X5_set T x0 x1 x2 st)
def f_X5_thinking (T : Nat) (st : px_S) : Option px_S := ((f_X0_become T 12 1 st).bind fun b => (if px_in (b 1 9) 6 then (if (b 36 (b 1 9).toNatClampNeg) < 0 then (some b) else (some (up b 11 1 (b 36 (b 1 9).toNatClampNeg)))) else none))
set_option maxRecDepth 20000 in
theorem t_X5_thinking (T : Nat) (st : px_S) : px_O (2, 0, 0, px_n T, m_X5_thinking) (px_gr T 11) (f_X5_thinking T st) 0 [some (.ref 0), none] [] (HP T st) 0 0 := by
  rw [f_X5_thinking]
  refine o_aload_n dX5_thinking_0 rfl ?_
  refine h_get (v := .ref 11) dX5_thinking_1 q5 fl_X5_22 (by decide) (px_lt (by decide)) (c0 _) rfl ?_
  refine h_get (v := .ref 12) dX5_thinking_4 q1 fl_X5_199 (by decide) (px_lt (by decide)) (c11 _) rfl ?_
  refine o_aload_n dX5_thinking_7 rfl ?_
  refine h_get (v := .ref 1) dX5_thinking_8 q5 fl_X5_12 (by decide) (px_lt (by decide)) (c0 _) rfl ?_
  refine h_cVv (as := [.ref 1]) (S1 := []) (d' := 1) dX5_thinking_11 mf_X0_become ml_X5_258 mv_X0_become q0 rfl (hp_at (px_ltH 0 (by decide) (Or.inr (Or.inr rfl))) (cH (Or.inr (Or.inr rfl)) _)) rfl (Nat.le_of_ble_eq_true rfl) rfl (Nat.le_of_ble_eq_true rfl) (fun b hb => k_X0_become (Or.inr (Or.inr rfl)) (Or.inl rfl) hb) (fun b hb => ?_)
  refine o_aload_n dX5_thinking_14 rfl ?_
  refine h_get (v := .ref 36) dX5_thinking_15 q5 fl_X5_35 (by decide) (px_lt (by decide)) (c0 _) rfl ?_
  refine o_aload_n dX5_thinking_18 rfl ?_
  refine h_get (v := .ref 1) dX5_thinking_19 q5 fl_X5_12 (by decide) (px_lt (by decide)) (c0 _) rfl ?_
  refine h_get (v := .int (b 1 9)) dX5_thinking_22 q0 fl_X5_169 (by decide) (px_ltH 0 (by decide) (Or.inl rfl)) (cH (Or.inl rfl) _) rfl ?_
  refine h_tald dX5_thinking_25 (fun c1 x hx => ?_)
  rw [← hx]
  by_cases hn : x < 0
  · rw [if_pos hn, show va_rf (px_on x) = .null by rw [px_on, if_pos hn]; rfl]
    refine o_astore_nN (L' := [some (.ref 0), some .null]) dX5_thinking_26 (Nat.le_of_ble_eq_true rfl) rfl rfl ?_
    refine o_aload_nN dX5_thinking_27 rfl ?_
    refine o_ifnullN (tgt := 39) dX5_thinking_28 (by decide) ?_
    refine o_aload_n dX5_thinking_39 rfl ?_
    refine h_get (v := .ref 11) dX5_thinking_40 q5 fl_X5_22 (by decide) (px_lt (by decide)) (c0 _) rfl ?_
    exact o_aret rfl (Or.inl ⟨_, rfl⟩) dX5_thinking_43 rfl (Nat.zero_le _) (Nat.zero_le _)
  · rw [if_neg hn, show va_rf (px_on x) = .ref x.toNatClampNeg by rw [px_on, if_neg hn]; rfl]
    refine o_astore_n (L' := [some (.ref 0), some (.ref x.toNatClampNeg)]) dX5_thinking_26 (Nat.le_of_ble_eq_true rfl) rfl rfl ?_
    refine o_aload_n dX5_thinking_27 rfl ?_
    refine o_ifnull dX5_thinking_28 ?_
    refine o_aload_n dX5_thinking_31 rfl ?_
    refine h_get (v := .ref 11) dX5_thinking_32 q5 fl_X5_22 (by decide) (px_lt (by decide)) (c0 _) rfl ?_
    refine o_aload_n dX5_thinking_35 rfl ?_
    refine h_putr (x := x) dX5_thinking_36 q1 fl_X5_301 pf_X1_1 (px_lt (by decide)) (c11 _) (Nat.le_of_ble_eq_true rfl) (s11_1 _ _) ?_
    refine o_aload_n dX5_thinking_39 rfl ?_
    refine h_get (v := .ref 11) dX5_thinking_40 q5 fl_X5_22 (by decide) (px_lt (by decide)) (c0 _) rfl ?_
    exact o_aret rfl (Or.inl ⟨_, rfl⟩) dX5_thinking_43 rfl (Nat.zero_le _) (Nat.zero_le _)
theorem k_X5_thinking {T : Nat} {st b : px_S} (hf : f_X5_thinking T st = some b) : px_K 2 0 0 m_X5_thinking [.ref 0] (HP T st) (px_gr T 11 b).1 (px_gr T 11 b).2 := px_KofH hf mf_X5_thinking (Nat.le_of_ble_eq_true rfl) rfl (t_X5_thinking T st)
/-! ThreeOfThem.told(II)I: S, depth 8 -/
def f_X5_told (T : Nat) (x0 : Int32) (x1 : Int32) (st : px_S) : Option (Int32 × px_S) := ((f_X0_knows T st 1 x0).bind fun b1 => (if b1 = 0 then (some ((-100000), st)) else (if x1 = 0 then (if px_in x0 7 then (some ((st 2 x0.toNatClampNeg), st)) else none) else (if x1 = 1 then (if px_in x0 7 then (some ((st 3 x0.toNatClampNeg), st)) else none) else (if x1 = 2 then ((f_X0_isIn T st 1 x0).bind fun b8 => (if b8 = 0 then (some (0, st)) else (some (1, st)))) else (if x1 = 3 then ((f_X0_bringsOf T st 1 x0 (p_J6_bitCount_0f7a4 (st 1 5))).bind fun b11 => (some (b11, st))) else (if x1 = 4 then ((f_X0_wantsOf T st 1 x0 (p_J6_bitCount_0f7a4 (st 1 5)) 0).bind fun b13 => (some (b13, st))) else (if x1 = 5 then ((f_X0_wantsOf T st 1 x0 (p_J6_bitCount_0f7a4 (st 1 5)) 1).bind fun b15 => (some (b15, st))) else (if x1 = 6 then ((f_X0_isIn T st 1 x0).bind fun b17 => (if b17 = 0 then (some (0, st)) else ((f_X5_thinking T st).bind fun b19 => ((f_X1_goodOf T x0 (b19 1 5) (p_J6_bitCount_0f7a4 (st 1 5)) b19).bind fun b20 => (some (b20.1, b20.2)))))) else (if x1 = 7 then (if px_in x0 7 then (some ((st 5 x0.toNatClampNeg), st)) else none) else (some ((-100000), st))))))))))))
set_option maxRecDepth 20000 in
theorem t_X5_told (T : Nat) (x0 : Int32) (x1 : Int32) (st : px_S) : px_O (8, 0, 0, px_n T, m_X5_told) (px_gi T) (f_X5_told T x0 x1 st) 0 [some (.ref 0), some (.int x0), some (.int x1), none] [] (HP T st) 0 0 := by
  rw [f_X5_told]
  refine o_aload_n dX5_told_0 rfl ?_
  refine h_get (v := .ref 1) dX5_told_1 q5 fl_X5_12 (by decide) (px_lt (by decide)) (c0 _) rfl ?_
  refine o_iload_n dX5_told_4 rfl ?_
  refine h_cV0 (as := [.int x0]) (S1 := []) (d' := 0) dX5_told_5 mf_X0_knows ml_X5_124 mv_X0_knows q0 rfl (hp_at (px_ltH 0 (by decide) (Or.inl rfl)) (cH (Or.inl rfl) _)) rfl (Nat.le_of_ble_eq_true rfl) rfl (Nat.le_of_ble_eq_true rfl) ⟨Nat.zero_le _, Nat.zero_le _⟩ (fun b hb => k_X0_knows (Or.inl rfl) hb) (fun b1 hb1 => ?_)
  refine o_ifne (tgt := 14) dX5_told_8 (by decide) (fun u2 => ?_) (fun u2 => ?_)
  · refine o_aload_n dX5_told_14 rfl ?_
    refine h_get (v := .ref 1) dX5_told_15 q5 fl_X5_12 (by decide) (px_lt (by decide)) (c0 _) rfl ?_
    refine h_get (v := .int (st 1 5)) dX5_told_18 q0 fl_X5_134 (by decide) (px_ltH 0 (by decide) (Or.inl rfl)) (cH (Or.inl rfl) _) rfl ?_
    refine h_cSP (as := [.int (st 1 5)]) (S1 := []) (d' := 0) dX5_told_21 mf_J6_bitCount_0f7a4 ml_X5_141 ms_J6_bitCount_0f7a4 rfl (Nat.le_of_ble_eq_true rfl) rfl (Nat.le_of_ble_eq_true rfl) ⟨Nat.zero_le _, Nat.zero_le _⟩ (k_J6_bitCount_0f7a4) ?_
    refine o_istore_n (L' := [some (.ref 0), some (.int x0), some (.int x1), some (.int (p_J6_bitCount_0f7a4 (st 1 5)))]) dX5_told_24 (Nat.le_of_ble_eq_true rfl) rfl rfl ?_
    refine o_iload_n dX5_told_25 rfl ?_
    refine o_ite (fun u3 => ?_) (fun u3 => ?_)
    · refine o_tabIn (tgt := 72) dX5_told_26 (by rw [u3]; decide) (by rw [u3]; decide) (by rw [u3]; rfl) (by decide) ?_
      refine o_aload_n dX5_told_72 rfl ?_
      refine h_get (v := .ref 1) dX5_told_73 q5 fl_X5_12 (by decide) (px_lt (by decide)) (c0 _) rfl ?_
      refine h_get (v := .ref 2) dX5_told_76 q0 fl_X5_146 (by decide) (px_ltH 0 (by decide) (Or.inl rfl)) (cH (Or.inl rfl) _) rfl ?_
      refine o_iload_n dX5_told_79 rfl ?_
      refine h_iald (n := 7) dX5_told_80 (px_lt (by decide)) (c2 _) (fun u4 => ?_)
      exact o_iret (rt := .int) rfl rfl dX5_told_81 rfl (Nat.zero_le _) (Nat.zero_le _)
    · refine o_ite (fun u5 => ?_) (fun u5 => ?_)
      · refine o_tabIn (tgt := 82) dX5_told_26 (by rw [u5]; decide) (by rw [u5]; decide) (by rw [u5]; rfl) (by decide) ?_
        refine o_aload_n dX5_told_82 rfl ?_
        refine h_get (v := .ref 1) dX5_told_83 q5 fl_X5_12 (by decide) (px_lt (by decide)) (c0 _) rfl ?_
        refine h_get (v := .ref 3) dX5_told_86 q0 fl_X5_128 (by decide) (px_ltH 0 (by decide) (Or.inl rfl)) (cH (Or.inl rfl) _) rfl ?_
        refine o_iload_n dX5_told_89 rfl ?_
        refine h_iald (n := 7) dX5_told_90 (px_lt (by decide)) (c3 _) (fun u6 => ?_)
        exact o_iret (rt := .int) rfl rfl dX5_told_91 rfl (Nat.zero_le _) (Nat.zero_le _)
      · refine o_ite (fun u7 => ?_) (fun u7 => ?_)
        · refine o_tabIn (tgt := 92) dX5_told_26 (by rw [u7]; decide) (by rw [u7]; decide) (by rw [u7]; rfl) (by decide) ?_
          refine o_aload_n dX5_told_92 rfl ?_
          refine h_get (v := .ref 1) dX5_told_93 q5 fl_X5_12 (by decide) (px_lt (by decide)) (c0 _) rfl ?_
          refine o_iload_n dX5_told_96 rfl ?_
          refine h_cV0 (as := [.int x0]) (S1 := []) (d' := 1) dX5_told_97 mf_X0_isIn ml_X5_131 mv_X0_isIn q0 rfl (hp_at (px_ltH 0 (by decide) (Or.inl rfl)) (cH (Or.inl rfl) _)) rfl (Nat.le_of_ble_eq_true rfl) rfl (Nat.le_of_ble_eq_true rfl) ⟨Nat.zero_le _, Nat.zero_le _⟩ (fun b hb => k_X0_isIn (Or.inl rfl) hb) (fun b8 hb8 => ?_)
          refine o_ifeq (tgt := 107) dX5_told_100 (by decide) (fun u9 => ?_) (fun u9 => ?_)
          · refine o_iconst (v := 0) dX5_told_107 (by decide) ?_
            exact o_iret (rt := .int) rfl rfl dX5_told_108 rfl (Nat.zero_le _) (Nat.zero_le _)
          · refine o_iconst (v := 1) dX5_told_103 (by decide) ?_
            refine o_goto (tgt := 108) dX5_told_104 (by decide) ?_
            exact o_iret (rt := .int) rfl rfl dX5_told_108 rfl (Nat.zero_le _) (Nat.zero_le _)
        · refine o_ite (fun u10 => ?_) (fun u10 => ?_)
          · refine o_tabIn (tgt := 109) dX5_told_26 (by rw [u10]; decide) (by rw [u10]; decide) (by rw [u10]; rfl) (by decide) ?_
            refine o_aload_n dX5_told_109 rfl ?_
            refine h_get (v := .ref 1) dX5_told_110 q5 fl_X5_12 (by decide) (px_lt (by decide)) (c0 _) rfl ?_
            refine o_iload_n dX5_told_113 rfl ?_
            refine o_iload_n dX5_told_114 rfl ?_
            refine h_cV0 (as := [.int x0, .int (p_J6_bitCount_0f7a4 (st 1 5))]) (S1 := []) (d' := 5) dX5_told_115 mf_X0_bringsOf ml_X5_149 mv_X0_bringsOf q0 rfl (hp_at (px_ltH 0 (by decide) (Or.inl rfl)) (cH (Or.inl rfl) _)) rfl (Nat.le_of_ble_eq_true rfl) rfl (Nat.le_of_ble_eq_true rfl) ⟨Nat.zero_le _, Nat.zero_le _⟩ (fun b hb => k_X0_bringsOf (Or.inl rfl) hb) (fun b11 hb11 => ?_)
            exact o_iret (rt := .int) rfl rfl dX5_told_118 rfl (Nat.zero_le _) (Nat.zero_le _)
          · refine o_ite (fun u12 => ?_) (fun u12 => ?_)
            · refine o_tabIn (tgt := 119) dX5_told_26 (by rw [u12]; decide) (by rw [u12]; decide) (by rw [u12]; rfl) (by decide) ?_
              refine o_aload_n dX5_told_119 rfl ?_
              refine h_get (v := .ref 1) dX5_told_120 q5 fl_X5_12 (by decide) (px_lt (by decide)) (c0 _) rfl ?_
              refine o_iload_n dX5_told_123 rfl ?_
              refine o_iload_n dX5_told_124 rfl ?_
              refine o_iconst (v := 0) dX5_told_125 (by decide) ?_
              refine h_cV0 (as := [.int x0, .int (p_J6_bitCount_0f7a4 (st 1 5)), .int 0]) (S1 := []) (d' := 5) dX5_told_126 mf_X0_wantsOf ml_X5_152 mv_X0_wantsOf q0 rfl (hp_at (px_ltH 0 (by decide) (Or.inl rfl)) (cH (Or.inl rfl) _)) rfl (Nat.le_of_ble_eq_true rfl) rfl (Nat.le_of_ble_eq_true rfl) ⟨Nat.zero_le _, Nat.zero_le _⟩ (fun b hb => k_X0_wantsOf (Or.inl rfl) hb) (fun b13 hb13 => ?_)
              exact o_iret (rt := .int) rfl rfl dX5_told_129 rfl (Nat.zero_le _) (Nat.zero_le _)
            · refine o_ite (fun u14 => ?_) (fun u14 => ?_)
              · refine o_tabIn (tgt := 130) dX5_told_26 (by rw [u14]; decide) (by rw [u14]; decide) (by rw [u14]; rfl) (by decide) ?_
                refine o_aload_n dX5_told_130 rfl ?_
                refine h_get (v := .ref 1) dX5_told_131 q5 fl_X5_12 (by decide) (px_lt (by decide)) (c0 _) rfl ?_
                refine o_iload_n dX5_told_134 rfl ?_
                refine o_iload_n dX5_told_135 rfl ?_
                refine o_iconst (v := 1) dX5_told_136 (by decide) ?_
                refine h_cV0 (as := [.int x0, .int (p_J6_bitCount_0f7a4 (st 1 5)), .int 1]) (S1 := []) (d' := 5) dX5_told_137 mf_X0_wantsOf ml_X5_152 mv_X0_wantsOf q0 rfl (hp_at (px_ltH 0 (by decide) (Or.inl rfl)) (cH (Or.inl rfl) _)) rfl (Nat.le_of_ble_eq_true rfl) rfl (Nat.le_of_ble_eq_true rfl) ⟨Nat.zero_le _, Nat.zero_le _⟩ (fun b hb => k_X0_wantsOf (Or.inl rfl) hb) (fun b15 hb15 => ?_)
                exact o_iret (rt := .int) rfl rfl dX5_told_140 rfl (Nat.zero_le _) (Nat.zero_le _)
              · refine o_ite (fun u16 => ?_) (fun u16 => ?_)
                · refine o_tabIn (tgt := 141) dX5_told_26 (by rw [u16]; decide) (by rw [u16]; decide) (by rw [u16]; rfl) (by decide) ?_
                  refine o_aload_n dX5_told_141 rfl ?_
                  refine h_get (v := .ref 1) dX5_told_142 q5 fl_X5_12 (by decide) (px_lt (by decide)) (c0 _) rfl ?_
                  refine o_iload_n dX5_told_145 rfl ?_
                  refine h_cV0 (as := [.int x0]) (S1 := []) (d' := 1) dX5_told_146 mf_X0_isIn ml_X5_131 mv_X0_isIn q0 rfl (hp_at (px_ltH 0 (by decide) (Or.inl rfl)) (cH (Or.inl rfl) _)) rfl (Nat.le_of_ble_eq_true rfl) rfl (Nat.le_of_ble_eq_true rfl) ⟨Nat.zero_le _, Nat.zero_le _⟩ (fun b hb => k_X0_isIn (Or.inl rfl) hb) (fun b17 hb17 => ?_)
                  refine o_ifeq (tgt := 171) dX5_told_149 (by decide) (fun u18 => ?_) (fun u18 => ?_)
                  · refine o_iconst (v := 0) dX5_told_171 (by decide) ?_
                    exact o_iret (rt := .int) rfl rfl dX5_told_172 rfl (Nat.zero_le _) (Nat.zero_le _)
                  · refine o_aload_n dX5_told_152 rfl ?_
                    refine h_cVr (as := []) (S1 := []) (d' := 2) dX5_told_153 mf_X5_thinking ml_X5_156 mv_X5_thinking q5 rfl (hp_at (px_lt (by decide)) (c0 _)) rfl (Nat.le_of_ble_eq_true rfl) rfl (Nat.le_of_ble_eq_true rfl) (fun b hb => k_X5_thinking hb) (fun b19 hb19 => ?_)
                    refine o_iload_n dX5_told_156 rfl ?_
                    refine o_aload_n dX5_told_157 rfl ?_
                    refine h_get (v := .ref 1) dX5_told_158 q5 fl_X5_12 (by decide) (px_lt (by decide)) (c0 _) rfl ?_
                    refine h_get (v := .int (b19 1 5)) dX5_told_161 q0 fl_X5_134 (by decide) (px_ltH 0 (by decide) (Or.inl rfl)) (cH (Or.inl rfl) _) rfl ?_
                    refine o_iload_n dX5_told_164 rfl ?_
                    refine h_cVi (as := [.int x0, .int (b19 1 5), .int (p_J6_bitCount_0f7a4 (st 1 5))]) (S1 := []) (d' := 7) dX5_told_165 mf_X1_goodOf ml_X5_160 mv_X1_goodOf q1 rfl (hp_at (px_lt (by decide)) (c11 _)) rfl (Nat.le_of_ble_eq_true rfl) rfl (Nat.le_of_ble_eq_true rfl) (fun b hb => k_X1_goodOf hb) (fun b20 hb20 => ?_)
                    refine o_goto (tgt := 172) dX5_told_168 (by decide) ?_
                    exact o_iret (rt := .int) rfl rfl dX5_told_172 rfl (Nat.zero_le _) (Nat.zero_le _)
                · refine o_ite (fun u21 => ?_) (fun u21 => ?_)
                  · refine o_tabIn (tgt := 173) dX5_told_26 (by rw [u21]; decide) (by rw [u21]; decide) (by rw [u21]; rfl) (by decide) ?_
                    refine o_aload_n dX5_told_173 rfl ?_
                    refine h_get (v := .ref 1) dX5_told_174 q5 fl_X5_12 (by decide) (px_lt (by decide)) (c0 _) rfl ?_
                    refine h_get (v := .ref 5) dX5_told_177 q0 fl_X5_88 (by decide) (px_ltH 0 (by decide) (Or.inl rfl)) (cH (Or.inl rfl) _) rfl ?_
                    refine o_iload_n dX5_told_180 rfl ?_
                    refine h_iald (n := 7) dX5_told_181 (px_lt (by decide)) (c5 _) (fun u22 => ?_)
                    exact o_iret (rt := .int) rfl rfl dX5_told_182 rfl (Nat.zero_le _) (Nat.zero_le _)
                  · refine o_tabOut (tgt := 183) dX5_told_26 (by
                      have z := px_out (x := x1) 0 8 (by decide) (by decide) (fun k hk => by
                        rcases (show k = 0 ∨ k = 1 ∨ k = 2 ∨ k = 3 ∨ k = 4 ∨ k = 5 ∨ k = 6 ∨ k = 7 by omega) with rfl | rfl | rfl | rfl | rfl | rfl | rfl | rfl
                        · exact u3
                        · exact u5
                        · exact u7
                        · exact u10
                        · exact u12
                        · exact u14
                        · exact u16
                        · exact u21)
                      omega) (by decide) ?_
                    refine o_ldc (v := (-100000)) dX5_told_183 cst_X5_140 ?_
                    exact o_iret (rt := .int) rfl rfl dX5_told_185 rfl (Nat.zero_le _) (Nat.zero_le _)
  · refine o_ldc (v := (-100000)) dX5_told_11 cst_X5_140 ?_
    exact o_iret (rt := .int) rfl rfl dX5_told_13 rfl (Nat.zero_le _) (Nat.zero_le _)
theorem k_X5_told {T : Nat} {st : px_S} {x0 : Int32} {x1 : Int32} {b : Int32 × px_S} (hf : f_X5_told T x0 x1 st = some b) : px_K (8) 0 0 m_X5_told [.ref 0, .int x0, .int x1] (HP T st) ((px_gi T) b).1 ((px_gi T) b).2 := px_KofH hf mf_X5_told (Nat.le_of_ble_eq_true rfl) rfl (t_X5_told T x0 x1 st)
/-! ThreeOfThem.feed(I)I: S, depth 1 -/
def f_X5_feed (T : Nat) (x0 : Int32) (st : px_S) : Option (Int32 × px_S) := (if x0 < 0 then (some ((-2), st)) else (if 255 < x0 then (some ((-2), st)) else (if (st 31 1) < 160 then ((f_X2_put T x0 st).bind fun b4 => (some ((b4 31 1), b4))) else (some ((-4), st)))))
set_option maxRecDepth 20000 in
theorem t_X5_feed (T : Nat) (x0 : Int32) (st : px_S) : px_O (1, 0, 0, px_n T, m_X5_feed) (px_gi T) (f_X5_feed T x0 st) 0 [some (.ref 0), some (.int x0)] [] (HP T st) 0 0 := by
  rw [f_X5_feed]
  refine o_iload_n dX5_feed_0 rfl ?_
  refine o_iflt (tgt := 11) dX5_feed_1 (by decide) (fun u1 => ?_) (fun u1 => ?_)
  · refine o_bipush (v := (-2)) dX5_feed_11 (by decide) ?_
    exact o_iret (rt := .int) rfl rfl dX5_feed_13 rfl (Nat.zero_le _) (Nat.zero_le _)
  · refine o_iload_n dX5_feed_4 rfl ?_
    refine o_sipush (v := 255) dX5_feed_5 (by decide) ?_
    refine o_icmple (tgt := 14) dX5_feed_8 (by decide) (fun u2 => ?_) (fun u2 => ?_)
    · refine o_aload_n dX5_feed_14 rfl ?_
      refine h_get (v := .ref 31) dX5_feed_15 q5 fl_X5_29 (by decide) (px_lt (by decide)) (c0 _) rfl ?_
      refine h_get (v := .int (st 31 1)) dX5_feed_18 q2 fl_X5_163 (by decide) (px_lt (by decide)) (c31 _) rfl ?_
      refine o_sipush (v := 160) dX5_feed_21 (by decide) ?_
      refine o_icmplt (tgt := 30) dX5_feed_24 (by decide) (fun u3 => ?_) (fun u3 => ?_)
      · refine o_aload_n dX5_feed_30 rfl ?_
        refine h_get (v := .ref 31) dX5_feed_31 q5 fl_X5_29 (by decide) (px_lt (by decide)) (c0 _) rfl ?_
        refine o_iload_n dX5_feed_34 rfl ?_
        refine h_cVv (as := [.int x0]) (S1 := []) (d' := 0) dX5_feed_35 mf_X2_put ml_X5_58 mv_X2_put q2 rfl (hp_at (px_lt (by decide)) (c31 _)) rfl (Nat.le_of_ble_eq_true rfl) rfl (Nat.le_of_ble_eq_true rfl) (fun b hb => k_X2_put hb) (fun b4 hb4 => ?_)
        refine o_aload_n dX5_feed_38 rfl ?_
        refine h_get (v := .ref 31) dX5_feed_39 q5 fl_X5_29 (by decide) (px_lt (by decide)) (c0 _) rfl ?_
        refine h_get (v := .int (b4 31 1)) dX5_feed_42 q2 fl_X5_163 (by decide) (px_lt (by decide)) (c31 _) rfl ?_
        exact o_iret (rt := .int) rfl rfl dX5_feed_45 rfl (Nat.zero_le _) (Nat.zero_le _)
      · refine o_bipush (v := (-4)) dX5_feed_27 (by decide) ?_
        exact o_iret (rt := .int) rfl rfl dX5_feed_29 rfl (Nat.zero_le _) (Nat.zero_le _)
    · refine o_bipush (v := (-2)) dX5_feed_11 (by decide) ?_
      exact o_iret (rt := .int) rfl rfl dX5_feed_13 rfl (Nat.zero_le _) (Nat.zero_le _)
theorem k_X5_feed {T : Nat} {st : px_S} {x0 : Int32} {b : Int32 × px_S} (hf : f_X5_feed T x0 st = some b) : px_K (1) 0 0 m_X5_feed [.ref 0, .int x0] (HP T st) ((px_gi T) b).1 ((px_gi T) b).2 := px_KofH hf mf_X5_feed (Nat.le_of_ble_eq_true rfl) rfl (t_X5_feed T x0 st)
/-! ThreeOfThem.force(I)I: S, depth 0 -/
def f_X5_force (T : Nat) (x0 : Int32) (st : px_S) : Option (Int32 × px_S) := (if x0 < 0 then (some ((-2), st)) else (if x0 < (st 0 6) then (some ((st 1 9), (up st 1 9 x0))) else (some ((-2), st))))
set_option maxRecDepth 20000 in
theorem t_X5_force (T : Nat) (x0 : Int32) (st : px_S) : px_O (0, 0, 0, px_n T, m_X5_force) (px_gi T) (f_X5_force T x0 st) 0 [some (.ref 0), some (.int x0), none] [] (HP T st) 0 0 := by
  rw [f_X5_force]
  refine o_iload_n dX5_force_0 rfl ?_
  refine o_iflt (tgt := 12) dX5_force_1 (by decide) (fun u1 => ?_) (fun u1 => ?_)
  · refine o_bipush (v := (-2)) dX5_force_12 (by decide) ?_
    exact o_iret (rt := .int) rfl rfl dX5_force_14 rfl (Nat.zero_le _) (Nat.zero_le _)
  · refine o_iload_n dX5_force_4 rfl ?_
    refine o_aload_n dX5_force_5 rfl ?_
    refine h_get (v := .int (st 0 6)) dX5_force_6 q5 fl_X5_66 (by decide) (px_lt (by decide)) (c0 _) rfl ?_
    refine o_icmplt (tgt := 15) dX5_force_9 (by decide) (fun u2 => ?_) (fun u2 => ?_)
    · refine o_aload_n dX5_force_15 rfl ?_
      refine h_get (v := .ref 1) dX5_force_16 q5 fl_X5_12 (by decide) (px_lt (by decide)) (c0 _) rfl ?_
      refine h_get (v := .int (st 1 9)) dX5_force_19 q0 fl_X5_169 (by decide) (px_ltH 0 (by decide) (Or.inl rfl)) (cH (Or.inl rfl) _) rfl ?_
      refine o_istore_n (L' := [some (.ref 0), some (.int x0), some (.int (st 1 9))]) dX5_force_22 (Nat.le_of_ble_eq_true rfl) rfl rfl ?_
      refine o_aload_n dX5_force_23 rfl ?_
      refine h_get (v := .ref 1) dX5_force_24 q5 fl_X5_12 (by decide) (px_lt (by decide)) (c0 _) rfl ?_
      refine o_iload_n dX5_force_27 rfl ?_
      refine h_puti dX5_force_28 q0 fl_X5_169 pf_X0_9 (px_ltH 0 (by decide) (Or.inl rfl)) (cH (Or.inl rfl) _) (Nat.le_of_ble_eq_true rfl) (sH_9 (Or.inl rfl) _ _) ?_
      refine o_iload_n dX5_force_31 rfl ?_
      exact o_iret (rt := .int) rfl rfl dX5_force_32 rfl (Nat.zero_le _) (Nat.zero_le _)
    · refine o_bipush (v := (-2)) dX5_force_12 (by decide) ?_
      exact o_iret (rt := .int) rfl rfl dX5_force_14 rfl (Nat.zero_le _) (Nat.zero_le _)
theorem k_X5_force {T : Nat} {st : px_S} {x0 : Int32} {b : Int32 × px_S} (hf : f_X5_force T x0 st = some b) : px_K (0) 0 0 m_X5_force [.ref 0, .int x0] (HP T st) ((px_gi T) b).1 ((px_gi T) b).2 := px_KofH hf mf_X5_force (Nat.le_of_ble_eq_true rfl) rfl (t_X5_force T x0 st)
/-! ThreeOfThem.mayMeet(II)Z: R, depth 2 -/
def f_X5_mayMeet (T : Nat) (st : px_S) (x0 : Int32) (x1 : Int32) : Option (Int32) := (if (x0 &&& ((st 1 5) ^^^ (-1))) = 0 then (if (p_J6_bitCount_0f7a4 x0) = (st 1 7) then ((f_X0_isIn T st 1 x1).bind fun b3 => (if b3 = 0 then (some 0) else (if (p_X5_has x0 x1) = 0 then (some 1) else (some 0)))) else (some 0)) else (some 0))
set_option maxRecDepth 20000 in
theorem t_X5_mayMeet (T : Nat) (st : px_S) (x0 : Int32) (x1 : Int32) : px_O (2, 0, 0, px_n T, m_X5_mayMeet) (px_g0 (HP T st)) (f_X5_mayMeet T st x0 x1) 0 [some (.ref 0), some (.int x0), some (.int x1)] [] (HP T st) 0 0 := by
  rw [f_X5_mayMeet]
  refine o_iload_n dX5_mayMeet_0 rfl ?_
  refine o_aload_n dX5_mayMeet_1 rfl ?_
  refine h_get (v := .ref 1) dX5_mayMeet_2 q5 fl_X5_12 (by decide) (px_lt (by decide)) (c0 _) rfl ?_
  refine h_get (v := .int (st 1 5)) dX5_mayMeet_5 q0 fl_X5_134 (by decide) (px_ltH 0 (by decide) (Or.inl rfl)) (cH (Or.inl rfl) _) rfl ?_
  refine o_iconst (v := (-1)) dX5_mayMeet_8 (by decide) ?_
  refine o_ixor dX5_mayMeet_9 ?_
  refine o_iand dX5_mayMeet_10 ?_
  refine o_ifne (tgt := 51) dX5_mayMeet_11 (by decide) (fun u1 => ?_) (fun u1 => ?_)
  · refine o_iconst (v := 0) dX5_mayMeet_51 (by decide) ?_
    exact o_iret (rt := .boolean) rfl rfl dX5_mayMeet_52 rfl (Nat.zero_le _) (Nat.zero_le _)
  · refine o_iload_n dX5_mayMeet_14 rfl ?_
    refine h_cSP (as := [.int x0]) (S1 := []) (d' := 0) dX5_mayMeet_15 mf_J6_bitCount_0f7a4 ml_X5_141 ms_J6_bitCount_0f7a4 rfl (Nat.le_of_ble_eq_true rfl) rfl (Nat.le_of_ble_eq_true rfl) ⟨Nat.zero_le _, Nat.zero_le _⟩ (k_J6_bitCount_0f7a4) ?_
    refine o_aload_n dX5_mayMeet_18 rfl ?_
    refine h_get (v := .ref 1) dX5_mayMeet_19 q5 fl_X5_12 (by decide) (px_lt (by decide)) (c0 _) rfl ?_
    refine h_get (v := .int (st 1 7)) dX5_mayMeet_22 q0 fl_X5_118 (by decide) (px_ltH 0 (by decide) (Or.inl rfl)) (cH (Or.inl rfl) _) rfl ?_
    refine o_icmpne (tgt := 51) dX5_mayMeet_25 (by decide) (fun u2 => ?_) (fun u2 => ?_)
    · refine o_iconst (v := 0) dX5_mayMeet_51 (by decide) ?_
      exact o_iret (rt := .boolean) rfl rfl dX5_mayMeet_52 rfl (Nat.zero_le _) (Nat.zero_le _)
    · refine o_aload_n dX5_mayMeet_28 rfl ?_
      refine h_get (v := .ref 1) dX5_mayMeet_29 q5 fl_X5_12 (by decide) (px_lt (by decide)) (c0 _) rfl ?_
      refine o_iload_n dX5_mayMeet_32 rfl ?_
      refine h_cV0 (as := [.int x1]) (S1 := []) (d' := 1) dX5_mayMeet_33 mf_X0_isIn ml_X5_131 mv_X0_isIn q0 rfl (hp_at (px_ltH 0 (by decide) (Or.inl rfl)) (cH (Or.inl rfl) _)) rfl (Nat.le_of_ble_eq_true rfl) rfl (Nat.le_of_ble_eq_true rfl) ⟨Nat.zero_le _, Nat.zero_le _⟩ (fun b hb => k_X0_isIn (Or.inl rfl) hb) (fun b3 hb3 => ?_)
      refine o_ifeq (tgt := 51) dX5_mayMeet_36 (by decide) (fun u4 => ?_) (fun u4 => ?_)
      · refine o_iconst (v := 0) dX5_mayMeet_51 (by decide) ?_
        exact o_iret (rt := .boolean) rfl rfl dX5_mayMeet_52 rfl (Nat.zero_le _) (Nat.zero_le _)
      · refine o_iload_n dX5_mayMeet_39 rfl ?_
        refine o_iload_n dX5_mayMeet_40 rfl ?_
        refine h_cSP (as := [.int x0, .int x1]) (S1 := []) (d' := 0) dX5_mayMeet_41 mf_X5_has ml_X5_92 ms_X5_has rfl (Nat.le_of_ble_eq_true rfl) rfl (Nat.le_of_ble_eq_true rfl) ⟨Nat.zero_le _, Nat.zero_le _⟩ (k_X5_has) ?_
        refine o_ifne (tgt := 51) dX5_mayMeet_44 (by decide) (fun u5 => ?_) (fun u5 => ?_)
        · refine o_iconst (v := 0) dX5_mayMeet_51 (by decide) ?_
          exact o_iret (rt := .boolean) rfl rfl dX5_mayMeet_52 rfl (Nat.zero_le _) (Nat.zero_le _)
        · refine o_iconst (v := 1) dX5_mayMeet_47 (by decide) ?_
          refine o_goto (tgt := 52) dX5_mayMeet_48 (by decide) ?_
          exact o_iret (rt := .boolean) rfl rfl dX5_mayMeet_52 rfl (Nat.zero_le _) (Nat.zero_le _)
theorem k_X5_mayMeet_o {T : Nat} {st : px_S} {x0 : Int32} {x1 : Int32} {b : Int32} (hf : f_X5_mayMeet T st x0 x1 = some b) : px_K (2) 0 0 m_X5_mayMeet [.ref 0, .int x0, .int x1] (HP T st) (some (.int b)) (HP T st) := px_KofH (g := px_g0 (HP T st)) hf mf_X5_mayMeet (Nat.le_of_ble_eq_true rfl) rfl (t_X5_mayMeet T st x0 x1)
theorem k_X5_mayMeet {T : Nat} {st : px_S} {x0 : Int32} {x1 : Int32} {b : Int32} (hf : f_X5_mayMeet T st x0 x1 = some b) : px_K (2) 0 0 m_X5_mayMeet [.ref 0, .int x0, .int x1] (HP T st) (some (.int b)) (HP T st) := k_X5_mayMeet_o hf
/-! ThreeOfThem.thinkingOfHouse()LThreeOfThem$Judge;: S, depth 9 -/
def f_X5_thinkingOfHouse (T : Nat) (st : px_S) : Option (px_S) := ((f_X5_thinking T st).bind fun b1 => ((f_X1_lookAt T (b1 1 5) b1).bind fun b2 => (some b2)))
set_option maxRecDepth 20000 in
theorem t_X5_thinkingOfHouse (T : Nat) (st : px_S) : px_O (9, 0, 0, px_n T, m_X5_thinkingOfHouse) (px_gr T 11) (f_X5_thinkingOfHouse T st) 0 [some (.ref 0)] [] (HP T st) 0 0 := by
  rw [f_X5_thinkingOfHouse]
  refine o_aload_n dX5_thinkingOfHouse_0 rfl ?_
  refine h_cVr (as := []) (S1 := []) (d' := 2) dX5_thinkingOfHouse_1 mf_X5_thinking ml_X5_156 mv_X5_thinking q5 rfl (hp_at (px_lt (by decide)) (c0 _)) rfl (Nat.le_of_ble_eq_true rfl) rfl (Nat.le_of_ble_eq_true rfl) (fun b hb => k_X5_thinking hb) (fun b1 hb1 => ?_)
  refine o_aload_n dX5_thinkingOfHouse_4 rfl ?_
  refine h_get (v := .ref 1) dX5_thinkingOfHouse_5 q5 fl_X5_12 (by decide) (px_lt (by decide)) (c0 _) rfl ?_
  refine h_get (v := .int (b1 1 5)) dX5_thinkingOfHouse_8 q0 fl_X5_134 (by decide) (px_ltH 0 (by decide) (Or.inl rfl)) (cH (Or.inl rfl) _) rfl ?_
  refine h_cVv (as := [.int (b1 1 5)]) (S1 := []) (d' := 8) dX5_thinkingOfHouse_11 mf_X1_lookAt ml_X5_227 mv_X1_lookAt q1 rfl (hp_at (px_lt (by decide)) (c11 _)) rfl (Nat.le_of_ble_eq_true rfl) rfl (Nat.le_of_ble_eq_true rfl) (fun b hb => k_X1_lookAt hb) (fun b2 hb2 => ?_)
  refine o_aload_n dX5_thinkingOfHouse_14 rfl ?_
  refine h_get (v := .ref 11) dX5_thinkingOfHouse_15 q5 fl_X5_22 (by decide) (px_lt (by decide)) (c0 _) rfl ?_
  exact o_aret rfl (Or.inl ⟨_, rfl⟩) dX5_thinkingOfHouse_18 rfl (Nat.zero_le _) (Nat.zero_le _)
theorem k_X5_thinkingOfHouse {T : Nat} {st : px_S} {b : px_S} (hf : f_X5_thinkingOfHouse T st = some b) : px_K (9) 0 0 m_X5_thinkingOfHouse [.ref 0] (HP T st) ((px_gr T 11) b).1 ((px_gr T 11) b).2 := px_KofH hf mf_X5_thinkingOfHouse (Nat.le_of_ble_eq_true rfl) rfl (t_X5_thinkingOfHouse T st)
/-! ThreeOfThem.would(II)I: S, depth 10 -/
def f_X5_would (T : Nat) (x0 : Int32) (x1 : Int32) (st : px_S) : Option (Int32 × px_S) := ((f_X5_mayMeet T st x0 x1).bind fun b1 => (if b1 = 0 then (some ((-2), st)) else ((f_X5_thinkingOfHouse T st).bind fun b3 => ((f_X1_wouldTurnOut T b3 x0 x1).bind fun b4 => (if b4 = 0 then (some (0, b3)) else (some (1, b3)))))))
set_option maxRecDepth 20000 in
theorem t_X5_would (T : Nat) (x0 : Int32) (x1 : Int32) (st : px_S) : px_O (10, 0, 0, px_n T, m_X5_would) (px_gi T) (f_X5_would T x0 x1 st) 0 [some (.ref 0), some (.int x0), some (.int x1)] [] (HP T st) 0 0 := by
  rw [f_X5_would]
  refine o_aload_n dX5_would_0 rfl ?_
  refine o_iload_n dX5_would_1 rfl ?_
  refine o_iload_n dX5_would_2 rfl ?_
  refine h_cV0 (as := [.int x0, .int x1]) (S1 := []) (d' := 2) dX5_would_3 mf_X5_mayMeet ml_X5_172 mv_X5_mayMeet q5 rfl (hp_at (px_lt (by decide)) (c0 _)) rfl (Nat.le_of_ble_eq_true rfl) rfl (Nat.le_of_ble_eq_true rfl) ⟨Nat.zero_le _, Nat.zero_le _⟩ (fun b hb => k_X5_mayMeet hb) (fun b1 hb1 => ?_)
  refine o_ifne (tgt := 12) dX5_would_6 (by decide) (fun u2 => ?_) (fun u2 => ?_)
  · refine o_aload_n dX5_would_12 rfl ?_
    refine h_cVr (as := []) (S1 := []) (d' := 9) dX5_would_13 mf_X5_thinkingOfHouse ml_X5_175 mv_X5_thinkingOfHouse q5 rfl (hp_at (px_lt (by decide)) (c0 _)) rfl (Nat.le_of_ble_eq_true rfl) rfl (Nat.le_of_ble_eq_true rfl) (fun b hb => k_X5_thinkingOfHouse hb) (fun b3 hb3 => ?_)
    refine o_iload_n dX5_would_16 rfl ?_
    refine o_iload_n dX5_would_17 rfl ?_
    refine h_cV0 (as := [.int x0, .int x1]) (S1 := []) (d' := 2) dX5_would_18 mf_X1_wouldTurnOut ml_X5_178 mv_X1_wouldTurnOut q1 rfl (hp_at (px_lt (by decide)) (c11 _)) rfl (Nat.le_of_ble_eq_true rfl) rfl (Nat.le_of_ble_eq_true rfl) ⟨Nat.zero_le _, Nat.zero_le _⟩ (fun b hb => k_X1_wouldTurnOut hb) (fun b4 hb4 => ?_)
    refine o_ifeq (tgt := 28) dX5_would_21 (by decide) (fun u5 => ?_) (fun u5 => ?_)
    · refine o_iconst (v := 0) dX5_would_28 (by decide) ?_
      exact o_iret (rt := .int) rfl rfl dX5_would_29 rfl (Nat.zero_le _) (Nat.zero_le _)
    · refine o_iconst (v := 1) dX5_would_24 (by decide) ?_
      refine o_goto (tgt := 29) dX5_would_25 (by decide) ?_
      exact o_iret (rt := .int) rfl rfl dX5_would_29 rfl (Nat.zero_le _) (Nat.zero_le _)
  · refine o_bipush (v := (-2)) dX5_would_9 (by decide) ?_
    exact o_iret (rt := .int) rfl rfl dX5_would_11 rfl (Nat.zero_le _) (Nat.zero_le _)
theorem k_X5_would {T : Nat} {st : px_S} {x0 : Int32} {x1 : Int32} {b : Int32 × px_S} (hf : f_X5_would T x0 x1 st = some b) : px_K (10) 0 0 m_X5_would [.ref 0, .int x0, .int x1] (HP T st) ((px_gi T) b).1 ((px_gi T) b).2 := px_KofH hf mf_X5_would (Nat.le_of_ble_eq_true rfl) rfl (t_X5_would T x0 x1 st)
/-! ThreeOfThem.now(I)I: S, depth 10 -/
def f_X5_now (T : Nat) (x0 : Int32) (st : px_S) : Option (Int32 × px_S) := (if x0 < 0 then (some ((-2), st)) else (if 2 < x0 then (some ((-2), st)) else ((f_X5_thinkingOfHouse T st).bind fun b3 => ((f_X1_firstOther T b3).bind fun b4 => (if x0 = 0 then (if b4 = (-1) then (some ((-1), b3)) else ((f_X1_firstBand T b3 b4).bind fun b9 => (some (b9, b3)))) else (if x0 = 1 then (some (b4, b3)) else ((f_X1_allBands T b3).bind fun b7 => (some (b7, b3)))))))))
set_option maxRecDepth 20000 in
theorem t_X5_now (T : Nat) (x0 : Int32) (st : px_S) : px_O (10, 0, 0, px_n T, m_X5_now) (px_gi T) (f_X5_now T x0 st) 0 [some (.ref 0), some (.int x0), none] [] (HP T st) 0 0 := by
  rw [f_X5_now]
  refine o_iload_n dX5_now_0 rfl ?_
  refine o_iflt (tgt := 9) dX5_now_1 (by decide) (fun u1 => ?_) (fun u1 => ?_)
  · refine o_bipush (v := (-2)) dX5_now_9 (by decide) ?_
    exact o_iret (rt := .int) rfl rfl dX5_now_11 rfl (Nat.zero_le _) (Nat.zero_le _)
  · refine o_iload_n dX5_now_4 rfl ?_
    refine o_iconst (v := 2) dX5_now_5 (by decide) ?_
    refine o_icmple (tgt := 12) dX5_now_6 (by decide) (fun u2 => ?_) (fun u2 => ?_)
    · refine o_aload_n dX5_now_12 rfl ?_
      refine h_cVr (as := []) (S1 := []) (d' := 9) dX5_now_13 mf_X5_thinkingOfHouse ml_X5_175 mv_X5_thinkingOfHouse q5 rfl (hp_at (px_lt (by decide)) (c0 _)) rfl (Nat.le_of_ble_eq_true rfl) rfl (Nat.le_of_ble_eq_true rfl) (fun b hb => k_X5_thinkingOfHouse hb) (fun b3 hb3 => ?_)
      refine o_pop dX5_now_16 rfl ?_
      refine o_aload_n dX5_now_17 rfl ?_
      refine h_get (v := .ref 11) dX5_now_18 q5 fl_X5_22 (by decide) (px_lt (by decide)) (c0 _) rfl ?_
      refine h_cV0 (as := []) (S1 := []) (d' := 3) dX5_now_21 mf_X1_firstOther ml_X5_181 mv_X1_firstOther q1 rfl (hp_at (px_lt (by decide)) (c11 _)) rfl (Nat.le_of_ble_eq_true rfl) rfl (Nat.le_of_ble_eq_true rfl) ⟨Nat.zero_le _, Nat.zero_le _⟩ (fun b hb => k_X1_firstOther hb) (fun b4 hb4 => ?_)
      refine o_istore_n (L' := [some (.ref 0), some (.int x0), some (.int b4)]) dX5_now_24 (Nat.le_of_ble_eq_true rfl) rfl rfl ?_
      refine o_iload_n dX5_now_25 rfl ?_
      refine o_ifne (tgt := 47) dX5_now_26 (by decide) (fun u5 => ?_) (fun u5 => ?_)
      · refine o_iload_n dX5_now_47 rfl ?_
        refine o_iconst (v := 1) dX5_now_48 (by decide) ?_
        refine o_icmpne (tgt := 56) dX5_now_49 (by decide) (fun u6 => ?_) (fun u6 => ?_)
        · refine o_aload_n dX5_now_56 rfl ?_
          refine h_get (v := .ref 11) dX5_now_57 q5 fl_X5_22 (by decide) (px_lt (by decide)) (c0 _) rfl ?_
          refine h_cV0 (as := []) (S1 := []) (d' := 3) dX5_now_60 mf_X1_allBands ml_X5_187 mv_X1_allBands q1 rfl (hp_at (px_lt (by decide)) (c11 _)) rfl (Nat.le_of_ble_eq_true rfl) rfl (Nat.le_of_ble_eq_true rfl) ⟨Nat.zero_le _, Nat.zero_le _⟩ (fun b hb => k_X1_allBands hb) (fun b7 hb7 => ?_)
          exact o_iret (rt := .int) rfl rfl dX5_now_63 rfl (Nat.zero_le _) (Nat.zero_le _)
        · refine o_iload_n dX5_now_52 rfl ?_
          refine o_goto (tgt := 63) dX5_now_53 (by decide) ?_
          exact o_iret (rt := .int) rfl rfl dX5_now_63 rfl (Nat.zero_le _) (Nat.zero_le _)
      · refine o_iload_n dX5_now_29 rfl ?_
        refine o_iconst (v := (-1)) dX5_now_30 (by decide) ?_
        refine o_icmpne (tgt := 38) dX5_now_31 (by decide) (fun u8 => ?_) (fun u8 => ?_)
        · refine o_aload_n dX5_now_38 rfl ?_
          refine h_get (v := .ref 11) dX5_now_39 q5 fl_X5_22 (by decide) (px_lt (by decide)) (c0 _) rfl ?_
          refine o_iload_n dX5_now_42 rfl ?_
          refine h_cV0 (as := [.int b4]) (S1 := []) (d' := 2) dX5_now_43 mf_X1_firstBand ml_X5_184 mv_X1_firstBand q1 rfl (hp_at (px_lt (by decide)) (c11 _)) rfl (Nat.le_of_ble_eq_true rfl) rfl (Nat.le_of_ble_eq_true rfl) ⟨Nat.zero_le _, Nat.zero_le _⟩ (fun b hb => k_X1_firstBand hb) (fun b9 hb9 => ?_)
          exact o_iret (rt := .int) rfl rfl dX5_now_46 rfl (Nat.zero_le _) (Nat.zero_le _)
        · refine o_iconst (v := (-1)) dX5_now_34 (by decide) ?_
          refine o_goto (tgt := 46) dX5_now_35 (by decide) ?_
          exact o_iret (rt := .int) rfl rfl dX5_now_46 rfl (Nat.zero_le _) (Nat.zero_le _)
    · refine o_bipush (v := (-2)) dX5_now_9 (by decide) ?_
      exact o_iret (rt := .int) rfl rfl dX5_now_11 rfl (Nat.zero_le _) (Nat.zero_le _)
theorem k_X5_now {T : Nat} {st : px_S} {x0 : Int32} {b : Int32 × px_S} (hf : f_X5_now T x0 st = some b) : px_K (10) 0 0 m_X5_now [.ref 0, .int x0] (HP T st) ((px_gi T) b).1 ((px_gi T) b).2 := px_KofH hf mf_X5_now (Nat.le_of_ble_eq_true rfl) rfl (t_X5_now T x0 st)
/-! ThreeOfThem.turnOut(II)I: S, depth 10 -/
def f_X5_turnOut (T : Nat) (x0 : Int32) (x1 : Int32) (st : px_S) : Option (Int32 × px_S) := ((f_X5_mayMeet T st x0 x1).bind fun b1 => (if b1 = 0 then (some ((-2), st)) else ((f_X5_thinkingOfHouse T st).bind fun b3 => ((f_X1_wouldTurnOut T b3 x0 x1).bind fun b4 => (if b4 = 0 then (some ((-3), b3)) else ((f_X0_leave T 1 x1 b3).bind fun b6 => ((f_X0_passDay T 1 b6).bind fun b7 => (some ((p_J6_bitCount_0f7a4 (b7 1 5)), b7)))))))))
set_option maxRecDepth 20000 in
theorem t_X5_turnOut (T : Nat) (x0 : Int32) (x1 : Int32) (st : px_S) : px_O (10, 0, 0, px_n T, m_X5_turnOut) (px_gi T) (f_X5_turnOut T x0 x1 st) 0 [some (.ref 0), some (.int x0), some (.int x1)] [] (HP T st) 0 0 := by
  rw [f_X5_turnOut]
  refine o_aload_n dX5_turnOut_0 rfl ?_
  refine o_iload_n dX5_turnOut_1 rfl ?_
  refine o_iload_n dX5_turnOut_2 rfl ?_
  refine h_cV0 (as := [.int x0, .int x1]) (S1 := []) (d' := 2) dX5_turnOut_3 mf_X5_mayMeet ml_X5_172 mv_X5_mayMeet q5 rfl (hp_at (px_lt (by decide)) (c0 _)) rfl (Nat.le_of_ble_eq_true rfl) rfl (Nat.le_of_ble_eq_true rfl) ⟨Nat.zero_le _, Nat.zero_le _⟩ (fun b hb => k_X5_mayMeet hb) (fun b1 hb1 => ?_)
  refine o_ifne (tgt := 12) dX5_turnOut_6 (by decide) (fun u2 => ?_) (fun u2 => ?_)
  · refine o_aload_n dX5_turnOut_12 rfl ?_
    refine h_cVr (as := []) (S1 := []) (d' := 9) dX5_turnOut_13 mf_X5_thinkingOfHouse ml_X5_175 mv_X5_thinkingOfHouse q5 rfl (hp_at (px_lt (by decide)) (c0 _)) rfl (Nat.le_of_ble_eq_true rfl) rfl (Nat.le_of_ble_eq_true rfl) (fun b hb => k_X5_thinkingOfHouse hb) (fun b3 hb3 => ?_)
    refine o_iload_n dX5_turnOut_16 rfl ?_
    refine o_iload_n dX5_turnOut_17 rfl ?_
    refine h_cV0 (as := [.int x0, .int x1]) (S1 := []) (d' := 2) dX5_turnOut_18 mf_X1_wouldTurnOut ml_X5_178 mv_X1_wouldTurnOut q1 rfl (hp_at (px_lt (by decide)) (c11 _)) rfl (Nat.le_of_ble_eq_true rfl) rfl (Nat.le_of_ble_eq_true rfl) ⟨Nat.zero_le _, Nat.zero_le _⟩ (fun b hb => k_X1_wouldTurnOut hb) (fun b4 hb4 => ?_)
    refine o_ifne (tgt := 27) dX5_turnOut_21 (by decide) (fun u5 => ?_) (fun u5 => ?_)
    · refine o_aload_n dX5_turnOut_27 rfl ?_
      refine h_get (v := .ref 1) dX5_turnOut_28 q5 fl_X5_12 (by decide) (px_lt (by decide)) (c0 _) rfl ?_
      refine o_iload_n dX5_turnOut_31 rfl ?_
      refine h_cVv (as := [.int x1]) (S1 := []) (d' := 1) dX5_turnOut_32 mf_X0_leave ml_X5_190 mv_X0_leave q0 rfl (hp_at (px_ltH 0 (by decide) (Or.inl rfl)) (cH (Or.inl rfl) _)) rfl (Nat.le_of_ble_eq_true rfl) rfl (Nat.le_of_ble_eq_true rfl) (fun b hb => k_X0_leave (Or.inl rfl) hb) (fun b6 hb6 => ?_)
      refine o_aload_n dX5_turnOut_35 rfl ?_
      refine h_get (v := .ref 1) dX5_turnOut_36 q5 fl_X5_12 (by decide) (px_lt (by decide)) (c0 _) rfl ?_
      refine h_cVv (as := []) (S1 := []) (d' := 1) dX5_turnOut_39 mf_X0_passDay ml_X5_193 mv_X0_passDay q0 rfl (hp_at (px_ltH 0 (by decide) (Or.inl rfl)) (cH (Or.inl rfl) _)) rfl (Nat.le_of_ble_eq_true rfl) rfl (Nat.le_of_ble_eq_true rfl) (fun b hb => k_X0_passDay (Or.inl rfl) hb) (fun b7 hb7 => ?_)
      refine o_aload_n dX5_turnOut_42 rfl ?_
      refine h_get (v := .ref 1) dX5_turnOut_43 q5 fl_X5_12 (by decide) (px_lt (by decide)) (c0 _) rfl ?_
      refine h_get (v := .int (b7 1 5)) dX5_turnOut_46 q0 fl_X5_134 (by decide) (px_ltH 0 (by decide) (Or.inl rfl)) (cH (Or.inl rfl) _) rfl ?_
      refine h_cSP (as := [.int (b7 1 5)]) (S1 := []) (d' := 0) dX5_turnOut_49 mf_J6_bitCount_0f7a4 ml_X5_141 ms_J6_bitCount_0f7a4 rfl (Nat.le_of_ble_eq_true rfl) rfl (Nat.le_of_ble_eq_true rfl) ⟨Nat.zero_le _, Nat.zero_le _⟩ (k_J6_bitCount_0f7a4) ?_
      exact o_iret (rt := .int) rfl rfl dX5_turnOut_52 rfl (Nat.zero_le _) (Nat.zero_le _)
    · refine o_bipush (v := (-3)) dX5_turnOut_24 (by decide) ?_
      exact o_iret (rt := .int) rfl rfl dX5_turnOut_26 rfl (Nat.zero_le _) (Nat.zero_le _)
  · refine o_bipush (v := (-2)) dX5_turnOut_9 (by decide) ?_
    exact o_iret (rt := .int) rfl rfl dX5_turnOut_11 rfl (Nat.zero_le _) (Nat.zero_le _)
theorem k_X5_turnOut {T : Nat} {st : px_S} {x0 : Int32} {x1 : Int32} {b : Int32 × px_S} (hf : f_X5_turnOut T x0 x1 st = some b) : px_K (10) 0 0 m_X5_turnOut [.ref 0, .int x0, .int x1] (HP T st) ((px_gi T) b).1 ((px_gi T) b).2 := px_KofH hf mf_X5_turnOut (Nat.le_of_ble_eq_true rfl) rfl (t_X5_turnOut T x0 x1 st)
/-! ThreeOfThem.goOn(I)I: S, depth 10 -/
def f_X5_goOn (T : Nat) (x0 : Int32) (st : px_S) : Option (Int32 × px_S) := (if x0 < 0 then (some ((-2), st)) else (if 6 < x0 then (some ((-2), st)) else ((f_X5_thinking T st).bind fun b3 => ((f_X1_runOn T b3).bind fun b4 => (if x0 = 0 then (some ((b4.2 12 5), b4.2)) else (if x0 = 1 then (some (b4.1, b4.2)) else (if (x0 - 2) < b4.1 then (if px_in (x0 - 2) 7 then (some ((b4.2 28 (x0 - 2).toNatClampNeg), b4.2)) else none) else (some ((-1), b4.2)))))))))
set_option maxRecDepth 20000 in
theorem t_X5_goOn (T : Nat) (x0 : Int32) (st : px_S) : px_O (10, 0, 0, px_n T, m_X5_goOn) (px_gi T) (f_X5_goOn T x0 st) 0 [some (.ref 0), some (.int x0), none] [] (HP T st) 0 0 := by
  rw [f_X5_goOn]
  refine o_iload_n dX5_goOn_0 rfl ?_
  refine o_iflt (tgt := 10) dX5_goOn_1 (by decide) (fun u1 => ?_) (fun u1 => ?_)
  · refine o_bipush (v := (-2)) dX5_goOn_10 (by decide) ?_
    exact o_iret (rt := .int) rfl rfl dX5_goOn_12 rfl (Nat.zero_le _) (Nat.zero_le _)
  · refine o_iload_n dX5_goOn_4 rfl ?_
    refine o_bipush (v := 6) dX5_goOn_5 (by decide) ?_
    refine o_icmple (tgt := 13) dX5_goOn_7 (by decide) (fun u2 => ?_) (fun u2 => ?_)
    · refine o_aload_n dX5_goOn_13 rfl ?_
      refine h_cVr (as := []) (S1 := []) (d' := 2) dX5_goOn_14 mf_X5_thinking ml_X5_156 mv_X5_thinking q5 rfl (hp_at (px_lt (by decide)) (c0 _)) rfl (Nat.le_of_ble_eq_true rfl) rfl (Nat.le_of_ble_eq_true rfl) (fun b hb => k_X5_thinking hb) (fun b3 hb3 => ?_)
      refine h_cVi (as := []) (S1 := []) (d' := 9) dX5_goOn_17 mf_X1_runOn ml_X5_196 mv_X1_runOn q1 rfl (hp_at (px_lt (by decide)) (c11 _)) rfl (Nat.le_of_ble_eq_true rfl) rfl (Nat.le_of_ble_eq_true rfl) (fun b hb => k_X1_runOn hb) (fun b4 hb4 => ?_)
      refine o_istore_n (L' := [some (.ref 0), some (.int x0), some (.int b4.1)]) dX5_goOn_20 (Nat.le_of_ble_eq_true rfl) rfl rfl ?_
      refine o_iload_n dX5_goOn_21 rfl ?_
      refine o_ifne (tgt := 36) dX5_goOn_22 (by decide) (fun u5 => ?_) (fun u5 => ?_)
      · refine o_iload_n dX5_goOn_36 rfl ?_
        refine o_iconst (v := 1) dX5_goOn_37 (by decide) ?_
        refine o_icmpne (tgt := 43) dX5_goOn_38 (by decide) (fun u6 => ?_) (fun u6 => ?_)
        · refine o_iload_n dX5_goOn_43 rfl ?_
          refine o_iconst (v := 2) dX5_goOn_44 (by decide) ?_
          refine o_isub dX5_goOn_45 ?_
          refine o_iload_n dX5_goOn_46 rfl ?_
          refine o_icmpge (tgt := 64) dX5_goOn_47 (by decide) (fun u7 => ?_) (fun u7 => ?_)
          · refine o_iconst (v := (-1)) dX5_goOn_64 (by decide) ?_
            exact o_iret (rt := .int) rfl rfl dX5_goOn_65 rfl (Nat.zero_le _) (Nat.zero_le _)
          · refine o_aload_n dX5_goOn_50 rfl ?_
            refine h_get (v := .ref 11) dX5_goOn_51 q5 fl_X5_22 (by decide) (px_lt (by decide)) (c0 _) rfl ?_
            refine h_get (v := .ref 28) dX5_goOn_54 q1 fl_X5_200 (by decide) (px_lt (by decide)) (c11 _) rfl ?_
            refine o_iload_n dX5_goOn_57 rfl ?_
            refine o_iconst (v := 2) dX5_goOn_58 (by decide) ?_
            refine o_isub dX5_goOn_59 ?_
            refine h_iald (n := 7) dX5_goOn_60 (px_lt (by decide)) (c28 _) (fun u8 => ?_)
            refine o_goto (tgt := 65) dX5_goOn_61 (by decide) ?_
            exact o_iret (rt := .int) rfl rfl dX5_goOn_65 rfl (Nat.zero_le _) (Nat.zero_le _)
        · refine o_iload_n dX5_goOn_41 rfl ?_
          exact o_iret (rt := .int) rfl rfl dX5_goOn_42 rfl (Nat.zero_le _) (Nat.zero_le _)
      · refine o_aload_n dX5_goOn_25 rfl ?_
        refine h_get (v := .ref 11) dX5_goOn_26 q5 fl_X5_22 (by decide) (px_lt (by decide)) (c0 _) rfl ?_
        refine h_get (v := .ref 12) dX5_goOn_29 q1 fl_X5_199 (by decide) (px_lt (by decide)) (c11 _) rfl ?_
        refine h_get (v := .int (b4.2 12 5)) dX5_goOn_32 q0 fl_X5_134 (by decide) (px_ltH 0 (by decide) (Or.inr (Or.inr rfl))) (cH (Or.inr (Or.inr rfl)) _) rfl ?_
        exact o_iret (rt := .int) rfl rfl dX5_goOn_35 rfl (Nat.zero_le _) (Nat.zero_le _)
    · refine o_bipush (v := (-2)) dX5_goOn_10 (by decide) ?_
      exact o_iret (rt := .int) rfl rfl dX5_goOn_12 rfl (Nat.zero_le _) (Nat.zero_le _)
theorem k_X5_goOn {T : Nat} {st : px_S} {x0 : Int32} {b : Int32 × px_S} (hf : f_X5_goOn T x0 st = some b) : px_K (10) 0 0 m_X5_goOn [.ref 0, .int x0] (HP T st) ((px_gi T) b).1 ((px_gi T) b).2 := px_KofH hf mf_X5_goOn (Nat.le_of_ble_eq_true rfl) rfl (t_X5_goOn T x0 st)
/-! ThreeOfThem.end(II)I: S, depth 10 -/
def f_X5_end (T : Nat) (x0 : Int32) (x1 : Int32) (st : px_S) : Option (Int32 × px_S) := (if x0 < 0 then (some ((-2), st)) else ((f_X0_everyone T st 1).bind fun b2 => (if (x0 &&& (b2 ^^^ (-1))) = 0 then (if x1 < 0 then (some ((-2), st)) else (if 1 < x1 then (some ((-2), st)) else ((f_X5_thinking T st).bind fun b6 => ((f_X1_foresee T x0 b6).bind fun b7 => (if x1 = 0 then (if px_in x0 128 then (some ((b7 25 x0.toNatClampNeg), b7)) else none) else (if px_in x0 128 then (some ((b7 26 x0.toNatClampNeg), b7)) else none)))))) else (some ((-2), st)))))
set_option maxRecDepth 20000 in
theorem t_X5_end (T : Nat) (x0 : Int32) (x1 : Int32) (st : px_S) : px_O (10, 0, 0, px_n T, m_X5_end) (px_gi T) (f_X5_end T x0 x1 st) 0 [some (.ref 0), some (.int x0), some (.int x1)] [] (HP T st) 0 0 := by
  rw [f_X5_end]
  refine o_iload_n dX5_end_0 rfl ?_
  refine o_iflt (tgt := 27) dX5_end_1 (by decide) (fun u1 => ?_) (fun u1 => ?_)
  · refine o_bipush (v := (-2)) dX5_end_27 (by decide) ?_
    exact o_iret (rt := .int) rfl rfl dX5_end_29 rfl (Nat.zero_le _) (Nat.zero_le _)
  · refine o_iload_n dX5_end_4 rfl ?_
    refine o_aload_n dX5_end_5 rfl ?_
    refine h_get (v := .ref 1) dX5_end_6 q5 fl_X5_12 (by decide) (px_lt (by decide)) (c0 _) rfl ?_
    refine h_cV0 (as := []) (S1 := [.int x0]) (d' := 1) dX5_end_9 mf_X0_everyone ml_X5_203 mv_X0_everyone q0 rfl (hp_at (px_ltH 0 (by decide) (Or.inl rfl)) (cH (Or.inl rfl) _)) rfl (Nat.le_of_ble_eq_true rfl) rfl (Nat.le_of_ble_eq_true rfl) ⟨Nat.zero_le _, Nat.zero_le _⟩ (fun b hb => k_X0_everyone (Or.inl rfl) hb) (fun b2 hb2 => ?_)
    refine o_iconst (v := (-1)) dX5_end_12 (by decide) ?_
    refine o_ixor dX5_end_13 ?_
    refine o_iand dX5_end_14 ?_
    refine o_ifne (tgt := 27) dX5_end_15 (by decide) (fun u3 => ?_) (fun u3 => ?_)
    · refine o_bipush (v := (-2)) dX5_end_27 (by decide) ?_
      exact o_iret (rt := .int) rfl rfl dX5_end_29 rfl (Nat.zero_le _) (Nat.zero_le _)
    · refine o_iload_n dX5_end_18 rfl ?_
      refine o_iflt (tgt := 27) dX5_end_19 (by decide) (fun u4 => ?_) (fun u4 => ?_)
      · refine o_bipush (v := (-2)) dX5_end_27 (by decide) ?_
        exact o_iret (rt := .int) rfl rfl dX5_end_29 rfl (Nat.zero_le _) (Nat.zero_le _)
      · refine o_iload_n dX5_end_22 rfl ?_
        refine o_iconst (v := 1) dX5_end_23 (by decide) ?_
        refine o_icmple (tgt := 30) dX5_end_24 (by decide) (fun u5 => ?_) (fun u5 => ?_)
        · refine o_aload_n dX5_end_30 rfl ?_
          refine h_cVr (as := []) (S1 := []) (d' := 2) dX5_end_31 mf_X5_thinking ml_X5_156 mv_X5_thinking q5 rfl (hp_at (px_lt (by decide)) (c0 _)) rfl (Nat.le_of_ble_eq_true rfl) rfl (Nat.le_of_ble_eq_true rfl) (fun b hb => k_X5_thinking hb) (fun b6 hb6 => ?_)
          refine o_iload_n dX5_end_34 rfl ?_
          refine h_cVv (as := [.int x0]) (S1 := []) (d' := 9) dX5_end_35 mf_X1_foresee ml_X5_206 mv_X1_foresee q1 rfl (hp_at (px_lt (by decide)) (c11 _)) rfl (Nat.le_of_ble_eq_true rfl) rfl (Nat.le_of_ble_eq_true rfl) (fun b hb => k_X1_foresee hb) (fun b7 hb7 => ?_)
          refine o_iload_n dX5_end_38 rfl ?_
          refine o_ifne (tgt := 54) dX5_end_39 (by decide) (fun u8 => ?_) (fun u8 => ?_)
          · refine o_aload_n dX5_end_54 rfl ?_
            refine h_get (v := .ref 11) dX5_end_55 q5 fl_X5_22 (by decide) (px_lt (by decide)) (c0 _) rfl ?_
            refine h_get (v := .ref 26) dX5_end_58 q1 fl_X5_212 (by decide) (px_lt (by decide)) (c11 _) rfl ?_
            refine o_iload_n dX5_end_61 rfl ?_
            refine h_iald (n := 128) dX5_end_62 (px_lt (by decide)) (c26 _) (fun u9 => ?_)
            exact o_iret (rt := .int) rfl rfl dX5_end_63 rfl (Nat.zero_le _) (Nat.zero_le _)
          · refine o_aload_n dX5_end_42 rfl ?_
            refine h_get (v := .ref 11) dX5_end_43 q5 fl_X5_22 (by decide) (px_lt (by decide)) (c0 _) rfl ?_
            refine h_get (v := .ref 25) dX5_end_46 q1 fl_X5_209 (by decide) (px_lt (by decide)) (c11 _) rfl ?_
            refine o_iload_n dX5_end_49 rfl ?_
            refine h_iald (n := 128) dX5_end_50 (px_lt (by decide)) (c25 _) (fun u10 => ?_)
            refine o_goto (tgt := 63) dX5_end_51 (by decide) ?_
            exact o_iret (rt := .int) rfl rfl dX5_end_63 rfl (Nat.zero_le _) (Nat.zero_le _)
        · refine o_bipush (v := (-2)) dX5_end_27 (by decide) ?_
          exact o_iret (rt := .int) rfl rfl dX5_end_29 rfl (Nat.zero_le _) (Nat.zero_le _)
theorem k_X5_end {T : Nat} {st : px_S} {x0 : Int32} {x1 : Int32} {b : Int32 × px_S} (hf : f_X5_end T x0 x1 st = some b) : px_K (10) 0 0 m_X5_end [.ref 0, .int x0, .int x1] (HP T st) ((px_gi T) b).1 ((px_gi T) b).2 := px_KofH hf mf_X5_end (Nat.le_of_ble_eq_true rfl) rfl (t_X5_end T x0 x1 st)
/-! ThreeOfThem.safe()I: S, depth 10 -/
def f_X5_safe_9 (T : Nat) : Nat → Int32 → Int32 → px_S → Option (Int32 × px_S)
  | 0, _, _, _ => none
  | n + 1, y1, y2, st => (if y2 < 7 then ((f_X0_isIn T st 1 y2).bind fun b2 => (if b2 = 0 then ((f_X5_safe_9 T n) y1 (y2 + 1) st) else ((f_X1_isSafe T st y2).bind fun b4 => (if b4 = 0 then ((f_X5_safe_9 T n) y1 (y2 + 1) st) else ((f_X5_safe_9 T n) (y1 ||| (p_X5_bit y2)) (y2 + 1) st))))) else (some (y1, st)))
set_option maxRecDepth 20000 in
theorem t_X5_safe_9 (T : Nat) : ∀ (n : Nat) (y1 : Int32) (y2 : Int32) (st : px_S), px_O (10, 0, 0, px_n T, m_X5_safe) (px_gi T) (f_X5_safe_9 T n y1 y2 st) 9 [some (.ref 0), some (.int y1), some (.int y2)] [] (HP T st) 0 0 := by
  intro n
  induction n with
  | zero => intro y1 y2 st; rw [f_X5_safe_9]; exact o_none
  | succ n ih =>
    intro y1 y2 st
    rw [f_X5_safe_9]
    refine o_iload_n dX5_safe_9 rfl ?_
    refine o_bipush (v := 7) dX5_safe_10 (by decide) ?_
    refine o_icmpge (tgt := 50) dX5_safe_12 (by decide) (fun u1 => ?_) (fun u1 => ?_)
    · refine o_iload_n dX5_safe_50 rfl ?_
      exact o_iret (rt := .int) rfl rfl dX5_safe_51 rfl (Nat.zero_le _) (Nat.zero_le _)
    · refine o_aload_n dX5_safe_15 rfl ?_
      refine h_get (v := .ref 1) dX5_safe_16 q5 fl_X5_12 (by decide) (px_lt (by decide)) (c0 _) rfl ?_
      refine o_iload_n dX5_safe_19 rfl ?_
      refine h_cV0 (as := [.int y2]) (S1 := []) (d' := 1) dX5_safe_20 mf_X0_isIn ml_X5_131 mv_X0_isIn q0 rfl (hp_at (px_ltH 0 (by decide) (Or.inl rfl)) (cH (Or.inl rfl) _)) rfl (Nat.le_of_ble_eq_true rfl) rfl (Nat.le_of_ble_eq_true rfl) ⟨Nat.zero_le _, Nat.zero_le _⟩ (fun b hb => k_X0_isIn (Or.inl rfl) hb) (fun b2 hb2 => ?_)
      refine o_ifeq (tgt := 44) dX5_safe_23 (by decide) (fun u3 => ?_) (fun u3 => ?_)
      · refine o_iinc (v := (y2 + 1)) (L' := [some (.ref 0), some (.int y1), some (.int (y2 + 1))]) dX5_safe_44 rfl rfl (Nat.le_of_ble_eq_true rfl) rfl rfl ?_
        refine o_goto (tgt := 9) dX5_safe_47 (by decide) ?_
        exact (ih y1 (y2 + 1) st)
      · refine o_aload_n dX5_safe_26 rfl ?_
        refine h_get (v := .ref 11) dX5_safe_27 q5 fl_X5_22 (by decide) (px_lt (by decide)) (c0 _) rfl ?_
        refine o_iload_n dX5_safe_30 rfl ?_
        refine h_cV0 (as := [.int y2]) (S1 := []) (d' := 2) dX5_safe_31 mf_X1_isSafe ml_X5_215 mv_X1_isSafe q1 rfl (hp_at (px_lt (by decide)) (c11 _)) rfl (Nat.le_of_ble_eq_true rfl) rfl (Nat.le_of_ble_eq_true rfl) ⟨Nat.zero_le _, Nat.zero_le _⟩ (fun b hb => k_X1_isSafe hb) (fun b4 hb4 => ?_)
        refine o_ifeq (tgt := 44) dX5_safe_34 (by decide) (fun u5 => ?_) (fun u5 => ?_)
        · refine o_iinc (v := (y2 + 1)) (L' := [some (.ref 0), some (.int y1), some (.int (y2 + 1))]) dX5_safe_44 rfl rfl (Nat.le_of_ble_eq_true rfl) rfl rfl ?_
          refine o_goto (tgt := 9) dX5_safe_47 (by decide) ?_
          exact (ih y1 (y2 + 1) st)
        · refine o_iload_n dX5_safe_37 rfl ?_
          refine o_iload_n dX5_safe_38 rfl ?_
          refine h_cSP (as := [.int y2]) (S1 := [.int y1]) (d' := 0) dX5_safe_39 mf_X5_bit ml_X5_137 ms_X5_bit rfl (Nat.le_of_ble_eq_true rfl) rfl (Nat.le_of_ble_eq_true rfl) ⟨Nat.zero_le _, Nat.zero_le _⟩ (k_X5_bit) ?_
          refine o_ior dX5_safe_42 ?_
          refine o_istore_n (L' := [some (.ref 0), some (.int (y1 ||| (p_X5_bit y2))), some (.int y2)]) dX5_safe_43 (Nat.le_of_ble_eq_true rfl) rfl rfl ?_
          refine o_iinc (v := (y2 + 1)) (L' := [some (.ref 0), some (.int (y1 ||| (p_X5_bit y2))), some (.int (y2 + 1))]) dX5_safe_44 rfl rfl (Nat.le_of_ble_eq_true rfl) rfl rfl ?_
          refine o_goto (tgt := 9) dX5_safe_47 (by decide) ?_
          exact (ih (y1 ||| (p_X5_bit y2)) (y2 + 1) st)
def f_X5_safe (T : Nat) (st : px_S) : Option (Int32 × px_S) := ((f_X5_thinkingOfHouse T st).bind fun b6 => (f_X5_safe_9 T 1000 0 0 b6))
set_option maxRecDepth 20000 in
theorem t_X5_safe (T : Nat) (st : px_S) : px_O (10, 0, 0, px_n T, m_X5_safe) (px_gi T) (f_X5_safe T st) 0 [some (.ref 0), none, none] [] (HP T st) 0 0 := by
  rw [f_X5_safe]
  refine o_aload_n dX5_safe_0 rfl ?_
  refine h_cVr (as := []) (S1 := []) (d' := 9) dX5_safe_1 mf_X5_thinkingOfHouse ml_X5_175 mv_X5_thinkingOfHouse q5 rfl (hp_at (px_lt (by decide)) (c0 _)) rfl (Nat.le_of_ble_eq_true rfl) rfl (Nat.le_of_ble_eq_true rfl) (fun b hb => k_X5_thinkingOfHouse hb) (fun b6 hb6 => ?_)
  refine o_pop dX5_safe_4 rfl ?_
  refine o_iconst (v := 0) dX5_safe_5 (by decide) ?_
  refine o_istore_n (L' := [some (.ref 0), some (.int 0), none]) dX5_safe_6 (Nat.le_of_ble_eq_true rfl) rfl rfl ?_
  refine o_iconst (v := 0) dX5_safe_7 (by decide) ?_
  refine o_istore_n (L' := [some (.ref 0), some (.int 0), some (.int 0)]) dX5_safe_8 (Nat.le_of_ble_eq_true rfl) rfl rfl ?_
  exact (t_X5_safe_9 T 1000 0 0 b6)
theorem k_X5_safe {T : Nat} {st : px_S} {b : Int32 × px_S} (hf : f_X5_safe T st = some b) : px_K (10) 0 0 m_X5_safe [.ref 0] (HP T st) ((px_gi T) b).1 ((px_gi T) b).2 := px_KofH hf mf_X5_safe (Nat.le_of_ble_eq_true rfl) rfl (t_X5_safe T st)
