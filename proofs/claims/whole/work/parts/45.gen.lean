/-! ThreeOfThem.sworn(I)I: S, depth 10 -/
def f_X5_sworn (T : Nat) (x0 : Int32) (st : px_S) : Option (Int32 × px_S) := ((f_X0_isIn T st 1 x0).bind fun b1 => (if b1 = 0 then (some ((-2), st)) else ((f_X5_thinkingOfHouse T st).bind fun b3 => ((f_X1_isSafe T b3 x0).bind fun b4 => (if b4 = 0 then ((f_X1_savingOath T b3 x0).bind fun b6 => (some (b6, b3))) else (some ((-2), b3)))))))
set_option maxRecDepth 20000 in
theorem t_X5_sworn (T : Nat) (x0 : Int32) (st : px_S) : px_O (10, 0, 0, px_n T, m_X5_sworn) (px_gi T) (f_X5_sworn T x0 st) 0 [some (.ref 0), some (.int x0)] [] (HP T st) 0 0 := by
  rw [f_X5_sworn]
  refine o_aload_n dX5_sworn_0 rfl ?_
  refine h_get (v := .ref 1) dX5_sworn_1 q5 fl_X5_12 (by decide) (px_lt (by decide)) (c0 _) rfl ?_
  refine o_iload_n dX5_sworn_4 rfl ?_
  refine h_cV0 (as := [.int x0]) (S1 := []) (d' := 1) dX5_sworn_5 mf_X0_isIn ml_X5_131 mv_X0_isIn q0 rfl (hp_at (px_ltH 0 (by decide) (Or.inl rfl)) (cH (Or.inl rfl) _)) rfl (Nat.le_of_ble_eq_true rfl) rfl (Nat.le_of_ble_eq_true rfl) ⟨Nat.zero_le _, Nat.zero_le _⟩ (fun b hb => k_X0_isIn (Or.inl rfl) hb) (fun b1 hb1 => ?_)
  refine o_ifeq (tgt := 22) dX5_sworn_8 (by decide) (fun u2 => ?_) (fun u2 => ?_)
  · refine o_bipush (v := (-2)) dX5_sworn_22 (by decide) ?_
    exact o_iret (rt := .int) rfl rfl dX5_sworn_24 rfl (Nat.zero_le _) (Nat.zero_le _)
  · refine o_aload_n dX5_sworn_11 rfl ?_
    refine h_cVr (as := []) (S1 := []) (d' := 9) dX5_sworn_12 mf_X5_thinkingOfHouse ml_X5_175 mv_X5_thinkingOfHouse q5 rfl (hp_at (px_lt (by decide)) (c0 _)) rfl (Nat.le_of_ble_eq_true rfl) rfl (Nat.le_of_ble_eq_true rfl) (fun b hb => k_X5_thinkingOfHouse hb) (fun b3 hb3 => ?_)
    refine o_iload_n dX5_sworn_15 rfl ?_
    refine h_cV0 (as := [.int x0]) (S1 := []) (d' := 2) dX5_sworn_16 mf_X1_isSafe ml_X5_215 mv_X1_isSafe q1 rfl (hp_at (px_lt (by decide)) (c11 _)) rfl (Nat.le_of_ble_eq_true rfl) rfl (Nat.le_of_ble_eq_true rfl) ⟨Nat.zero_le _, Nat.zero_le _⟩ (fun b hb => k_X1_isSafe hb) (fun b4 hb4 => ?_)
    refine o_ifeq (tgt := 25) dX5_sworn_19 (by decide) (fun u5 => ?_) (fun u5 => ?_)
    · refine o_aload_n dX5_sworn_25 rfl ?_
      refine h_get (v := .ref 11) dX5_sworn_26 q5 fl_X5_22 (by decide) (px_lt (by decide)) (c0 _) rfl ?_
      refine o_iload_n dX5_sworn_29 rfl ?_
      refine h_cV0 (as := [.int x0]) (S1 := []) (d' := 2) dX5_sworn_30 mf_X1_savingOath ml_X5_218 mv_X1_savingOath q1 rfl (hp_at (px_lt (by decide)) (c11 _)) rfl (Nat.le_of_ble_eq_true rfl) rfl (Nat.le_of_ble_eq_true rfl) ⟨Nat.zero_le _, Nat.zero_le _⟩ (fun b hb => k_X1_savingOath hb) (fun b6 hb6 => ?_)
      exact o_iret (rt := .int) rfl rfl dX5_sworn_33 rfl (Nat.zero_le _) (Nat.zero_le _)
    · refine o_bipush (v := (-2)) dX5_sworn_22 (by decide) ?_
      exact o_iret (rt := .int) rfl rfl dX5_sworn_24 rfl (Nat.zero_le _) (Nat.zero_le _)
theorem k_X5_sworn {T : Nat} {st : px_S} {x0 : Int32} {b : Int32 × px_S} (hf : f_X5_sworn T x0 st = some b) : px_K (10) 0 0 m_X5_sworn [.ref 0, .int x0] (HP T st) ((px_gi T) b).1 ((px_gi T) b).2 := px_KofH hf mf_X5_sworn (Nat.le_of_ble_eq_true rfl) rfl (t_X5_sworn T x0 st)
/-! ThreeOfThem.oaths(I)I: S, depth 10 -/
def f_X5_oaths (T : Nat) (x0 : Int32) (st : px_S) : Option (Int32 × px_S) := (if x0 < 0 then (some ((-2), st)) else (if 2 < x0 then (some ((-2), st)) else ((f_X5_thinkingOfHouse T st).bind fun b3 => ((f_X1_findOaths T b3).bind fun b4 => (if px_in x0 3 then (some ((b4 29 x0.toNatClampNeg), b4)) else none)))))
set_option maxRecDepth 20000 in
theorem t_X5_oaths (T : Nat) (x0 : Int32) (st : px_S) : px_O (10, 0, 0, px_n T, m_X5_oaths) (px_gi T) (f_X5_oaths T x0 st) 0 [some (.ref 0), some (.int x0)] [] (HP T st) 0 0 := by
  rw [f_X5_oaths]
  refine o_iload_n dX5_oaths_0 rfl ?_
  refine o_iflt (tgt := 9) dX5_oaths_1 (by decide) (fun u1 => ?_) (fun u1 => ?_)
  · refine o_bipush (v := (-2)) dX5_oaths_9 (by decide) ?_
    exact o_iret (rt := .int) rfl rfl dX5_oaths_11 rfl (Nat.zero_le _) (Nat.zero_le _)
  · refine o_iload_n dX5_oaths_4 rfl ?_
    refine o_iconst (v := 2) dX5_oaths_5 (by decide) ?_
    refine o_icmple (tgt := 12) dX5_oaths_6 (by decide) (fun u2 => ?_) (fun u2 => ?_)
    · refine o_aload_n dX5_oaths_12 rfl ?_
      refine h_cVr (as := []) (S1 := []) (d' := 9) dX5_oaths_13 mf_X5_thinkingOfHouse ml_X5_175 mv_X5_thinkingOfHouse q5 rfl (hp_at (px_lt (by decide)) (c0 _)) rfl (Nat.le_of_ble_eq_true rfl) rfl (Nat.le_of_ble_eq_true rfl) (fun b hb => k_X5_thinkingOfHouse hb) (fun b3 hb3 => ?_)
      refine h_cVv (as := []) (S1 := []) (d' := 6) dX5_oaths_16 mf_X1_findOaths ml_X5_221 mv_X1_findOaths q1 rfl (hp_at (px_lt (by decide)) (c11 _)) rfl (Nat.le_of_ble_eq_true rfl) rfl (Nat.le_of_ble_eq_true rfl) (fun b hb => k_X1_findOaths hb) (fun b4 hb4 => ?_)
      refine o_aload_n dX5_oaths_19 rfl ?_
      refine h_get (v := .ref 11) dX5_oaths_20 q5 fl_X5_22 (by decide) (px_lt (by decide)) (c0 _) rfl ?_
      refine h_get (v := .ref 29) dX5_oaths_23 q1 fl_X5_224 (by decide) (px_lt (by decide)) (c11 _) rfl ?_
      refine o_iload_n dX5_oaths_26 rfl ?_
      refine h_iald (n := 3) dX5_oaths_27 (px_lt (by decide)) (c29 _) (fun u5 => ?_)
      exact o_iret (rt := .int) rfl rfl dX5_oaths_28 rfl (Nat.zero_le _) (Nat.zero_le _)
    · refine o_bipush (v := (-2)) dX5_oaths_9 (by decide) ?_
      exact o_iret (rt := .int) rfl rfl dX5_oaths_11 rfl (Nat.zero_le _) (Nat.zero_le _)
theorem k_X5_oaths {T : Nat} {st : px_S} {x0 : Int32} {b : Int32 × px_S} (hf : f_X5_oaths T x0 st = some b) : px_K (10) 0 0 m_X5_oaths [.ref 0, .int x0] (HP T st) ((px_gi T) b).1 ((px_gi T) b).2 := px_KofH hf mf_X5_oaths (Nat.le_of_ble_eq_true rfl) rfl (t_X5_oaths T x0 st)
/-! ThreeOfThem.shield(II)I: S, depth 9 -/
def f_X5_shield (T : Nat) (x0 : Int32) (x1 : Int32) (st : px_S) : Option (Int32 × px_S) := ((f_X0_isIn T st 1 x0).bind fun b1 => (if b1 = 0 then (some ((-2), st)) else ((f_X0_knows T st 1 x1).bind fun b3 => (if b3 = 0 then (some ((-2), st)) else ((f_X0_isIn T st 1 x1).bind fun b5 => (if b5 = 0 then ((f_X5_thinking T st).bind fun b7 => ((f_X1_lookAt T ((b7 1 5) ||| (p_X5_bit x1)) b7).bind fun b8 => ((f_X1_isSafe T b8 x0).bind fun b9 => (if b9 = 0 then (some (0, b8)) else (some (1, b8)))))) else (some ((-2), st))))))))
set_option maxRecDepth 20000 in
theorem t_X5_shield (T : Nat) (x0 : Int32) (x1 : Int32) (st : px_S) : px_O (9, 0, 0, px_n T, m_X5_shield) (px_gi T) (f_X5_shield T x0 x1 st) 0 [some (.ref 0), some (.int x0), some (.int x1)] [] (HP T st) 0 0 := by
  rw [f_X5_shield]
  refine o_aload_n dX5_shield_0 rfl ?_
  refine h_get (v := .ref 1) dX5_shield_1 q5 fl_X5_12 (by decide) (px_lt (by decide)) (c0 _) rfl ?_
  refine o_iload_n dX5_shield_4 rfl ?_
  refine h_cV0 (as := [.int x0]) (S1 := []) (d' := 1) dX5_shield_5 mf_X0_isIn ml_X5_131 mv_X0_isIn q0 rfl (hp_at (px_ltH 0 (by decide) (Or.inl rfl)) (cH (Or.inl rfl) _)) rfl (Nat.le_of_ble_eq_true rfl) rfl (Nat.le_of_ble_eq_true rfl) ⟨Nat.zero_le _, Nat.zero_le _⟩ (fun b hb => k_X0_isIn (Or.inl rfl) hb) (fun b1 hb1 => ?_)
  refine o_ifeq (tgt := 33) dX5_shield_8 (by decide) (fun u2 => ?_) (fun u2 => ?_)
  · refine o_bipush (v := (-2)) dX5_shield_33 (by decide) ?_
    exact o_iret (rt := .int) rfl rfl dX5_shield_35 rfl (Nat.zero_le _) (Nat.zero_le _)
  · refine o_aload_n dX5_shield_11 rfl ?_
    refine h_get (v := .ref 1) dX5_shield_12 q5 fl_X5_12 (by decide) (px_lt (by decide)) (c0 _) rfl ?_
    refine o_iload_n dX5_shield_15 rfl ?_
    refine h_cV0 (as := [.int x1]) (S1 := []) (d' := 0) dX5_shield_16 mf_X0_knows ml_X5_124 mv_X0_knows q0 rfl (hp_at (px_ltH 0 (by decide) (Or.inl rfl)) (cH (Or.inl rfl) _)) rfl (Nat.le_of_ble_eq_true rfl) rfl (Nat.le_of_ble_eq_true rfl) ⟨Nat.zero_le _, Nat.zero_le _⟩ (fun b hb => k_X0_knows (Or.inl rfl) hb) (fun b3 hb3 => ?_)
    refine o_ifeq (tgt := 33) dX5_shield_19 (by decide) (fun u4 => ?_) (fun u4 => ?_)
    · refine o_bipush (v := (-2)) dX5_shield_33 (by decide) ?_
      exact o_iret (rt := .int) rfl rfl dX5_shield_35 rfl (Nat.zero_le _) (Nat.zero_le _)
    · refine o_aload_n dX5_shield_22 rfl ?_
      refine h_get (v := .ref 1) dX5_shield_23 q5 fl_X5_12 (by decide) (px_lt (by decide)) (c0 _) rfl ?_
      refine o_iload_n dX5_shield_26 rfl ?_
      refine h_cV0 (as := [.int x1]) (S1 := []) (d' := 1) dX5_shield_27 mf_X0_isIn ml_X5_131 mv_X0_isIn q0 rfl (hp_at (px_ltH 0 (by decide) (Or.inl rfl)) (cH (Or.inl rfl) _)) rfl (Nat.le_of_ble_eq_true rfl) rfl (Nat.le_of_ble_eq_true rfl) ⟨Nat.zero_le _, Nat.zero_le _⟩ (fun b hb => k_X0_isIn (Or.inl rfl) hb) (fun b5 hb5 => ?_)
      refine o_ifeq (tgt := 36) dX5_shield_30 (by decide) (fun u6 => ?_) (fun u6 => ?_)
      · refine o_aload_n dX5_shield_36 rfl ?_
        refine h_cVr (as := []) (S1 := []) (d' := 2) dX5_shield_37 mf_X5_thinking ml_X5_156 mv_X5_thinking q5 rfl (hp_at (px_lt (by decide)) (c0 _)) rfl (Nat.le_of_ble_eq_true rfl) rfl (Nat.le_of_ble_eq_true rfl) (fun b hb => k_X5_thinking hb) (fun b7 hb7 => ?_)
        refine o_aload_n dX5_shield_40 rfl ?_
        refine h_get (v := .ref 1) dX5_shield_41 q5 fl_X5_12 (by decide) (px_lt (by decide)) (c0 _) rfl ?_
        refine h_get (v := .int (b7 1 5)) dX5_shield_44 q0 fl_X5_134 (by decide) (px_ltH 0 (by decide) (Or.inl rfl)) (cH (Or.inl rfl) _) rfl ?_
        refine o_iload_n dX5_shield_47 rfl ?_
        refine h_cSP (as := [.int x1]) (S1 := [.int (b7 1 5), .ref 11]) (d' := 0) dX5_shield_48 mf_X5_bit ml_X5_137 ms_X5_bit rfl (Nat.le_of_ble_eq_true rfl) rfl (Nat.le_of_ble_eq_true rfl) ⟨Nat.zero_le _, Nat.zero_le _⟩ (k_X5_bit) ?_
        refine o_ior dX5_shield_51 ?_
        refine h_cVv (as := [.int ((b7 1 5) ||| (p_X5_bit x1))]) (S1 := []) (d' := 8) dX5_shield_52 mf_X1_lookAt ml_X5_227 mv_X1_lookAt q1 rfl (hp_at (px_lt (by decide)) (c11 _)) rfl (Nat.le_of_ble_eq_true rfl) rfl (Nat.le_of_ble_eq_true rfl) (fun b hb => k_X1_lookAt hb) (fun b8 hb8 => ?_)
        refine o_aload_n dX5_shield_55 rfl ?_
        refine h_get (v := .ref 11) dX5_shield_56 q5 fl_X5_22 (by decide) (px_lt (by decide)) (c0 _) rfl ?_
        refine o_iload_n dX5_shield_59 rfl ?_
        refine h_cV0 (as := [.int x0]) (S1 := []) (d' := 2) dX5_shield_60 mf_X1_isSafe ml_X5_215 mv_X1_isSafe q1 rfl (hp_at (px_lt (by decide)) (c11 _)) rfl (Nat.le_of_ble_eq_true rfl) rfl (Nat.le_of_ble_eq_true rfl) ⟨Nat.zero_le _, Nat.zero_le _⟩ (fun b hb => k_X1_isSafe hb) (fun b9 hb9 => ?_)
        refine o_ifeq (tgt := 70) dX5_shield_63 (by decide) (fun u10 => ?_) (fun u10 => ?_)
        · refine o_iconst (v := 0) dX5_shield_70 (by decide) ?_
          exact o_iret (rt := .int) rfl rfl dX5_shield_71 rfl (Nat.zero_le _) (Nat.zero_le _)
        · refine o_iconst (v := 1) dX5_shield_66 (by decide) ?_
          refine o_goto (tgt := 71) dX5_shield_67 (by decide) ?_
          exact o_iret (rt := .int) rfl rfl dX5_shield_71 rfl (Nat.zero_le _) (Nat.zero_le _)
      · refine o_bipush (v := (-2)) dX5_shield_33 (by decide) ?_
        exact o_iret (rt := .int) rfl rfl dX5_shield_35 rfl (Nat.zero_le _) (Nat.zero_le _)
theorem k_X5_shield {T : Nat} {st : px_S} {x0 : Int32} {x1 : Int32} {b : Int32 × px_S} (hf : f_X5_shield T x0 x1 st = some b) : px_K (9) 0 0 m_X5_shield [.ref 0, .int x0, .int x1] (HP T st) ((px_gi T) b).1 ((px_gi T) b).2 := px_KofH hf mf_X5_shield (Nat.le_of_ble_eq_true rfl) rfl (t_X5_shield T x0 x1 st)
/-! ThreeOfThem.holds(I)I: S, depth 10 -/
def f_X5_holds (T : Nat) (x0 : Int32) (st : px_S) : Option (Int32 × px_S) := (if x0 < 0 then (some ((-2), st)) else (if 1 < x0 then (some ((-2), st)) else ((f_X5_thinkingOfHouse T st).bind fun b3 => (if x0 = 0 then ((f_X1_leastNeeded T b3).bind fun b6 => (some (b6.1, b6.2))) else ((f_X1_leastRent T b3).bind fun b5 => (some (b5.1, b5.2)))))))
set_option maxRecDepth 20000 in
theorem t_X5_holds (T : Nat) (x0 : Int32) (st : px_S) : px_O (10, 0, 0, px_n T, m_X5_holds) (px_gi T) (f_X5_holds T x0 st) 0 [some (.ref 0), some (.int x0)] [] (HP T st) 0 0 := by
  rw [f_X5_holds]
  refine o_iload_n dX5_holds_0 rfl ?_
  refine o_iflt (tgt := 9) dX5_holds_1 (by decide) (fun u1 => ?_) (fun u1 => ?_)
  · refine o_bipush (v := (-2)) dX5_holds_9 (by decide) ?_
    exact o_iret (rt := .int) rfl rfl dX5_holds_11 rfl (Nat.zero_le _) (Nat.zero_le _)
  · refine o_iload_n dX5_holds_4 rfl ?_
    refine o_iconst (v := 1) dX5_holds_5 (by decide) ?_
    refine o_icmple (tgt := 12) dX5_holds_6 (by decide) (fun u2 => ?_) (fun u2 => ?_)
    · refine o_aload_n dX5_holds_12 rfl ?_
      refine h_cVr (as := []) (S1 := []) (d' := 9) dX5_holds_13 mf_X5_thinkingOfHouse ml_X5_175 mv_X5_thinkingOfHouse q5 rfl (hp_at (px_lt (by decide)) (c0 _)) rfl (Nat.le_of_ble_eq_true rfl) rfl (Nat.le_of_ble_eq_true rfl) (fun b hb => k_X5_thinkingOfHouse hb) (fun b3 hb3 => ?_)
      refine o_pop dX5_holds_16 rfl ?_
      refine o_iload_n dX5_holds_17 rfl ?_
      refine o_ifne (tgt := 31) dX5_holds_18 (by decide) (fun u4 => ?_) (fun u4 => ?_)
      · refine o_aload_n dX5_holds_31 rfl ?_
        refine h_get (v := .ref 11) dX5_holds_32 q5 fl_X5_22 (by decide) (px_lt (by decide)) (c0 _) rfl ?_
        refine h_cVi (as := []) (S1 := []) (d' := 8) dX5_holds_35 mf_X1_leastRent ml_X5_233 mv_X1_leastRent q1 rfl (hp_at (px_lt (by decide)) (c11 _)) rfl (Nat.le_of_ble_eq_true rfl) rfl (Nat.le_of_ble_eq_true rfl) (fun b hb => k_X1_leastRent hb) (fun b5 hb5 => ?_)
        exact o_iret (rt := .int) rfl rfl dX5_holds_38 rfl (Nat.zero_le _) (Nat.zero_le _)
      · refine o_aload_n dX5_holds_21 rfl ?_
        refine h_get (v := .ref 11) dX5_holds_22 q5 fl_X5_22 (by decide) (px_lt (by decide)) (c0 _) rfl ?_
        refine h_cVi (as := []) (S1 := []) (d' := 4) dX5_holds_25 mf_X1_leastNeeded ml_X5_230 mv_X1_leastNeeded q1 rfl (hp_at (px_lt (by decide)) (c11 _)) rfl (Nat.le_of_ble_eq_true rfl) rfl (Nat.le_of_ble_eq_true rfl) (fun b hb => k_X1_leastNeeded hb) (fun b6 hb6 => ?_)
        refine o_goto (tgt := 38) dX5_holds_28 (by decide) ?_
        exact o_iret (rt := .int) rfl rfl dX5_holds_38 rfl (Nat.zero_le _) (Nat.zero_le _)
    · refine o_bipush (v := (-2)) dX5_holds_9 (by decide) ?_
      exact o_iret (rt := .int) rfl rfl dX5_holds_11 rfl (Nat.zero_le _) (Nat.zero_le _)
theorem k_X5_holds {T : Nat} {st : px_S} {x0 : Int32} {b : Int32 × px_S} (hf : f_X5_holds T x0 st = some b) : px_K (10) 0 0 m_X5_holds [.ref 0, .int x0] (HP T st) ((px_gi T) b).1 ((px_gi T) b).2 := px_KofH hf mf_X5_holds (Nat.le_of_ble_eq_true rfl) rfl (t_X5_holds T x0 st)
/-! ThreeOfThem.who(II)I: S, depth 10 -/
def f_X5_who (T : Nat) (x0 : Int32) (x1 : Int32) (st : px_S) : Option (Int32 × px_S) := (if (p_X5_isSheet x0) = 0 then (some ((-2), st)) else (if x1 < 0 then (some ((-2), st)) else (if 2 < x1 then (some ((-2), st)) else (if px_in x0 4 then ((f_X3_isMissing T st (38 + 2 * x0.toNatClampNeg)).bind fun b6 => (if b6 = 0 then ((f_X5_thinking T st).bind fun b8 => ((f_X1_follow T (38 + 2 * x0.toNatClampNeg) b8).bind fun b9 => (if b9.1 = 0 then (some ((-2), b9.2)) else (if px_in x1 3 then (some ((b9.2 30 x1.toNatClampNeg), b9.2)) else none)))) else (some ((-11), st)))) else none))))
set_option maxRecDepth 20000 in
theorem t_X5_who (T : Nat) (x0 : Int32) (x1 : Int32) (st : px_S) : px_O (10, 0, 0, px_n T, m_X5_who) (px_gi T) (f_X5_who T x0 x1 st) 0 [some (.ref 0), some (.int x0), some (.int x1), none] [] (HP T st) 0 0 := by
  rw [f_X5_who]
  refine o_iload_n dX5_who_0 rfl ?_
  refine h_cSP (as := [.int x0]) (S1 := []) (d' := 0) dX5_who_1 mf_X5_isSheet ml_X5_236 ms_X5_isSheet rfl (Nat.le_of_ble_eq_true rfl) rfl (Nat.le_of_ble_eq_true rfl) ⟨Nat.zero_le _, Nat.zero_le _⟩ (k_X5_isSheet) ?_
  refine o_ifeq (tgt := 16) dX5_who_4 (by decide) (fun u1 => ?_) (fun u1 => ?_)
  · refine o_bipush (v := (-2)) dX5_who_16 (by decide) ?_
    exact o_iret (rt := .int) rfl rfl dX5_who_18 rfl (Nat.zero_le _) (Nat.zero_le _)
  · refine o_iload_n dX5_who_7 rfl ?_
    refine o_iflt (tgt := 16) dX5_who_8 (by decide) (fun u2 => ?_) (fun u2 => ?_)
    · refine o_bipush (v := (-2)) dX5_who_16 (by decide) ?_
      exact o_iret (rt := .int) rfl rfl dX5_who_18 rfl (Nat.zero_le _) (Nat.zero_le _)
    · refine o_iload_n dX5_who_11 rfl ?_
      refine o_iconst (v := 2) dX5_who_12 (by decide) ?_
      refine o_icmple (tgt := 19) dX5_who_13 (by decide) (fun u3 => ?_) (fun u3 => ?_)
      · refine o_aload_n dX5_who_19 rfl ?_
        refine h_get (v := .ref 37) dX5_who_20 q5 fl_X5_41 (by decide) (px_lt (by decide)) (c0 _) rfl ?_
        refine o_iload_n dX5_who_23 rfl ?_
        refine h_sald dX5_who_24 (fun u4 hs5 => ?_)
        refine o_astore_n (L' := [some (.ref 0), some (.int x0), some (.int x1), some (.ref (38 + 2 * x0.toNatClampNeg))]) dX5_who_25 (Nat.le_of_ble_eq_true rfl) rfl rfl ?_
        refine o_aload_n dX5_who_26 rfl ?_
        refine h_cV0 (as := []) (S1 := []) (d' := 0) dX5_who_27 mf_X3_isMissing ml_X5_239 mv_X3_isMissing q3 rfl (hp_at (px_ltS 0 (by decide) hs5) (cS hs5 _)) rfl (Nat.le_of_ble_eq_true rfl) rfl (Nat.le_of_ble_eq_true rfl) ⟨Nat.zero_le _, Nat.zero_le _⟩ (fun b hb => k_X3_isMissing hs5 hb) (fun b6 hb6 => ?_)
        refine o_ifeq (tgt := 36) dX5_who_30 (by decide) (fun u7 => ?_) (fun u7 => ?_)
        · refine o_aload_n dX5_who_36 rfl ?_
          refine h_cVr (as := []) (S1 := []) (d' := 2) dX5_who_37 mf_X5_thinking ml_X5_156 mv_X5_thinking q5 rfl (hp_at (px_lt (by decide)) (c0 _)) rfl (Nat.le_of_ble_eq_true rfl) rfl (Nat.le_of_ble_eq_true rfl) (fun b hb => k_X5_thinking hb) (fun b8 hb8 => ?_)
          refine o_aload_n dX5_who_40 rfl ?_
          refine h_cVi (as := [.ref (38 + 2 * x0.toNatClampNeg)]) (S1 := []) (d' := 9) dX5_who_41 mf_X1_follow ml_X5_243 mv_X1_follow q1 rfl (hp_at (px_lt (by decide)) (c11 _)) rfl (Nat.le_of_ble_eq_true rfl) rfl (Nat.le_of_ble_eq_true rfl) (fun b hb => k_X1_follow hs5 hb) (fun b9 hb9 => ?_)
          refine o_ifeq (tgt := 59) dX5_who_44 (by decide) (fun u10 => ?_) (fun u10 => ?_)
          · refine o_bipush (v := (-2)) dX5_who_59 (by decide) ?_
            exact o_iret (rt := .int) rfl rfl dX5_who_61 rfl (Nat.zero_le _) (Nat.zero_le _)
          · refine o_aload_n dX5_who_47 rfl ?_
            refine h_get (v := .ref 11) dX5_who_48 q5 fl_X5_22 (by decide) (px_lt (by decide)) (c0 _) rfl ?_
            refine h_get (v := .ref 30) dX5_who_51 q1 fl_X5_247 (by decide) (px_lt (by decide)) (c11 _) rfl ?_
            refine o_iload_n dX5_who_54 rfl ?_
            refine h_iald (n := 3) dX5_who_55 (px_lt (by decide)) (c30 _) (fun u11 => ?_)
            refine o_goto (tgt := 61) dX5_who_56 (by decide) ?_
            exact o_iret (rt := .int) rfl rfl dX5_who_61 rfl (Nat.zero_le _) (Nat.zero_le _)
        · refine o_bipush (v := (-11)) dX5_who_33 (by decide) ?_
          exact o_iret (rt := .int) rfl rfl dX5_who_35 rfl (Nat.zero_le _) (Nat.zero_le _)
      · refine o_bipush (v := (-2)) dX5_who_16 (by decide) ?_
        exact o_iret (rt := .int) rfl rfl dX5_who_18 rfl (Nat.zero_le _) (Nat.zero_le _)
theorem k_X5_who {T : Nat} {st : px_S} {x0 : Int32} {x1 : Int32} {b : Int32 × px_S} (hf : f_X5_who T x0 x1 st = some b) : px_K (10) 0 0 m_X5_who [.ref 0, .int x0, .int x1] (HP T st) ((px_gi T) b).1 ((px_gi T) b).2 := px_KofH hf mf_X5_who (Nat.le_of_ble_eq_true rfl) rfl (t_X5_who T x0 x1 st)
/-! ThreeOfThem.drawn(II)I: S, depth 10 -/
def f_X5_drawn (T : Nat) (x0 : Int32) (x1 : Int32) (st : px_S) : Option (Int32 × px_S) := (if x1 < 0 then (some ((-2), st)) else (if 30 < x1 then (some ((-2), st)) else ((f_X5_thinking T st).bind fun b3 => ((f_X1_draw T x0 x1 b3).bind fun b4 => (some (b4.1, b4.2))))))
set_option maxRecDepth 20000 in
theorem t_X5_drawn (T : Nat) (x0 : Int32) (x1 : Int32) (st : px_S) : px_O (10, 0, 0, px_n T, m_X5_drawn) (px_gi T) (f_X5_drawn T x0 x1 st) 0 [some (.ref 0), some (.int x0), some (.int x1)] [] (HP T st) 0 0 := by
  rw [f_X5_drawn]
  refine o_iload_n dX5_drawn_0 rfl ?_
  refine o_iflt (tgt := 10) dX5_drawn_1 (by decide) (fun u1 => ?_) (fun u1 => ?_)
  · refine o_bipush (v := (-2)) dX5_drawn_10 (by decide) ?_
    exact o_iret (rt := .int) rfl rfl dX5_drawn_12 rfl (Nat.zero_le _) (Nat.zero_le _)
  · refine o_iload_n dX5_drawn_4 rfl ?_
    refine o_bipush (v := 30) dX5_drawn_5 (by decide) ?_
    refine o_icmple (tgt := 13) dX5_drawn_7 (by decide) (fun u2 => ?_) (fun u2 => ?_)
    · refine o_aload_n dX5_drawn_13 rfl ?_
      refine h_cVr (as := []) (S1 := []) (d' := 2) dX5_drawn_14 mf_X5_thinking ml_X5_156 mv_X5_thinking q5 rfl (hp_at (px_lt (by decide)) (c0 _)) rfl (Nat.le_of_ble_eq_true rfl) rfl (Nat.le_of_ble_eq_true rfl) (fun b hb => k_X5_thinking hb) (fun b3 hb3 => ?_)
      refine o_iload_n dX5_drawn_17 rfl ?_
      refine o_iload_n dX5_drawn_18 rfl ?_
      refine h_cVi (as := [.int x0, .int x1]) (S1 := []) (d' := 9) dX5_drawn_19 mf_X1_draw ml_X5_250 mv_X1_draw q1 rfl (hp_at (px_lt (by decide)) (c11 _)) rfl (Nat.le_of_ble_eq_true rfl) rfl (Nat.le_of_ble_eq_true rfl) (fun b hb => k_X1_draw hb) (fun b4 hb4 => ?_)
      exact o_iret (rt := .int) rfl rfl dX5_drawn_22 rfl (Nat.zero_le _) (Nat.zero_le _)
    · refine o_bipush (v := (-2)) dX5_drawn_10 (by decide) ?_
      exact o_iret (rt := .int) rfl rfl dX5_drawn_12 rfl (Nat.zero_le _) (Nat.zero_le _)
theorem k_X5_drawn {T : Nat} {st : px_S} {x0 : Int32} {x1 : Int32} {b : Int32 × px_S} (hf : f_X5_drawn T x0 x1 st = some b) : px_K (10) 0 0 m_X5_drawn [.ref 0, .int x0, .int x1] (HP T st) ((px_gi T) b).1 ((px_gi T) b).2 := px_KofH hf mf_X5_drawn (Nat.le_of_ble_eq_true rfl) rfl (t_X5_drawn T x0 x1 st)
/-! ThreeOfThem.chance(IIIII)J: S, depth 10 -/
def f_X5_chance_54 (T : Nat) : Nat → Int32 → Int32 → Int32 → Int32 → Int32 → Int32 → Int32 → px_S → Option (Int64 × px_S)
  | 0, _, _, _, _, _, _, _, _ => none
  | n + 1, y1, y2, y3, y4, y5, y6, y7, st => (if y7 < y2 then ((f_X5_thinking T st).bind fun b6 => ((f_X1_draw T (y1 + y7) y3 b6).bind fun b7 => (if (p_X5_has b7.1 y4) = 0 then ((f_X5_chance_54 T n) y1 y2 y3 y4 y5 y6 (y7 + 1) b7.2) else ((f_X5_chance_54 T n) y1 y2 y3 y4 y5 (y6 + 1) (y7 + 1) b7.2)))) else ((f_X5_commonDivisor y6 y2).bind fun b2 => (if y5 = 0 then (if b2 = 0 then none else (some ((y6 / b2).toInt64, st))) else (if b2 = 0 then none else (some ((y2 / b2).toInt64, st))))))
set_option maxRecDepth 20000 in
theorem t_X5_chance_54 (T : Nat) : ∀ (n : Nat) (y1 : Int32) (y2 : Int32) (y3 : Int32) (y4 : Int32) (y5 : Int32) (y6 : Int32) (y7 : Int32) (st : px_S), px_O (10, 0, 0, px_n T, m_X5_chance) (px_gl T) (f_X5_chance_54 T n y1 y2 y3 y4 y5 y6 y7 st) 54 [some (.ref 0), some (.int y1), some (.int y2), some (.int y3), some (.int y4), some (.int y5), some (.int y6), some (.int y7)] [] (HP T st) 0 0 := by
  intro n
  induction n with
  | zero => intro y1 y2 y3 y4 y5 y6 y7 st; rw [f_X5_chance_54]; exact o_none
  | succ n ih =>
    intro y1 y2 y3 y4 y5 y6 y7 st
    rw [f_X5_chance_54]
    refine o_iload dX5_chance_54 rfl ?_
    refine o_iload_n dX5_chance_56 rfl ?_
    refine o_icmpge (tgt := 89) dX5_chance_57 (by decide) (fun u1 => ?_) (fun u1 => ?_)
    · refine o_iload dX5_chance_89 rfl ?_
      refine o_iload_n dX5_chance_91 rfl ?_
      refine h_cS0 (as := [.int y6, .int y2]) (S1 := []) (d' := 0) dX5_chance_92 mf_X5_commonDivisor ml_X5_255 ms_X5_commonDivisor rfl (Nat.le_of_ble_eq_true rfl) rfl (Nat.le_of_ble_eq_true rfl) ⟨Nat.zero_le _, Nat.zero_le _⟩ (fun b hb => k_X5_commonDivisor hb) (fun b2 hb2 => ?_)
      refine o_istore (L' := [some (.ref 0), some (.int y1), some (.int y2), some (.int y3), some (.int y4), some (.int y5), some (.int y6), some (.int b2)]) dX5_chance_95 (Nat.le_of_ble_eq_true rfl) rfl rfl ?_
      refine o_iload dX5_chance_97 rfl ?_
      refine o_ifne (tgt := 111) dX5_chance_99 (by decide) (fun u3 => ?_) (fun u3 => ?_)
      · refine o_iload_n dX5_chance_111 rfl ?_
        refine o_iload dX5_chance_112 rfl ?_
        refine o_ite (fun _ => o_none) (fun u4 => ?_)
        refine o_idiv dX5_chance_114 u4 ?_
        refine o_i2l dX5_chance_115 ?_
        exact o_lret rfl dX5_chance_116 rfl (Nat.zero_le _) (Nat.zero_le _)
      · refine o_iload dX5_chance_102 rfl ?_
        refine o_iload dX5_chance_104 rfl ?_
        refine o_ite (fun _ => o_none) (fun u5 => ?_)
        refine o_idiv dX5_chance_106 u5 ?_
        refine o_i2l dX5_chance_107 ?_
        refine o_goto (tgt := 116) dX5_chance_108 (by decide) ?_
        exact o_lret rfl dX5_chance_116 rfl (Nat.zero_le _) (Nat.zero_le _)
    · refine o_aload_n dX5_chance_60 rfl ?_
      refine h_cVr (as := []) (S1 := []) (d' := 2) dX5_chance_61 mf_X5_thinking ml_X5_156 mv_X5_thinking q5 rfl (hp_at (px_lt (by decide)) (c0 _)) rfl (Nat.le_of_ble_eq_true rfl) rfl (Nat.le_of_ble_eq_true rfl) (fun b hb => k_X5_thinking hb) (fun b6 hb6 => ?_)
      refine o_iload_n dX5_chance_64 rfl ?_
      refine o_iload dX5_chance_65 rfl ?_
      refine o_iadd dX5_chance_67 ?_
      refine o_iload_n dX5_chance_68 rfl ?_
      refine h_cVi (as := [.int (y1 + y7), .int y3]) (S1 := []) (d' := 9) dX5_chance_69 mf_X1_draw ml_X5_250 mv_X1_draw q1 rfl (hp_at (px_lt (by decide)) (c11 _)) rfl (Nat.le_of_ble_eq_true rfl) rfl (Nat.le_of_ble_eq_true rfl) (fun b hb => k_X1_draw hb) (fun b7 hb7 => ?_)
      refine o_iload dX5_chance_72 rfl ?_
      refine h_cSP (as := [.int b7.1, .int y4]) (S1 := []) (d' := 0) dX5_chance_74 mf_X5_has ml_X5_92 ms_X5_has rfl (Nat.le_of_ble_eq_true rfl) rfl (Nat.le_of_ble_eq_true rfl) ⟨Nat.zero_le _, Nat.zero_le _⟩ (k_X5_has) ?_
      refine o_ifeq (tgt := 83) dX5_chance_77 (by decide) (fun u8 => ?_) (fun u8 => ?_)
      · refine o_iinc (v := (y7 + 1)) (L' := [some (.ref 0), some (.int y1), some (.int y2), some (.int y3), some (.int y4), some (.int y5), some (.int y6), some (.int (y7 + 1))]) dX5_chance_83 rfl rfl (Nat.le_of_ble_eq_true rfl) rfl rfl ?_
        refine o_goto (tgt := 54) dX5_chance_86 (by decide) ?_
        exact (ih y1 y2 y3 y4 y5 y6 (y7 + 1) b7.2)
      · refine o_iinc (v := (y6 + 1)) (L' := [some (.ref 0), some (.int y1), some (.int y2), some (.int y3), some (.int y4), some (.int y5), some (.int (y6 + 1)), some (.int y7)]) dX5_chance_80 rfl rfl (Nat.le_of_ble_eq_true rfl) rfl rfl ?_
        refine o_iinc (v := (y7 + 1)) (L' := [some (.ref 0), some (.int y1), some (.int y2), some (.int y3), some (.int y4), some (.int y5), some (.int (y6 + 1)), some (.int (y7 + 1))]) dX5_chance_83 rfl rfl (Nat.le_of_ble_eq_true rfl) rfl rfl ?_
        refine o_goto (tgt := 54) dX5_chance_86 (by decide) ?_
        exact (ih y1 y2 y3 y4 y5 (y6 + 1) (y7 + 1) b7.2)
def f_X5_chance (T : Nat) (x0 : Int32) (x1 : Int32) (x2 : Int32) (x3 : Int32) (x4 : Int32) (st : px_S) : Option (Int64 × px_S) := (if x1 < 1 then (some ((-4611686018427387904), st)) else (if 10 < x1 then (some ((-4611686018427387904), st)) else (if x2 < 0 then (some ((-4611686018427387904), st)) else (if 30 < x2 then (some ((-4611686018427387904), st)) else ((f_X0_knows T st 1 x3).bind fun b13 => (if b13 = 0 then (some ((-4611686018427387904), st)) else (if x4 < 0 then (some ((-4611686018427387904), st)) else (if 1 < x4 then (some ((-4611686018427387904), st)) else (f_X5_chance_54 T 1000 x0 x1 x2 x3 x4 0 0 st)))))))))
set_option maxRecDepth 20000 in
theorem t_X5_chance (T : Nat) (x0 : Int32) (x1 : Int32) (x2 : Int32) (x3 : Int32) (x4 : Int32) (st : px_S) : px_O (10, 0, 0, px_n T, m_X5_chance) (px_gl T) (f_X5_chance T x0 x1 x2 x3 x4 st) 0 [some (.ref 0), some (.int x0), some (.int x1), some (.int x2), some (.int x3), some (.int x4), none, none] [] (HP T st) 0 0 := by
  rw [f_X5_chance]
  refine o_iload_n dX5_chance_0 rfl ?_
  refine o_iconst (v := 1) dX5_chance_1 (by decide) ?_
  refine o_icmplt (tgt := 44) dX5_chance_2 (by decide) (fun u9 => ?_) (fun u9 => ?_)
  · refine o_ldc2 (v := (-4611686018427387904)) dX5_chance_44 cst_X5_253 ?_
    exact o_lret rfl dX5_chance_47 rfl (Nat.zero_le _) (Nat.zero_le _)
  · refine o_iload_n dX5_chance_5 rfl ?_
    refine o_bipush (v := 10) dX5_chance_6 (by decide) ?_
    refine o_icmpgt (tgt := 44) dX5_chance_8 (by decide) (fun u10 => ?_) (fun u10 => ?_)
    · refine o_ldc2 (v := (-4611686018427387904)) dX5_chance_44 cst_X5_253 ?_
      exact o_lret rfl dX5_chance_47 rfl (Nat.zero_le _) (Nat.zero_le _)
    · refine o_iload_n dX5_chance_11 rfl ?_
      refine o_iflt (tgt := 44) dX5_chance_12 (by decide) (fun u11 => ?_) (fun u11 => ?_)
      · refine o_ldc2 (v := (-4611686018427387904)) dX5_chance_44 cst_X5_253 ?_
        exact o_lret rfl dX5_chance_47 rfl (Nat.zero_le _) (Nat.zero_le _)
      · refine o_iload_n dX5_chance_15 rfl ?_
        refine o_bipush (v := 30) dX5_chance_16 (by decide) ?_
        refine o_icmpgt (tgt := 44) dX5_chance_18 (by decide) (fun u12 => ?_) (fun u12 => ?_)
        · refine o_ldc2 (v := (-4611686018427387904)) dX5_chance_44 cst_X5_253 ?_
          exact o_lret rfl dX5_chance_47 rfl (Nat.zero_le _) (Nat.zero_le _)
        · refine o_aload_n dX5_chance_21 rfl ?_
          refine h_get (v := .ref 1) dX5_chance_22 q5 fl_X5_12 (by decide) (px_lt (by decide)) (c0 _) rfl ?_
          refine o_iload dX5_chance_25 rfl ?_
          refine h_cV0 (as := [.int x3]) (S1 := []) (d' := 0) dX5_chance_27 mf_X0_knows ml_X5_124 mv_X0_knows q0 rfl (hp_at (px_ltH 0 (by decide) (Or.inl rfl)) (cH (Or.inl rfl) _)) rfl (Nat.le_of_ble_eq_true rfl) rfl (Nat.le_of_ble_eq_true rfl) ⟨Nat.zero_le _, Nat.zero_le _⟩ (fun b hb => k_X0_knows (Or.inl rfl) hb) (fun b13 hb13 => ?_)
          refine o_ifeq (tgt := 44) dX5_chance_30 (by decide) (fun u14 => ?_) (fun u14 => ?_)
          · refine o_ldc2 (v := (-4611686018427387904)) dX5_chance_44 cst_X5_253 ?_
            exact o_lret rfl dX5_chance_47 rfl (Nat.zero_le _) (Nat.zero_le _)
          · refine o_iload dX5_chance_33 rfl ?_
            refine o_iflt (tgt := 44) dX5_chance_35 (by decide) (fun u15 => ?_) (fun u15 => ?_)
            · refine o_ldc2 (v := (-4611686018427387904)) dX5_chance_44 cst_X5_253 ?_
              exact o_lret rfl dX5_chance_47 rfl (Nat.zero_le _) (Nat.zero_le _)
            · refine o_iload dX5_chance_38 rfl ?_
              refine o_iconst (v := 1) dX5_chance_40 (by decide) ?_
              refine o_icmple (tgt := 48) dX5_chance_41 (by decide) (fun u16 => ?_) (fun u16 => ?_)
              · refine o_iconst (v := 0) dX5_chance_48 (by decide) ?_
                refine o_istore (L' := [some (.ref 0), some (.int x0), some (.int x1), some (.int x2), some (.int x3), some (.int x4), some (.int 0), none]) dX5_chance_49 (Nat.le_of_ble_eq_true rfl) rfl rfl ?_
                refine o_iconst (v := 0) dX5_chance_51 (by decide) ?_
                refine o_istore (L' := [some (.ref 0), some (.int x0), some (.int x1), some (.int x2), some (.int x3), some (.int x4), some (.int 0), some (.int 0)]) dX5_chance_52 (Nat.le_of_ble_eq_true rfl) rfl rfl ?_
                exact (t_X5_chance_54 T 1000 x0 x1 x2 x3 x4 0 0 st)
              · refine o_ldc2 (v := (-4611686018427387904)) dX5_chance_44 cst_X5_253 ?_
                exact o_lret rfl dX5_chance_47 rfl (Nat.zero_le _) (Nat.zero_le _)
theorem k_X5_chance {T : Nat} {st : px_S} {x0 : Int32} {x1 : Int32} {x2 : Int32} {x3 : Int32} {x4 : Int32} {b : Int64 × px_S} (hf : f_X5_chance T x0 x1 x2 x3 x4 st = some b) : px_K (10) 0 0 m_X5_chance [.ref 0, .int x0, .int x1, .int x2, .int x3, .int x4] (HP T st) ((px_gl T) b).1 ((px_gl T) b).2 := px_KofH hf mf_X5_chance (Nat.le_of_ble_eq_true rfl) rfl (t_X5_chance T x0 x1 x2 x3 x4 st)
/-! ThreeOfThem.image()I: S, depth 2 -/
def f_X5_image (T : Nat) (st : px_S) : Option (Int32 × px_S) := ((f_X0_become T 6 1 st).bind fun b1 => (some ((b1 1 4), (up b1 0 7 1))))
set_option maxRecDepth 20000 in
theorem t_X5_image (T : Nat) (st : px_S) : px_O (2, 0, 0, px_n T, m_X5_image) (px_gi T) (f_X5_image T st) 0 [some (.ref 0)] [] (HP T st) 0 0 := by
  rw [f_X5_image]
  refine o_aload_n dX5_image_0 rfl ?_
  refine h_get (v := .ref 6) dX5_image_1 q5 fl_X5_16 (by decide) (px_lt (by decide)) (c0 _) rfl ?_
  refine o_aload_n dX5_image_4 rfl ?_
  refine h_get (v := .ref 1) dX5_image_5 q5 fl_X5_12 (by decide) (px_lt (by decide)) (c0 _) rfl ?_
  refine h_cVv (as := [.ref 1]) (S1 := []) (d' := 1) dX5_image_8 mf_X0_become ml_X5_258 mv_X0_become q0 rfl (hp_at (px_ltH 0 (by decide) (Or.inr (Or.inl rfl))) (cH (Or.inr (Or.inl rfl)) _)) rfl (Nat.le_of_ble_eq_true rfl) rfl (Nat.le_of_ble_eq_true rfl) (fun b hb => k_X0_become (Or.inr (Or.inl rfl)) (Or.inl rfl) hb) (fun b1 hb1 => ?_)
  refine o_aload_n dX5_image_11 rfl ?_
  refine o_iconst (v := 1) dX5_image_12 (by decide) ?_
  refine h_putz dX5_image_13 q5 fl_X5_262 pf_X5_7 (Or.inr rfl) (px_lt (by decide)) (c0 _) (Nat.le_of_ble_eq_true rfl) (s0_7 _ _) ?_
  refine o_aload_n dX5_image_16 rfl ?_
  refine h_get (v := .ref 1) dX5_image_17 q5 fl_X5_12 (by decide) (px_lt (by decide)) (c0 _) rfl ?_
  refine h_get (v := .int (b1 1 4)) dX5_image_20 q0 fl_X5_73 (by decide) (px_ltH 0 (by decide) (Or.inl rfl)) (cH (Or.inl rfl) _) rfl ?_
  exact o_iret (rt := .int) rfl rfl dX5_image_23 rfl (Nat.zero_le _) (Nat.zero_le _)
theorem k_X5_image {T : Nat} {st : px_S} {b : Int32 × px_S} (hf : f_X5_image T st = some b) : px_K (2) 0 0 m_X5_image [.ref 0] (HP T st) ((px_gi T) b).1 ((px_gi T) b).2 := px_KofH hf mf_X5_image (Nat.le_of_ble_eq_true rfl) rfl (t_X5_image T st)
/-! ThreeOfThem.back()I: S, depth 2 -/
def f_X5_back (T : Nat) (st : px_S) : Option (Int32 × px_S) := (if (st 0 7) = 0 then (some ((-3), st)) else ((f_X0_become T 1 6 st).bind fun b2 => (some ((b2 1 4), b2))))
set_option maxRecDepth 20000 in
theorem t_X5_back (T : Nat) (st : px_S) : px_O (2, 0, 0, px_n T, m_X5_back) (px_gi T) (f_X5_back T st) 0 [some (.ref 0)] [] (HP T st) 0 0 := by
  rw [f_X5_back]
  refine o_aload_n dX5_back_0 rfl ?_
  refine h_get (v := .int (st 0 7)) dX5_back_1 q5 fl_X5_262 (by decide) (px_lt (by decide)) (c0 _) rfl ?_
  refine o_ifne (tgt := 10) dX5_back_4 (by decide) (fun u1 => ?_) (fun u1 => ?_)
  · refine o_aload_n dX5_back_10 rfl ?_
    refine h_get (v := .ref 1) dX5_back_11 q5 fl_X5_12 (by decide) (px_lt (by decide)) (c0 _) rfl ?_
    refine o_aload_n dX5_back_14 rfl ?_
    refine h_get (v := .ref 6) dX5_back_15 q5 fl_X5_16 (by decide) (px_lt (by decide)) (c0 _) rfl ?_
    refine h_cVv (as := [.ref 6]) (S1 := []) (d' := 1) dX5_back_18 mf_X0_become ml_X5_258 mv_X0_become q0 rfl (hp_at (px_ltH 0 (by decide) (Or.inl rfl)) (cH (Or.inl rfl) _)) rfl (Nat.le_of_ble_eq_true rfl) rfl (Nat.le_of_ble_eq_true rfl) (fun b hb => k_X0_become (Or.inl rfl) (Or.inr (Or.inl rfl)) hb) (fun b2 hb2 => ?_)
    refine o_aload_n dX5_back_21 rfl ?_
    refine h_get (v := .ref 1) dX5_back_22 q5 fl_X5_12 (by decide) (px_lt (by decide)) (c0 _) rfl ?_
    refine h_get (v := .int (b2 1 4)) dX5_back_25 q0 fl_X5_73 (by decide) (px_ltH 0 (by decide) (Or.inl rfl)) (cH (Or.inl rfl) _) rfl ?_
    exact o_iret (rt := .int) rfl rfl dX5_back_28 rfl (Nat.zero_le _) (Nat.zero_le _)
  · refine o_bipush (v := (-3)) dX5_back_7 (by decide) ?_
    exact o_iret (rt := .int) rfl rfl dX5_back_9 rfl (Nat.zero_le _) (Nat.zero_le _)
theorem k_X5_back {T : Nat} {st : px_S} {b : Int32 × px_S} (hf : f_X5_back T st = some b) : px_K (2) 0 0 m_X5_back [.ref 0] (HP T st) ((px_gi T) b).1 ((px_gi T) b).2 := px_KofH hf mf_X5_back (Nat.le_of_ble_eq_true rfl) rfl (t_X5_back T st)
/-! ThreeOfThem.count(I)I: R, depth 2 -/
def f_X5_count (T : Nat) (st : px_S) (x0 : Int32) : Option (Int32) := (if x0 = 0 then (some (st 1 4)) else (if x0 = 1 then (some (p_J6_bitCount_0f7a4 (st 1 5))) else (if x0 = 2 then ((f_X0_oathPairs T st 1).bind fun b4 => (some b4)) else (if x0 = 3 then (some (st 1 6)) else (if x0 = 4 then (some (st 1 7)) else (if x0 = 5 then (some (st 1 8)) else (if x0 = 6 then (some (st 0 6)) else (if x0 = 7 then (some (st 31 1)) else (if x0 = 8 then (some (st 1 9)) else (some (-2)))))))))))
set_option maxRecDepth 20000 in
theorem t_X5_count (T : Nat) (st : px_S) (x0 : Int32) : px_O (2, 0, 0, px_n T, m_X5_count) (px_g0 (HP T st)) (f_X5_count T st x0) 0 [some (.ref 0), some (.int x0)] [] (HP T st) 0 0 := by
  rw [f_X5_count]
  refine o_iload_n dX5_count_0 rfl ?_
  refine o_ite (fun u1 => ?_) (fun u1 => ?_)
  · refine o_tabIn (tgt := 52) dX5_count_1 (by rw [u1]; decide) (by rw [u1]; decide) (by rw [u1]; rfl) (by decide) ?_
    refine o_aload_n dX5_count_52 rfl ?_
    refine h_get (v := .ref 1) dX5_count_53 q5 fl_X5_12 (by decide) (px_lt (by decide)) (c0 _) rfl ?_
    refine h_get (v := .int (st 1 4)) dX5_count_56 q0 fl_X5_73 (by decide) (px_ltH 0 (by decide) (Or.inl rfl)) (cH (Or.inl rfl) _) rfl ?_
    exact o_iret (rt := .int) rfl rfl dX5_count_59 rfl (Nat.zero_le _) (Nat.zero_le _)
  · refine o_ite (fun u2 => ?_) (fun u2 => ?_)
    · refine o_tabIn (tgt := 60) dX5_count_1 (by rw [u2]; decide) (by rw [u2]; decide) (by rw [u2]; rfl) (by decide) ?_
      refine o_aload_n dX5_count_60 rfl ?_
      refine h_get (v := .ref 1) dX5_count_61 q5 fl_X5_12 (by decide) (px_lt (by decide)) (c0 _) rfl ?_
      refine h_get (v := .int (st 1 5)) dX5_count_64 q0 fl_X5_134 (by decide) (px_ltH 0 (by decide) (Or.inl rfl)) (cH (Or.inl rfl) _) rfl ?_
      refine h_cSP (as := [.int (st 1 5)]) (S1 := []) (d' := 0) dX5_count_67 mf_J6_bitCount_0f7a4 ml_X5_141 ms_J6_bitCount_0f7a4 rfl (Nat.le_of_ble_eq_true rfl) rfl (Nat.le_of_ble_eq_true rfl) ⟨Nat.zero_le _, Nat.zero_le _⟩ (k_J6_bitCount_0f7a4) ?_
      exact o_iret (rt := .int) rfl rfl dX5_count_70 rfl (Nat.zero_le _) (Nat.zero_le _)
    · refine o_ite (fun u3 => ?_) (fun u3 => ?_)
      · refine o_tabIn (tgt := 71) dX5_count_1 (by rw [u3]; decide) (by rw [u3]; decide) (by rw [u3]; rfl) (by decide) ?_
        refine o_aload_n dX5_count_71 rfl ?_
        refine h_get (v := .ref 1) dX5_count_72 q5 fl_X5_12 (by decide) (px_lt (by decide)) (c0 _) rfl ?_
        refine h_cV0 (as := []) (S1 := []) (d' := 1) dX5_count_75 mf_X0_oathPairs ml_X5_266 mv_X0_oathPairs q0 rfl (hp_at (px_ltH 0 (by decide) (Or.inl rfl)) (cH (Or.inl rfl) _)) rfl (Nat.le_of_ble_eq_true rfl) rfl (Nat.le_of_ble_eq_true rfl) ⟨Nat.zero_le _, Nat.zero_le _⟩ (fun b hb => k_X0_oathPairs (Or.inl rfl) hb) (fun b4 hb4 => ?_)
        exact o_iret (rt := .int) rfl rfl dX5_count_78 rfl (Nat.zero_le _) (Nat.zero_le _)
      · refine o_ite (fun u5 => ?_) (fun u5 => ?_)
        · refine o_tabIn (tgt := 79) dX5_count_1 (by rw [u5]; decide) (by rw [u5]; decide) (by rw [u5]; rfl) (by decide) ?_
          refine o_aload_n dX5_count_79 rfl ?_
          refine h_get (v := .ref 1) dX5_count_80 q5 fl_X5_12 (by decide) (px_lt (by decide)) (c0 _) rfl ?_
          refine h_get (v := .int (st 1 6)) dX5_count_83 q0 fl_X5_115 (by decide) (px_ltH 0 (by decide) (Or.inl rfl)) (cH (Or.inl rfl) _) rfl ?_
          exact o_iret (rt := .int) rfl rfl dX5_count_86 rfl (Nat.zero_le _) (Nat.zero_le _)
        · refine o_ite (fun u6 => ?_) (fun u6 => ?_)
          · refine o_tabIn (tgt := 87) dX5_count_1 (by rw [u6]; decide) (by rw [u6]; decide) (by rw [u6]; rfl) (by decide) ?_
            refine o_aload_n dX5_count_87 rfl ?_
            refine h_get (v := .ref 1) dX5_count_88 q5 fl_X5_12 (by decide) (px_lt (by decide)) (c0 _) rfl ?_
            refine h_get (v := .int (st 1 7)) dX5_count_91 q0 fl_X5_118 (by decide) (px_ltH 0 (by decide) (Or.inl rfl)) (cH (Or.inl rfl) _) rfl ?_
            exact o_iret (rt := .int) rfl rfl dX5_count_94 rfl (Nat.zero_le _) (Nat.zero_le _)
          · refine o_ite (fun u7 => ?_) (fun u7 => ?_)
            · refine o_tabIn (tgt := 95) dX5_count_1 (by rw [u7]; decide) (by rw [u7]; decide) (by rw [u7]; rfl) (by decide) ?_
              refine o_aload_n dX5_count_95 rfl ?_
              refine h_get (v := .ref 1) dX5_count_96 q5 fl_X5_12 (by decide) (px_lt (by decide)) (c0 _) rfl ?_
              refine h_get (v := .int (st 1 8)) dX5_count_99 q0 fl_X5_121 (by decide) (px_ltH 0 (by decide) (Or.inl rfl)) (cH (Or.inl rfl) _) rfl ?_
              exact o_iret (rt := .int) rfl rfl dX5_count_102 rfl (Nat.zero_le _) (Nat.zero_le _)
            · refine o_ite (fun u8 => ?_) (fun u8 => ?_)
              · refine o_tabIn (tgt := 103) dX5_count_1 (by rw [u8]; decide) (by rw [u8]; decide) (by rw [u8]; rfl) (by decide) ?_
                refine o_aload_n dX5_count_103 rfl ?_
                refine h_get (v := .int (st 0 6)) dX5_count_104 q5 fl_X5_66 (by decide) (px_lt (by decide)) (c0 _) rfl ?_
                exact o_iret (rt := .int) rfl rfl dX5_count_107 rfl (Nat.zero_le _) (Nat.zero_le _)
              · refine o_ite (fun u9 => ?_) (fun u9 => ?_)
                · refine o_tabIn (tgt := 108) dX5_count_1 (by rw [u9]; decide) (by rw [u9]; decide) (by rw [u9]; rfl) (by decide) ?_
                  refine o_aload_n dX5_count_108 rfl ?_
                  refine h_get (v := .ref 31) dX5_count_109 q5 fl_X5_29 (by decide) (px_lt (by decide)) (c0 _) rfl ?_
                  refine h_get (v := .int (st 31 1)) dX5_count_112 q2 fl_X5_163 (by decide) (px_lt (by decide)) (c31 _) rfl ?_
                  exact o_iret (rt := .int) rfl rfl dX5_count_115 rfl (Nat.zero_le _) (Nat.zero_le _)
                · refine o_ite (fun u10 => ?_) (fun u10 => ?_)
                  · refine o_tabIn (tgt := 116) dX5_count_1 (by rw [u10]; decide) (by rw [u10]; decide) (by rw [u10]; rfl) (by decide) ?_
                    refine o_aload_n dX5_count_116 rfl ?_
                    refine h_get (v := .ref 1) dX5_count_117 q5 fl_X5_12 (by decide) (px_lt (by decide)) (c0 _) rfl ?_
                    refine h_get (v := .int (st 1 9)) dX5_count_120 q0 fl_X5_169 (by decide) (px_ltH 0 (by decide) (Or.inl rfl)) (cH (Or.inl rfl) _) rfl ?_
                    exact o_iret (rt := .int) rfl rfl dX5_count_123 rfl (Nat.zero_le _) (Nat.zero_le _)
                  · refine o_tabOut (tgt := 124) dX5_count_1 (by
                      have z := px_out (x := x0) 0 9 (by decide) (by decide) (fun k hk => by
                        rcases (show k = 0 ∨ k = 1 ∨ k = 2 ∨ k = 3 ∨ k = 4 ∨ k = 5 ∨ k = 6 ∨ k = 7 ∨ k = 8 by omega) with rfl | rfl | rfl | rfl | rfl | rfl | rfl | rfl | rfl
                        · exact u1
                        · exact u2
                        · exact u3
                        · exact u5
                        · exact u6
                        · exact u7
                        · exact u8
                        · exact u9
                        · exact u10)
                      omega) (by decide) ?_
                    refine o_bipush (v := (-2)) dX5_count_124 (by decide) ?_
                    exact o_iret (rt := .int) rfl rfl dX5_count_126 rfl (Nat.zero_le _) (Nat.zero_le _)
theorem k_X5_count_o {T : Nat} {st : px_S} {x0 : Int32} {b : Int32} (hf : f_X5_count T st x0 = some b) : px_K (2) 0 0 m_X5_count [.ref 0, .int x0] (HP T st) (some (.int b)) (HP T st) := px_KofH (g := px_g0 (HP T st)) hf mf_X5_count (Nat.le_of_ble_eq_true rfl) rfl (t_X5_count T st x0)
theorem k_X5_count {T : Nat} {st : px_S} {x0 : Int32} {b : Int32} (hf : f_X5_count T st x0 = some b) : px_K (2) 0 0 m_X5_count [.ref 0, .int x0] (HP T st) (some (.int b)) (HP T st) := k_X5_count_o hf
/-! ThreeOfThem.sheet(III)I: S, depth 2 -/
def f_X5_sheet (T : Nat) (x0 : Int32) (x1 : Int32) (x2 : Int32) (st : px_S) : Option (Int32 × px_S) := (if (p_X5_isSheet x0) = 0 then (some ((-2), st)) else (if x1 < (-1) then (some ((-2), st)) else (if x1 < 3 then (if x1 = (-1) then (if px_in x0 4 then ((f_X3_begin T (38 + 2 * x0.toNatClampNeg) x1 0 st).bind fun b12 => (some (1, b12))) else none) else (if 40 < x2 then (some ((-2), st)) else (if x2 < 0 then (some ((-14), st)) else (if px_in x0 4 then ((f_X3_begin T (38 + 2 * x0.toNatClampNeg) x1 x2 st).bind fun b9 => (some (1, b9))) else none)))) else (some ((-2), st)))))
set_option maxRecDepth 20000 in
theorem t_X5_sheet (T : Nat) (x0 : Int32) (x1 : Int32) (x2 : Int32) (st : px_S) : px_O (2, 0, 0, px_n T, m_X5_sheet) (px_gi T) (f_X5_sheet T x0 x1 x2 st) 0 [some (.ref 0), some (.int x0), some (.int x1), some (.int x2)] [] (HP T st) 0 0 := by
  rw [f_X5_sheet]
  refine o_iload_n dX5_sheet_0 rfl ?_
  refine h_cSP (as := [.int x0]) (S1 := []) (d' := 0) dX5_sheet_1 mf_X5_isSheet ml_X5_236 ms_X5_isSheet rfl (Nat.le_of_ble_eq_true rfl) rfl (Nat.le_of_ble_eq_true rfl) ⟨Nat.zero_le _, Nat.zero_le _⟩ (k_X5_isSheet) ?_
  refine o_ifeq (tgt := 17) dX5_sheet_4 (by decide) (fun u1 => ?_) (fun u1 => ?_)
  · refine o_bipush (v := (-2)) dX5_sheet_17 (by decide) ?_
    exact o_iret (rt := .int) rfl rfl dX5_sheet_19 rfl (Nat.zero_le _) (Nat.zero_le _)
  · refine o_iload_n dX5_sheet_7 rfl ?_
    refine o_iconst (v := (-1)) dX5_sheet_8 (by decide) ?_
    refine o_icmplt (tgt := 17) dX5_sheet_9 (by decide) (fun u2 => ?_) (fun u2 => ?_)
    · refine o_bipush (v := (-2)) dX5_sheet_17 (by decide) ?_
      exact o_iret (rt := .int) rfl rfl dX5_sheet_19 rfl (Nat.zero_le _) (Nat.zero_le _)
    · refine o_iload_n dX5_sheet_12 rfl ?_
      refine o_iconst (v := 3) dX5_sheet_13 (by decide) ?_
      refine o_icmplt (tgt := 20) dX5_sheet_14 (by decide) (fun u3 => ?_) (fun u3 => ?_)
      · refine o_iload_n dX5_sheet_20 rfl ?_
        refine o_iconst (v := (-1)) dX5_sheet_21 (by decide) ?_
        refine o_icmpne (tgt := 38) dX5_sheet_22 (by decide) (fun u4 => ?_) (fun u4 => ?_)
        · refine o_iload_n dX5_sheet_38 rfl ?_
          refine o_bipush (v := 40) dX5_sheet_39 (by decide) ?_
          refine o_icmple (tgt := 47) dX5_sheet_41 (by decide) (fun u5 => ?_) (fun u5 => ?_)
          · refine o_iload_n dX5_sheet_47 rfl ?_
            refine o_ifge (tgt := 54) dX5_sheet_48 (by decide) (fun u6 => ?_) (fun u6 => ?_)
            · refine o_aload_n dX5_sheet_54 rfl ?_
              refine h_get (v := .ref 37) dX5_sheet_55 q5 fl_X5_41 (by decide) (px_lt (by decide)) (c0 _) rfl ?_
              refine o_iload_n dX5_sheet_58 rfl ?_
              refine h_sald dX5_sheet_59 (fun u7 hs8 => ?_)
              refine o_iload_n dX5_sheet_60 rfl ?_
              refine o_iload_n dX5_sheet_61 rfl ?_
              refine h_cVv (as := [.int x1, .int x2]) (S1 := []) (d' := 1) dX5_sheet_62 mf_X3_begin ml_X5_269 mv_X3_begin q3 rfl (hp_at (px_ltS 0 (by decide) hs8) (cS hs8 _)) rfl (Nat.le_of_ble_eq_true rfl) rfl (Nat.le_of_ble_eq_true rfl) (fun b hb => k_X3_begin hs8 hb) (fun b9 hb9 => ?_)
              refine o_iconst (v := 1) dX5_sheet_65 (by decide) ?_
              exact o_iret (rt := .int) rfl rfl dX5_sheet_66 rfl (Nat.zero_le _) (Nat.zero_le _)
            · refine o_bipush (v := (-14)) dX5_sheet_51 (by decide) ?_
              exact o_iret (rt := .int) rfl rfl dX5_sheet_53 rfl (Nat.zero_le _) (Nat.zero_le _)
          · refine o_bipush (v := (-2)) dX5_sheet_44 (by decide) ?_
            exact o_iret (rt := .int) rfl rfl dX5_sheet_46 rfl (Nat.zero_le _) (Nat.zero_le _)
        · refine o_aload_n dX5_sheet_25 rfl ?_
          refine h_get (v := .ref 37) dX5_sheet_26 q5 fl_X5_41 (by decide) (px_lt (by decide)) (c0 _) rfl ?_
          refine o_iload_n dX5_sheet_29 rfl ?_
          refine h_sald dX5_sheet_30 (fun u10 hs11 => ?_)
          refine o_iload_n dX5_sheet_31 rfl ?_
          refine o_iconst (v := 0) dX5_sheet_32 (by decide) ?_
          refine h_cVv (as := [.int x1, .int 0]) (S1 := []) (d' := 1) dX5_sheet_33 mf_X3_begin ml_X5_269 mv_X3_begin q3 rfl (hp_at (px_ltS 0 (by decide) hs11) (cS hs11 _)) rfl (Nat.le_of_ble_eq_true rfl) rfl (Nat.le_of_ble_eq_true rfl) (fun b hb => k_X3_begin hs11 hb) (fun b12 hb12 => ?_)
          refine o_iconst (v := 1) dX5_sheet_36 (by decide) ?_
          exact o_iret (rt := .int) rfl rfl dX5_sheet_37 rfl (Nat.zero_le _) (Nat.zero_le _)
      · refine o_bipush (v := (-2)) dX5_sheet_17 (by decide) ?_
        exact o_iret (rt := .int) rfl rfl dX5_sheet_19 rfl (Nat.zero_le _) (Nat.zero_le _)
theorem k_X5_sheet {T : Nat} {st : px_S} {x0 : Int32} {x1 : Int32} {x2 : Int32} {b : Int32 × px_S} (hf : f_X5_sheet T x0 x1 x2 st = some b) : px_K (2) 0 0 m_X5_sheet [.ref 0, .int x0, .int x1, .int x2] (HP T st) ((px_gi T) b).1 ((px_gi T) b).2 := px_KofH hf mf_X5_sheet (Nat.le_of_ble_eq_true rfl) rfl (t_X5_sheet T x0 x1 x2 st)
/-! ThreeOfThem.cell(III)I: S, depth 1 -/
def f_X5_cell (T : Nat) (x0 : Int32) (x1 : Int32) (x2 : Int32) (st : px_S) : Option (Int32 × px_S) := (if (p_X5_isSheet x0) = 0 then (some ((-2), st)) else (if px_in x0 4 then ((f_X3_isMissing T st (38 + 2 * x0.toNatClampNeg)).bind fun b4 => (if b4 = 0 then ((f_X3_reaches T st (38 + 2 * x0.toNatClampNeg) x1 1).bind fun b6 => (if b6 = 0 then (some ((-12), st)) else ((f_X3_write T (38 + 2 * x0.toNatClampNeg) x1 x2 st).bind fun b8 => (some (1, b8))))) else (some ((-11), st)))) else none))
set_option maxRecDepth 20000 in
theorem t_X5_cell (T : Nat) (x0 : Int32) (x1 : Int32) (x2 : Int32) (st : px_S) : px_O (1, 0, 0, px_n T, m_X5_cell) (px_gi T) (f_X5_cell T x0 x1 x2 st) 0 [some (.ref 0), some (.int x0), some (.int x1), some (.int x2), none] [] (HP T st) 0 0 := by
  rw [f_X5_cell]
  refine o_iload_n dX5_cell_0 rfl ?_
  refine h_cSP (as := [.int x0]) (S1 := []) (d' := 0) dX5_cell_1 mf_X5_isSheet ml_X5_236 ms_X5_isSheet rfl (Nat.le_of_ble_eq_true rfl) rfl (Nat.le_of_ble_eq_true rfl) ⟨Nat.zero_le _, Nat.zero_le _⟩ (k_X5_isSheet) ?_
  refine o_ifne (tgt := 10) dX5_cell_4 (by decide) (fun u1 => ?_) (fun u1 => ?_)
  · refine o_aload_n dX5_cell_10 rfl ?_
    refine h_get (v := .ref 37) dX5_cell_11 q5 fl_X5_41 (by decide) (px_lt (by decide)) (c0 _) rfl ?_
    refine o_iload_n dX5_cell_14 rfl ?_
    refine h_sald dX5_cell_15 (fun u2 hs3 => ?_)
    refine o_astore (L' := [some (.ref 0), some (.int x0), some (.int x1), some (.int x2), some (.ref (38 + 2 * x0.toNatClampNeg))]) dX5_cell_16 (Nat.le_of_ble_eq_true rfl) rfl rfl ?_
    refine o_aload dX5_cell_18 rfl ?_
    refine h_cV0 (as := []) (S1 := []) (d' := 0) dX5_cell_20 mf_X3_isMissing ml_X5_239 mv_X3_isMissing q3 rfl (hp_at (px_ltS 0 (by decide) hs3) (cS hs3 _)) rfl (Nat.le_of_ble_eq_true rfl) rfl (Nat.le_of_ble_eq_true rfl) ⟨Nat.zero_le _, Nat.zero_le _⟩ (fun b hb => k_X3_isMissing hs3 hb) (fun b4 hb4 => ?_)
    refine o_ifeq (tgt := 29) dX5_cell_23 (by decide) (fun u5 => ?_) (fun u5 => ?_)
    · refine o_aload dX5_cell_29 rfl ?_
      refine o_iload_n dX5_cell_31 rfl ?_
      refine o_iconst (v := 1) dX5_cell_32 (by decide) ?_
      refine h_cV0 (as := [.int x1, .int 1]) (S1 := []) (d' := 0) dX5_cell_33 mf_X3_reaches ml_X5_273 mv_X3_reaches q3 rfl (hp_at (px_ltS 0 (by decide) hs3) (cS hs3 _)) rfl (Nat.le_of_ble_eq_true rfl) rfl (Nat.le_of_ble_eq_true rfl) ⟨Nat.zero_le _, Nat.zero_le _⟩ (fun b hb => k_X3_reaches hs3 hb) (fun b6 hb6 => ?_)
      refine o_ifne (tgt := 42) dX5_cell_36 (by decide) (fun u7 => ?_) (fun u7 => ?_)
      · refine o_aload dX5_cell_42 rfl ?_
        refine o_iload_n dX5_cell_44 rfl ?_
        refine o_iload_n dX5_cell_45 rfl ?_
        refine h_cVv (as := [.int x1, .int x2]) (S1 := []) (d' := 0) dX5_cell_46 mf_X3_write ml_X5_276 mv_X3_write q3 rfl (hp_at (px_ltS 0 (by decide) hs3) (cS hs3 _)) rfl (Nat.le_of_ble_eq_true rfl) rfl (Nat.le_of_ble_eq_true rfl) (fun b hb => k_X3_write hs3 hb) (fun b8 hb8 => ?_)
        refine o_iconst (v := 1) dX5_cell_49 (by decide) ?_
        exact o_iret (rt := .int) rfl rfl dX5_cell_50 rfl (Nat.zero_le _) (Nat.zero_le _)
      · refine o_bipush (v := (-12)) dX5_cell_39 (by decide) ?_
        exact o_iret (rt := .int) rfl rfl dX5_cell_41 rfl (Nat.zero_le _) (Nat.zero_le _)
    · refine o_bipush (v := (-11)) dX5_cell_26 (by decide) ?_
      exact o_iret (rt := .int) rfl rfl dX5_cell_28 rfl (Nat.zero_le _) (Nat.zero_le _)
  · refine o_bipush (v := (-2)) dX5_cell_7 (by decide) ?_
    exact o_iret (rt := .int) rfl rfl dX5_cell_9 rfl (Nat.zero_le _) (Nat.zero_le _)
theorem k_X5_cell {T : Nat} {st : px_S} {x0 : Int32} {x1 : Int32} {x2 : Int32} {b : Int32 × px_S} (hf : f_X5_cell T x0 x1 x2 st = some b) : px_K (1) 0 0 m_X5_cell [.ref 0, .int x0, .int x1, .int x2] (HP T st) ((px_gi T) b).1 ((px_gi T) b).2 := px_KofH hf mf_X5_cell (Nat.le_of_ble_eq_true rfl) rfl (t_X5_cell T x0 x1 x2 st)
/-! ThreeOfThem.copy(IIIII)I: S, depth 1 -/
def f_X5_copy (T : Nat) (x0 : Int32) (x1 : Int32) (x2 : Int32) (x3 : Int32) (x4 : Int32) (st : px_S) : Option (Int32 × px_S) := (if (p_X5_isSheet x0) = 0 then (some ((-2), st)) else (if (p_X5_isSheet x2) = 0 then (some ((-2), st)) else (if px_in x0 4 then (if px_in x2 4 then ((f_X3_isMissing T st (38 + 2 * x0.toNatClampNeg)).bind fun b7 => (if b7 = 0 then ((f_X3_isMissing T st (38 + 2 * x2.toNatClampNeg)).bind fun b9 => (if b9 = 0 then (if (st (38 + 2 * x0.toNatClampNeg) 1) = (st (38 + 2 * x2.toNatClampNeg) 1) then ((f_X3_reaches T st (38 + 2 * x0.toNatClampNeg) x1 x4).bind fun b12 => (if b12 = 0 then (some ((-12), st)) else ((f_X3_reaches T st (38 + 2 * x2.toNatClampNeg) x3 x4).bind fun b14 => (if b14 = 0 then (some ((-12), st)) else (if (¬ x1 < 0 ∧ ¬ x3 < 0 ∧ ¬ x4 < 0) ∧ x1.toNatClampNeg + x4.toNatClampNeg ≤ 40 ∧ x3.toNatClampNeg + x4.toNatClampNeg ≤ 40 then (px_let (upr st ((38 + 2 * x2.toNatClampNeg) + 1) (va_cpy (st ((38 + 2 * x0.toNatClampNeg) + 1)) (st ((38 + 2 * x2.toNatClampNeg) + 1)) x1.toNatClampNeg x3.toNatClampNeg x4.toNatClampNeg)) fun s16 => (some (x4, s16))) else none))))) else (some ((-13), st))) else (some ((-11), st)))) else (some ((-11), st)))) else none) else none)))
set_option maxRecDepth 20000 in
theorem t_X5_copy (T : Nat) (x0 : Int32) (x1 : Int32) (x2 : Int32) (x3 : Int32) (x4 : Int32) (st : px_S) : px_O (1, 0, 0, px_n T, m_X5_copy) (px_gi T) (f_X5_copy T x0 x1 x2 x3 x4 st) 0 [some (.ref 0), some (.int x0), some (.int x1), some (.int x2), some (.int x3), some (.int x4), none, none] [] (HP T st) 0 0 := by
  rw [f_X5_copy]
  refine o_iload_n dX5_copy_0 rfl ?_
  refine h_cSP (as := [.int x0]) (S1 := []) (d' := 0) dX5_copy_1 mf_X5_isSheet ml_X5_236 ms_X5_isSheet rfl (Nat.le_of_ble_eq_true rfl) rfl (Nat.le_of_ble_eq_true rfl) ⟨Nat.zero_le _, Nat.zero_le _⟩ (k_X5_isSheet) ?_
  refine o_ifeq (tgt := 14) dX5_copy_4 (by decide) (fun u1 => ?_) (fun u1 => ?_)
  · refine o_bipush (v := (-2)) dX5_copy_14 (by decide) ?_
    exact o_iret (rt := .int) rfl rfl dX5_copy_16 rfl (Nat.zero_le _) (Nat.zero_le _)
  · refine o_iload_n dX5_copy_7 rfl ?_
    refine h_cSP (as := [.int x2]) (S1 := []) (d' := 0) dX5_copy_8 mf_X5_isSheet ml_X5_236 ms_X5_isSheet rfl (Nat.le_of_ble_eq_true rfl) rfl (Nat.le_of_ble_eq_true rfl) ⟨Nat.zero_le _, Nat.zero_le _⟩ (k_X5_isSheet) ?_
    refine o_ifne (tgt := 17) dX5_copy_11 (by decide) (fun u2 => ?_) (fun u2 => ?_)
    · refine o_aload_n dX5_copy_17 rfl ?_
      refine h_get (v := .ref 37) dX5_copy_18 q5 fl_X5_41 (by decide) (px_lt (by decide)) (c0 _) rfl ?_
      refine o_iload_n dX5_copy_21 rfl ?_
      refine h_sald dX5_copy_22 (fun u3 hs4 => ?_)
      refine o_astore (L' := [some (.ref 0), some (.int x0), some (.int x1), some (.int x2), some (.int x3), some (.int x4), some (.ref (38 + 2 * x0.toNatClampNeg)), none]) dX5_copy_23 (Nat.le_of_ble_eq_true rfl) rfl rfl ?_
      refine o_aload_n dX5_copy_25 rfl ?_
      refine h_get (v := .ref 37) dX5_copy_26 q5 fl_X5_41 (by decide) (px_lt (by decide)) (c0 _) rfl ?_
      refine o_iload_n dX5_copy_29 rfl ?_
      refine h_sald dX5_copy_30 (fun u5 hs6 => ?_)
      refine o_astore (L' := [some (.ref 0), some (.int x0), some (.int x1), some (.int x2), some (.int x3), some (.int x4), some (.ref (38 + 2 * x0.toNatClampNeg)), some (.ref (38 + 2 * x2.toNatClampNeg))]) dX5_copy_31 (Nat.le_of_ble_eq_true rfl) rfl rfl ?_
      refine o_aload dX5_copy_33 rfl ?_
      refine h_cV0 (as := []) (S1 := []) (d' := 0) dX5_copy_35 mf_X3_isMissing ml_X5_239 mv_X3_isMissing q3 rfl (hp_at (px_ltS 0 (by decide) hs4) (cS hs4 _)) rfl (Nat.le_of_ble_eq_true rfl) rfl (Nat.le_of_ble_eq_true rfl) ⟨Nat.zero_le _, Nat.zero_le _⟩ (fun b hb => k_X3_isMissing hs4 hb) (fun b7 hb7 => ?_)
      refine o_ifne (tgt := 49) dX5_copy_38 (by decide) (fun u8 => ?_) (fun u8 => ?_)
      · refine o_bipush (v := (-11)) dX5_copy_49 (by decide) ?_
        exact o_iret (rt := .int) rfl rfl dX5_copy_51 rfl (Nat.zero_le _) (Nat.zero_le _)
      · refine o_aload dX5_copy_41 rfl ?_
        refine h_cV0 (as := []) (S1 := []) (d' := 0) dX5_copy_43 mf_X3_isMissing ml_X5_239 mv_X3_isMissing q3 rfl (hp_at (px_ltS 0 (by decide) hs6) (cS hs6 _)) rfl (Nat.le_of_ble_eq_true rfl) rfl (Nat.le_of_ble_eq_true rfl) ⟨Nat.zero_le _, Nat.zero_le _⟩ (fun b hb => k_X3_isMissing hs6 hb) (fun b9 hb9 => ?_)
        refine o_ifeq (tgt := 52) dX5_copy_46 (by decide) (fun u10 => ?_) (fun u10 => ?_)
        · refine o_aload dX5_copy_52 rfl ?_
          refine h_get (v := .int (st (38 + 2 * x0.toNatClampNeg) 1)) dX5_copy_54 q3 fl_X5_279 (by decide) (px_ltS 0 (by decide) hs4) (cS hs4 _) rfl ?_
          refine o_aload dX5_copy_57 rfl ?_
          refine h_get (v := .int (st (38 + 2 * x2.toNatClampNeg) 1)) dX5_copy_59 q3 fl_X5_279 (by decide) (px_ltS 0 (by decide) hs6) (cS hs6 _) rfl ?_
          refine o_icmpeq (tgt := 68) dX5_copy_62 (by decide) (fun u11 => ?_) (fun u11 => ?_)
          · refine o_aload dX5_copy_68 rfl ?_
            refine o_iload_n dX5_copy_70 rfl ?_
            refine o_iload dX5_copy_71 rfl ?_
            refine h_cV0 (as := [.int x1, .int x4]) (S1 := []) (d' := 0) dX5_copy_73 mf_X3_reaches ml_X5_273 mv_X3_reaches q3 rfl (hp_at (px_ltS 0 (by decide) hs4) (cS hs4 _)) rfl (Nat.le_of_ble_eq_true rfl) rfl (Nat.le_of_ble_eq_true rfl) ⟨Nat.zero_le _, Nat.zero_le _⟩ (fun b hb => k_X3_reaches hs4 hb) (fun b12 hb12 => ?_)
            refine o_ifeq (tgt := 91) dX5_copy_76 (by decide) (fun u13 => ?_) (fun u13 => ?_)
            · refine o_bipush (v := (-12)) dX5_copy_91 (by decide) ?_
              exact o_iret (rt := .int) rfl rfl dX5_copy_93 rfl (Nat.zero_le _) (Nat.zero_le _)
            · refine o_aload dX5_copy_79 rfl ?_
              refine o_iload dX5_copy_81 rfl ?_
              refine o_iload dX5_copy_83 rfl ?_
              refine h_cV0 (as := [.int x3, .int x4]) (S1 := []) (d' := 0) dX5_copy_85 mf_X3_reaches ml_X5_273 mv_X3_reaches q3 rfl (hp_at (px_ltS 0 (by decide) hs6) (cS hs6 _)) rfl (Nat.le_of_ble_eq_true rfl) rfl (Nat.le_of_ble_eq_true rfl) ⟨Nat.zero_le _, Nat.zero_le _⟩ (fun b hb => k_X3_reaches hs6 hb) (fun b14 hb14 => ?_)
              refine o_ifne (tgt := 94) dX5_copy_88 (by decide) (fun u15 => ?_) (fun u15 => ?_)
              · refine o_aload dX5_copy_94 rfl ?_
                refine h_get (v := .ref ((38 + 2 * x0.toNatClampNeg) + 1)) dX5_copy_96 q3 fl_X5_282 (by decide) (px_ltS 0 (by decide) hs4) (cS hs4 _) rfl ?_
                refine o_iload_n dX5_copy_99 rfl ?_
                refine o_aload dX5_copy_100 rfl ?_
                refine h_get (v := .ref ((38 + 2 * x2.toNatClampNeg) + 1)) dX5_copy_102 q3 fl_X5_282 (by decide) (px_ltS 0 (by decide) hs6) (cS hs6 _) rfl ?_
                refine o_iload dX5_copy_105 rfl ?_
                refine o_iload dX5_copy_107 rfl ?_
                refine h_copy (n0 := 40) (n1 := 40) dX5_copy_109 ml_X5_285 w_cpy_n w_cpy_s w_sys_i (px_ltS 1 (by decide) hs4) (px_ltS 1 (by decide) hs6) ((cS1 hs4) _) (cS1 hs6) (Nat.le_of_ble_eq_true rfl) (Nat.le_of_ble_eq_true rfl) ?_
                refine o_let (fun s16 => ?_)
                refine o_iload dX5_copy_112 rfl ?_
                exact o_iret (rt := .int) rfl rfl dX5_copy_114 rfl (Nat.zero_le _) (Nat.zero_le _)
              · refine o_bipush (v := (-12)) dX5_copy_91 (by decide) ?_
                exact o_iret (rt := .int) rfl rfl dX5_copy_93 rfl (Nat.zero_le _) (Nat.zero_le _)
          · refine o_bipush (v := (-13)) dX5_copy_65 (by decide) ?_
            exact o_iret (rt := .int) rfl rfl dX5_copy_67 rfl (Nat.zero_le _) (Nat.zero_le _)
        · refine o_bipush (v := (-11)) dX5_copy_49 (by decide) ?_
          exact o_iret (rt := .int) rfl rfl dX5_copy_51 rfl (Nat.zero_le _) (Nat.zero_le _)
    · refine o_bipush (v := (-2)) dX5_copy_14 (by decide) ?_
      exact o_iret (rt := .int) rfl rfl dX5_copy_16 rfl (Nat.zero_le _) (Nat.zero_le _)
theorem k_X5_copy {T : Nat} {st : px_S} {x0 : Int32} {x1 : Int32} {x2 : Int32} {x3 : Int32} {x4 : Int32} {b : Int32 × px_S} (hf : f_X5_copy T x0 x1 x2 x3 x4 st = some b) : px_K (1) 0 0 m_X5_copy [.ref 0, .int x0, .int x1, .int x2, .int x3, .int x4] (HP T st) ((px_gi T) b).1 ((px_gi T) b).2 := px_KofH hf mf_X5_copy (Nat.le_of_ble_eq_true rfl) rfl (t_X5_copy T x0 x1 x2 x3 x4 st)
/-! ThreeOfThem.likeByTriples(LThreeOfThem$Sheet;II)I: S, depth 3 -/
def f_X5_likeByTriples_6 (T : Nat) (a0 : Nat) : Nat → Int32 → Int32 → Int32 → Int32 → px_S → Option (Int32 × px_S)
  | 0, _, _, _, _, _ => none
  | n + 1, y2, y3, y4, y5, st => (if y5 < y3 then ((f_X3_reaches T st a0 (y2 + ((3 : Int32) * y5)) 3).bind fun b2 => (if b2 = 0 then (some ((-12), st)) else (if px_in (y2 + ((3 : Int32) * y5)) 40 then (if px_in ((y2 + ((3 : Int32) * y5)) + 1) 40 then (if px_in ((y2 + ((3 : Int32) * y5)) + 2) 40 then ((f_X5_like T (st (a0 + 1) (y2 + ((3 : Int32) * y5)).toNatClampNeg) (st (a0 + 1) ((y2 + ((3 : Int32) * y5)) + 1).toNatClampNeg) (st (a0 + 1) ((y2 + ((3 : Int32) * y5)) + 2).toNatClampNeg) st).bind fun b7 => (if b7.1 = (-2) then ((f_X5_likeByTriples_6 T a0 n) y2 y3 y4 (y5 + 1) b7.2) else ((f_X5_likeByTriples_6 T a0 n) y2 y3 (y4 + 1) (y5 + 1) b7.2))) else none) else none) else none))) else (some (y4, st)))
set_option maxRecDepth 20000 in
theorem t_X5_likeByTriples_6 (T : Nat) (a0 : Nat) (ha0 : px_isS a0) : ∀ (n : Nat) (y2 : Int32) (y3 : Int32) (y4 : Int32) (y5 : Int32) (st : px_S), px_O (3, 0, 0, px_n T, m_X5_likeByTriples) (px_gi T) (f_X5_likeByTriples_6 T a0 n y2 y3 y4 y5 st) 6 [some (.ref 0), some (.ref a0), some (.int y2), some (.int y3), some (.int y4), some (.int y5), none] [] (HP T st) 0 0 := by
  intro n
  induction n with
  | zero => intro y2 y3 y4 y5 st; rw [f_X5_likeByTriples_6]; exact o_none
  | succ n ih =>
    intro y2 y3 y4 y5 st
    rw [f_X5_likeByTriples_6]
    refine o_iload dX5_likeByTriples_6 rfl ?_
    refine o_iload_n dX5_likeByTriples_8 rfl ?_
    refine o_icmpge (tgt := 76) dX5_likeByTriples_9 (by decide) (fun u1 => ?_) (fun u1 => ?_)
    · refine o_iload dX5_likeByTriples_76 rfl ?_
      exact o_iret (rt := .int) rfl rfl dX5_likeByTriples_78 rfl (Nat.zero_le _) (Nat.zero_le _)
    · refine o_iload_n dX5_likeByTriples_12 rfl ?_
      refine o_iconst (v := 3) dX5_likeByTriples_13 (by decide) ?_
      refine o_iload dX5_likeByTriples_14 rfl ?_
      refine o_imul dX5_likeByTriples_16 ?_
      refine o_iadd dX5_likeByTriples_17 ?_
      refine o_istore (L' := [some (.ref 0), some (.ref a0), some (.int y2), some (.int y3), some (.int y4), some (.int y5), some (.int (y2 + ((3 : Int32) * y5)))]) dX5_likeByTriples_18 (Nat.le_of_ble_eq_true rfl) rfl rfl ?_
      refine o_aload_n dX5_likeByTriples_20 rfl ?_
      refine o_iload dX5_likeByTriples_21 rfl ?_
      refine o_iconst (v := 3) dX5_likeByTriples_23 (by decide) ?_
      refine h_cV0 (as := [.int (y2 + ((3 : Int32) * y5)), .int 3]) (S1 := []) (d' := 0) dX5_likeByTriples_24 mf_X3_reaches ml_X5_273 mv_X3_reaches q3 rfl (hp_at (px_ltS 0 (by decide) ha0) (cS ha0 _)) rfl (Nat.le_of_ble_eq_true rfl) rfl (Nat.le_of_ble_eq_true rfl) ⟨Nat.zero_le _, Nat.zero_le _⟩ (fun b hb => k_X3_reaches ha0 hb) (fun b2 hb2 => ?_)
      refine o_ifne (tgt := 33) dX5_likeByTriples_27 (by decide) (fun u3 => ?_) (fun u3 => ?_)
      · refine o_aload_n dX5_likeByTriples_33 rfl ?_
        refine o_aload_n dX5_likeByTriples_34 rfl ?_
        refine h_get (v := .ref (a0 + 1)) dX5_likeByTriples_35 q3 fl_X5_282 (by decide) (px_ltS 0 (by decide) ha0) (cS ha0 _) rfl ?_
        refine o_iload dX5_likeByTriples_38 rfl ?_
        refine h_iald (n := 40) dX5_likeByTriples_40 (px_ltS 1 (by decide) ha0) ((cS1 ha0) _) (fun u4 => ?_)
        refine o_aload_n dX5_likeByTriples_41 rfl ?_
        refine h_get (v := .ref (a0 + 1)) dX5_likeByTriples_42 q3 fl_X5_282 (by decide) (px_ltS 0 (by decide) ha0) (cS ha0 _) rfl ?_
        refine o_iload dX5_likeByTriples_45 rfl ?_
        refine o_iconst (v := 1) dX5_likeByTriples_47 (by decide) ?_
        refine o_iadd dX5_likeByTriples_48 ?_
        refine h_iald (n := 40) dX5_likeByTriples_49 (px_ltS 1 (by decide) ha0) ((cS1 ha0) _) (fun u5 => ?_)
        refine o_aload_n dX5_likeByTriples_50 rfl ?_
        refine h_get (v := .ref (a0 + 1)) dX5_likeByTriples_51 q3 fl_X5_282 (by decide) (px_ltS 0 (by decide) ha0) (cS ha0 _) rfl ?_
        refine o_iload dX5_likeByTriples_54 rfl ?_
        refine o_iconst (v := 2) dX5_likeByTriples_56 (by decide) ?_
        refine o_iadd dX5_likeByTriples_57 ?_
        refine h_iald (n := 40) dX5_likeByTriples_58 (px_ltS 1 (by decide) ha0) ((cS1 ha0) _) (fun u6 => ?_)
        refine h_cVi (as := [.int (st (a0 + 1) (y2 + ((3 : Int32) * y5)).toNatClampNeg), .int (st (a0 + 1) ((y2 + ((3 : Int32) * y5)) + 1).toNatClampNeg), .int (st (a0 + 1) ((y2 + ((3 : Int32) * y5)) + 2).toNatClampNeg)]) (S1 := []) (d' := 2) dX5_likeByTriples_59 mf_X5_like ml_X5_295 mv_X5_like q5 rfl (hp_at (px_lt (by decide)) (c0 _)) rfl (Nat.le_of_ble_eq_true rfl) rfl (Nat.le_of_ble_eq_true rfl) (fun b hb => k_X5_like hb) (fun b7 hb7 => ?_)
        refine o_bipush (v := (-2)) dX5_likeByTriples_62 (by decide) ?_
        refine o_icmpeq (tgt := 70) dX5_likeByTriples_64 (by decide) (fun u8 => ?_) (fun u8 => ?_)
        · refine o_iinc (v := (y5 + 1)) (L' := [some (.ref 0), some (.ref a0), some (.int y2), some (.int y3), some (.int y4), some (.int (y5 + 1)), some (.int (y2 + ((3 : Int32) * y5)))]) dX5_likeByTriples_70 rfl rfl (Nat.le_of_ble_eq_true rfl) rfl rfl ?_
          refine o_goto (tgt := 6) dX5_likeByTriples_73 (by decide) ?_
          exact o_weak (L' := [some (.ref 0), some (.ref a0), some (.int y2), some (.int y3), some (.int y4), some (.int (y5 + 1)), none]) ⟨rfl, ⟨rfl, ⟨rfl, ⟨rfl, ⟨rfl, ⟨rfl, trivial⟩⟩⟩⟩⟩⟩ (ih y2 y3 y4 (y5 + 1) b7.2)
        · refine o_iinc (v := (y4 + 1)) (L' := [some (.ref 0), some (.ref a0), some (.int y2), some (.int y3), some (.int (y4 + 1)), some (.int y5), some (.int (y2 + ((3 : Int32) * y5)))]) dX5_likeByTriples_67 rfl rfl (Nat.le_of_ble_eq_true rfl) rfl rfl ?_
          refine o_iinc (v := (y5 + 1)) (L' := [some (.ref 0), some (.ref a0), some (.int y2), some (.int y3), some (.int (y4 + 1)), some (.int (y5 + 1)), some (.int (y2 + ((3 : Int32) * y5)))]) dX5_likeByTriples_70 rfl rfl (Nat.le_of_ble_eq_true rfl) rfl rfl ?_
          refine o_goto (tgt := 6) dX5_likeByTriples_73 (by decide) ?_
          exact o_weak (L' := [some (.ref 0), some (.ref a0), some (.int y2), some (.int y3), some (.int (y4 + 1)), some (.int (y5 + 1)), none]) ⟨rfl, ⟨rfl, ⟨rfl, ⟨rfl, ⟨rfl, ⟨rfl, trivial⟩⟩⟩⟩⟩⟩ (ih y2 y3 (y4 + 1) (y5 + 1) b7.2)
      · refine o_bipush (v := (-12)) dX5_likeByTriples_30 (by decide) ?_
        exact o_iret (rt := .int) rfl rfl dX5_likeByTriples_32 rfl (Nat.zero_le _) (Nat.zero_le _)
def f_X5_likeByTriples (T : Nat) (a0 : Nat) (x1 : Int32) (x2 : Int32) (st : px_S) : Option (Int32 × px_S) := (f_X5_likeByTriples_6 T a0 1000 x1 x2 0 0 st)
set_option maxRecDepth 20000 in
theorem t_X5_likeByTriples (T : Nat) (a0 : Nat) (ha0 : px_isS a0) (x1 : Int32) (x2 : Int32) (st : px_S) : px_O (3, 0, 0, px_n T, m_X5_likeByTriples) (px_gi T) (f_X5_likeByTriples T a0 x1 x2 st) 0 [some (.ref 0), some (.ref a0), some (.int x1), some (.int x2), none, none, none] [] (HP T st) 0 0 := by
  rw [f_X5_likeByTriples]
  refine o_iconst (v := 0) dX5_likeByTriples_0 (by decide) ?_
  refine o_istore (L' := [some (.ref 0), some (.ref a0), some (.int x1), some (.int x2), some (.int 0), none, none]) dX5_likeByTriples_1 (Nat.le_of_ble_eq_true rfl) rfl rfl ?_
  refine o_iconst (v := 0) dX5_likeByTriples_3 (by decide) ?_
  refine o_istore (L' := [some (.ref 0), some (.ref a0), some (.int x1), some (.int x2), some (.int 0), some (.int 0), none]) dX5_likeByTriples_4 (Nat.le_of_ble_eq_true rfl) rfl rfl ?_
  exact (t_X5_likeByTriples_6 T a0 ha0 1000 x1 x2 0 0 st)
theorem k_X5_likeByTriples {T : Nat} {st : px_S} {a0 : Nat} {x1 : Int32} {x2 : Int32} {b : Int32 × px_S} (ha0 : px_isS a0) (hf : f_X5_likeByTriples T a0 x1 x2 st = some b) : px_K (3) 0 0 m_X5_likeByTriples [.ref 0, .ref a0, .int x1, .int x2] (HP T st) ((px_gi T) b).1 ((px_gi T) b).2 := px_KofH hf mf_X5_likeByTriples (Nat.le_of_ble_eq_true rfl) rfl (t_X5_likeByTriples T a0 ha0 x1 x2 st)
/-! ThreeOfThem.likes(IIII)I: S, depth 4 -/
def f_X5_likes_59 (T : Nat) (y3 : Int32) (y4 : Int32) (y5 : Nat) (st : px_S) : Option (Int32 × px_S) := ((f_X3_isMissing T st y5).bind fun b1 => (if b1 = 0 then ((f_X5_likeByTriples T y5 y3 y4 st).bind fun b3 => (some (b3.1, b3.2))) else (some ((-11), st))))
set_option maxRecDepth 20000 in
theorem t_X5_likes_59 (T : Nat) (y3 : Int32) (y4 : Int32) (y5 : Nat) (hy5 : px_isS y5) (st : px_S) : px_O (4, 0, 0, px_n T, m_X5_likes) (px_gi T) (f_X5_likes_59 T y3 y4 y5 st) 59 [some (.ref 0), none, none, some (.int y3), some (.int y4), some (.ref y5)] [] (HP T st) 0 0 := by
  rw [f_X5_likes_59]
  refine o_aload dX5_likes_59 rfl ?_
  refine h_cV0 (as := []) (S1 := []) (d' := 0) dX5_likes_61 mf_X3_isMissing ml_X5_239 mv_X3_isMissing q3 rfl (hp_at (px_ltS 0 (by decide) hy5) (cS hy5 _)) rfl (Nat.le_of_ble_eq_true rfl) rfl (Nat.le_of_ble_eq_true rfl) ⟨Nat.zero_le _, Nat.zero_le _⟩ (fun b hb => k_X3_isMissing hy5 hb) (fun b1 hb1 => ?_)
  refine o_ifeq (tgt := 70) dX5_likes_64 (by decide) (fun u2 => ?_) (fun u2 => ?_)
  · refine o_aload_n dX5_likes_70 rfl ?_
    refine o_aload dX5_likes_71 rfl ?_
    refine o_iload_n dX5_likes_73 rfl ?_
    refine o_iload dX5_likes_74 rfl ?_
    refine h_cVi (as := [.ref y5, .int y3, .int y4]) (S1 := []) (d' := 3) dX5_likes_76 mf_X5_likeByTriples ml_X5_291 mv_X5_likeByTriples q5 rfl (hp_at (px_lt (by decide)) (c0 _)) rfl (Nat.le_of_ble_eq_true rfl) rfl (Nat.le_of_ble_eq_true rfl) (fun b hb => k_X5_likeByTriples hy5 hb) (fun b3 hb3 => ?_)
    exact o_iret (rt := .int) rfl rfl dX5_likes_79 rfl (Nat.zero_le _) (Nat.zero_le _)
  · refine o_bipush (v := (-11)) dX5_likes_67 (by decide) ?_
    exact o_iret (rt := .int) rfl rfl dX5_likes_69 rfl (Nat.zero_le _) (Nat.zero_le _)
def f_X5_likes (T : Nat) (x0 : Int32) (x1 : Int32) (x2 : Int32) (x3 : Int32) (st : px_S) : Option (Int32 × px_S) := (if (p_X5_isSheet x0) = 0 then (some ((-2), st)) else (if x1 < 0 then (some ((-2), st)) else (if x1 < 3 then (if x3 < 0 then (some ((-2), st)) else (if 13 < x3 then (some ((-2), st)) else (if px_in x0 4 then ((f_X3_isMissing T st (38 + 2 * x0.toNatClampNeg)).bind fun b11 => (if b11 = 0 then (if (st (38 + 2 * x0.toNatClampNeg) 1) = x1 then (f_X5_likes_59 T x2 x3 (38 + 2 * x0.toNatClampNeg) st) else (some ((-13), st))) else (f_X5_likes_59 T x2 x3 (38 + 2 * x0.toNatClampNeg) st))) else none))) else (some ((-2), st)))))
set_option maxRecDepth 20000 in
theorem t_X5_likes (T : Nat) (x0 : Int32) (x1 : Int32) (x2 : Int32) (x3 : Int32) (st : px_S) : px_O (4, 0, 0, px_n T, m_X5_likes) (px_gi T) (f_X5_likes T x0 x1 x2 x3 st) 0 [some (.ref 0), some (.int x0), some (.int x1), some (.int x2), some (.int x3), none] [] (HP T st) 0 0 := by
  rw [f_X5_likes]
  refine o_iload_n dX5_likes_0 rfl ?_
  refine h_cSP (as := [.int x0]) (S1 := []) (d' := 0) dX5_likes_1 mf_X5_isSheet ml_X5_236 ms_X5_isSheet rfl (Nat.le_of_ble_eq_true rfl) rfl (Nat.le_of_ble_eq_true rfl) ⟨Nat.zero_le _, Nat.zero_le _⟩ (k_X5_isSheet) ?_
  refine o_ifeq (tgt := 28) dX5_likes_4 (by decide) (fun u4 => ?_) (fun u4 => ?_)
  · refine o_bipush (v := (-2)) dX5_likes_28 (by decide) ?_
    exact o_iret (rt := .int) rfl rfl dX5_likes_30 rfl (Nat.zero_le _) (Nat.zero_le _)
  · refine o_iload_n dX5_likes_7 rfl ?_
    refine o_iflt (tgt := 28) dX5_likes_8 (by decide) (fun u5 => ?_) (fun u5 => ?_)
    · refine o_bipush (v := (-2)) dX5_likes_28 (by decide) ?_
      exact o_iret (rt := .int) rfl rfl dX5_likes_30 rfl (Nat.zero_le _) (Nat.zero_le _)
    · refine o_iload_n dX5_likes_11 rfl ?_
      refine o_iconst (v := 3) dX5_likes_12 (by decide) ?_
      refine o_icmpge (tgt := 28) dX5_likes_13 (by decide) (fun u6 => ?_) (fun u6 => ?_)
      · refine o_bipush (v := (-2)) dX5_likes_28 (by decide) ?_
        exact o_iret (rt := .int) rfl rfl dX5_likes_30 rfl (Nat.zero_le _) (Nat.zero_le _)
      · refine o_iload dX5_likes_16 rfl ?_
        refine o_iflt (tgt := 28) dX5_likes_18 (by decide) (fun u7 => ?_) (fun u7 => ?_)
        · refine o_bipush (v := (-2)) dX5_likes_28 (by decide) ?_
          exact o_iret (rt := .int) rfl rfl dX5_likes_30 rfl (Nat.zero_le _) (Nat.zero_le _)
        · refine o_iload dX5_likes_21 rfl ?_
          refine o_bipush (v := 13) dX5_likes_23 (by decide) ?_
          refine o_icmple (tgt := 31) dX5_likes_25 (by decide) (fun u8 => ?_) (fun u8 => ?_)
          · refine o_aload_n dX5_likes_31 rfl ?_
            refine h_get (v := .ref 37) dX5_likes_32 q5 fl_X5_41 (by decide) (px_lt (by decide)) (c0 _) rfl ?_
            refine o_iload_n dX5_likes_35 rfl ?_
            refine h_sald dX5_likes_36 (fun u9 hs10 => ?_)
            refine o_astore (L' := [some (.ref 0), some (.int x0), some (.int x1), some (.int x2), some (.int x3), some (.ref (38 + 2 * x0.toNatClampNeg))]) dX5_likes_37 (Nat.le_of_ble_eq_true rfl) rfl rfl ?_
            refine o_aload dX5_likes_39 rfl ?_
            refine h_cV0 (as := []) (S1 := []) (d' := 0) dX5_likes_41 mf_X3_isMissing ml_X5_239 mv_X3_isMissing q3 rfl (hp_at (px_ltS 0 (by decide) hs10) (cS hs10 _)) rfl (Nat.le_of_ble_eq_true rfl) rfl (Nat.le_of_ble_eq_true rfl) ⟨Nat.zero_le _, Nat.zero_le _⟩ (fun b hb => k_X3_isMissing hs10 hb) (fun b11 hb11 => ?_)
            refine o_ifne (tgt := 59) dX5_likes_44 (by decide) (fun u12 => ?_) (fun u12 => ?_)
            · exact o_weak (L' := [some (.ref 0), none, none, some (.int x2), some (.int x3), some (.ref (38 + 2 * x0.toNatClampNeg))]) ⟨rfl, ⟨rfl, ⟨rfl, ⟨rfl, trivial⟩⟩⟩⟩ (t_X5_likes_59 T x2 x3 (38 + 2 * x0.toNatClampNeg) hs10 st)
            · refine o_aload dX5_likes_47 rfl ?_
              refine h_get (v := .int (st (38 + 2 * x0.toNatClampNeg) 1)) dX5_likes_49 q3 fl_X5_279 (by decide) (px_ltS 0 (by decide) hs10) (cS hs10 _) rfl ?_
              refine o_iload_n dX5_likes_52 rfl ?_
              refine o_icmpeq (tgt := 59) dX5_likes_53 (by decide) (fun u13 => ?_) (fun u13 => ?_)
              · exact o_weak (L' := [some (.ref 0), none, none, some (.int x2), some (.int x3), some (.ref (38 + 2 * x0.toNatClampNeg))]) ⟨rfl, ⟨rfl, ⟨rfl, ⟨rfl, trivial⟩⟩⟩⟩ (t_X5_likes_59 T x2 x3 (38 + 2 * x0.toNatClampNeg) hs10 st)
              · refine o_bipush (v := (-13)) dX5_likes_56 (by decide) ?_
                exact o_iret (rt := .int) rfl rfl dX5_likes_58 rfl (Nat.zero_le _) (Nat.zero_le _)
          · refine o_bipush (v := (-2)) dX5_likes_28 (by decide) ?_
            exact o_iret (rt := .int) rfl rfl dX5_likes_30 rfl (Nat.zero_le _) (Nat.zero_le _)
theorem k_X5_likes {T : Nat} {st : px_S} {x0 : Int32} {x1 : Int32} {x2 : Int32} {x3 : Int32} {b : Int32 × px_S} (hf : f_X5_likes T x0 x1 x2 x3 st = some b) : px_K (4) 0 0 m_X5_likes [.ref 0, .int x0, .int x1, .int x2, .int x3] (HP T st) ((px_gi T) b).1 ((px_gi T) b).2 := px_KofH hf mf_X5_likes (Nat.le_of_ble_eq_true rfl) rfl (t_X5_likes T x0 x1 x2 x3 st)
/-! ThreeOfThem.taken(II)I: R, depth 1 -/
def f_X5_taken (T : Nat) (st : px_S) (x0 : Int32) (x1 : Int32) : Option (Int32) := (if x1 < 0 then (some (-2)) else (if x1 < 6 then ((f_X0_knows T st 1 x0).bind fun b3 => (if b3 = 0 then (some (-11)) else (if px_in x0 7 then ((f_X5_isUnder (st 2 x0.toNatClampNeg) x1).bind fun b6 => (if b6 = 0 then (some (-13)) else (if px_in x0 7 then (some (st 3 x0.toNatClampNeg)) else none))) else none))) else (some (-2))))
set_option maxRecDepth 20000 in
theorem t_X5_taken (T : Nat) (st : px_S) (x0 : Int32) (x1 : Int32) : px_O (1, 0, 0, px_n T, m_X5_taken) (px_g0 (HP T st)) (f_X5_taken T st x0 x1) 0 [some (.ref 0), some (.int x0), some (.int x1)] [] (HP T st) 0 0 := by
  rw [f_X5_taken]
  refine o_iload_n dX5_taken_0 rfl ?_
  refine o_iflt (tgt := 10) dX5_taken_1 (by decide) (fun u1 => ?_) (fun u1 => ?_)
  · refine o_bipush (v := (-2)) dX5_taken_10 (by decide) ?_
    exact o_iret (rt := .int) rfl rfl dX5_taken_12 rfl (Nat.zero_le _) (Nat.zero_le _)
  · refine o_iload_n dX5_taken_4 rfl ?_
    refine o_bipush (v := 6) dX5_taken_5 (by decide) ?_
    refine o_icmplt (tgt := 13) dX5_taken_7 (by decide) (fun u2 => ?_) (fun u2 => ?_)
    · refine o_aload_n dX5_taken_13 rfl ?_
      refine h_get (v := .ref 1) dX5_taken_14 q5 fl_X5_12 (by decide) (px_lt (by decide)) (c0 _) rfl ?_
      refine o_iload_n dX5_taken_17 rfl ?_
      refine h_cV0 (as := [.int x0]) (S1 := []) (d' := 0) dX5_taken_18 mf_X0_knows ml_X5_124 mv_X0_knows q0 rfl (hp_at (px_ltH 0 (by decide) (Or.inl rfl)) (cH (Or.inl rfl) _)) rfl (Nat.le_of_ble_eq_true rfl) rfl (Nat.le_of_ble_eq_true rfl) ⟨Nat.zero_le _, Nat.zero_le _⟩ (fun b hb => k_X0_knows (Or.inl rfl) hb) (fun b3 hb3 => ?_)
      refine o_ifne (tgt := 27) dX5_taken_21 (by decide) (fun u4 => ?_) (fun u4 => ?_)
      · refine o_aload_n dX5_taken_27 rfl ?_
        refine h_get (v := .ref 1) dX5_taken_28 q5 fl_X5_12 (by decide) (px_lt (by decide)) (c0 _) rfl ?_
        refine h_get (v := .ref 2) dX5_taken_31 q0 fl_X5_146 (by decide) (px_ltH 0 (by decide) (Or.inl rfl)) (cH (Or.inl rfl) _) rfl ?_
        refine o_iload_n dX5_taken_34 rfl ?_
        refine h_iald (n := 7) dX5_taken_35 (px_lt (by decide)) (c2 _) (fun u5 => ?_)
        refine o_iload_n dX5_taken_36 rfl ?_
        refine h_cS0 (as := [.int (st 2 x0.toNatClampNeg), .int x1]) (S1 := []) (d' := 0) dX5_taken_37 mf_X5_isUnder ml_X5_298 ms_X5_isUnder rfl (Nat.le_of_ble_eq_true rfl) rfl (Nat.le_of_ble_eq_true rfl) ⟨Nat.zero_le _, Nat.zero_le _⟩ (fun b hb => k_X5_isUnder hb) (fun b6 hb6 => ?_)
        refine o_ifeq (tgt := 55) dX5_taken_40 (by decide) (fun u7 => ?_) (fun u7 => ?_)
        · refine o_bipush (v := (-13)) dX5_taken_55 (by decide) ?_
          exact o_iret (rt := .int) rfl rfl dX5_taken_57 rfl (Nat.zero_le _) (Nat.zero_le _)
        · refine o_aload_n dX5_taken_43 rfl ?_
          refine h_get (v := .ref 1) dX5_taken_44 q5 fl_X5_12 (by decide) (px_lt (by decide)) (c0 _) rfl ?_
          refine h_get (v := .ref 3) dX5_taken_47 q0 fl_X5_128 (by decide) (px_ltH 0 (by decide) (Or.inl rfl)) (cH (Or.inl rfl) _) rfl ?_
          refine o_iload_n dX5_taken_50 rfl ?_
          refine h_iald (n := 7) dX5_taken_51 (px_lt (by decide)) (c3 _) (fun u8 => ?_)
          refine o_goto (tgt := 57) dX5_taken_52 (by decide) ?_
          exact o_iret (rt := .int) rfl rfl dX5_taken_57 rfl (Nat.zero_le _) (Nat.zero_le _)
      · refine o_bipush (v := (-11)) dX5_taken_24 (by decide) ?_
        exact o_iret (rt := .int) rfl rfl dX5_taken_26 rfl (Nat.zero_le _) (Nat.zero_le _)
    · refine o_bipush (v := (-2)) dX5_taken_10 (by decide) ?_
      exact o_iret (rt := .int) rfl rfl dX5_taken_12 rfl (Nat.zero_le _) (Nat.zero_le _)
theorem k_X5_taken_o {T : Nat} {st : px_S} {x0 : Int32} {x1 : Int32} {b : Int32} (hf : f_X5_taken T st x0 x1 = some b) : px_K (1) 0 0 m_X5_taken [.ref 0, .int x0, .int x1] (HP T st) (some (.int b)) (HP T st) := px_KofH (g := px_g0 (HP T st)) hf mf_X5_taken (Nat.le_of_ble_eq_true rfl) rfl (t_X5_taken T st x0 x1)
theorem k_X5_taken {T : Nat} {st : px_S} {x0 : Int32} {x1 : Int32} {b : Int32} (hf : f_X5_taken T st x0 x1 = some b) : px_K (1) 0 0 m_X5_taken [.ref 0, .int x0, .int x1] (HP T st) (some (.int b)) (HP T st) := k_X5_taken_o hf
