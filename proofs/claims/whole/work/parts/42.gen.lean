/-! ThreeOfThem$Judge.savingOath(I)I: R, depth 2 -/
def f_X1_savingOath_12 (T : Nat) (st : px_S) : Nat → Int32 → Int32 → Int32 → Option (Int32)
  | 0, _, _, _ => none
  | n + 1, y1, y2, y3 => (if y3 < 7 then ((f_X1_isLookedPair T st y1 y3).bind fun b2 => (if b2 = 0 then ((f_X1_savingOath_12 T st n) y1 y2 (y3 + 1)) else (if (p_X5_has y2 y3) = 0 then ((f_X1_against T st y1 (y2 ||| (p_X5_bit y3))).bind fun b5 => (if (p_J6_bitCount_0f7a4 b5) < (st 12 7) then (some y3) else ((f_X1_savingOath_12 T st n) y1 y2 (y3 + 1)))) else ((f_X1_savingOath_12 T st n) y1 y2 (y3 + 1))))) else (some (-1)))
set_option maxRecDepth 20000 in
theorem t_X1_savingOath_12 (T : Nat) (st : px_S) : ∀ (n : Nat) (y1 : Int32) (y2 : Int32) (y3 : Int32), px_O (2, 0, 0, px_n T, m_X1_savingOath) (px_g0 (HP T st)) (f_X1_savingOath_12 T st n y1 y2 y3) 12 [some (.ref 11), some (.int y1), some (.int y2), some (.int y3)] [] (HP T st) 0 0 := by
  intro n
  induction n with
  | zero => intro y1 y2 y3; rw [f_X1_savingOath_12]; exact o_none
  | succ n ih =>
    intro y1 y2 y3
    rw [f_X1_savingOath_12]
    refine o_iload_n dX1_savingOath_12 rfl ?_
    refine o_bipush (v := 7) dX1_savingOath_13 (by decide) ?_
    refine o_icmpge (tgt := 67) dX1_savingOath_15 (by decide) (fun u1 => ?_) (fun u1 => ?_)
    · refine o_iconst (v := (-1)) dX1_savingOath_67 (by decide) ?_
      exact o_iret (rt := .int) rfl rfl dX1_savingOath_68 rfl (Nat.zero_le _) (Nat.zero_le _)
    · refine o_aload_n dX1_savingOath_18 rfl ?_
      refine o_iload_n dX1_savingOath_19 rfl ?_
      refine o_iload_n dX1_savingOath_20 rfl ?_
      refine h_cV0 (as := [.int y1, .int y3]) (S1 := []) (d' := 1) dX1_savingOath_21 mf_X1_isLookedPair ml_X1_116 mv_X1_isLookedPair q1 rfl (hp_at (px_lt (by decide)) (c11 _)) rfl (Nat.le_of_ble_eq_true rfl) rfl (Nat.le_of_ble_eq_true rfl) ⟨Nat.zero_le _, Nat.zero_le _⟩ (fun b hb => k_X1_isLookedPair hb) (fun b2 hb2 => ?_)
      refine o_ifeq (tgt := 61) dX1_savingOath_24 (by decide) (fun u3 => ?_) (fun u3 => ?_)
      · refine o_iinc (v := (y3 + 1)) (L' := [some (.ref 11), some (.int y1), some (.int y2), some (.int (y3 + 1))]) dX1_savingOath_61 rfl rfl (Nat.le_of_ble_eq_true rfl) rfl rfl ?_
        refine o_goto (tgt := 12) dX1_savingOath_64 (by decide) ?_
        exact (ih y1 y2 (y3 + 1))
      · refine o_iload_n dX1_savingOath_27 rfl ?_
        refine o_iload_n dX1_savingOath_28 rfl ?_
        refine h_cNP (as := [.int y2, .int y3]) (S1 := []) (d' := 0) dX1_savingOath_29 mf_X5_has ml_X1_91 ms_X5_has rfl (Nat.le_of_ble_eq_true rfl) rfl (Nat.le_of_ble_eq_true rfl) ⟨Nat.zero_le _, Nat.zero_le _⟩ (k_X5_has) ?_
        refine o_ifne (tgt := 61) dX1_savingOath_32 (by decide) (fun u4 => ?_) (fun u4 => ?_)
        · refine o_iinc (v := (y3 + 1)) (L' := [some (.ref 11), some (.int y1), some (.int y2), some (.int (y3 + 1))]) dX1_savingOath_61 rfl rfl (Nat.le_of_ble_eq_true rfl) rfl rfl ?_
          refine o_goto (tgt := 12) dX1_savingOath_64 (by decide) ?_
          exact (ih y1 y2 (y3 + 1))
        · refine o_aload_n dX1_savingOath_35 rfl ?_
          refine o_iload_n dX1_savingOath_36 rfl ?_
          refine o_iload_n dX1_savingOath_37 rfl ?_
          refine o_iload_n dX1_savingOath_38 rfl ?_
          refine h_cNP (as := [.int y3]) (S1 := [.int y2, .int y1, .ref 11]) (d' := 0) dX1_savingOath_39 mf_X5_bit ml_X1_129 ms_X5_bit rfl (Nat.le_of_ble_eq_true rfl) rfl (Nat.le_of_ble_eq_true rfl) ⟨Nat.zero_le _, Nat.zero_le _⟩ (k_X5_bit) ?_
          refine o_ior dX1_savingOath_42 ?_
          refine h_cV0 (as := [.int y1, .int (y2 ||| (p_X5_bit y3))]) (S1 := []) (d' := 0) dX1_savingOath_43 mf_X1_against ml_X1_135 mv_X1_against q1 rfl (hp_at (px_lt (by decide)) (c11 _)) rfl (Nat.le_of_ble_eq_true rfl) rfl (Nat.le_of_ble_eq_true rfl) ⟨Nat.zero_le _, Nat.zero_le _⟩ (fun b hb => k_X1_against hb) (fun b5 hb5 => ?_)
          refine h_cSP (as := [.int b5]) (S1 := []) (d' := 0) dX1_savingOath_46 mf_J6_bitCount_0f7a4 ml_X1_111 ms_J6_bitCount_0f7a4 rfl (Nat.le_of_ble_eq_true rfl) rfl (Nat.le_of_ble_eq_true rfl) ⟨Nat.zero_le _, Nat.zero_le _⟩ (k_J6_bitCount_0f7a4) ?_
          refine o_aload_n dX1_savingOath_49 rfl ?_
          refine h_get (v := .ref 12) dX1_savingOath_50 q1 fl_X1_12 (by decide) (px_lt (by decide)) (c11 _) rfl ?_
          refine h_get (v := .int (st 12 7)) dX1_savingOath_53 q0 fl_X1_140 (by decide) (px_ltH 0 (by decide) (Or.inr (Or.inr rfl))) (cH (Or.inr (Or.inr rfl)) _) rfl ?_
          refine o_icmpge (tgt := 61) dX1_savingOath_56 (by decide) (fun u6 => ?_) (fun u6 => ?_)
          · refine o_iinc (v := (y3 + 1)) (L' := [some (.ref 11), some (.int y1), some (.int y2), some (.int (y3 + 1))]) dX1_savingOath_61 rfl rfl (Nat.le_of_ble_eq_true rfl) rfl rfl ?_
            refine o_goto (tgt := 12) dX1_savingOath_64 (by decide) ?_
            exact (ih y1 y2 (y3 + 1))
          · refine o_iload_n dX1_savingOath_59 rfl ?_
            exact o_iret (rt := .int) rfl rfl dX1_savingOath_60 rfl (Nat.zero_le _) (Nat.zero_le _)
def f_X1_savingOath (T : Nat) (st : px_S) (x0 : Int32) : Option (Int32) := (if px_in x0 7 then (f_X1_savingOath_12 T st 1000 x0 (st 16 x0.toNatClampNeg) 0) else none)
set_option maxRecDepth 20000 in
theorem t_X1_savingOath (T : Nat) (st : px_S) (x0 : Int32) : px_O (2, 0, 0, px_n T, m_X1_savingOath) (px_g0 (HP T st)) (f_X1_savingOath T st x0) 0 [some (.ref 11), some (.int x0), none, none] [] (HP T st) 0 0 := by
  rw [f_X1_savingOath]
  refine o_aload_n dX1_savingOath_0 rfl ?_
  refine h_get (v := .ref 12) dX1_savingOath_1 q1 fl_X1_12 (by decide) (px_lt (by decide)) (c11 _) rfl ?_
  refine h_get (v := .ref 16) dX1_savingOath_4 q0 fl_X1_132 (by decide) (px_ltH 0 (by decide) (Or.inr (Or.inr rfl))) (cH (Or.inr (Or.inr rfl)) _) rfl ?_
  refine o_iload_n dX1_savingOath_7 rfl ?_
  refine h_iald (n := 7) dX1_savingOath_8 (px_lt (by decide)) (c16 _) (fun u7 => ?_)
  refine o_istore_n (L' := [some (.ref 11), some (.int x0), some (.int (st 16 x0.toNatClampNeg)), none]) dX1_savingOath_9 (Nat.le_of_ble_eq_true rfl) rfl rfl ?_
  refine o_iconst (v := 0) dX1_savingOath_10 (by decide) ?_
  refine o_istore_n (L' := [some (.ref 11), some (.int x0), some (.int (st 16 x0.toNatClampNeg)), some (.int 0)]) dX1_savingOath_11 (Nat.le_of_ble_eq_true rfl) rfl rfl ?_
  exact (t_X1_savingOath_12 T st 1000 x0 (st 16 x0.toNatClampNeg) 0)
theorem k_X1_savingOath_o {T : Nat} {st : px_S} {x0 : Int32} {b : Int32} (hf : f_X1_savingOath T st x0 = some b) : px_K (2) 0 0 m_X1_savingOath [.ref 11, .int x0] (HP T st) (some (.int b)) (HP T st) := px_KofH (g := px_g0 (HP T st)) hf mf_X1_savingOath (Nat.le_of_ble_eq_true rfl) rfl (t_X1_savingOath T st x0)
theorem k_X1_savingOath {T : Nat} {st : px_S} {x0 : Int32} {b : Int32} (hf : f_X1_savingOath T st x0 = some b) : px_K (2) 0 0 m_X1_savingOath [.ref 11, .int x0] (HP T st) (some (.int b)) (HP T st) := k_X1_savingOath_o hf
/-! ThreeOfThem$Judge.isFreePair(I)Z: R, depth 2 -/
def f_X1_isFreePair (T : Nat) (st : px_S) (x0 : Int32) : Option (Int32) := (if (x0 / 7) < (x0 - x0 / 7 * 7) then ((f_X1_isLookedPair T st (x0 / 7) (x0 - x0 / 7 * 7)).bind fun b2 => (if b2 = 0 then (some 0) else (if px_in (x0 / 7) 7 then (if (p_X5_has (st 16 (x0 / 7).toNatClampNeg) (x0 - x0 / 7 * 7)) = 0 then (some 1) else (some 0)) else none))) else (some 0))
set_option maxRecDepth 20000 in
theorem t_X1_isFreePair (T : Nat) (st : px_S) (x0 : Int32) : px_O (2, 0, 0, px_n T, m_X1_isFreePair) (px_g0 (HP T st)) (f_X1_isFreePair T st x0) 0 [some (.ref 11), some (.int x0), none, none] [] (HP T st) 0 0 := by
  rw [f_X1_isFreePair]
  refine o_iload_n dX1_isFreePair_0 rfl ?_
  refine o_bipush (v := 7) dX1_isFreePair_1 (by decide) ?_
  refine o_idiv dX1_isFreePair_3 (by decide) ?_
  refine o_istore_n (L' := [some (.ref 11), some (.int x0), some (.int (x0 / 7)), none]) dX1_isFreePair_4 (Nat.le_of_ble_eq_true rfl) rfl rfl ?_
  refine o_iload_n dX1_isFreePair_5 rfl ?_
  refine o_bipush (v := 7) dX1_isFreePair_6 (by decide) ?_
  refine o_irem dX1_isFreePair_8 (by decide) ?_
  refine o_istore_n (L' := [some (.ref 11), some (.int x0), some (.int (x0 / 7)), some (.int (x0 - x0 / 7 * 7))]) dX1_isFreePair_9 (Nat.le_of_ble_eq_true rfl) rfl rfl ?_
  refine o_iload_n dX1_isFreePair_10 rfl ?_
  refine o_iload_n dX1_isFreePair_11 rfl ?_
  refine o_icmpge (tgt := 44) dX1_isFreePair_12 (by decide) (fun u1 => ?_) (fun u1 => ?_)
  · refine o_iconst (v := 0) dX1_isFreePair_44 (by decide) ?_
    exact o_iret (rt := .boolean) rfl rfl dX1_isFreePair_45 rfl (Nat.zero_le _) (Nat.zero_le _)
  · refine o_aload_n dX1_isFreePair_15 rfl ?_
    refine o_iload_n dX1_isFreePair_16 rfl ?_
    refine o_iload_n dX1_isFreePair_17 rfl ?_
    refine h_cV0 (as := [.int (x0 / 7), .int (x0 - x0 / 7 * 7)]) (S1 := []) (d' := 1) dX1_isFreePair_18 mf_X1_isLookedPair ml_X1_116 mv_X1_isLookedPair q1 rfl (hp_at (px_lt (by decide)) (c11 _)) rfl (Nat.le_of_ble_eq_true rfl) rfl (Nat.le_of_ble_eq_true rfl) ⟨Nat.zero_le _, Nat.zero_le _⟩ (fun b hb => k_X1_isLookedPair hb) (fun b2 hb2 => ?_)
    refine o_ifeq (tgt := 44) dX1_isFreePair_21 (by decide) (fun u3 => ?_) (fun u3 => ?_)
    · refine o_iconst (v := 0) dX1_isFreePair_44 (by decide) ?_
      exact o_iret (rt := .boolean) rfl rfl dX1_isFreePair_45 rfl (Nat.zero_le _) (Nat.zero_le _)
    · refine o_aload_n dX1_isFreePair_24 rfl ?_
      refine h_get (v := .ref 12) dX1_isFreePair_25 q1 fl_X1_12 (by decide) (px_lt (by decide)) (c11 _) rfl ?_
      refine h_get (v := .ref 16) dX1_isFreePair_28 q0 fl_X1_132 (by decide) (px_ltH 0 (by decide) (Or.inr (Or.inr rfl))) (cH (Or.inr (Or.inr rfl)) _) rfl ?_
      refine o_iload_n dX1_isFreePair_31 rfl ?_
      refine h_iald (n := 7) dX1_isFreePair_32 (px_lt (by decide)) (c16 _) (fun u4 => ?_)
      refine o_iload_n dX1_isFreePair_33 rfl ?_
      refine h_cNP (as := [.int (st 16 (x0 / 7).toNatClampNeg), .int (x0 - x0 / 7 * 7)]) (S1 := []) (d' := 0) dX1_isFreePair_34 mf_X5_has ml_X1_91 ms_X5_has rfl (Nat.le_of_ble_eq_true rfl) rfl (Nat.le_of_ble_eq_true rfl) ⟨Nat.zero_le _, Nat.zero_le _⟩ (k_X5_has) ?_
      refine o_ifne (tgt := 44) dX1_isFreePair_37 (by decide) (fun u5 => ?_) (fun u5 => ?_)
      · refine o_iconst (v := 0) dX1_isFreePair_44 (by decide) ?_
        exact o_iret (rt := .boolean) rfl rfl dX1_isFreePair_45 rfl (Nat.zero_le _) (Nat.zero_le _)
      · refine o_iconst (v := 1) dX1_isFreePair_40 (by decide) ?_
        refine o_goto (tgt := 45) dX1_isFreePair_41 (by decide) ?_
        exact o_iret (rt := .boolean) rfl rfl dX1_isFreePair_45 rfl (Nat.zero_le _) (Nat.zero_le _)
theorem k_X1_isFreePair_o {T : Nat} {st : px_S} {x0 : Int32} {b : Int32} (hf : f_X1_isFreePair T st x0 = some b) : px_K (2) 0 0 m_X1_isFreePair [.ref 11, .int x0] (HP T st) (some (.int b)) (HP T st) := px_KofH (g := px_g0 (HP T st)) hf mf_X1_isFreePair (Nat.le_of_ble_eq_true rfl) rfl (t_X1_isFreePair T st x0)
theorem k_X1_isFreePair {T : Nat} {st : px_S} {x0 : Int32} {b : Int32} (hf : f_X1_isFreePair T st x0 = some b) : px_K (2) 0 0 m_X1_isFreePair [.ref 11, .int x0] (HP T st) (some (.int b)) (HP T st) := k_X1_isFreePair_o hf
/-! ThreeOfThem$Judge.bindPair(IZ)V: S, depth 2 -/
def f_X1_bindPair (T : Nat) (x0 : Int32) (x1 : Int32) (st : px_S) : Option (px_S) := ((f_X0_bind T 12 (x0 / 7) (x0 - x0 / 7 * 7) x1 st).bind fun b1 => (some b1))
set_option maxRecDepth 20000 in
theorem t_X1_bindPair (T : Nat) (x0 : Int32) (x1 : Int32) (st : px_S) : px_O (2, 0, 0, px_n T, m_X1_bindPair) (px_gv T) (f_X1_bindPair T x0 x1 st) 0 [some (.ref 11), some (.int x0), some (.int x1)] [] (HP T st) 0 0 := by
  rw [f_X1_bindPair]
  refine o_aload_n dX1_bindPair_0 rfl ?_
  refine h_get (v := .ref 12) dX1_bindPair_1 q1 fl_X1_12 (by decide) (px_lt (by decide)) (c11 _) rfl ?_
  refine o_iload_n dX1_bindPair_4 rfl ?_
  refine o_bipush (v := 7) dX1_bindPair_5 (by decide) ?_
  refine o_idiv dX1_bindPair_7 (by decide) ?_
  refine o_iload_n dX1_bindPair_8 rfl ?_
  refine o_bipush (v := 7) dX1_bindPair_9 (by decide) ?_
  refine o_irem dX1_bindPair_11 (by decide) ?_
  refine o_iload_n dX1_bindPair_12 rfl ?_
  refine h_cVv (as := [.int (x0 / 7), .int (x0 - x0 / 7 * 7), .int x1]) (S1 := []) (d' := 1) dX1_bindPair_13 mf_X0_bind ml_X1_206 mv_X0_bind q0 rfl (hp_at (px_ltH 0 (by decide) (Or.inr (Or.inr rfl))) (cH (Or.inr (Or.inr rfl)) _)) rfl (Nat.le_of_ble_eq_true rfl) rfl (Nat.le_of_ble_eq_true rfl) (fun b hb => k_X0_bind (Or.inr (Or.inr rfl)) hb) (fun b1 hb1 => ?_)
  exact o_vret rfl dX1_bindPair_16 rfl (Nat.zero_le _) (Nat.zero_le _)
theorem k_X1_bindPair {T : Nat} {st : px_S} {x0 : Int32} {x1 : Int32} {b : px_S} (hf : f_X1_bindPair T x0 x1 st = some b) : px_K (2) 0 0 m_X1_bindPair [.ref 11, .int x0, .int x1] (HP T st) ((px_gv T) b).1 ((px_gv T) b).2 := px_KofH hf mf_X1_bindPair (Nat.le_of_ble_eq_true rfl) rfl (t_X1_bindPair T x0 x1 st)
/-! ThreeOfThem$Judge.findOath(II)Z: S, depth 4 -/
def f_X1_findOath_2 (T : Nat) : Nat → Int32 → Int32 → px_S → Option (Int32 × px_S)
  | 0, _, _, _ => none
  | n + 1, y1, y3, st => (if y3 < 49 then ((f_X1_isFreePair T st y3).bind fun b2 => (if b2 = 0 then ((f_X1_findOath_2 T n) y1 (y3 + 1) st) else ((f_X1_bindPair T y3 1 st).bind fun b4 => ((f_X1_atRest T b4).bind fun b5 => ((f_X1_bindPair T y3 0 b4).bind fun b6 => (if b5 = 0 then ((f_X1_findOath_2 T n) y1 (y3 + 1) b6) else (if px_in y1 3 then (some (1, (up (up b6 29 0 y1) 29 y1.toNatClampNeg (p_X1_pairName y3)))) else none))))))) else (some (0, st)))
set_option maxRecDepth 20000 in
theorem t_X1_findOath_2 (T : Nat) : ∀ (n : Nat) (y1 : Int32) (y3 : Int32) (st : px_S), px_O (4, 0, 0, px_n T, m_X1_findOath) (px_gi T) (f_X1_findOath_2 T n y1 y3 st) 2 [some (.ref 11), some (.int y1), none, some (.int y3), none] [] (HP T st) 0 0 := by
  intro n
  induction n with
  | zero => intro y1 y3 st; rw [f_X1_findOath_2]; exact o_none
  | succ n ih =>
    intro y1 y3 st
    rw [f_X1_findOath_2]
    refine o_iload_n dX1_findOath_2 rfl ?_
    refine o_bipush (v := 49) dX1_findOath_3 (by decide) ?_
    refine o_icmpge (tgt := 64) dX1_findOath_5 (by decide) (fun u1 => ?_) (fun u1 => ?_)
    · refine o_iconst (v := 0) dX1_findOath_64 (by decide) ?_
      exact o_iret (rt := .boolean) rfl rfl dX1_findOath_65 rfl (Nat.zero_le _) (Nat.zero_le _)
    · refine o_aload_n dX1_findOath_8 rfl ?_
      refine o_iload_n dX1_findOath_9 rfl ?_
      refine h_cV0 (as := [.int y3]) (S1 := []) (d' := 2) dX1_findOath_10 mf_X1_isFreePair ml_X1_196 mv_X1_isFreePair q1 rfl (hp_at (px_lt (by decide)) (c11 _)) rfl (Nat.le_of_ble_eq_true rfl) rfl (Nat.le_of_ble_eq_true rfl) ⟨Nat.zero_le _, Nat.zero_le _⟩ (fun b hb => k_X1_isFreePair hb) (fun b2 hb2 => ?_)
      refine o_ifeq (tgt := 58) dX1_findOath_13 (by decide) (fun u3 => ?_) (fun u3 => ?_)
      · refine o_iinc (v := (y3 + 1)) (L' := [some (.ref 11), some (.int y1), none, some (.int (y3 + 1)), none]) dX1_findOath_58 rfl rfl (Nat.le_of_ble_eq_true rfl) rfl rfl ?_
        refine o_goto (tgt := 2) dX1_findOath_61 (by decide) ?_
        exact (ih y1 (y3 + 1) st)
      · refine o_aload_n dX1_findOath_16 rfl ?_
        refine o_iload_n dX1_findOath_17 rfl ?_
        refine o_iconst (v := 1) dX1_findOath_18 (by decide) ?_
        refine h_cVv (as := [.int y3, .int 1]) (S1 := []) (d' := 2) dX1_findOath_19 mf_X1_bindPair ml_X1_199 mv_X1_bindPair q1 rfl (hp_at (px_lt (by decide)) (c11 _)) rfl (Nat.le_of_ble_eq_true rfl) rfl (Nat.le_of_ble_eq_true rfl) (fun b hb => k_X1_bindPair hb) (fun b4 hb4 => ?_)
        refine o_aload_n dX1_findOath_22 rfl ?_
        refine h_cV0 (as := []) (S1 := []) (d' := 3) dX1_findOath_23 mf_X1_atRest ml_X1_186 mv_X1_atRest q1 rfl (hp_at (px_lt (by decide)) (c11 _)) rfl (Nat.le_of_ble_eq_true rfl) rfl (Nat.le_of_ble_eq_true rfl) ⟨Nat.zero_le _, Nat.zero_le _⟩ (fun b hb => k_X1_atRest hb) (fun b5 hb5 => ?_)
        refine o_istore (L' := [some (.ref 11), some (.int y1), none, some (.int y3), some (.int b5)]) dX1_findOath_26 (Nat.le_of_ble_eq_true rfl) rfl rfl ?_
        refine o_aload_n dX1_findOath_28 rfl ?_
        refine o_iload_n dX1_findOath_29 rfl ?_
        refine o_iconst (v := 0) dX1_findOath_30 (by decide) ?_
        refine h_cVv (as := [.int y3, .int 0]) (S1 := []) (d' := 2) dX1_findOath_31 mf_X1_bindPair ml_X1_199 mv_X1_bindPair q1 rfl (hp_at (px_lt (by decide)) (c11 _)) rfl (Nat.le_of_ble_eq_true rfl) rfl (Nat.le_of_ble_eq_true rfl) (fun b hb => k_X1_bindPair hb) (fun b6 hb6 => ?_)
        refine o_iload dX1_findOath_34 rfl ?_
        refine o_ifeq (tgt := 58) dX1_findOath_36 (by decide) (fun u7 => ?_) (fun u7 => ?_)
        · refine o_iinc (v := (y3 + 1)) (L' := [some (.ref 11), some (.int y1), none, some (.int (y3 + 1)), some (.int b5)]) dX1_findOath_58 rfl rfl (Nat.le_of_ble_eq_true rfl) rfl rfl ?_
          refine o_goto (tgt := 2) dX1_findOath_61 (by decide) ?_
          exact o_weak (L' := [some (.ref 11), some (.int y1), none, some (.int (y3 + 1)), none]) ⟨rfl, ⟨rfl, ⟨rfl, trivial⟩⟩⟩ (ih y1 (y3 + 1) b6)
        · refine o_aload_n dX1_findOath_39 rfl ?_
          refine h_get (v := .ref 29) dX1_findOath_40 q1 fl_X1_58 (by decide) (px_lt (by decide)) (c11 _) rfl ?_
          refine o_iconst (v := 0) dX1_findOath_43 (by decide) ?_
          refine o_iload_n dX1_findOath_44 rfl ?_
          refine h_astc (j := 0) dX1_findOath_45 (px_lt (by decide)) c29 (by decide) rfl ?_
          refine o_aload_n dX1_findOath_46 rfl ?_
          refine h_get (v := .ref 29) dX1_findOath_47 q1 fl_X1_58 (by decide) (px_lt (by decide)) (c11 _) rfl ?_
          refine o_iload_n dX1_findOath_50 rfl ?_
          refine o_iload_n dX1_findOath_51 rfl ?_
          refine h_cSP (as := [.int y3]) (S1 := [.int y1, .ref 29]) (d' := 0) dX1_findOath_52 mf_X1_pairName ml_X1_203 ms_X1_pairName rfl (Nat.le_of_ble_eq_true rfl) rfl (Nat.le_of_ble_eq_true rfl) ⟨Nat.zero_le _, Nat.zero_le _⟩ (k_X1_pairName) ?_
          refine h_iast (n := 3) dX1_findOath_55 (px_lt (by decide)) c29 (fun u8 => ?_)
          refine o_iconst (v := 1) dX1_findOath_56 (by decide) ?_
          exact o_iret (rt := .boolean) rfl rfl dX1_findOath_57 rfl (Nat.zero_le _) (Nat.zero_le _)
def f_X1_findOath (T : Nat) (x0 : Int32) (x1 : Int32) (st : px_S) : Option (Int32 × px_S) := (f_X1_findOath_2 T 1000 x0 x1 st)
set_option maxRecDepth 20000 in
theorem t_X1_findOath (T : Nat) (x0 : Int32) (x1 : Int32) (st : px_S) : px_O (4, 0, 0, px_n T, m_X1_findOath) (px_gi T) (f_X1_findOath T x0 x1 st) 0 [some (.ref 11), some (.int x0), some (.int x1), none, none] [] (HP T st) 0 0 := by
  rw [f_X1_findOath]
  refine o_iload_n dX1_findOath_0 rfl ?_
  refine o_istore_n (L' := [some (.ref 11), some (.int x0), some (.int x1), some (.int x1), none]) dX1_findOath_1 (Nat.le_of_ble_eq_true rfl) rfl rfl ?_
  exact o_weak (L' := [some (.ref 11), some (.int x0), none, some (.int x1), none]) ⟨rfl, ⟨rfl, ⟨rfl, trivial⟩⟩⟩ (t_X1_findOath_2 T 1000 x0 x1 st)
theorem k_X1_findOath {T : Nat} {st : px_S} {x0 : Int32} {x1 : Int32} {b : Int32 × px_S} (hf : f_X1_findOath T x0 x1 st = some b) : px_K (4) 0 0 m_X1_findOath [.ref 11, .int x0, .int x1] (HP T st) ((px_gi T) b).1 ((px_gi T) b).2 := px_KofH hf mf_X1_findOath (Nat.le_of_ble_eq_true rfl) rfl (t_X1_findOath T x0 x1 st)
/-! ThreeOfThem$Judge.findTwoOaths()V: S, depth 5 -/
def f_X1_findTwoOaths_2 (T : Nat) : Nat → Int32 → px_S → Option (px_S)
  | 0, _, _ => none
  | n + 1, y1, st => (if y1 < 49 then ((f_X1_isFreePair T st y1).bind fun b2 => (if b2 = 0 then ((f_X1_findTwoOaths_2 T n) (y1 + 1) st) else ((f_X1_bindPair T y1 1 st).bind fun b4 => ((f_X1_findOath T 2 (y1 + 1) b4).bind fun b5 => ((f_X1_bindPair T y1 0 b5.2).bind fun b6 => (if b5.1 = 0 then ((f_X1_findTwoOaths_2 T n) (y1 + 1) b6) else (some (up b6 29 1 (p_X1_pairName y1))))))))) else (some st))
set_option maxRecDepth 20000 in
theorem t_X1_findTwoOaths_2 (T : Nat) : ∀ (n : Nat) (y1 : Int32) (st : px_S), px_O (5, 0, 0, px_n T, m_X1_findTwoOaths) (px_gv T) (f_X1_findTwoOaths_2 T n y1 st) 2 [some (.ref 11), some (.int y1), none] [] (HP T st) 0 0 := by
  intro n
  induction n with
  | zero => intro y1 st; rw [f_X1_findTwoOaths_2]; exact o_none
  | succ n ih =>
    intro y1 st
    rw [f_X1_findTwoOaths_2]
    refine o_iload_n dX1_findTwoOaths_2 rfl ?_
    refine o_bipush (v := 49) dX1_findTwoOaths_3 (by decide) ?_
    refine o_icmpge (tgt := 58) dX1_findTwoOaths_5 (by decide) (fun u1 => ?_) (fun u1 => ?_)
    · exact o_vret rfl dX1_findTwoOaths_58 rfl (Nat.zero_le _) (Nat.zero_le _)
    · refine o_aload_n dX1_findTwoOaths_8 rfl ?_
      refine o_iload_n dX1_findTwoOaths_9 rfl ?_
      refine h_cV0 (as := [.int y1]) (S1 := []) (d' := 2) dX1_findTwoOaths_10 mf_X1_isFreePair ml_X1_196 mv_X1_isFreePair q1 rfl (hp_at (px_lt (by decide)) (c11 _)) rfl (Nat.le_of_ble_eq_true rfl) rfl (Nat.le_of_ble_eq_true rfl) ⟨Nat.zero_le _, Nat.zero_le _⟩ (fun b hb => k_X1_isFreePair hb) (fun b2 hb2 => ?_)
      refine o_ifeq (tgt := 52) dX1_findTwoOaths_13 (by decide) (fun u3 => ?_) (fun u3 => ?_)
      · refine o_iinc (v := (y1 + 1)) (L' := [some (.ref 11), some (.int (y1 + 1)), none]) dX1_findTwoOaths_52 rfl rfl (Nat.le_of_ble_eq_true rfl) rfl rfl ?_
        refine o_goto (tgt := 2) dX1_findTwoOaths_55 (by decide) ?_
        exact (ih (y1 + 1) st)
      · refine o_aload_n dX1_findTwoOaths_16 rfl ?_
        refine o_iload_n dX1_findTwoOaths_17 rfl ?_
        refine o_iconst (v := 1) dX1_findTwoOaths_18 (by decide) ?_
        refine h_cVv (as := [.int y1, .int 1]) (S1 := []) (d' := 2) dX1_findTwoOaths_19 mf_X1_bindPair ml_X1_199 mv_X1_bindPair q1 rfl (hp_at (px_lt (by decide)) (c11 _)) rfl (Nat.le_of_ble_eq_true rfl) rfl (Nat.le_of_ble_eq_true rfl) (fun b hb => k_X1_bindPair hb) (fun b4 hb4 => ?_)
        refine o_aload_n dX1_findTwoOaths_22 rfl ?_
        refine o_iconst (v := 2) dX1_findTwoOaths_23 (by decide) ?_
        refine o_iload_n dX1_findTwoOaths_24 rfl ?_
        refine o_iconst (v := 1) dX1_findTwoOaths_25 (by decide) ?_
        refine o_iadd dX1_findTwoOaths_26 ?_
        refine h_cVi (as := [.int 2, .int (y1 + 1)]) (S1 := []) (d' := 4) dX1_findTwoOaths_27 mf_X1_findOath ml_X1_190 mv_X1_findOath q1 rfl (hp_at (px_lt (by decide)) (c11 _)) rfl (Nat.le_of_ble_eq_true rfl) rfl (Nat.le_of_ble_eq_true rfl) (fun b hb => k_X1_findOath hb) (fun b5 hb5 => ?_)
        refine o_istore_n (L' := [some (.ref 11), some (.int y1), some (.int b5.1)]) dX1_findTwoOaths_30 (Nat.le_of_ble_eq_true rfl) rfl rfl ?_
        refine o_aload_n dX1_findTwoOaths_31 rfl ?_
        refine o_iload_n dX1_findTwoOaths_32 rfl ?_
        refine o_iconst (v := 0) dX1_findTwoOaths_33 (by decide) ?_
        refine h_cVv (as := [.int y1, .int 0]) (S1 := []) (d' := 2) dX1_findTwoOaths_34 mf_X1_bindPair ml_X1_199 mv_X1_bindPair q1 rfl (hp_at (px_lt (by decide)) (c11 _)) rfl (Nat.le_of_ble_eq_true rfl) rfl (Nat.le_of_ble_eq_true rfl) (fun b hb => k_X1_bindPair hb) (fun b6 hb6 => ?_)
        refine o_iload_n dX1_findTwoOaths_37 rfl ?_
        refine o_ifeq (tgt := 52) dX1_findTwoOaths_38 (by decide) (fun u7 => ?_) (fun u7 => ?_)
        · refine o_iinc (v := (y1 + 1)) (L' := [some (.ref 11), some (.int (y1 + 1)), some (.int b5.1)]) dX1_findTwoOaths_52 rfl rfl (Nat.le_of_ble_eq_true rfl) rfl rfl ?_
          refine o_goto (tgt := 2) dX1_findTwoOaths_55 (by decide) ?_
          exact o_weak (L' := [some (.ref 11), some (.int (y1 + 1)), none]) ⟨rfl, ⟨rfl, trivial⟩⟩ (ih (y1 + 1) b6)
        · refine o_aload_n dX1_findTwoOaths_41 rfl ?_
          refine h_get (v := .ref 29) dX1_findTwoOaths_42 q1 fl_X1_58 (by decide) (px_lt (by decide)) (c11 _) rfl ?_
          refine o_iconst (v := 1) dX1_findTwoOaths_45 (by decide) ?_
          refine o_iload_n dX1_findTwoOaths_46 rfl ?_
          refine h_cSP (as := [.int y1]) (S1 := [.int 1, .ref 29]) (d' := 0) dX1_findTwoOaths_47 mf_X1_pairName ml_X1_203 ms_X1_pairName rfl (Nat.le_of_ble_eq_true rfl) rfl (Nat.le_of_ble_eq_true rfl) ⟨Nat.zero_le _, Nat.zero_le _⟩ (k_X1_pairName) ?_
          refine h_astc (j := 1) dX1_findTwoOaths_50 (px_lt (by decide)) c29 (by decide) rfl ?_
          exact o_vret rfl dX1_findTwoOaths_51 rfl (Nat.zero_le _) (Nat.zero_le _)
def f_X1_findTwoOaths (T : Nat) (st : px_S) : Option (px_S) := (f_X1_findTwoOaths_2 T 1000 0 st)
set_option maxRecDepth 20000 in
theorem t_X1_findTwoOaths (T : Nat) (st : px_S) : px_O (5, 0, 0, px_n T, m_X1_findTwoOaths) (px_gv T) (f_X1_findTwoOaths T st) 0 [some (.ref 11), none, none] [] (HP T st) 0 0 := by
  rw [f_X1_findTwoOaths]
  refine o_iconst (v := 0) dX1_findTwoOaths_0 (by decide) ?_
  refine o_istore_n (L' := [some (.ref 11), some (.int 0), none]) dX1_findTwoOaths_1 (Nat.le_of_ble_eq_true rfl) rfl rfl ?_
  exact (t_X1_findTwoOaths_2 T 1000 0 st)
theorem k_X1_findTwoOaths {T : Nat} {st : px_S} {b : px_S} (hf : f_X1_findTwoOaths T st = some b) : px_K (5) 0 0 m_X1_findTwoOaths [.ref 11] (HP T st) ((px_gv T) b).1 ((px_gv T) b).2 := px_KofH hf mf_X1_findTwoOaths (Nat.le_of_ble_eq_true rfl) rfl (t_X1_findTwoOaths T st)
/-! ThreeOfThem$Judge.findOaths()V: S, depth 6 -/
def f_X1_findOaths (T : Nat) (st : px_S) : Option (px_S) := ((f_X1_atRest T (up (up (up st 29 0 (-1)) 29 1 (-1)) 29 2 (-1))).bind fun b1 => (if b1 = 0 then ((f_X1_findOath T 1 0 (up (up (up st 29 0 (-1)) 29 1 (-1)) 29 2 (-1))).bind fun b3 => (if b3.1 = 0 then ((f_X1_findTwoOaths T b3.2).bind fun b5 => (some b5)) else (some b3.2))) else (some (up (up (up (up st 29 0 (-1)) 29 1 (-1)) 29 2 (-1)) 29 0 0))))
set_option maxRecDepth 20000 in
theorem t_X1_findOaths (T : Nat) (st : px_S) : px_O (6, 0, 0, px_n T, m_X1_findOaths) (px_gv T) (f_X1_findOaths T st) 0 [some (.ref 11)] [] (HP T st) 0 0 := by
  rw [f_X1_findOaths]
  refine o_aload_n dX1_findOaths_0 rfl ?_
  refine h_get (v := .ref 29) dX1_findOaths_1 q1 fl_X1_58 (by decide) (px_lt (by decide)) (c11 _) rfl ?_
  refine o_iconst (v := 0) dX1_findOaths_4 (by decide) ?_
  refine o_iconst (v := (-1)) dX1_findOaths_5 (by decide) ?_
  refine h_astc (j := 0) dX1_findOaths_6 (px_lt (by decide)) c29 (by decide) rfl ?_
  refine o_aload_n dX1_findOaths_7 rfl ?_
  refine h_get (v := .ref 29) dX1_findOaths_8 q1 fl_X1_58 (by decide) (px_lt (by decide)) (c11 _) rfl ?_
  refine o_iconst (v := 1) dX1_findOaths_11 (by decide) ?_
  refine o_iconst (v := (-1)) dX1_findOaths_12 (by decide) ?_
  refine h_astc (j := 1) dX1_findOaths_13 (px_lt (by decide)) c29 (by decide) rfl ?_
  refine o_aload_n dX1_findOaths_14 rfl ?_
  refine h_get (v := .ref 29) dX1_findOaths_15 q1 fl_X1_58 (by decide) (px_lt (by decide)) (c11 _) rfl ?_
  refine o_iconst (v := 2) dX1_findOaths_18 (by decide) ?_
  refine o_iconst (v := (-1)) dX1_findOaths_19 (by decide) ?_
  refine h_astc (j := 2) dX1_findOaths_20 (px_lt (by decide)) c29 (by decide) rfl ?_
  refine o_aload_n dX1_findOaths_21 rfl ?_
  refine h_cV0 (as := []) (S1 := []) (d' := 3) dX1_findOaths_22 mf_X1_atRest ml_X1_186 mv_X1_atRest q1 rfl (hp_at (px_lt (by decide)) (c11 _)) rfl (Nat.le_of_ble_eq_true rfl) rfl (Nat.le_of_ble_eq_true rfl) ⟨Nat.zero_le _, Nat.zero_le _⟩ (fun b hb => k_X1_atRest hb) (fun b1 hb1 => ?_)
  refine o_ifeq (tgt := 36) dX1_findOaths_25 (by decide) (fun u2 => ?_) (fun u2 => ?_)
  · refine o_aload_n dX1_findOaths_36 rfl ?_
    refine o_iconst (v := 1) dX1_findOaths_37 (by decide) ?_
    refine o_iconst (v := 0) dX1_findOaths_38 (by decide) ?_
    refine h_cVi (as := [.int 1, .int 0]) (S1 := []) (d' := 4) dX1_findOaths_39 mf_X1_findOath ml_X1_190 mv_X1_findOath q1 rfl (hp_at (px_lt (by decide)) (c11 _)) rfl (Nat.le_of_ble_eq_true rfl) rfl (Nat.le_of_ble_eq_true rfl) (fun b hb => k_X1_findOath hb) (fun b3 hb3 => ?_)
    refine o_ifne (tgt := 49) dX1_findOaths_42 (by decide) (fun u4 => ?_) (fun u4 => ?_)
    · exact o_vret rfl dX1_findOaths_49 rfl (Nat.zero_le _) (Nat.zero_le _)
    · refine o_aload_n dX1_findOaths_45 rfl ?_
      refine h_cVv (as := []) (S1 := []) (d' := 5) dX1_findOaths_46 mf_X1_findTwoOaths ml_X1_193 mv_X1_findTwoOaths q1 rfl (hp_at (px_lt (by decide)) (c11 _)) rfl (Nat.le_of_ble_eq_true rfl) rfl (Nat.le_of_ble_eq_true rfl) (fun b hb => k_X1_findTwoOaths hb) (fun b5 hb5 => ?_)
      exact o_vret rfl dX1_findOaths_49 rfl (Nat.zero_le _) (Nat.zero_le _)
  · refine o_aload_n dX1_findOaths_28 rfl ?_
    refine h_get (v := .ref 29) dX1_findOaths_29 q1 fl_X1_58 (by decide) (px_lt (by decide)) (c11 _) rfl ?_
    refine o_iconst (v := 0) dX1_findOaths_32 (by decide) ?_
    refine o_iconst (v := 0) dX1_findOaths_33 (by decide) ?_
    refine h_astc (j := 0) dX1_findOaths_34 (px_lt (by decide)) c29 (by decide) rfl ?_
    exact o_vret rfl dX1_findOaths_35 rfl (Nat.zero_le _) (Nat.zero_le _)
theorem k_X1_findOaths {T : Nat} {st : px_S} {b : px_S} (hf : f_X1_findOaths T st = some b) : px_K (6) 0 0 m_X1_findOaths [.ref 11] (HP T st) ((px_gv T) b).1 ((px_gv T) b).2 := px_KofH hf mf_X1_findOaths (Nat.le_of_ble_eq_true rfl) rfl (t_X1_findOaths T st)
/-! ThreeOfThem$Judge.leastNeeded()I: S, depth 4 -/
def f_X1_leastNeeded_2 (T : Nat) : Nat → Int32 → px_S → Option (Int32 × px_S)
  | 0, _, _ => none
  | n + 1, y1, st => (if 5 < y1 then (some ((-1), st)) else ((f_X1_atRest T (up st 12 7 y1)).bind fun b2 => (if b2 = 0 then ((f_X1_leastNeeded_2 T n) (y1 + 1) (up st 12 7 y1)) else (some (y1, (up st 12 7 y1))))))
set_option maxRecDepth 20000 in
theorem t_X1_leastNeeded_2 (T : Nat) : ∀ (n : Nat) (y1 : Int32) (st : px_S), px_O (4, 0, 0, px_n T, m_X1_leastNeeded) (px_gi T) (f_X1_leastNeeded_2 T n y1 st) 2 [some (.ref 11), some (.int y1)] [] (HP T st) 0 0 := by
  intro n
  induction n with
  | zero => intro y1 st; rw [f_X1_leastNeeded_2]; exact o_none
  | succ n ih =>
    intro y1 st
    rw [f_X1_leastNeeded_2]
    refine o_iload_n dX1_leastNeeded_2 rfl ?_
    refine o_iconst (v := 5) dX1_leastNeeded_3 (by decide) ?_
    refine o_icmpgt (tgt := 30) dX1_leastNeeded_4 (by decide) (fun u1 => ?_) (fun u1 => ?_)
    · refine o_iconst (v := (-1)) dX1_leastNeeded_30 (by decide) ?_
      exact o_iret (rt := .int) rfl rfl dX1_leastNeeded_31 rfl (Nat.zero_le _) (Nat.zero_le _)
    · refine o_aload_n dX1_leastNeeded_7 rfl ?_
      refine h_get (v := .ref 12) dX1_leastNeeded_8 q1 fl_X1_12 (by decide) (px_lt (by decide)) (c11 _) rfl ?_
      refine o_iload_n dX1_leastNeeded_11 rfl ?_
      refine h_puti dX1_leastNeeded_12 q0 fl_X1_140 pf_X0_7 (px_ltH 0 (by decide) (Or.inr (Or.inr rfl))) (cH (Or.inr (Or.inr rfl)) _) (Nat.le_of_ble_eq_true rfl) (sH_7 (Or.inr (Or.inr rfl)) _ _) ?_
      refine o_aload_n dX1_leastNeeded_15 rfl ?_
      refine h_cV0 (as := []) (S1 := []) (d' := 3) dX1_leastNeeded_16 mf_X1_atRest ml_X1_186 mv_X1_atRest q1 rfl (hp_at (px_lt (by decide)) (c11 _)) rfl (Nat.le_of_ble_eq_true rfl) rfl (Nat.le_of_ble_eq_true rfl) ⟨Nat.zero_le _, Nat.zero_le _⟩ (fun b hb => k_X1_atRest hb) (fun b2 hb2 => ?_)
      refine o_ifeq (tgt := 24) dX1_leastNeeded_19 (by decide) (fun u3 => ?_) (fun u3 => ?_)
      · refine o_iinc (v := (y1 + 1)) (L' := [some (.ref 11), some (.int (y1 + 1))]) dX1_leastNeeded_24 rfl rfl (Nat.le_of_ble_eq_true rfl) rfl rfl ?_
        refine o_goto (tgt := 2) dX1_leastNeeded_27 (by decide) ?_
        exact (ih (y1 + 1) (up st 12 7 y1))
      · refine o_iload_n dX1_leastNeeded_22 rfl ?_
        exact o_iret (rt := .int) rfl rfl dX1_leastNeeded_23 rfl (Nat.zero_le _) (Nat.zero_le _)
def f_X1_leastNeeded (T : Nat) (st : px_S) : Option (Int32 × px_S) := (f_X1_leastNeeded_2 T 1000 2 st)
set_option maxRecDepth 20000 in
theorem t_X1_leastNeeded (T : Nat) (st : px_S) : px_O (4, 0, 0, px_n T, m_X1_leastNeeded) (px_gi T) (f_X1_leastNeeded T st) 0 [some (.ref 11), none] [] (HP T st) 0 0 := by
  rw [f_X1_leastNeeded]
  refine o_iconst (v := 2) dX1_leastNeeded_0 (by decide) ?_
  refine o_istore_n (L' := [some (.ref 11), some (.int 2)]) dX1_leastNeeded_1 (Nat.le_of_ble_eq_true rfl) rfl rfl ?_
  exact (t_X1_leastNeeded_2 T 1000 2 st)
theorem k_X1_leastNeeded {T : Nat} {st : px_S} {b : Int32 × px_S} (hf : f_X1_leastNeeded T st = some b) : px_K (4) 0 0 m_X1_leastNeeded [.ref 11] (HP T st) ((px_gi T) b).1 ((px_gi T) b).2 := px_KofH hf mf_X1_leastNeeded (Nat.le_of_ble_eq_true rfl) rfl (t_X1_leastNeeded T st)
/-! ThreeOfThem$Text.names(I)Z: R, depth 0 -/
def f_X4_names_11 (T : Nat) (st : px_S) (a : Nat) : Nat → Int32 → Int32 → Int32 → Option (Int32)
  | 0, _, _, _ => none
  | n + 1, y1, y3, y4 => (if y4 < y3 then (if px_in y4 (st (a + 1) 100000).toNatClampNeg then (if (st (a + 1) y4.toNatClampNeg) = y1 then (some 1) else ((f_X4_names_11 T st a n) y1 y3 (y4 + 1))) else none) else (some 0))
set_option maxRecDepth 20000 in
theorem t_X4_names_11 (T : Nat) (st : px_S) (a : Nat) (ha : px_isT T a) : ∀ (n : Nat) (y1 : Int32) (y3 : Int32) (y4 : Int32), px_O (0, 0, 0, px_n T, m_X4_names) (px_g0 (HP T st)) (f_X4_names_11 T st a n y1 y3 y4) 11 [none, some (.int y1), some (.ref (a + 1)), some (.int y3), some (.int y4), none] [] (HP T st) 0 0 := by
  intro n
  induction n with
  | zero => intro y1 y3 y4; rw [f_X4_names_11]; exact o_none
  | succ n ih =>
    intro y1 y3 y4
    rw [f_X4_names_11]
    refine o_iload dX4_names_11 rfl ?_
    refine o_iload_n dX4_names_13 rfl ?_
    refine o_icmpge (tgt := 37) dX4_names_14 (by decide) (fun u1 => ?_) (fun u1 => ?_)
    · refine o_iconst (v := 0) dX4_names_37 (by decide) ?_
      exact o_iret (rt := .boolean) rfl rfl dX4_names_38 rfl (Nat.zero_le _) (Nat.zero_le _)
    · refine o_aload_n dX4_names_17 rfl ?_
      refine o_iload dX4_names_18 rfl ?_
      refine h_iald (n := (st (a + 1) 100000).toNatClampNeg) dX4_names_20 (px_ltT 1 (by decide) ha) ((cT1 ha) _) (fun u2 => ?_)
      refine o_istore (L' := [none, some (.int y1), some (.ref (a + 1)), some (.int y3), some (.int y4), some (.int (st (a + 1) y4.toNatClampNeg))]) dX4_names_21 (Nat.le_of_ble_eq_true rfl) rfl rfl ?_
      refine o_iload dX4_names_23 rfl ?_
      refine o_iload_n dX4_names_25 rfl ?_
      refine o_icmpne (tgt := 31) dX4_names_26 (by decide) (fun u3 => ?_) (fun u3 => ?_)
      · refine o_iinc (v := (y4 + 1)) (L' := [none, some (.int y1), some (.ref (a + 1)), some (.int y3), some (.int (y4 + 1)), some (.int (st (a + 1) y4.toNatClampNeg))]) dX4_names_31 rfl rfl (Nat.le_of_ble_eq_true rfl) rfl rfl ?_
        refine o_goto (tgt := 11) dX4_names_34 (by decide) ?_
        exact o_weak (L' := [none, some (.int y1), some (.ref (a + 1)), some (.int y3), some (.int (y4 + 1)), none]) ⟨rfl, ⟨rfl, ⟨rfl, ⟨rfl, trivial⟩⟩⟩⟩ (ih y1 y3 (y4 + 1))
      · refine o_iconst (v := 1) dX4_names_29 (by decide) ?_
        exact o_iret (rt := .boolean) rfl rfl dX4_names_30 rfl (Nat.zero_le _) (Nat.zero_le _)
def f_X4_names (T : Nat) (st : px_S) (a : Nat) (x0 : Int32) : Option (Int32) := (f_X4_names_11 T st a 1000 x0 (Int32.ofNat (st (a + 1) 100000).toNatClampNeg) 0)
set_option maxRecDepth 20000 in
theorem t_X4_names (T : Nat) (st : px_S) (a : Nat) (ha : px_isT T a) (x0 : Int32) : px_O (0, 0, 0, px_n T, m_X4_names) (px_g0 (HP T st)) (f_X4_names T st a x0) 0 [some (.ref a), some (.int x0), none, none, none, none] [] (HP T st) 0 0 := by
  rw [f_X4_names]
  refine o_aload_n dX4_names_0 rfl ?_
  refine h_get (v := .ref (a + 1)) dX4_names_1 q4 fl_X4_9 (by decide) (px_ltT 0 (by decide) ha) (cT ha _) rfl ?_
  refine o_astore_n (L' := [some (.ref a), some (.int x0), some (.ref (a + 1)), none, none, none]) dX4_names_4 (Nat.le_of_ble_eq_true rfl) rfl rfl ?_
  refine o_aload_n dX4_names_5 rfl ?_
  refine h_alen (n := (st (a + 1) 100000).toNatClampNeg) (v := (Int32.ofNat (st (a + 1) 100000).toNatClampNeg)) dX4_names_6 (px_ltT 1 (by decide) ha) ((cT1 ha) _) rfl ?_
  refine o_istore_n (L' := [some (.ref a), some (.int x0), some (.ref (a + 1)), some (.int (Int32.ofNat (st (a + 1) 100000).toNatClampNeg)), none, none]) dX4_names_7 (Nat.le_of_ble_eq_true rfl) rfl rfl ?_
  refine o_iconst (v := 0) dX4_names_8 (by decide) ?_
  refine o_istore (L' := [some (.ref a), some (.int x0), some (.ref (a + 1)), some (.int (Int32.ofNat (st (a + 1) 100000).toNatClampNeg)), some (.int 0), none]) dX4_names_9 (Nat.le_of_ble_eq_true rfl) rfl rfl ?_
  exact o_weak (L' := [none, some (.int x0), some (.ref (a + 1)), some (.int (Int32.ofNat (st (a + 1) 100000).toNatClampNeg)), some (.int 0), none]) ⟨rfl, ⟨rfl, ⟨rfl, ⟨rfl, trivial⟩⟩⟩⟩ (t_X4_names_11 T st a ha 1000 x0 (Int32.ofNat (st (a + 1) 100000).toNatClampNeg) 0)
theorem k_X4_names_o {T : Nat} {st : px_S} {a : Nat} {x0 : Int32} {b : Int32} (ha : px_isT T a) (hf : f_X4_names T st a x0 = some b) : px_K (0) 0 0 m_X4_names [.ref a, .int x0] (HP T st) (some (.int b)) (HP T st) := px_KofH (g := px_g0 (HP T st)) hf mf_X4_names (Nat.le_of_ble_eq_true rfl) rfl (t_X4_names T st a ha x0)
theorem k_X4_names {T : Nat} {st : px_S} {a : Nat} {x0 : Int32} {b : Int32} (ha : px_isT T a) (hf : f_X4_names T st a x0 = some b) : px_K (0) 0 0 m_X4_names [.ref a, .int x0] (HP T st) (some (.int b)) (HP T st) := k_X4_names_o ha hf
/-! ThreeOfThem$Judge.leastRent()I: S, depth 8 -/
def f_X1_leastRent_35 (T : Nat) (k12 : Int32 → Int32 → px_S → Option (Int32 × px_S)) (y1 : Int32) (y2 : Int32) (st : px_S) : Option (Int32 × px_S) := ((f_X1_weigh T st).bind fun b1 => ((f_X1_atRest T b1).bind fun b2 => (if b2 = 0 then (some (y2, b1)) else (k12 y1 (y2 + 10) b1))))
set_option maxRecDepth 20000 in
theorem t_X1_leastRent_35 (T : Nat) (k12 : Int32 → Int32 → px_S → Option (Int32 × px_S)) (hk12 : ∀ (y1 : Int32) (y2 : Int32) (st : px_S), px_O (8, 0, 0, px_n T, m_X1_leastRent) (px_gi T) (k12 y1 y2 st) 12 [some (.ref 11), some (.int y1), some (.int y2)] [] (HP T st) 0 0) (y1 : Int32) (y2 : Int32) (st : px_S) : px_O (8, 0, 0, px_n T, m_X1_leastRent) (px_gi T) (f_X1_leastRent_35 T k12 y1 y2 st) 35 [some (.ref 11), some (.int y1), some (.int y2)] [] (HP T st) 0 0 := by
  rw [f_X1_leastRent_35]
  refine o_aload_n dX1_leastRent_35 rfl ?_
  refine h_cVv (as := []) (S1 := []) (d' := 7) dX1_leastRent_36 mf_X1_weigh ml_X1_108 mv_X1_weigh q1 rfl (hp_at (px_lt (by decide)) (c11 _)) rfl (Nat.le_of_ble_eq_true rfl) rfl (Nat.le_of_ble_eq_true rfl) (fun b hb => k_X1_weigh hb) (fun b1 hb1 => ?_)
  refine o_aload_n dX1_leastRent_39 rfl ?_
  refine h_cV0 (as := []) (S1 := []) (d' := 3) dX1_leastRent_40 mf_X1_atRest ml_X1_186 mv_X1_atRest q1 rfl (hp_at (px_lt (by decide)) (c11 _)) rfl (Nat.le_of_ble_eq_true rfl) rfl (Nat.le_of_ble_eq_true rfl) ⟨Nat.zero_le _, Nat.zero_le _⟩ (fun b hb => k_X1_atRest hb) (fun b2 hb2 => ?_)
  refine o_ifne (tgt := 48) dX1_leastRent_43 (by decide) (fun u3 => ?_) (fun u3 => ?_)
  · refine o_iinc (v := (y2 + 10)) (L' := [some (.ref 11), some (.int y1), some (.int (y2 + 10))]) dX1_leastRent_48 rfl rfl (Nat.le_of_ble_eq_true rfl) rfl rfl ?_
    refine o_goto (tgt := 12) dX1_leastRent_51 (by decide) ?_
    exact (hk12 y1 (y2 + 10) b1)
  · refine o_iload_n dX1_leastRent_46 rfl ?_
    exact o_iret (rt := .int) rfl rfl dX1_leastRent_47 rfl (Nat.zero_le _) (Nat.zero_le _)
def f_X1_leastRent_12 (T : Nat) : Nat → Int32 → Int32 → px_S → Option (Int32 × px_S)
  | 0, _, _, _ => none
  | n + 1, y1, y2, st => (if y2 < 1000 then (if y1 = 0 then (f_X1_leastRent_35 T (f_X1_leastRent_12 T n) y1 y2 (up st 12 6 y2)) else ((f_X1_compare T (up st 12 6 y2)).bind fun b6 => (f_X1_leastRent_35 T (f_X1_leastRent_12 T n) y1 y2 b6))) else (some ((-1), st)))
set_option maxRecDepth 20000 in
theorem t_X1_leastRent_12 (T : Nat) : ∀ (n : Nat) (y1 : Int32) (y2 : Int32) (st : px_S), px_O (8, 0, 0, px_n T, m_X1_leastRent) (px_gi T) (f_X1_leastRent_12 T n y1 y2 st) 12 [some (.ref 11), some (.int y1), some (.int y2)] [] (HP T st) 0 0 := by
  intro n
  induction n with
  | zero => intro y1 y2 st; rw [f_X1_leastRent_12]; exact o_none
  | succ n ih =>
    intro y1 y2 st
    rw [f_X1_leastRent_12]
    refine o_iload_n dX1_leastRent_12 rfl ?_
    refine o_sipush (v := 1000) dX1_leastRent_13 (by decide) ?_
    refine o_icmpge (tgt := 54) dX1_leastRent_16 (by decide) (fun u4 => ?_) (fun u4 => ?_)
    · refine o_iconst (v := (-1)) dX1_leastRent_54 (by decide) ?_
      exact o_iret (rt := .int) rfl rfl dX1_leastRent_55 rfl (Nat.zero_le _) (Nat.zero_le _)
    · refine o_aload_n dX1_leastRent_19 rfl ?_
      refine h_get (v := .ref 12) dX1_leastRent_20 q1 fl_X1_12 (by decide) (px_lt (by decide)) (c11 _) rfl ?_
      refine o_iload_n dX1_leastRent_23 rfl ?_
      refine h_puti dX1_leastRent_24 q0 fl_X1_213 pf_X0_6 (px_ltH 0 (by decide) (Or.inr (Or.inr rfl))) (cH (Or.inr (Or.inr rfl)) _) (Nat.le_of_ble_eq_true rfl) (sH_6 (Or.inr (Or.inr rfl)) _ _) ?_
      refine o_iload_n dX1_leastRent_27 rfl ?_
      refine o_ifeq (tgt := 35) dX1_leastRent_28 (by decide) (fun u5 => ?_) (fun u5 => ?_)
      · exact (t_X1_leastRent_35 T (f_X1_leastRent_12 T n) ih y1 y2 (up st 12 6 y2))
      · refine o_aload_n dX1_leastRent_31 rfl ?_
        refine h_cVv (as := []) (S1 := []) (d' := 7) dX1_leastRent_32 mf_X1_compare ml_X1_105 mv_X1_compare q1 rfl (hp_at (px_lt (by decide)) (c11 _)) rfl (Nat.le_of_ble_eq_true rfl) rfl (Nat.le_of_ble_eq_true rfl) (fun b hb => k_X1_compare hb) (fun b6 hb6 => ?_)
        exact (t_X1_leastRent_35 T (f_X1_leastRent_12 T n) ih y1 y2 b6)
def f_X1_leastRent (T : Nat) (st : px_S) : Option (Int32 × px_S) := (if px_isT T (st 11 1).toNatClampNeg then ((f_X4_names T st (st 11 1).toNatClampNeg (-3)).bind fun b8 => (f_X1_leastRent_12 T 1000 b8 0 st)) else none)
set_option maxRecDepth 20000 in
theorem t_X1_leastRent (T : Nat) (st : px_S) : px_O (8, 0, 0, px_n T, m_X1_leastRent) (px_gi T) (f_X1_leastRent T st) 0 [some (.ref 11), none, none] [] (HP T st) 0 0 := by
  rw [f_X1_leastRent]
  refine o_aload_n dX1_leastRent_0 rfl ?_
  refine h_get (v := .ref (st 11 1).toNatClampNeg) dX1_leastRent_1 q1 fl_X1_23 (by decide) (px_lt (by decide)) (c11 _) rfl ?_
  refine o_bipush (v := (-3)) dX1_leastRent_4 (by decide) ?_
  refine o_ite (fun u7 => ?_) (fun _ => o_none)
  refine h_cV0 (as := [.int (-3)]) (S1 := []) (d' := 0) dX1_leastRent_6 mf_X4_names ml_X1_210 mv_X4_names q4 rfl (hp_at (px_ltT 0 (by decide) u7) (cT u7 _)) rfl (Nat.le_of_ble_eq_true rfl) rfl (Nat.le_of_ble_eq_true rfl) ⟨Nat.zero_le _, Nat.zero_le _⟩ (fun b hb => k_X4_names u7 hb) (fun b8 hb8 => ?_)
  refine o_istore_n (L' := [some (.ref 11), some (.int b8), none]) dX1_leastRent_9 (Nat.le_of_ble_eq_true rfl) rfl rfl ?_
  refine o_iconst (v := 0) dX1_leastRent_10 (by decide) ?_
  refine o_istore_n (L' := [some (.ref 11), some (.int b8), some (.int 0)]) dX1_leastRent_11 (Nat.le_of_ble_eq_true rfl) rfl rfl ?_
  exact (t_X1_leastRent_12 T 1000 b8 0 st)
theorem k_X1_leastRent {T : Nat} {st : px_S} {b : Int32 × px_S} (hf : f_X1_leastRent T st = some b) : px_K (8) 0 0 m_X1_leastRent [.ref 11] (HP T st) ((px_gi T) b).1 ((px_gi T) b).2 := px_KofH hf mf_X1_leastRent (Nat.le_of_ble_eq_true rfl) rfl (t_X1_leastRent T st)
/-! ThreeOfThem$Judge.follow(LThreeOfThem$Sheet;)Z: S, depth 9 -/
def f_X1_follow_96 (T : Nat) (a0 : Nat) (k9 : Int32 → px_S → Option (Int32 × px_S)) (y2 : Int32) (y3 : Int32) (st : px_S) : Option (Int32 × px_S) := ((f_X0_leave T 12 y3 st).bind fun b1 => ((f_X0_passDay T 12 b1).bind fun b2 => (k9 (y2 + 1) b2)))
set_option maxRecDepth 20000 in
theorem t_X1_follow_96 (T : Nat) (a0 : Nat) (ha0 : px_isS a0) (k9 : Int32 → px_S → Option (Int32 × px_S)) (hk9 : ∀ (y2 : Int32) (st : px_S), px_O (9, 0, 0, px_n T, m_X1_follow) (px_gi T) (k9 y2 st) 9 [some (.ref 11), some (.ref a0), some (.int y2), none] [] (HP T st) 0 0) (y2 : Int32) (y3 : Int32) (st : px_S) : px_O (9, 0, 0, px_n T, m_X1_follow) (px_gi T) (f_X1_follow_96 T a0 k9 y2 y3 st) 96 [some (.ref 11), some (.ref a0), some (.int y2), some (.int y3)] [] (HP T st) 0 0 := by
  rw [f_X1_follow_96]
  refine o_aload_n dX1_follow_96 rfl ?_
  refine h_get (v := .ref 12) dX1_follow_97 q1 fl_X1_12 (by decide) (px_lt (by decide)) (c11 _) rfl ?_
  refine o_iload_n dX1_follow_100 rfl ?_
  refine h_cVv (as := [.int y3]) (S1 := []) (d' := 1) dX1_follow_101 mf_X0_leave ml_X1_170 mv_X0_leave q0 rfl (hp_at (px_ltH 0 (by decide) (Or.inr (Or.inr rfl))) (cH (Or.inr (Or.inr rfl)) _)) rfl (Nat.le_of_ble_eq_true rfl) rfl (Nat.le_of_ble_eq_true rfl) (fun b hb => k_X0_leave (Or.inr (Or.inr rfl)) hb) (fun b1 hb1 => ?_)
  refine o_aload_n dX1_follow_104 rfl ?_
  refine h_get (v := .ref 12) dX1_follow_105 q1 fl_X1_12 (by decide) (px_lt (by decide)) (c11 _) rfl ?_
  refine h_cVv (as := []) (S1 := []) (d' := 1) dX1_follow_108 mf_X0_passDay ml_X1_173 mv_X0_passDay q0 rfl (hp_at (px_ltH 0 (by decide) (Or.inr (Or.inr rfl))) (cH (Or.inr (Or.inr rfl)) _)) rfl (Nat.le_of_ble_eq_true rfl) rfl (Nat.le_of_ble_eq_true rfl) (fun b hb => k_X0_passDay (Or.inr (Or.inr rfl)) hb) (fun b2 hb2 => ?_)
  refine o_iinc (v := (y2 + 1)) (L' := [some (.ref 11), some (.ref a0), some (.int (y2 + 1)), some (.int y3)]) dX1_follow_111 rfl rfl (Nat.le_of_ble_eq_true rfl) rfl rfl ?_
  refine o_goto (tgt := 9) dX1_follow_114 (by decide) ?_
  exact o_weak (L' := [some (.ref 11), some (.ref a0), some (.int (y2 + 1)), none]) ⟨rfl, ⟨rfl, ⟨rfl, trivial⟩⟩⟩ (hk9 (y2 + 1) b2)
def f_X1_follow_9 (T : Nat) (a0 : Nat) : Nat → Int32 → px_S → Option (Int32 × px_S)
  | 0, _, _ => none
  | n + 1, y2, st => (if y2 < (st a0 2) then (if px_in y2 40 then ((f_X0_isIn T st 12 (st (a0 + 1) y2.toNatClampNeg)).bind fun b6 => (if b6 = 0 then (some (0, st)) else ((f_X1_lookAt T (st 12 5) st).bind fun b8 => ((f_X1_bandsAgainst T b8 (st (a0 + 1) y2.toNatClampNeg)).bind fun b9 => ((f_X1_firstBand T (up b8 30 0 b9) (st (a0 + 1) y2.toNatClampNeg)).bind fun b10 => (if ((up (up b8 30 0 b9) 30 1 b10) 30 0) = 0 then (if ((up (up b8 30 0 b9) 30 1 b10) 30 2) = (-1) then (f_X1_follow_96 T a0 (f_X1_follow_9 T a0 n) y2 (st (a0 + 1) y2.toNatClampNeg) (up (up (up b8 30 0 b9) 30 1 b10) 30 2 y2)) else (f_X1_follow_96 T a0 (f_X1_follow_9 T a0 n) y2 (st (a0 + 1) y2.toNatClampNeg) (up (up b8 30 0 b9) 30 1 b10))) else (f_X1_follow_96 T a0 (f_X1_follow_9 T a0 n) y2 (st (a0 + 1) y2.toNatClampNeg) (up (up b8 30 0 b9) 30 1 b10)))))))) else none) else (if 0 < (st a0 2) then (some (1, st)) else (some (0, st))))
set_option maxRecDepth 20000 in
theorem t_X1_follow_9 (T : Nat) (a0 : Nat) (ha0 : px_isS a0) : ∀ (n : Nat) (y2 : Int32) (st : px_S), px_O (9, 0, 0, px_n T, m_X1_follow) (px_gi T) (f_X1_follow_9 T a0 n y2 st) 9 [some (.ref 11), some (.ref a0), some (.int y2), none] [] (HP T st) 0 0 := by
  intro n
  induction n with
  | zero => intro y2 st; rw [f_X1_follow_9]; exact o_none
  | succ n ih =>
    intro y2 st
    rw [f_X1_follow_9]
    refine o_iload_n dX1_follow_9 rfl ?_
    refine o_aload_n dX1_follow_10 rfl ?_
    refine h_get (v := .int (st a0 2)) dX1_follow_11 q3 fl_X1_216 (by decide) (px_ltS 0 (by decide) ha0) (cS ha0 _) rfl ?_
    refine o_icmpge (tgt := 117) dX1_follow_14 (by decide) (fun u3 => ?_) (fun u3 => ?_)
    · refine o_aload_n dX1_follow_117 rfl ?_
      refine h_get (v := .int (st a0 2)) dX1_follow_118 q3 fl_X1_216 (by decide) (px_ltS 0 (by decide) ha0) (cS ha0 _) rfl ?_
      refine o_ifle (tgt := 128) dX1_follow_121 (by decide) (fun u4 => ?_) (fun u4 => ?_)
      · refine o_iconst (v := 0) dX1_follow_128 (by decide) ?_
        exact o_iret (rt := .boolean) rfl rfl dX1_follow_129 rfl (Nat.zero_le _) (Nat.zero_le _)
      · refine o_iconst (v := 1) dX1_follow_124 (by decide) ?_
        refine o_goto (tgt := 129) dX1_follow_125 (by decide) ?_
        exact o_iret (rt := .boolean) rfl rfl dX1_follow_129 rfl (Nat.zero_le _) (Nat.zero_le _)
    · refine o_aload_n dX1_follow_17 rfl ?_
      refine h_get (v := .ref (a0 + 1)) dX1_follow_18 q3 fl_X1_221 (by decide) (px_ltS 0 (by decide) ha0) (cS ha0 _) rfl ?_
      refine o_iload_n dX1_follow_21 rfl ?_
      refine h_iald (n := 40) dX1_follow_22 (px_ltS 1 (by decide) ha0) ((cS1 ha0) _) (fun u5 => ?_)
      refine o_istore_n (L' := [some (.ref 11), some (.ref a0), some (.int y2), some (.int (st (a0 + 1) y2.toNatClampNeg))]) dX1_follow_23 (Nat.le_of_ble_eq_true rfl) rfl rfl ?_
      refine o_aload_n dX1_follow_24 rfl ?_
      refine h_get (v := .ref 12) dX1_follow_25 q1 fl_X1_12 (by decide) (px_lt (by decide)) (c11 _) rfl ?_
      refine o_iload_n dX1_follow_28 rfl ?_
      refine h_cV0 (as := [.int (st (a0 + 1) y2.toNatClampNeg)]) (S1 := []) (d' := 1) dX1_follow_29 mf_X0_isIn ml_X1_224 mv_X0_isIn q0 rfl (hp_at (px_ltH 0 (by decide) (Or.inr (Or.inr rfl))) (cH (Or.inr (Or.inr rfl)) _)) rfl (Nat.le_of_ble_eq_true rfl) rfl (Nat.le_of_ble_eq_true rfl) ⟨Nat.zero_le _, Nat.zero_le _⟩ (fun b hb => k_X0_isIn (Or.inr (Or.inr rfl)) hb) (fun b6 hb6 => ?_)
      refine o_ifne (tgt := 37) dX1_follow_32 (by decide) (fun u7 => ?_) (fun u7 => ?_)
      · refine o_aload_n dX1_follow_37 rfl ?_
        refine o_aload_n dX1_follow_38 rfl ?_
        refine h_get (v := .ref 12) dX1_follow_39 q1 fl_X1_12 (by decide) (px_lt (by decide)) (c11 _) rfl ?_
        refine h_get (v := .int (st 12 5)) dX1_follow_42 q0 fl_X1_159 (by decide) (px_ltH 0 (by decide) (Or.inr (Or.inr rfl))) (cH (Or.inr (Or.inr rfl)) _) rfl ?_
        refine h_cVv (as := [.int (st 12 5)]) (S1 := []) (d' := 8) dX1_follow_45 mf_X1_lookAt ml_X1_162 mv_X1_lookAt q1 rfl (hp_at (px_lt (by decide)) (c11 _)) rfl (Nat.le_of_ble_eq_true rfl) rfl (Nat.le_of_ble_eq_true rfl) (fun b hb => k_X1_lookAt hb) (fun b8 hb8 => ?_)
        refine o_aload_n dX1_follow_48 rfl ?_
        refine h_get (v := .ref 30) dX1_follow_49 q1 fl_X1_61 (by decide) (px_lt (by decide)) (c11 _) rfl ?_
        refine o_iconst (v := 0) dX1_follow_52 (by decide) ?_
        refine o_aload_n dX1_follow_53 rfl ?_
        refine o_iload_n dX1_follow_54 rfl ?_
        refine h_cV0 (as := [.int (st (a0 + 1) y2.toNatClampNeg)]) (S1 := [.int 0, .ref 30]) (d' := 2) dX1_follow_55 mf_X1_bandsAgainst ml_X1_149 mv_X1_bandsAgainst q1 rfl (hp_at (px_lt (by decide)) (c11 _)) rfl (Nat.le_of_ble_eq_true rfl) rfl (Nat.le_of_ble_eq_true rfl) ⟨Nat.zero_le _, Nat.zero_le _⟩ (fun b hb => k_X1_bandsAgainst hb) (fun b9 hb9 => ?_)
        refine h_astc (j := 0) dX1_follow_58 (px_lt (by decide)) c30 (by decide) rfl ?_
        refine o_aload_n dX1_follow_59 rfl ?_
        refine h_get (v := .ref 30) dX1_follow_60 q1 fl_X1_61 (by decide) (px_lt (by decide)) (c11 _) rfl ?_
        refine o_iconst (v := 1) dX1_follow_63 (by decide) ?_
        refine o_aload_n dX1_follow_64 rfl ?_
        refine o_iload_n dX1_follow_65 rfl ?_
        refine h_cV0 (as := [.int (st (a0 + 1) y2.toNatClampNeg)]) (S1 := [.int 1, .ref 30]) (d' := 2) dX1_follow_66 mf_X1_firstBand ml_X1_152 mv_X1_firstBand q1 rfl (hp_at (px_lt (by decide)) (c11 _)) rfl (Nat.le_of_ble_eq_true rfl) rfl (Nat.le_of_ble_eq_true rfl) ⟨Nat.zero_le _, Nat.zero_le _⟩ (fun b hb => k_X1_firstBand hb) (fun b10 hb10 => ?_)
        refine h_astc (j := 1) dX1_follow_69 (px_lt (by decide)) c30 (by decide) rfl ?_
        refine o_aload_n dX1_follow_70 rfl ?_
        refine h_get (v := .ref 30) dX1_follow_71 q1 fl_X1_61 (by decide) (px_lt (by decide)) (c11 _) rfl ?_
        refine o_iconst (v := 0) dX1_follow_74 (by decide) ?_
        refine h_aldc (j := 0) dX1_follow_75 (px_lt (by decide)) (c30 _) (by decide) rfl ?_
        refine o_ifne (tgt := 96) dX1_follow_76 (by decide) (fun u11 => ?_) (fun u11 => ?_)
        · exact (t_X1_follow_96 T a0 ha0 (f_X1_follow_9 T a0 n) ih y2 (st (a0 + 1) y2.toNatClampNeg) (up (up b8 30 0 b9) 30 1 b10))
        · refine o_aload_n dX1_follow_79 rfl ?_
          refine h_get (v := .ref 30) dX1_follow_80 q1 fl_X1_61 (by decide) (px_lt (by decide)) (c11 _) rfl ?_
          refine o_iconst (v := 2) dX1_follow_83 (by decide) ?_
          refine h_aldc (j := 2) dX1_follow_84 (px_lt (by decide)) (c30 _) (by decide) rfl ?_
          refine o_iconst (v := (-1)) dX1_follow_85 (by decide) ?_
          refine o_icmpne (tgt := 96) dX1_follow_86 (by decide) (fun u12 => ?_) (fun u12 => ?_)
          · exact (t_X1_follow_96 T a0 ha0 (f_X1_follow_9 T a0 n) ih y2 (st (a0 + 1) y2.toNatClampNeg) (up (up b8 30 0 b9) 30 1 b10))
          · refine o_aload_n dX1_follow_89 rfl ?_
            refine h_get (v := .ref 30) dX1_follow_90 q1 fl_X1_61 (by decide) (px_lt (by decide)) (c11 _) rfl ?_
            refine o_iconst (v := 2) dX1_follow_93 (by decide) ?_
            refine o_iload_n dX1_follow_94 rfl ?_
            refine h_astc (j := 2) dX1_follow_95 (px_lt (by decide)) c30 (by decide) rfl ?_
            exact (t_X1_follow_96 T a0 ha0 (f_X1_follow_9 T a0 n) ih y2 (st (a0 + 1) y2.toNatClampNeg) (up (up (up b8 30 0 b9) 30 1 b10) 30 2 y2))
      · refine o_iconst (v := 0) dX1_follow_35 (by decide) ?_
        exact o_iret (rt := .boolean) rfl rfl dX1_follow_36 rfl (Nat.zero_le _) (Nat.zero_le _)
def f_X1_follow (T : Nat) (a0 : Nat) (st : px_S) : Option (Int32 × px_S) := (f_X1_follow_9 T a0 1000 0 (up st 30 2 (-1)))
set_option maxRecDepth 20000 in
theorem t_X1_follow (T : Nat) (a0 : Nat) (ha0 : px_isS a0) (st : px_S) : px_O (9, 0, 0, px_n T, m_X1_follow) (px_gi T) (f_X1_follow T a0 st) 0 [some (.ref 11), some (.ref a0), none, none] [] (HP T st) 0 0 := by
  rw [f_X1_follow]
  refine o_aload_n dX1_follow_0 rfl ?_
  refine h_get (v := .ref 30) dX1_follow_1 q1 fl_X1_61 (by decide) (px_lt (by decide)) (c11 _) rfl ?_
  refine o_iconst (v := 2) dX1_follow_4 (by decide) ?_
  refine o_iconst (v := (-1)) dX1_follow_5 (by decide) ?_
  refine h_astc (j := 2) dX1_follow_6 (px_lt (by decide)) c30 (by decide) rfl ?_
  refine o_iconst (v := 0) dX1_follow_7 (by decide) ?_
  refine o_istore_n (L' := [some (.ref 11), some (.ref a0), some (.int 0), none]) dX1_follow_8 (Nat.le_of_ble_eq_true rfl) rfl rfl ?_
  exact (t_X1_follow_9 T a0 ha0 1000 0 (up st 30 2 (-1)))
theorem k_X1_follow {T : Nat} {st : px_S} {a0 : Nat} {b : Int32 × px_S} (ha0 : px_isS a0) (hf : f_X1_follow T a0 st = some b) : px_K (9) 0 0 m_X1_follow [.ref 11, .ref a0] (HP T st) ((px_gi T) b).1 ((px_gi T) b).2 := px_KofH hf mf_X1_follow (Nat.le_of_ble_eq_true rfl) rfl (t_X1_follow T a0 ha0 st)
/-! ThreeOfThem$Judge.listMeetings()V: S, depth 1 -/
def f_X1_listMeetings_7 (T : Nat) : Nat → Int32 → px_S → Option (px_S)
  | 0, _, _ => none
  | n + 1, y1, st => (if y1 < 128 then (if (y1 &&& ((st 12 5) ^^^ (-1))) = 0 then (if (p_J6_bitCount_0f7a4 y1) = ((st 12 7) + 1) then (if (st 11 12) < 35 then (if px_in (st 11 12) 35 then ((f_X1_listMeetings_7 T n) (y1 + 1) (up (up st 27 (st 11 12).toNatClampNeg y1) 11 12 ((st 11 12) + 1))) else none) else ((f_X1_listMeetings_7 T n) (y1 + 1) st)) else ((f_X1_listMeetings_7 T n) (y1 + 1) st)) else ((f_X1_listMeetings_7 T n) (y1 + 1) st)) else (some st))
set_option maxRecDepth 20000 in
theorem t_X1_listMeetings_7 (T : Nat) : ∀ (n : Nat) (y1 : Int32) (st : px_S), px_O (1, 0, 0, px_n T, m_X1_listMeetings) (px_gv T) (f_X1_listMeetings_7 T n y1 st) 7 [some (.ref 11), some (.int y1)] [] (HP T st) 0 0 := by
  intro n
  induction n with
  | zero => intro y1 st; rw [f_X1_listMeetings_7]; exact o_none
  | succ n ih =>
    intro y1 st
    rw [f_X1_listMeetings_7]
    refine o_iload_n dX1_listMeetings_7 rfl ?_
    refine o_sipush (v := 128) dX1_listMeetings_8 (by decide) ?_
    refine o_icmpge (tgt := 79) dX1_listMeetings_11 (by decide) (fun u1 => ?_) (fun u1 => ?_)
    · exact o_vret rfl dX1_listMeetings_79 rfl (Nat.zero_le _) (Nat.zero_le _)
    · refine o_iload_n dX1_listMeetings_14 rfl ?_
      refine o_aload_n dX1_listMeetings_15 rfl ?_
      refine h_get (v := .ref 12) dX1_listMeetings_16 q1 fl_X1_12 (by decide) (px_lt (by decide)) (c11 _) rfl ?_
      refine h_get (v := .int (st 12 5)) dX1_listMeetings_19 q0 fl_X1_159 (by decide) (px_ltH 0 (by decide) (Or.inr (Or.inr rfl))) (cH (Or.inr (Or.inr rfl)) _) rfl ?_
      refine o_iconst (v := (-1)) dX1_listMeetings_22 (by decide) ?_
      refine o_ixor dX1_listMeetings_23 ?_
      refine o_iand dX1_listMeetings_24 ?_
      refine o_ifne (tgt := 73) dX1_listMeetings_25 (by decide) (fun u2 => ?_) (fun u2 => ?_)
      · refine o_iinc (v := (y1 + 1)) (L' := [some (.ref 11), some (.int (y1 + 1))]) dX1_listMeetings_73 rfl rfl (Nat.le_of_ble_eq_true rfl) rfl rfl ?_
        refine o_goto (tgt := 7) dX1_listMeetings_76 (by decide) ?_
        exact (ih (y1 + 1) st)
      · refine o_iload_n dX1_listMeetings_28 rfl ?_
        refine h_cSP (as := [.int y1]) (S1 := []) (d' := 0) dX1_listMeetings_29 mf_J6_bitCount_0f7a4 ml_X1_111 ms_J6_bitCount_0f7a4 rfl (Nat.le_of_ble_eq_true rfl) rfl (Nat.le_of_ble_eq_true rfl) ⟨Nat.zero_le _, Nat.zero_le _⟩ (k_J6_bitCount_0f7a4) ?_
        refine o_aload_n dX1_listMeetings_32 rfl ?_
        refine h_get (v := .ref 12) dX1_listMeetings_33 q1 fl_X1_12 (by decide) (px_lt (by decide)) (c11 _) rfl ?_
        refine h_get (v := .int (st 12 7)) dX1_listMeetings_36 q0 fl_X1_140 (by decide) (px_ltH 0 (by decide) (Or.inr (Or.inr rfl))) (cH (Or.inr (Or.inr rfl)) _) rfl ?_
        refine o_iconst (v := 1) dX1_listMeetings_39 (by decide) ?_
        refine o_iadd dX1_listMeetings_40 ?_
        refine o_icmpne (tgt := 73) dX1_listMeetings_41 (by decide) (fun u3 => ?_) (fun u3 => ?_)
        · refine o_iinc (v := (y1 + 1)) (L' := [some (.ref 11), some (.int (y1 + 1))]) dX1_listMeetings_73 rfl rfl (Nat.le_of_ble_eq_true rfl) rfl rfl ?_
          refine o_goto (tgt := 7) dX1_listMeetings_76 (by decide) ?_
          exact (ih (y1 + 1) st)
        · refine o_aload_n dX1_listMeetings_44 rfl ?_
          refine h_get (v := .int (st 11 12)) dX1_listMeetings_45 q1 fl_X1_230 (by decide) (px_lt (by decide)) (c11 _) rfl ?_
          refine o_bipush (v := 35) dX1_listMeetings_48 (by decide) ?_
          refine o_icmpge (tgt := 73) dX1_listMeetings_50 (by decide) (fun u4 => ?_) (fun u4 => ?_)
          · refine o_iinc (v := (y1 + 1)) (L' := [some (.ref 11), some (.int (y1 + 1))]) dX1_listMeetings_73 rfl rfl (Nat.le_of_ble_eq_true rfl) rfl rfl ?_
            refine o_goto (tgt := 7) dX1_listMeetings_76 (by decide) ?_
            exact (ih (y1 + 1) st)
          · refine o_aload_n dX1_listMeetings_53 rfl ?_
            refine h_get (v := .ref 27) dX1_listMeetings_54 q1 fl_X1_52 (by decide) (px_lt (by decide)) (c11 _) rfl ?_
            refine o_aload_n dX1_listMeetings_57 rfl ?_
            refine h_get (v := .int (st 11 12)) dX1_listMeetings_58 q1 fl_X1_230 (by decide) (px_lt (by decide)) (c11 _) rfl ?_
            refine o_iload_n dX1_listMeetings_61 rfl ?_
            refine h_iast (n := 35) dX1_listMeetings_62 (px_lt (by decide)) c27 (fun u5 => ?_)
            refine o_aload_n dX1_listMeetings_63 rfl ?_
            refine o_dup dX1_listMeetings_64 rfl ?_
            refine h_get (v := .int (st 11 12)) dX1_listMeetings_65 q1 fl_X1_230 (by decide) (px_lt (by decide)) (c11 _) rfl ?_
            refine o_iconst (v := 1) dX1_listMeetings_68 (by decide) ?_
            refine o_iadd dX1_listMeetings_69 ?_
            refine h_puti dX1_listMeetings_70 q1 fl_X1_230 pf_X1_12 (px_lt (by decide)) (c11 _) (Nat.le_of_ble_eq_true rfl) (s11_12 _ _) ?_
            refine o_iinc (v := (y1 + 1)) (L' := [some (.ref 11), some (.int (y1 + 1))]) dX1_listMeetings_73 rfl rfl (Nat.le_of_ble_eq_true rfl) rfl rfl ?_
            refine o_goto (tgt := 7) dX1_listMeetings_76 (by decide) ?_
            exact (ih (y1 + 1) (up (up st 27 (st 11 12).toNatClampNeg y1) 11 12 ((st 11 12) + 1)))
def f_X1_listMeetings (T : Nat) (st : px_S) : Option (px_S) := (f_X1_listMeetings_7 T 1000 0 (up st 11 12 0))
set_option maxRecDepth 20000 in
theorem t_X1_listMeetings (T : Nat) (st : px_S) : px_O (1, 0, 0, px_n T, m_X1_listMeetings) (px_gv T) (f_X1_listMeetings T st) 0 [some (.ref 11), none] [] (HP T st) 0 0 := by
  rw [f_X1_listMeetings]
  refine o_aload_n dX1_listMeetings_0 rfl ?_
  refine o_iconst (v := 0) dX1_listMeetings_1 (by decide) ?_
  refine h_puti dX1_listMeetings_2 q1 fl_X1_230 pf_X1_12 (px_lt (by decide)) (c11 _) (Nat.le_of_ble_eq_true rfl) (s11_12 _ _) ?_
  refine o_iconst (v := 0) dX1_listMeetings_5 (by decide) ?_
  refine o_istore_n (L' := [some (.ref 11), some (.int 0)]) dX1_listMeetings_6 (Nat.le_of_ble_eq_true rfl) rfl rfl ?_
  exact (t_X1_listMeetings_7 T 1000 0 (up st 11 12 0))
theorem k_X1_listMeetings {T : Nat} {st : px_S} {b : px_S} (hf : f_X1_listMeetings T st = some b) : px_K (1) 0 0 m_X1_listMeetings [.ref 11] (HP T st) ((px_gv T) b).1 ((px_gv T) b).2 := px_KofH hf mf_X1_listMeetings (Nat.le_of_ble_eq_true rfl) rfl (t_X1_listMeetings T st)
/-! ThreeOfThem$Judge.loserOf(I)I: R, depth 3 -/
def f_X1_loserOf_3 (T : Nat) (st : px_S) : Nat → Int32 → Int32 → Option (Int32)
  | 0, _, _ => none
  | n + 1, y1, y2 => (if y2 < 0 then (some (-1)) else (if (p_X5_has y1 y2) = 0 then ((f_X1_loserOf_3 T st n) y1 (y2 + (-1))) else ((f_X1_wouldTurnOut T st (y1 &&& ((p_X5_bit y2) ^^^ (-1))) y2).bind fun b3 => (if b3 = 0 then ((f_X1_loserOf_3 T st n) y1 (y2 + (-1))) else (some y2)))))
set_option maxRecDepth 20000 in
theorem t_X1_loserOf_3 (T : Nat) (st : px_S) : ∀ (n : Nat) (y1 : Int32) (y2 : Int32), px_O (3, 0, 0, px_n T, m_X1_loserOf) (px_g0 (HP T st)) (f_X1_loserOf_3 T st n y1 y2) 3 [some (.ref 11), some (.int y1), some (.int y2)] [] (HP T st) 0 0 := by
  intro n
  induction n with
  | zero => intro y1 y2; rw [f_X1_loserOf_3]; exact o_none
  | succ n ih =>
    intro y1 y2
    rw [f_X1_loserOf_3]
    refine o_iload_n dX1_loserOf_3 rfl ?_
    refine o_iflt (tgt := 39) dX1_loserOf_4 (by decide) (fun u1 => ?_) (fun u1 => ?_)
    · refine o_iconst (v := (-1)) dX1_loserOf_39 (by decide) ?_
      exact o_iret (rt := .int) rfl rfl dX1_loserOf_40 rfl (Nat.zero_le _) (Nat.zero_le _)
    · refine o_iload_n dX1_loserOf_7 rfl ?_
      refine o_iload_n dX1_loserOf_8 rfl ?_
      refine h_cNP (as := [.int y1, .int y2]) (S1 := []) (d' := 0) dX1_loserOf_9 mf_X5_has ml_X1_91 ms_X5_has rfl (Nat.le_of_ble_eq_true rfl) rfl (Nat.le_of_ble_eq_true rfl) ⟨Nat.zero_le _, Nat.zero_le _⟩ (k_X5_has) ?_
      refine o_ifeq (tgt := 33) dX1_loserOf_12 (by decide) (fun u2 => ?_) (fun u2 => ?_)
      · refine o_iinc (v := (y2 + (-1))) (L' := [some (.ref 11), some (.int y1), some (.int (y2 + (-1)))]) dX1_loserOf_33 rfl rfl (Nat.le_of_ble_eq_true rfl) rfl rfl ?_
        refine o_goto (tgt := 3) dX1_loserOf_36 (by decide) ?_
        exact (ih y1 (y2 + (-1)))
      · refine o_aload_n dX1_loserOf_15 rfl ?_
        refine o_iload_n dX1_loserOf_16 rfl ?_
        refine o_iload_n dX1_loserOf_17 rfl ?_
        refine h_cNP (as := [.int y2]) (S1 := [.int y1, .ref 11]) (d' := 0) dX1_loserOf_18 mf_X5_bit ml_X1_129 ms_X5_bit rfl (Nat.le_of_ble_eq_true rfl) rfl (Nat.le_of_ble_eq_true rfl) ⟨Nat.zero_le _, Nat.zero_le _⟩ (k_X5_bit) ?_
        refine o_iconst (v := (-1)) dX1_loserOf_21 (by decide) ?_
        refine o_ixor dX1_loserOf_22 ?_
        refine o_iand dX1_loserOf_23 ?_
        refine o_iload_n dX1_loserOf_24 rfl ?_
        refine h_cV0 (as := [.int (y1 &&& ((p_X5_bit y2) ^^^ (-1))), .int y2]) (S1 := []) (d' := 2) dX1_loserOf_25 mf_X1_wouldTurnOut ml_X1_237 mv_X1_wouldTurnOut q1 rfl (hp_at (px_lt (by decide)) (c11 _)) rfl (Nat.le_of_ble_eq_true rfl) rfl (Nat.le_of_ble_eq_true rfl) ⟨Nat.zero_le _, Nat.zero_le _⟩ (fun b hb => k_X1_wouldTurnOut hb) (fun b3 hb3 => ?_)
        refine o_ifeq (tgt := 33) dX1_loserOf_28 (by decide) (fun u4 => ?_) (fun u4 => ?_)
        · refine o_iinc (v := (y2 + (-1))) (L' := [some (.ref 11), some (.int y1), some (.int (y2 + (-1)))]) dX1_loserOf_33 rfl rfl (Nat.le_of_ble_eq_true rfl) rfl rfl ?_
          refine o_goto (tgt := 3) dX1_loserOf_36 (by decide) ?_
          exact (ih y1 (y2 + (-1)))
        · refine o_iload_n dX1_loserOf_31 rfl ?_
          exact o_iret (rt := .int) rfl rfl dX1_loserOf_32 rfl (Nat.zero_le _) (Nat.zero_le _)
def f_X1_loserOf (T : Nat) (st : px_S) (x0 : Int32) : Option (Int32) := (f_X1_loserOf_3 T st 1000 x0 6)
set_option maxRecDepth 20000 in
theorem t_X1_loserOf (T : Nat) (st : px_S) (x0 : Int32) : px_O (3, 0, 0, px_n T, m_X1_loserOf) (px_g0 (HP T st)) (f_X1_loserOf T st x0) 0 [some (.ref 11), some (.int x0), none] [] (HP T st) 0 0 := by
  rw [f_X1_loserOf]
  refine o_bipush (v := 6) dX1_loserOf_0 (by decide) ?_
  refine o_istore_n (L' := [some (.ref 11), some (.int x0), some (.int 6)]) dX1_loserOf_2 (Nat.le_of_ble_eq_true rfl) rfl rfl ?_
  exact (t_X1_loserOf_3 T st 1000 x0 6)
theorem k_X1_loserOf_o {T : Nat} {st : px_S} {x0 : Int32} {b : Int32} (hf : f_X1_loserOf T st x0 = some b) : px_K (3) 0 0 m_X1_loserOf [.ref 11, .int x0] (HP T st) (some (.int b)) (HP T st) := px_KofH (g := px_g0 (HP T st)) hf mf_X1_loserOf (Nat.le_of_ble_eq_true rfl) rfl (t_X1_loserOf T st x0)
theorem k_X1_loserOf {T : Nat} {st : px_S} {x0 : Int32} {b : Int32} (hf : f_X1_loserOf T st x0 = some b) : px_K (3) 0 0 m_X1_loserOf [.ref 11, .int x0] (HP T st) (some (.int b)) (HP T st) := k_X1_loserOf_o hf
/-! ThreeOfThem$Judge.draw(II)I: S, depth 9 -/
def f_X1_draw_112 (T : Nat) (k31 : Int32 → Int32 → Int32 → Int32 → px_S → Option (Int32 × px_S)) (y2 : Int32) (y3 : Int32) (y4 : Int32) (y5 : Int32) (st : px_S) : Option (Int32 × px_S) := ((f_X1_lookAt T (st 12 5) st).bind fun b1 => (k31 y2 y3 y4 (y5 + 1) b1))
set_option maxRecDepth 20000 in
theorem t_X1_draw_112 (T : Nat) (k31 : Int32 → Int32 → Int32 → Int32 → px_S → Option (Int32 × px_S)) (hk31 : ∀ (y2 : Int32) (y3 : Int32) (y4 : Int32) (y5 : Int32) (st : px_S), px_O (9, 0, 0, px_n T, m_X1_draw) (px_gi T) (k31 y2 y3 y4 y5 st) 31 [some (.ref 11), none, some (.int y2), some (.int y3), some (.int y4), some (.int y5), none] [] (HP T st) 0 0) (y2 : Int32) (y3 : Int32) (y4 : Int32) (y5 : Int32) (st : px_S) : px_O (9, 0, 0, px_n T, m_X1_draw) (px_gi T) (f_X1_draw_112 T k31 y2 y3 y4 y5 st) 112 [some (.ref 11), none, some (.int y2), some (.int y3), some (.int y4), some (.int y5), none] [] (HP T st) 0 0 := by
  rw [f_X1_draw_112]
  refine o_aload_n dX1_draw_112 rfl ?_
  refine o_aload_n dX1_draw_113 rfl ?_
  refine h_get (v := .ref 12) dX1_draw_114 q1 fl_X1_12 (by decide) (px_lt (by decide)) (c11 _) rfl ?_
  refine h_get (v := .int (st 12 5)) dX1_draw_117 q0 fl_X1_159 (by decide) (px_ltH 0 (by decide) (Or.inr (Or.inr rfl))) (cH (Or.inr (Or.inr rfl)) _) rfl ?_
  refine h_cVv (as := [.int (st 12 5)]) (S1 := []) (d' := 8) dX1_draw_120 mf_X1_lookAt ml_X1_162 mv_X1_lookAt q1 rfl (hp_at (px_lt (by decide)) (c11 _)) rfl (Nat.le_of_ble_eq_true rfl) rfl (Nat.le_of_ble_eq_true rfl) (fun b hb => k_X1_lookAt hb) (fun b1 hb1 => ?_)
  refine o_iinc (v := (y5 + 1)) (L' := [some (.ref 11), none, some (.int y2), some (.int y3), some (.int y4), some (.int (y5 + 1)), none]) dX1_draw_123 rfl rfl (Nat.le_of_ble_eq_true rfl) rfl rfl ?_
  refine o_goto (tgt := 31) dX1_draw_126 (by decide) ?_
  exact (hk31 y2 y3 y4 (y5 + 1) b1)
def f_X1_draw_102 (T : Nat) (k31 : Int32 → Int32 → Int32 → Int32 → px_S → Option (Int32 × px_S)) (y2 : Int32) (y3 : Int32) (y4 : Int32) (y5 : Int32) (y6 : Int32) (st : px_S) : Option (Int32 × px_S) := (if y6 = (-1) then (if y3 = 0 then (k31 y2 y3 y4 (y5 + 1) st) else (f_X1_draw_112 T k31 y2 y3 y4 y5 st)) else (f_X1_draw_112 T k31 y2 y3 y4 y5 st))
set_option maxRecDepth 20000 in
theorem t_X1_draw_102 (T : Nat) (k31 : Int32 → Int32 → Int32 → Int32 → px_S → Option (Int32 × px_S)) (hk31 : ∀ (y2 : Int32) (y3 : Int32) (y4 : Int32) (y5 : Int32) (st : px_S), px_O (9, 0, 0, px_n T, m_X1_draw) (px_gi T) (k31 y2 y3 y4 y5 st) 31 [some (.ref 11), none, some (.int y2), some (.int y3), some (.int y4), some (.int y5), none] [] (HP T st) 0 0) (y2 : Int32) (y3 : Int32) (y4 : Int32) (y5 : Int32) (y6 : Int32) (st : px_S) : px_O (9, 0, 0, px_n T, m_X1_draw) (px_gi T) (f_X1_draw_102 T k31 y2 y3 y4 y5 y6 st) 102 [some (.ref 11), none, some (.int y2), some (.int y3), some (.int y4), some (.int y5), some (.int y6)] [] (HP T st) 0 0 := by
  rw [f_X1_draw_102]
  refine o_iload dX1_draw_102 rfl ?_
  refine o_iconst (v := (-1)) dX1_draw_104 (by decide) ?_
  refine o_icmpne (tgt := 112) dX1_draw_105 (by decide) (fun u2 => ?_) (fun u2 => ?_)
  · exact o_weak (L' := [some (.ref 11), none, some (.int y2), some (.int y3), some (.int y4), some (.int y5), none]) ⟨rfl, ⟨rfl, ⟨rfl, ⟨rfl, ⟨rfl, trivial⟩⟩⟩⟩⟩ (t_X1_draw_112 T k31 hk31 y2 y3 y4 y5 st)
  · refine o_iload_n dX1_draw_108 rfl ?_
    refine o_ifeq (tgt := 123) dX1_draw_109 (by decide) (fun u3 => ?_) (fun u3 => ?_)
    · refine o_iinc (v := (y5 + 1)) (L' := [some (.ref 11), none, some (.int y2), some (.int y3), some (.int y4), some (.int (y5 + 1)), some (.int y6)]) dX1_draw_123 rfl rfl (Nat.le_of_ble_eq_true rfl) rfl rfl ?_
      refine o_goto (tgt := 31) dX1_draw_126 (by decide) ?_
      exact o_weak (L' := [some (.ref 11), none, some (.int y2), some (.int y3), some (.int y4), some (.int (y5 + 1)), none]) ⟨rfl, ⟨rfl, ⟨rfl, ⟨rfl, ⟨rfl, trivial⟩⟩⟩⟩⟩ (hk31 y2 y3 y4 (y5 + 1) st)
    · exact o_weak (L' := [some (.ref 11), none, some (.int y2), some (.int y3), some (.int y4), some (.int y5), none]) ⟨rfl, ⟨rfl, ⟨rfl, ⟨rfl, ⟨rfl, trivial⟩⟩⟩⟩⟩ (t_X1_draw_112 T k31 hk31 y2 y3 y4 y5 st)
def f_X1_draw_31 (T : Nat) : Nat → Int32 → Int32 → Int32 → Int32 → px_S → Option (Int32 × px_S)
  | 0, _, _, _, _, _ => none
  | n + 1, y2, y3, y4, y5, st => (if y5 < y2 then (if 0 < (st 11 12) then (if (st 11 12) = 0 then none else (if px_in ((((y4 * 1103515245) + 12345).toUInt32 >>> ((9 : Int32).toUInt32 &&& Int32.toUInt32 31)).toInt32 - (((y4 * 1103515245) + 12345).toUInt32 >>> ((9 : Int32).toUInt32 &&& Int32.toUInt32 31)).toInt32 / (st 11 12) * (st 11 12)) 35 then ((f_X1_loserOf T st (st 27 ((((y4 * 1103515245) + 12345).toUInt32 >>> ((9 : Int32).toUInt32 &&& Int32.toUInt32 31)).toInt32 - (((y4 * 1103515245) + 12345).toUInt32 >>> ((9 : Int32).toUInt32 &&& Int32.toUInt32 31)).toInt32 / (st 11 12) * (st 11 12)).toNatClampNeg)).bind fun b8 => ((f_X0_passDay T 12 st).bind fun b9 => (if b8 = (-1) then (f_X1_draw_102 T (f_X1_draw_31 T n) y2 y3 ((y4 * 1103515245) + 12345) y5 b8 b9) else ((f_X0_leave T 12 b8 b9).bind fun b11 => ((f_X1_listMeetings T b11).bind fun b12 => (f_X1_draw_102 T (f_X1_draw_31 T n) y2 y3 ((y4 * 1103515245) + 12345) y5 b8 b12)))))) else none)) else (some ((st 12 5), st))) else (some ((st 12 5), st)))
set_option maxRecDepth 20000 in
theorem t_X1_draw_31 (T : Nat) : ∀ (n : Nat) (y2 : Int32) (y3 : Int32) (y4 : Int32) (y5 : Int32) (st : px_S), px_O (9, 0, 0, px_n T, m_X1_draw) (px_gi T) (f_X1_draw_31 T n y2 y3 y4 y5 st) 31 [some (.ref 11), none, some (.int y2), some (.int y3), some (.int y4), some (.int y5), none] [] (HP T st) 0 0 := by
  intro n
  induction n with
  | zero => intro y2 y3 y4 y5 st; rw [f_X1_draw_31]; exact o_none
  | succ n ih =>
    intro y2 y3 y4 y5 st
    rw [f_X1_draw_31]
    refine o_iload dX1_draw_31 rfl ?_
    refine o_iload_n dX1_draw_33 rfl ?_
    refine o_icmpge (tgt := 129) dX1_draw_34 (by decide) (fun u4 => ?_) (fun u4 => ?_)
    · refine o_aload_n dX1_draw_129 rfl ?_
      refine h_get (v := .ref 12) dX1_draw_130 q1 fl_X1_12 (by decide) (px_lt (by decide)) (c11 _) rfl ?_
      refine h_get (v := .int (st 12 5)) dX1_draw_133 q0 fl_X1_159 (by decide) (px_ltH 0 (by decide) (Or.inr (Or.inr rfl))) (cH (Or.inr (Or.inr rfl)) _) rfl ?_
      exact o_iret (rt := .int) rfl rfl dX1_draw_136 rfl (Nat.zero_le _) (Nat.zero_le _)
    · refine o_aload_n dX1_draw_37 rfl ?_
      refine h_get (v := .int (st 11 12)) dX1_draw_38 q1 fl_X1_230 (by decide) (px_lt (by decide)) (c11 _) rfl ?_
      refine o_ifle (tgt := 129) dX1_draw_41 (by decide) (fun u5 => ?_) (fun u5 => ?_)
      · refine o_aload_n dX1_draw_129 rfl ?_
        refine h_get (v := .ref 12) dX1_draw_130 q1 fl_X1_12 (by decide) (px_lt (by decide)) (c11 _) rfl ?_
        refine h_get (v := .int (st 12 5)) dX1_draw_133 q0 fl_X1_159 (by decide) (px_ltH 0 (by decide) (Or.inr (Or.inr rfl))) (cH (Or.inr (Or.inr rfl)) _) rfl ?_
        exact o_iret (rt := .int) rfl rfl dX1_draw_136 rfl (Nat.zero_le _) (Nat.zero_le _)
      · refine o_iload dX1_draw_44 rfl ?_
        refine o_ldc (v := 1103515245) dX1_draw_46 cst_X1_233 ?_
        refine o_imul dX1_draw_48 ?_
        refine o_sipush (v := 12345) dX1_draw_49 (by decide) ?_
        refine o_iadd dX1_draw_52 ?_
        refine o_istore (L' := [some (.ref 11), none, some (.int y2), some (.int y3), some (.int ((y4 * 1103515245) + 12345)), some (.int y5), none]) dX1_draw_53 (Nat.le_of_ble_eq_true rfl) rfl rfl ?_
        refine o_aload_n dX1_draw_55 rfl ?_
        refine o_aload_n dX1_draw_56 rfl ?_
        refine h_get (v := .ref 27) dX1_draw_57 q1 fl_X1_52 (by decide) (px_lt (by decide)) (c11 _) rfl ?_
        refine o_iload dX1_draw_60 rfl ?_
        refine o_bipush (v := 9) dX1_draw_62 (by decide) ?_
        refine o_iushr dX1_draw_64 ?_
        refine o_aload_n dX1_draw_65 rfl ?_
        refine h_get (v := .int (st 11 12)) dX1_draw_66 q1 fl_X1_230 (by decide) (px_lt (by decide)) (c11 _) rfl ?_
        refine o_ite (fun _ => o_none) (fun u6 => ?_)
        refine o_irem dX1_draw_69 u6 ?_
        refine h_iald (n := 35) dX1_draw_70 (px_lt (by decide)) (c27 _) (fun u7 => ?_)
        refine h_cV0 (as := [.int (st 27 ((((y4 * 1103515245) + 12345).toUInt32 >>> ((9 : Int32).toUInt32 &&& Int32.toUInt32 31)).toInt32 - (((y4 * 1103515245) + 12345).toUInt32 >>> ((9 : Int32).toUInt32 &&& Int32.toUInt32 31)).toInt32 / (st 11 12) * (st 11 12)).toNatClampNeg)]) (S1 := []) (d' := 3) dX1_draw_71 mf_X1_loserOf ml_X1_234 mv_X1_loserOf q1 rfl (hp_at (px_lt (by decide)) (c11 _)) rfl (Nat.le_of_ble_eq_true rfl) rfl (Nat.le_of_ble_eq_true rfl) ⟨Nat.zero_le _, Nat.zero_le _⟩ (fun b hb => k_X1_loserOf hb) (fun b8 hb8 => ?_)
        refine o_istore (L' := [some (.ref 11), none, some (.int y2), some (.int y3), some (.int ((y4 * 1103515245) + 12345)), some (.int y5), some (.int b8)]) dX1_draw_74 (Nat.le_of_ble_eq_true rfl) rfl rfl ?_
        refine o_aload_n dX1_draw_76 rfl ?_
        refine h_get (v := .ref 12) dX1_draw_77 q1 fl_X1_12 (by decide) (px_lt (by decide)) (c11 _) rfl ?_
        refine h_cVv (as := []) (S1 := []) (d' := 1) dX1_draw_80 mf_X0_passDay ml_X1_173 mv_X0_passDay q0 rfl (hp_at (px_ltH 0 (by decide) (Or.inr (Or.inr rfl))) (cH (Or.inr (Or.inr rfl)) _)) rfl (Nat.le_of_ble_eq_true rfl) rfl (Nat.le_of_ble_eq_true rfl) (fun b hb => k_X0_passDay (Or.inr (Or.inr rfl)) hb) (fun b9 hb9 => ?_)
        refine o_iload dX1_draw_83 rfl ?_
        refine o_iconst (v := (-1)) dX1_draw_85 (by decide) ?_
        refine o_icmpeq (tgt := 102) dX1_draw_86 (by decide) (fun u10 => ?_) (fun u10 => ?_)
        · exact (t_X1_draw_102 T (f_X1_draw_31 T n) ih y2 y3 ((y4 * 1103515245) + 12345) y5 b8 b9)
        · refine o_aload_n dX1_draw_89 rfl ?_
          refine h_get (v := .ref 12) dX1_draw_90 q1 fl_X1_12 (by decide) (px_lt (by decide)) (c11 _) rfl ?_
          refine o_iload dX1_draw_93 rfl ?_
          refine h_cVv (as := [.int b8]) (S1 := []) (d' := 1) dX1_draw_95 mf_X0_leave ml_X1_170 mv_X0_leave q0 rfl (hp_at (px_ltH 0 (by decide) (Or.inr (Or.inr rfl))) (cH (Or.inr (Or.inr rfl)) _)) rfl (Nat.le_of_ble_eq_true rfl) rfl (Nat.le_of_ble_eq_true rfl) (fun b hb => k_X0_leave (Or.inr (Or.inr rfl)) hb) (fun b11 hb11 => ?_)
          refine o_aload_n dX1_draw_98 rfl ?_
          refine h_cVv (as := []) (S1 := []) (d' := 1) dX1_draw_99 mf_X1_listMeetings ml_X1_227 mv_X1_listMeetings q1 rfl (hp_at (px_lt (by decide)) (c11 _)) rfl (Nat.le_of_ble_eq_true rfl) rfl (Nat.le_of_ble_eq_true rfl) (fun b hb => k_X1_listMeetings hb) (fun b12 hb12 => ?_)
          exact (t_X1_draw_102 T (f_X1_draw_31 T n) ih y2 y3 ((y4 * 1103515245) + 12345) y5 b8 b12)
def f_X1_draw (T : Nat) (x0 : Int32) (x1 : Int32) (st : px_S) : Option (Int32 × px_S) := (if px_isT T (st 11 1).toNatClampNeg then ((f_X4_names T st (st 11 1).toNatClampNeg (-4)).bind fun b14 => ((f_X1_listMeetings T st).bind fun b15 => ((f_X1_lookAt T (b15 12 5) b15).bind fun b16 => (f_X1_draw_31 T 1000 x1 b14 x0 0 b16)))) else none)
set_option maxRecDepth 20000 in
theorem t_X1_draw (T : Nat) (x0 : Int32) (x1 : Int32) (st : px_S) : px_O (9, 0, 0, px_n T, m_X1_draw) (px_gi T) (f_X1_draw T x0 x1 st) 0 [some (.ref 11), some (.int x0), some (.int x1), none, none, none, none] [] (HP T st) 0 0 := by
  rw [f_X1_draw]
  refine o_aload_n dX1_draw_0 rfl ?_
  refine h_get (v := .ref (st 11 1).toNatClampNeg) dX1_draw_1 q1 fl_X1_23 (by decide) (px_lt (by decide)) (c11 _) rfl ?_
  refine o_bipush (v := (-4)) dX1_draw_4 (by decide) ?_
  refine o_ite (fun u13 => ?_) (fun _ => o_none)
  refine h_cV0 (as := [.int (-4)]) (S1 := []) (d' := 0) dX1_draw_6 mf_X4_names ml_X1_210 mv_X4_names q4 rfl (hp_at (px_ltT 0 (by decide) u13) (cT u13 _)) rfl (Nat.le_of_ble_eq_true rfl) rfl (Nat.le_of_ble_eq_true rfl) ⟨Nat.zero_le _, Nat.zero_le _⟩ (fun b hb => k_X4_names u13 hb) (fun b14 hb14 => ?_)
  refine o_istore_n (L' := [some (.ref 11), some (.int x0), some (.int x1), some (.int b14), none, none, none]) dX1_draw_9 (Nat.le_of_ble_eq_true rfl) rfl rfl ?_
  refine o_iload_n dX1_draw_10 rfl ?_
  refine o_istore (L' := [some (.ref 11), some (.int x0), some (.int x1), some (.int b14), some (.int x0), none, none]) dX1_draw_11 (Nat.le_of_ble_eq_true rfl) rfl rfl ?_
  refine o_aload_n dX1_draw_13 rfl ?_
  refine h_cVv (as := []) (S1 := []) (d' := 1) dX1_draw_14 mf_X1_listMeetings ml_X1_227 mv_X1_listMeetings q1 rfl (hp_at (px_lt (by decide)) (c11 _)) rfl (Nat.le_of_ble_eq_true rfl) rfl (Nat.le_of_ble_eq_true rfl) (fun b hb => k_X1_listMeetings hb) (fun b15 hb15 => ?_)
  refine o_aload_n dX1_draw_17 rfl ?_
  refine o_aload_n dX1_draw_18 rfl ?_
  refine h_get (v := .ref 12) dX1_draw_19 q1 fl_X1_12 (by decide) (px_lt (by decide)) (c11 _) rfl ?_
  refine h_get (v := .int (b15 12 5)) dX1_draw_22 q0 fl_X1_159 (by decide) (px_ltH 0 (by decide) (Or.inr (Or.inr rfl))) (cH (Or.inr (Or.inr rfl)) _) rfl ?_
  refine h_cVv (as := [.int (b15 12 5)]) (S1 := []) (d' := 8) dX1_draw_25 mf_X1_lookAt ml_X1_162 mv_X1_lookAt q1 rfl (hp_at (px_lt (by decide)) (c11 _)) rfl (Nat.le_of_ble_eq_true rfl) rfl (Nat.le_of_ble_eq_true rfl) (fun b hb => k_X1_lookAt hb) (fun b16 hb16 => ?_)
  refine o_iconst (v := 0) dX1_draw_28 (by decide) ?_
  refine o_istore (L' := [some (.ref 11), some (.int x0), some (.int x1), some (.int b14), some (.int x0), some (.int 0), none]) dX1_draw_29 (Nat.le_of_ble_eq_true rfl) rfl rfl ?_
  exact o_weak (L' := [some (.ref 11), none, some (.int x1), some (.int b14), some (.int x0), some (.int 0), none]) ⟨rfl, ⟨rfl, ⟨rfl, ⟨rfl, ⟨rfl, trivial⟩⟩⟩⟩⟩ (t_X1_draw_31 T 1000 x1 b14 x0 0 b16)
theorem k_X1_draw {T : Nat} {st : px_S} {x0 : Int32} {x1 : Int32} {b : Int32 × px_S} (hf : f_X1_draw T x0 x1 st = some b) : px_K (9) 0 0 m_X1_draw [.ref 11, .int x0, .int x1] (HP T st) ((px_gi T) b).1 ((px_gi T) b).2 := px_KofH hf mf_X1_draw (Nat.le_of_ble_eq_true rfl) rfl (t_X1_draw T x0 x1 st)
/-! ThreeOfThem$Reader.put(I)V: S, depth 0 -/
def f_X2_put (T : Nat) (x0 : Int32) (st : px_S) : Option (px_S) := (if (st 31 1) < 160 then (if px_in (st 31 1) 160 then (some (up (up st 32 (st 31 1).toNatClampNeg x0) 31 1 ((st 31 1) + 1))) else none) else (some st))
set_option maxRecDepth 20000 in
theorem t_X2_put (T : Nat) (x0 : Int32) (st : px_S) : px_O (0, 0, 0, px_n T, m_X2_put) (px_gv T) (f_X2_put T x0 st) 0 [some (.ref 31), some (.int x0)] [] (HP T st) 0 0 := by
  rw [f_X2_put]
  refine o_aload_n dX2_put_0 rfl ?_
  refine h_get (v := .int (st 31 1)) dX2_put_1 q2 fl_X2_24 (by decide) (px_lt (by decide)) (c31 _) rfl ?_
  refine o_sipush (v := 160) dX2_put_4 (by decide) ?_
  refine o_icmpge (tgt := 30) dX2_put_7 (by decide) (fun u1 => ?_) (fun u1 => ?_)
  · exact o_vret rfl dX2_put_30 rfl (Nat.zero_le _) (Nat.zero_le _)
  · refine o_aload_n dX2_put_10 rfl ?_
    refine h_get (v := .ref 32) dX2_put_11 q2 fl_X2_9 (by decide) (px_lt (by decide)) (c31 _) rfl ?_
    refine o_aload_n dX2_put_14 rfl ?_
    refine h_get (v := .int (st 31 1)) dX2_put_15 q2 fl_X2_24 (by decide) (px_lt (by decide)) (c31 _) rfl ?_
    refine o_iload_n dX2_put_18 rfl ?_
    refine h_iast (n := 160) dX2_put_19 (px_lt (by decide)) c32 (fun u2 => ?_)
    refine o_aload_n dX2_put_20 rfl ?_
    refine o_dup dX2_put_21 rfl ?_
    refine h_get (v := .int (st 31 1)) dX2_put_22 q2 fl_X2_24 (by decide) (px_lt (by decide)) (c31 _) rfl ?_
    refine o_iconst (v := 1) dX2_put_25 (by decide) ?_
    refine o_iadd dX2_put_26 ?_
    refine h_puti dX2_put_27 q2 fl_X2_24 pf_X2_1 (px_lt (by decide)) (c31 _) (Nat.le_of_ble_eq_true rfl) (s31_1 _ _) ?_
    exact o_vret rfl dX2_put_30 rfl (Nat.zero_le _) (Nat.zero_le _)
theorem k_X2_put {T : Nat} {st : px_S} {x0 : Int32} {b : px_S} (hf : f_X2_put T x0 st = some b) : px_K (0) 0 0 m_X2_put [.ref 31, .int x0] (HP T st) ((px_gv T) b).1 ((px_gv T) b).2 := px_KofH hf mf_X2_put (Nat.le_of_ble_eq_true rfl) rfl (t_X2_put T x0 st)
/-! ThreeOfThem$Reader.clear()V: S, depth 0 -/
def f_X2_clear (T : Nat) (st : px_S) : Option (px_S) := (some (up st 31 1 0))
set_option maxRecDepth 20000 in
theorem t_X2_clear (T : Nat) (st : px_S) : px_O (0, 0, 0, px_n T, m_X2_clear) (px_gv T) (f_X2_clear T st) 0 [some (.ref 31)] [] (HP T st) 0 0 := by
  rw [f_X2_clear]
  refine o_aload_n dX2_clear_0 rfl ?_
  refine o_iconst (v := 0) dX2_clear_1 (by decide) ?_
  refine h_puti dX2_clear_2 q2 fl_X2_24 pf_X2_1 (px_lt (by decide)) (c31 _) (Nat.le_of_ble_eq_true rfl) (s31_1 _ _) ?_
  exact o_vret rfl dX2_clear_5 rfl (Nat.zero_le _) (Nat.zero_le _)
theorem k_X2_clear {T : Nat} {st : px_S} {b : px_S} (hf : f_X2_clear T st = some b) : px_K (0) 0 0 m_X2_clear [.ref 31] (HP T st) ((px_gv T) b).1 ((px_gv T) b).2 := px_KofH hf mf_X2_clear (Nat.le_of_ble_eq_true rfl) rfl (t_X2_clear T st)
/-! ThreeOfThem$Reader.place()I: R, depth 0 -/
def f_X2_place (T : Nat) (st : px_S) : Option (Int32) := (if (st 31 5) < (st 31 4) then (if px_in (st 31 5) 160 then (some (st 34 (st 31 5).toNatClampNeg)) else none) else (some (st 31 1)))
set_option maxRecDepth 20000 in
theorem t_X2_place (T : Nat) (st : px_S) : px_O (0, 0, 0, px_n T, m_X2_place) (px_g0 (HP T st)) (f_X2_place T st) 0 [some (.ref 31)] [] (HP T st) 0 0 := by
  rw [f_X2_place]
  refine o_aload_n dX2_place_0 rfl ?_
  refine h_get (v := .int (st 31 5)) dX2_place_1 q2 fl_X2_28 (by decide) (px_lt (by decide)) (c31 _) rfl ?_
  refine o_aload_n dX2_place_4 rfl ?_
  refine h_get (v := .int (st 31 4)) dX2_place_5 q2 fl_X2_31 (by decide) (px_lt (by decide)) (c31 _) rfl ?_
  refine o_icmpge (tgt := 23) dX2_place_8 (by decide) (fun u1 => ?_) (fun u1 => ?_)
  · refine o_aload_n dX2_place_23 rfl ?_
    refine h_get (v := .int (st 31 1)) dX2_place_24 q2 fl_X2_24 (by decide) (px_lt (by decide)) (c31 _) rfl ?_
    exact o_iret (rt := .int) rfl rfl dX2_place_27 rfl (Nat.zero_le _) (Nat.zero_le _)
  · refine o_aload_n dX2_place_11 rfl ?_
    refine h_get (v := .ref 34) dX2_place_12 q2 fl_X2_18 (by decide) (px_lt (by decide)) (c31 _) rfl ?_
    refine o_aload_n dX2_place_15 rfl ?_
    refine h_get (v := .int (st 31 5)) dX2_place_16 q2 fl_X2_28 (by decide) (px_lt (by decide)) (c31 _) rfl ?_
    refine h_iald (n := 160) dX2_place_19 (px_lt (by decide)) (c34 _) (fun u2 => ?_)
    refine o_goto (tgt := 27) dX2_place_20 (by decide) ?_
    exact o_iret (rt := .int) rfl rfl dX2_place_27 rfl (Nat.zero_le _) (Nat.zero_le _)
theorem k_X2_place_o {T : Nat} {st : px_S} {b : Int32} (hf : f_X2_place T st = some b) : px_K (0) 0 0 m_X2_place [.ref 31] (HP T st) (some (.int b)) (HP T st) := px_KofH (g := px_g0 (HP T st)) hf mf_X2_place (Nat.le_of_ble_eq_true rfl) rfl (t_X2_place T st)
theorem k_X2_place {T : Nat} {st : px_S} {b : Int32} (hf : f_X2_place T st = some b) : px_K (0) 0 0 m_X2_place [.ref 31] (HP T st) (some (.int b)) (HP T st) := k_X2_place_o hf
/-! ThreeOfThem$Reader.behind(I)I: R, depth 1 -/
def f_X2_behind_54 (T : Nat) (st : px_S) : Nat → Int32 → Option (Int32)
  | 0, _ => none
  | n + 1, y2 => (if y2 < (st 31 1) then (if px_in y2 160 then (if (p_X2_isDigit (st 32 y2.toNatClampNeg)) = 0 then (some y2) else ((f_X2_behind_54 T st n) (y2 + 1))) else none) else (some y2))
set_option maxRecDepth 20000 in
theorem t_X2_behind_54 (T : Nat) (st : px_S) : ∀ (n : Nat) (y2 : Int32), px_O (1, 0, 0, px_n T, m_X2_behind) (px_g0 (HP T st)) (f_X2_behind_54 T st n y2) 54 [some (.ref 31), none, some (.int y2)] [] (HP T st) 0 0 := by
  intro n
  induction n with
  | zero => intro y2; rw [f_X2_behind_54]; exact o_none
  | succ n ih =>
    intro y2
    rw [f_X2_behind_54]
    refine o_iload_n dX2_behind_54 rfl ?_
    refine o_aload_n dX2_behind_55 rfl ?_
    refine h_get (v := .int (st 31 1)) dX2_behind_56 q2 fl_X2_24 (by decide) (px_lt (by decide)) (c31 _) rfl ?_
    refine o_icmpge (tgt := 80) dX2_behind_59 (by decide) (fun u1 => ?_) (fun u1 => ?_)
    · refine o_iload_n dX2_behind_80 rfl ?_
      exact o_iret (rt := .int) rfl rfl dX2_behind_81 rfl (Nat.zero_le _) (Nat.zero_le _)
    · refine o_aload_n dX2_behind_62 rfl ?_
      refine h_get (v := .ref 32) dX2_behind_63 q2 fl_X2_9 (by decide) (px_lt (by decide)) (c31 _) rfl ?_
      refine o_iload_n dX2_behind_66 rfl ?_
      refine h_iald (n := 160) dX2_behind_67 (px_lt (by decide)) (c32 _) (fun u2 => ?_)
      refine h_cSP (as := [.int (st 32 y2.toNatClampNeg)]) (S1 := []) (d' := 0) dX2_behind_68 mf_X2_isDigit ml_X2_70 ms_X2_isDigit rfl (Nat.le_of_ble_eq_true rfl) rfl (Nat.le_of_ble_eq_true rfl) ⟨Nat.zero_le _, Nat.zero_le _⟩ (k_X2_isDigit) ?_
      refine o_ifeq (tgt := 80) dX2_behind_71 (by decide) (fun u3 => ?_) (fun u3 => ?_)
      · refine o_iload_n dX2_behind_80 rfl ?_
        exact o_iret (rt := .int) rfl rfl dX2_behind_81 rfl (Nat.zero_le _) (Nat.zero_le _)
      · refine o_iinc (v := (y2 + 1)) (L' := [some (.ref 31), none, some (.int (y2 + 1))]) dX2_behind_74 rfl rfl (Nat.le_of_ble_eq_true rfl) rfl rfl ?_
        refine o_goto (tgt := 54) dX2_behind_77 (by decide) ?_
        exact (ih (y2 + 1))
def f_X2_behind_16 (T : Nat) (st : px_S) : Nat → Int32 → Option (Int32)
  | 0, _ => none
  | n + 1, y2 => (if y2 < (st 31 1) then (if px_in y2 160 then (if (p_X2_isLetter (st 32 y2.toNatClampNeg)) = 0 then (some y2) else ((f_X2_behind_16 T st n) (y2 + 1))) else none) else (some y2))
set_option maxRecDepth 20000 in
theorem t_X2_behind_16 (T : Nat) (st : px_S) : ∀ (n : Nat) (y2 : Int32), px_O (1, 0, 0, px_n T, m_X2_behind) (px_g0 (HP T st)) (f_X2_behind_16 T st n y2) 16 [some (.ref 31), none, some (.int y2)] [] (HP T st) 0 0 := by
  intro n
  induction n with
  | zero => intro y2; rw [f_X2_behind_16]; exact o_none
  | succ n ih =>
    intro y2
    rw [f_X2_behind_16]
    refine o_iload_n dX2_behind_16 rfl ?_
    refine o_aload_n dX2_behind_17 rfl ?_
    refine h_get (v := .int (st 31 1)) dX2_behind_18 q2 fl_X2_24 (by decide) (px_lt (by decide)) (c31 _) rfl ?_
    refine o_icmpge (tgt := 80) dX2_behind_21 (by decide) (fun u4 => ?_) (fun u4 => ?_)
    · refine o_iload_n dX2_behind_80 rfl ?_
      exact o_iret (rt := .int) rfl rfl dX2_behind_81 rfl (Nat.zero_le _) (Nat.zero_le _)
    · refine o_aload_n dX2_behind_24 rfl ?_
      refine h_get (v := .ref 32) dX2_behind_25 q2 fl_X2_9 (by decide) (px_lt (by decide)) (c31 _) rfl ?_
      refine o_iload_n dX2_behind_28 rfl ?_
      refine h_iald (n := 160) dX2_behind_29 (px_lt (by decide)) (c32 _) (fun u5 => ?_)
      refine h_cSP (as := [.int (st 32 y2.toNatClampNeg)]) (S1 := []) (d' := 0) dX2_behind_30 mf_X2_isLetter ml_X2_67 ms_X2_isLetter rfl (Nat.le_of_ble_eq_true rfl) rfl (Nat.le_of_ble_eq_true rfl) ⟨Nat.zero_le _, Nat.zero_le _⟩ (k_X2_isLetter) ?_
      refine o_ifeq (tgt := 80) dX2_behind_33 (by decide) (fun u6 => ?_) (fun u6 => ?_)
      · refine o_iload_n dX2_behind_80 rfl ?_
        exact o_iret (rt := .int) rfl rfl dX2_behind_81 rfl (Nat.zero_le _) (Nat.zero_le _)
      · refine o_iinc (v := (y2 + 1)) (L' := [some (.ref 31), none, some (.int (y2 + 1))]) dX2_behind_36 rfl rfl (Nat.le_of_ble_eq_true rfl) rfl rfl ?_
        refine o_goto (tgt := 16) dX2_behind_39 (by decide) ?_
        exact (ih (y2 + 1))
def f_X2_behind (T : Nat) (st : px_S) (x0 : Int32) : Option (Int32) := (if px_in x0 160 then (if (p_X2_isLetter (st 32 x0.toNatClampNeg)) = 0 then (if px_in x0 160 then (if (p_X2_isDigit (st 32 x0.toNatClampNeg)) = 0 then (some (x0 + 1)) else (f_X2_behind_54 T st 1000 (x0 + 1))) else none) else (f_X2_behind_16 T st 1000 (x0 + 1))) else none)
set_option maxRecDepth 20000 in
theorem t_X2_behind (T : Nat) (st : px_S) (x0 : Int32) : px_O (1, 0, 0, px_n T, m_X2_behind) (px_g0 (HP T st)) (f_X2_behind T st x0) 0 [some (.ref 31), some (.int x0), none] [] (HP T st) 0 0 := by
  rw [f_X2_behind]
  refine o_iload_n dX2_behind_0 rfl ?_
  refine o_iconst (v := 1) dX2_behind_1 (by decide) ?_
  refine o_iadd dX2_behind_2 ?_
  refine o_istore_n (L' := [some (.ref 31), some (.int x0), some (.int (x0 + 1))]) dX2_behind_3 (Nat.le_of_ble_eq_true rfl) rfl rfl ?_
  refine o_aload_n dX2_behind_4 rfl ?_
  refine h_get (v := .ref 32) dX2_behind_5 q2 fl_X2_9 (by decide) (px_lt (by decide)) (c31 _) rfl ?_
  refine o_iload_n dX2_behind_8 rfl ?_
  refine h_iald (n := 160) dX2_behind_9 (px_lt (by decide)) (c32 _) (fun u7 => ?_)
  refine h_cSP (as := [.int (st 32 x0.toNatClampNeg)]) (S1 := []) (d' := 0) dX2_behind_10 mf_X2_isLetter ml_X2_67 ms_X2_isLetter rfl (Nat.le_of_ble_eq_true rfl) rfl (Nat.le_of_ble_eq_true rfl) ⟨Nat.zero_le _, Nat.zero_le _⟩ (k_X2_isLetter) ?_
  refine o_ifeq (tgt := 42) dX2_behind_13 (by decide) (fun u8 => ?_) (fun u8 => ?_)
  · refine o_aload_n dX2_behind_42 rfl ?_
    refine h_get (v := .ref 32) dX2_behind_43 q2 fl_X2_9 (by decide) (px_lt (by decide)) (c31 _) rfl ?_
    refine o_iload_n dX2_behind_46 rfl ?_
    refine h_iald (n := 160) dX2_behind_47 (px_lt (by decide)) (c32 _) (fun u9 => ?_)
    refine h_cSP (as := [.int (st 32 x0.toNatClampNeg)]) (S1 := []) (d' := 0) dX2_behind_48 mf_X2_isDigit ml_X2_70 ms_X2_isDigit rfl (Nat.le_of_ble_eq_true rfl) rfl (Nat.le_of_ble_eq_true rfl) ⟨Nat.zero_le _, Nat.zero_le _⟩ (k_X2_isDigit) ?_
    refine o_ifeq (tgt := 80) dX2_behind_51 (by decide) (fun u10 => ?_) (fun u10 => ?_)
    · refine o_iload_n dX2_behind_80 rfl ?_
      exact o_iret (rt := .int) rfl rfl dX2_behind_81 rfl (Nat.zero_le _) (Nat.zero_le _)
    · exact o_weak (L' := [some (.ref 31), none, some (.int (x0 + 1))]) ⟨rfl, ⟨rfl, trivial⟩⟩ (t_X2_behind_54 T st 1000 (x0 + 1))
  · exact o_weak (L' := [some (.ref 31), none, some (.int (x0 + 1))]) ⟨rfl, ⟨rfl, trivial⟩⟩ (t_X2_behind_16 T st 1000 (x0 + 1))
theorem k_X2_behind_o {T : Nat} {st : px_S} {x0 : Int32} {b : Int32} (hf : f_X2_behind T st x0 = some b) : px_K (1) 0 0 m_X2_behind [.ref 31, .int x0] (HP T st) (some (.int b)) (HP T st) := px_KofH (g := px_g0 (HP T st)) hf mf_X2_behind (Nat.le_of_ble_eq_true rfl) rfl (t_X2_behind T st x0)
theorem k_X2_behind {T : Nat} {st : px_S} {x0 : Int32} {b : Int32} (hf : f_X2_behind T st x0 = some b) : px_K (1) 0 0 m_X2_behind [.ref 31, .int x0] (HP T st) (some (.int b)) (HP T st) := k_X2_behind_o hf
/-! ThreeOfThem$Reader.spells(Ljava/lang/String;II)Z: R, depth 6 -/
def f_X2_spells_15 (T : Nat) (st : px_S) (a0 : Nat) : Nat → Int32 → Int32 → Option (Int32)
  | 0, _, _ => none
  | n + 1, y2, y4 => (if y4 < (nI (px_len.getD a0 0)) then (if px_in y4 (px_len.getD a0 0) then (if px_in (y2 + y4) 160 then (if (px_ch a0 y4.toNatClampNeg) = (st 32 (y2 + y4).toNatClampNeg) then ((f_X2_spells_15 T st a0 n) y2 (y4 + 1)) else (some 0)) else none) else none) else (some 1))
set_option maxRecDepth 20000 in
theorem t_X2_spells_15 (T : Nat) (st : px_S) (a0 : Nat) (ha0 : a0 < 13) : ∀ (n : Nat) (y2 : Int32) (y4 : Int32), px_O (6, 0, 0, px_n T, m_X2_spells) (px_g0 (HP T st)) (f_X2_spells_15 T st a0 n y2 y4) 15 [some (.ref 31), some (.ref (1000 + a0)), some (.int y2), none, some (.int y4)] [] (HP T st) 0 0 := by
  intro n
  induction n with
  | zero => intro y2 y4; rw [f_X2_spells_15]; exact o_none
  | succ n ih =>
    intro y2 y4
    rw [f_X2_spells_15]
    refine o_iload dX2_spells_15 rfl ?_
    refine o_aload_n dX2_spells_17 rfl ?_
    refine h_slen a0 ha0 (S1 := [.int y4]) dX2_spells_18 ml_X2_110 (Nat.le_of_ble_eq_true rfl) rfl (Nat.le_of_ble_eq_true rfl) ⟨Nat.zero_le _, Nat.zero_le _⟩ ?_
    refine o_icmpge (tgt := 50) dX2_spells_21 (by decide) (fun u2 => ?_) (fun u2 => ?_)
    · refine o_iconst (v := 1) dX2_spells_50 (by decide) ?_
      exact o_iret (rt := .boolean) rfl rfl dX2_spells_51 rfl (Nat.zero_le _) (Nat.zero_le _)
    · refine o_aload_n dX2_spells_24 rfl ?_
      refine o_iload dX2_spells_25 rfl ?_
      refine h_schr a0 ha0 (S1 := []) dX2_spells_27 ml_X2_114 (Nat.le_of_ble_eq_true rfl) rfl (Nat.le_of_ble_eq_true rfl) ⟨Nat.zero_le _, Nat.zero_le _⟩ (fun b3 => ?_)
      refine o_aload_n dX2_spells_30 rfl ?_
      refine h_get (v := .ref 32) dX2_spells_31 q2 fl_X2_9 (by decide) (px_lt (by decide)) (c31 _) rfl ?_
      refine o_iload_n dX2_spells_34 rfl ?_
      refine o_iload dX2_spells_35 rfl ?_
      refine o_iadd dX2_spells_37 ?_
      refine h_iald (n := 160) dX2_spells_38 (px_lt (by decide)) (c32 _) (fun u4 => ?_)
      refine o_icmpeq (tgt := 44) dX2_spells_39 (by decide) (fun u5 => ?_) (fun u5 => ?_)
      · refine o_iinc (v := (y4 + 1)) (L' := [some (.ref 31), some (.ref (1000 + a0)), some (.int y2), none, some (.int (y4 + 1))]) dX2_spells_44 rfl rfl (Nat.le_of_ble_eq_true rfl) rfl rfl ?_
        refine o_goto (tgt := 15) dX2_spells_47 (by decide) ?_
        exact (ih y2 (y4 + 1))
      · refine o_iconst (v := 0) dX2_spells_42 (by decide) ?_
        exact o_iret (rt := .boolean) rfl rfl dX2_spells_43 rfl (Nat.zero_le _) (Nat.zero_le _)
def f_X2_spells (T : Nat) (st : px_S) (a0 : Nat) (x1 : Int32) (x2 : Int32) : Option (Int32) := (if (nI (px_len.getD a0 0)) = (x2 - x1) then (f_X2_spells_15 T st a0 1000 x1 0) else (some 0))
set_option maxRecDepth 20000 in
theorem t_X2_spells (T : Nat) (st : px_S) (a0 : Nat) (ha0 : a0 < 13) (x1 : Int32) (x2 : Int32) : px_O (6, 0, 0, px_n T, m_X2_spells) (px_g0 (HP T st)) (f_X2_spells T st a0 x1 x2) 0 [some (.ref 31), some (.ref (1000 + a0)), some (.int x1), some (.int x2), none] [] (HP T st) 0 0 := by
  rw [f_X2_spells]
  refine o_aload_n dX2_spells_0 rfl ?_
  refine h_slen a0 ha0 (S1 := []) dX2_spells_1 ml_X2_110 (Nat.le_of_ble_eq_true rfl) rfl (Nat.le_of_ble_eq_true rfl) ⟨Nat.zero_le _, Nat.zero_le _⟩ ?_
  refine o_iload_n dX2_spells_4 rfl ?_
  refine o_iload_n dX2_spells_5 rfl ?_
  refine o_isub dX2_spells_6 ?_
  refine o_icmpeq (tgt := 12) dX2_spells_7 (by decide) (fun u7 => ?_) (fun u7 => ?_)
  · refine o_iconst (v := 0) dX2_spells_12 (by decide) ?_
    refine o_istore (L' := [some (.ref 31), some (.ref (1000 + a0)), some (.int x1), some (.int x2), some (.int 0)]) dX2_spells_13 (Nat.le_of_ble_eq_true rfl) rfl rfl ?_
    exact o_weak (L' := [some (.ref 31), some (.ref (1000 + a0)), some (.int x1), none, some (.int 0)]) ⟨rfl, ⟨rfl, ⟨rfl, ⟨rfl, trivial⟩⟩⟩⟩ (t_X2_spells_15 T st a0 ha0 1000 x1 0)
  · refine o_iconst (v := 0) dX2_spells_10 (by decide) ?_
    exact o_iret (rt := .boolean) rfl rfl dX2_spells_11 rfl (Nat.zero_le _) (Nat.zero_le _)
theorem k_X2_spells_o {T : Nat} {st : px_S} {a0 : Nat} {x1 : Int32} {x2 : Int32} {b : Int32} (ha0 : a0 < 13) (hf : f_X2_spells T st a0 x1 x2 = some b) : px_K (6) 0 0 m_X2_spells [.ref 31, .ref (1000 + a0), .int x1, .int x2] (HP T st) (some (.int b)) (HP T st) := px_KofH (g := px_g0 (HP T st)) hf mf_X2_spells (Nat.le_of_ble_eq_true rfl) rfl (t_X2_spells T st a0 ha0 x1 x2)
theorem k_X2_spells {T : Nat} {st : px_S} {a0 : Nat} {x1 : Int32} {x2 : Int32} {b : Int32} (ha0 : a0 < 13) (hf : f_X2_spells T st a0 x1 x2 = some b) : px_K (6) 0 0 m_X2_spells [.ref 31, .ref (1000 + a0), .int x1, .int x2] (HP T st) (some (.int b)) (HP T st) := k_X2_spells_o ha0 hf
