/-! ThreeOfThem$Judge.moves(IIIIZ)Z: S, depth 6 -/
def f_X1_moves_68 (T : Nat) (st : px_S) : Option (Int32 × px_S) := (if px_isT T (st 11 1).toNatClampNeg then ((f_X4_value T (st 11 1).toNatClampNeg (-21) st).bind fun b2 => (if b2.1 = 0 then (some (0, b2.2)) else (some (1, b2.2)))) else none)
set_option maxRecDepth 20000 in
theorem t_X1_moves_68 (T : Nat) (st : px_S) : px_O (6, 0, 0, px_n T, m_X1_moves) (px_gi T) (f_X1_moves_68 T st) 68 [some (.ref 11), none, none, none, none, none, none] [] (HP T st) 0 0 := by
  rw [f_X1_moves_68]
  refine o_aload_n dX1_moves_68 rfl ?_
  refine h_get (v := .ref (st 11 1).toNatClampNeg) dX1_moves_69 q1 fl_X1_23 (by decide) (px_lt (by decide)) (c11 _) rfl ?_
  refine o_bipush (v := (-21)) dX1_moves_72 (by decide) ?_
  refine o_aload_n dX1_moves_74 rfl ?_
  refine h_get (v := .ref 19) dX1_moves_75 q1 fl_X1_27 (by decide) (px_lt (by decide)) (c11 _) rfl ?_
  refine o_aload_n dX1_moves_78 rfl ?_
  refine h_get (v := .ref 20) dX1_moves_79 q1 fl_X1_31 (by decide) (px_lt (by decide)) (c11 _) rfl ?_
  refine o_ite (fun u1 => ?_) (fun _ => o_none)
  refine h_cVi (as := [.int (-21), .ref 19, .ref 20]) (S1 := []) (d' := 1) dX1_moves_82 mf_X4_value ml_X1_79 mv_X4_value q4 rfl (hp_at (px_ltT 0 (by decide) u1) (cT u1 _)) rfl (Nat.le_of_ble_eq_true rfl) rfl (Nat.le_of_ble_eq_true rfl) (fun b hb => k_X4_value u1 hb) (fun b2 hb2 => ?_)
  refine o_ifeq (tgt := 92) dX1_moves_85 (by decide) (fun u3 => ?_) (fun u3 => ?_)
  · refine o_iconst (v := 0) dX1_moves_92 (by decide) ?_
    exact o_iret (rt := .boolean) rfl rfl dX1_moves_93 rfl (Nat.zero_le _) (Nat.zero_le _)
  · refine o_iconst (v := 1) dX1_moves_88 (by decide) ?_
    refine o_goto (tgt := 93) dX1_moves_89 (by decide) ?_
    exact o_iret (rt := .boolean) rfl rfl dX1_moves_93 rfl (Nat.zero_le _) (Nat.zero_le _)
def f_X1_moves (T : Nat) (x0 : Int32) (x1 : Int32) (x2 : Int32) (x3 : Int32) (x4 : Int32) (st : px_S) : Option (Int32 × px_S) := ((f_X0_wantsOf T st 12 x1 x3 x4).bind fun b4 => (if x0 < b4 then (some (0, st)) else ((f_X1_factsOf T x1 x2 x3 st).bind fun b6 => (if x4 = 0 then (f_X1_moves_68 T  b6) else (if px_isT T (b6 11 1).toNatClampNeg then ((f_X4_value T (b6 11 1).toNatClampNeg (-20) b6).bind fun b9 => (if x0 < (b4 + (p_X5_clamp b9.1 0 99)) then (some (0, b9.2)) else (f_X1_moves_68 T  b9.2))) else none)))))
set_option maxRecDepth 20000 in
theorem t_X1_moves (T : Nat) (x0 : Int32) (x1 : Int32) (x2 : Int32) (x3 : Int32) (x4 : Int32) (st : px_S) : px_O (6, 0, 0, px_n T, m_X1_moves) (px_gi T) (f_X1_moves T x0 x1 x2 x3 x4 st) 0 [some (.ref 11), some (.int x0), some (.int x1), some (.int x2), some (.int x3), some (.int x4), none] [] (HP T st) 0 0 := by
  rw [f_X1_moves]
  refine o_aload_n dX1_moves_0 rfl ?_
  refine h_get (v := .ref 12) dX1_moves_1 q1 fl_X1_12 (by decide) (px_lt (by decide)) (c11 _) rfl ?_
  refine o_iload_n dX1_moves_4 rfl ?_
  refine o_iload dX1_moves_5 rfl ?_
  refine o_iload dX1_moves_7 rfl ?_
  refine h_cV0 (as := [.int x1, .int x3, .int x4]) (S1 := []) (d' := 5) dX1_moves_9 mf_X0_wantsOf ml_X1_98 mv_X0_wantsOf q0 rfl (hp_at (px_ltH 0 (by decide) (Or.inr (Or.inr rfl))) (cH (Or.inr (Or.inr rfl)) _)) rfl (Nat.le_of_ble_eq_true rfl) rfl (Nat.le_of_ble_eq_true rfl) ⟨Nat.zero_le _, Nat.zero_le _⟩ (fun b hb => k_X0_wantsOf (Or.inr (Or.inr rfl)) hb) (fun b4 hb4 => ?_)
  refine o_istore (L' := [some (.ref 11), some (.int x0), some (.int x1), some (.int x2), some (.int x3), some (.int x4), some (.int b4)]) dX1_moves_12 (Nat.le_of_ble_eq_true rfl) rfl rfl ?_
  refine o_iload_n dX1_moves_14 rfl ?_
  refine o_iload dX1_moves_15 rfl ?_
  refine o_icmpge (tgt := 22) dX1_moves_17 (by decide) (fun u5 => ?_) (fun u5 => ?_)
  · refine o_aload_n dX1_moves_22 rfl ?_
    refine o_iload_n dX1_moves_23 rfl ?_
    refine o_iload_n dX1_moves_24 rfl ?_
    refine o_iload dX1_moves_25 rfl ?_
    refine h_cVr (as := [.int x1, .int x2, .int x3]) (S1 := []) (d' := 1) dX1_moves_27 mf_X1_factsOf ml_X1_75 mv_X1_factsOf q1 rfl (hp_at (px_lt (by decide)) (c11 _)) rfl (Nat.le_of_ble_eq_true rfl) rfl (Nat.le_of_ble_eq_true rfl) (fun b hb => k_X1_factsOf hb) (fun b6 hb6 => ?_)
    refine o_pop dX1_moves_30 rfl ?_
    refine o_iload dX1_moves_31 rfl ?_
    refine o_ifeq (tgt := 68) dX1_moves_33 (by decide) (fun u7 => ?_) (fun u7 => ?_)
    · exact o_weak (L' := [some (.ref 11), none, none, none, none, none, none]) ⟨rfl, trivial⟩ (t_X1_moves_68 T  b6)
    · refine o_iload_n dX1_moves_36 rfl ?_
      refine o_iload dX1_moves_37 rfl ?_
      refine o_aload_n dX1_moves_39 rfl ?_
      refine h_get (v := .ref (b6 11 1).toNatClampNeg) dX1_moves_40 q1 fl_X1_23 (by decide) (px_lt (by decide)) (c11 _) rfl ?_
      refine o_bipush (v := (-20)) dX1_moves_43 (by decide) ?_
      refine o_aload_n dX1_moves_45 rfl ?_
      refine h_get (v := .ref 19) dX1_moves_46 q1 fl_X1_27 (by decide) (px_lt (by decide)) (c11 _) rfl ?_
      refine o_aload_n dX1_moves_49 rfl ?_
      refine h_get (v := .ref 20) dX1_moves_50 q1 fl_X1_31 (by decide) (px_lt (by decide)) (c11 _) rfl ?_
      refine o_ite (fun u8 => ?_) (fun _ => o_none)
      refine h_cVi (as := [.int (-20), .ref 19, .ref 20]) (S1 := [.int b4, .int x0]) (d' := 1) dX1_moves_53 mf_X4_value ml_X1_79 mv_X4_value q4 rfl (hp_at (px_ltT 0 (by decide) u8) (cT u8 _)) rfl (Nat.le_of_ble_eq_true rfl) rfl (Nat.le_of_ble_eq_true rfl) (fun b hb => k_X4_value u8 hb) (fun b9 hb9 => ?_)
      refine o_iconst (v := 0) dX1_moves_56 (by decide) ?_
      refine o_bipush (v := 99) dX1_moves_57 (by decide) ?_
      refine h_cNP (as := [.int b9.1, .int 0, .int 99]) (S1 := [.int b4, .int x0]) (d' := 1) dX1_moves_59 mf_X5_clamp ml_X1_83 ms_X5_clamp rfl (Nat.le_of_ble_eq_true rfl) rfl (Nat.le_of_ble_eq_true rfl) ⟨Nat.zero_le _, Nat.zero_le _⟩ (k_X5_clamp) ?_
      refine o_iadd dX1_moves_62 ?_
      refine o_icmpge (tgt := 68) dX1_moves_63 (by decide) (fun u10 => ?_) (fun u10 => ?_)
      · exact o_weak (L' := [some (.ref 11), none, none, none, none, none, none]) ⟨rfl, trivial⟩ (t_X1_moves_68 T  b9.2)
      · refine o_iconst (v := 0) dX1_moves_66 (by decide) ?_
        exact o_iret (rt := .boolean) rfl rfl dX1_moves_67 rfl (Nat.zero_le _) (Nat.zero_le _)
  · refine o_iconst (v := 0) dX1_moves_20 (by decide) ?_
    exact o_iret (rt := .boolean) rfl rfl dX1_moves_21 rfl (Nat.zero_le _) (Nat.zero_le _)
theorem k_X1_moves {T : Nat} {st : px_S} {x0 : Int32} {x1 : Int32} {x2 : Int32} {x3 : Int32} {x4 : Int32} {b : Int32 × px_S} (hf : f_X1_moves T x0 x1 x2 x3 x4 st = some b) : px_K (6) 0 0 m_X1_moves [.ref 11, .int x0, .int x1, .int x2, .int x3, .int x4] (HP T st) ((px_gi T) b).1 ((px_gi T) b).2 := px_KofH hf mf_X1_moves (Nat.le_of_ble_eq_true rfl) rfl (t_X1_moves T x0 x1 x2 x3 x4 st)
/-! ThreeOfThem$Judge.isLookedPair(II)Z: R, depth 1 -/
def f_X1_isLookedPair (T : Nat) (st : px_S) (x0 : Int32) (x1 : Int32) : Option (Int32) := (if x0 = x1 then (some 0) else (if (p_X5_has (st 11 4) x0) = 0 then (some 0) else (if (p_X5_has (st 11 4) x1) = 0 then (some 0) else (some 1))))
set_option maxRecDepth 20000 in
theorem t_X1_isLookedPair (T : Nat) (st : px_S) (x0 : Int32) (x1 : Int32) : px_O (1, 0, 0, px_n T, m_X1_isLookedPair) (px_g0 (HP T st)) (f_X1_isLookedPair T st x0 x1) 0 [some (.ref 11), some (.int x0), some (.int x1)] [] (HP T st) 0 0 := by
  rw [f_X1_isLookedPair]
  refine o_iload_n dX1_isLookedPair_0 rfl ?_
  refine o_iload_n dX1_isLookedPair_1 rfl ?_
  refine o_icmpeq (tgt := 31) dX1_isLookedPair_2 (by decide) (fun u1 => ?_) (fun u1 => ?_)
  · refine o_iconst (v := 0) dX1_isLookedPair_31 (by decide) ?_
    exact o_iret (rt := .boolean) rfl rfl dX1_isLookedPair_32 rfl (Nat.zero_le _) (Nat.zero_le _)
  · refine o_aload_n dX1_isLookedPair_5 rfl ?_
    refine h_get (v := .int (st 11 4)) dX1_isLookedPair_6 q1 fl_X1_102 (by decide) (px_lt (by decide)) (c11 _) rfl ?_
    refine o_iload_n dX1_isLookedPair_9 rfl ?_
    refine h_cNP (as := [.int (st 11 4), .int x0]) (S1 := []) (d' := 0) dX1_isLookedPair_10 mf_X5_has ml_X1_91 ms_X5_has rfl (Nat.le_of_ble_eq_true rfl) rfl (Nat.le_of_ble_eq_true rfl) ⟨Nat.zero_le _, Nat.zero_le _⟩ (k_X5_has) ?_
    refine o_ifeq (tgt := 31) dX1_isLookedPair_13 (by decide) (fun u2 => ?_) (fun u2 => ?_)
    · refine o_iconst (v := 0) dX1_isLookedPair_31 (by decide) ?_
      exact o_iret (rt := .boolean) rfl rfl dX1_isLookedPair_32 rfl (Nat.zero_le _) (Nat.zero_le _)
    · refine o_aload_n dX1_isLookedPair_16 rfl ?_
      refine h_get (v := .int (st 11 4)) dX1_isLookedPair_17 q1 fl_X1_102 (by decide) (px_lt (by decide)) (c11 _) rfl ?_
      refine o_iload_n dX1_isLookedPair_20 rfl ?_
      refine h_cNP (as := [.int (st 11 4), .int x1]) (S1 := []) (d' := 0) dX1_isLookedPair_21 mf_X5_has ml_X1_91 ms_X5_has rfl (Nat.le_of_ble_eq_true rfl) rfl (Nat.le_of_ble_eq_true rfl) ⟨Nat.zero_le _, Nat.zero_le _⟩ (k_X5_has) ?_
      refine o_ifeq (tgt := 31) dX1_isLookedPair_24 (by decide) (fun u3 => ?_) (fun u3 => ?_)
      · refine o_iconst (v := 0) dX1_isLookedPair_31 (by decide) ?_
        exact o_iret (rt := .boolean) rfl rfl dX1_isLookedPair_32 rfl (Nat.zero_le _) (Nat.zero_le _)
      · refine o_iconst (v := 1) dX1_isLookedPair_27 (by decide) ?_
        refine o_goto (tgt := 32) dX1_isLookedPair_28 (by decide) ?_
        exact o_iret (rt := .boolean) rfl rfl dX1_isLookedPair_32 rfl (Nat.zero_le _) (Nat.zero_le _)
theorem k_X1_isLookedPair_o {T : Nat} {st : px_S} {x0 : Int32} {x1 : Int32} {b : Int32} (hf : f_X1_isLookedPair T st x0 x1 = some b) : px_K (1) 0 0 m_X1_isLookedPair [.ref 11, .int x0, .int x1] (HP T st) (some (.int b)) (HP T st) := px_KofH (g := px_g0 (HP T st)) hf mf_X1_isLookedPair (Nat.le_of_ble_eq_true rfl) rfl (t_X1_isLookedPair T st x0 x1)
theorem k_X1_isLookedPair {T : Nat} {st : px_S} {x0 : Int32} {x1 : Int32} {b : Int32} (hf : f_X1_isLookedPair T st x0 x1 = some b) : px_K (1) 0 0 m_X1_isLookedPair [.ref 11, .int x0, .int x1] (HP T st) (some (.int b)) (HP T st) := k_X1_isLookedPair_o hf
/-! ThreeOfThem$Judge.compare()V: S, depth 7 -/
def f_X1_compare_88 (T : Nat) (k10 : Int32 → Int32 → px_S → Option (px_S)) : Nat → Int32 → Int32 → Int32 → Int32 → px_S → Option (px_S)
  | 0, _, _, _, _, _ => none
  | n + 1, y1, y2, y3, y4, st => (if y4 < 7 then (if px_in ((y2 * 7) + y4) 49 then (if px_in ((y2 * 7) + y4) 49 then ((f_X1_compare_88 T k10 n) y1 y2 y3 (y4 + 1) (up st 21 ((y2 * 7) + y4).toNatClampNeg ((st 21 ((y2 * 7) + y4).toNatClampNeg) + y3))) else none) else none) else (k10 y1 (y2 + 1) st))
set_option maxRecDepth 20000 in
theorem t_X1_compare_88 (T : Nat) (k10 : Int32 → Int32 → px_S → Option (px_S)) (hk10 : ∀ (y1 : Int32) (y2 : Int32) (st : px_S), px_O (7, 0, 0, px_n T, m_X1_compare) (px_gv T) (k10 y1 y2 st) 10 [some (.ref 11), some (.int y1), some (.int y2), none, none, none] [] (HP T st) 0 0) : ∀ (n : Nat) (y1 : Int32) (y2 : Int32) (y3 : Int32) (y4 : Int32) (st : px_S), px_O (7, 0, 0, px_n T, m_X1_compare) (px_gv T) (f_X1_compare_88 T k10 n y1 y2 y3 y4 st) 88 [some (.ref 11), some (.int y1), some (.int y2), some (.int y3), some (.int y4), none] [] (HP T st) 0 0 := by
  intro n
  induction n with
  | zero => intro y1 y2 y3 y4 st; rw [f_X1_compare_88]; exact o_none
  | succ n ih =>
    intro y1 y2 y3 y4 st
    rw [f_X1_compare_88]
    refine o_iload dX1_compare_88 rfl ?_
    refine o_bipush (v := 7) dX1_compare_90 (by decide) ?_
    refine o_icmpge (tgt := 117) dX1_compare_92 (by decide) (fun u1 => ?_) (fun u1 => ?_)
    · refine o_iinc (v := (y2 + 1)) (L' := [some (.ref 11), some (.int y1), some (.int (y2 + 1)), some (.int y3), some (.int y4), none]) dX1_compare_117 rfl rfl (Nat.le_of_ble_eq_true rfl) rfl rfl ?_
      refine o_goto (tgt := 10) dX1_compare_120 (by decide) ?_
      exact o_weak (L' := [some (.ref 11), some (.int y1), some (.int (y2 + 1)), none, none, none]) ⟨rfl, ⟨rfl, ⟨rfl, trivial⟩⟩⟩ (hk10 y1 (y2 + 1) st)
    · refine o_aload_n dX1_compare_95 rfl ?_
      refine h_get (v := .ref 21) dX1_compare_96 q1 fl_X1_34 (by decide) (px_lt (by decide)) (c11 _) rfl ?_
      refine o_iload_n dX1_compare_99 rfl ?_
      refine o_bipush (v := 7) dX1_compare_100 (by decide) ?_
      refine o_imul dX1_compare_102 ?_
      refine o_iload dX1_compare_103 rfl ?_
      refine o_iadd dX1_compare_105 ?_
      refine o_dup2 dX1_compare_106 rfl rfl ?_
      refine h_iald (n := 49) dX1_compare_107 (px_lt (by decide)) (c21 _) (fun u2 => ?_)
      refine o_iload_n dX1_compare_108 rfl ?_
      refine o_iadd dX1_compare_109 ?_
      refine h_iast (n := 49) dX1_compare_110 (px_lt (by decide)) c21 (fun u3 => ?_)
      refine o_iinc (v := (y4 + 1)) (L' := [some (.ref 11), some (.int y1), some (.int y2), some (.int y3), some (.int (y4 + 1)), none]) dX1_compare_111 rfl rfl (Nat.le_of_ble_eq_true rfl) rfl rfl ?_
      refine o_goto (tgt := 88) dX1_compare_114 (by decide) ?_
      exact (ih y1 y2 y3 (y4 + 1) (up st 21 ((y2 * 7) + y4).toNatClampNeg ((st 21 ((y2 * 7) + y4).toNatClampNeg) + y3)))
def f_X1_compare_21 (T : Nat) (k10 : Int32 → Int32 → px_S → Option (px_S)) : Nat → Int32 → Int32 → Int32 → Int32 → px_S → Option (px_S)
  | 0, _, _, _, _, _ => none
  | n + 1, y1, y2, y3, y4, st => (if y4 < 7 then ((f_X1_isLookedPair T st y2 y4).bind fun b5 => (if b5 = 0 then ((f_X1_compare_21 T k10 n) y1 y2 y3 (y4 + 1) st) else ((f_X1_worthOf T y2 y4 (y1 - 1) st).bind fun b7 => ((f_X1_worthOf T y2 y4 y1 b7.2).bind fun b8 => (if px_in ((y2 * 7) + y4) 49 then ((f_X1_compare_21 T k10 n) y1 y2 (y3 + (b7.1 - b8.1)) (y4 + 1) (up b8.2 21 ((y2 * 7) + y4).toNatClampNeg (-b7.1))) else none))))) else (f_X1_compare_88 T k10 1000 y1 y2 y3 0 st))
set_option maxRecDepth 20000 in
theorem t_X1_compare_21 (T : Nat) (k10 : Int32 → Int32 → px_S → Option (px_S)) (hk10 : ∀ (y1 : Int32) (y2 : Int32) (st : px_S), px_O (7, 0, 0, px_n T, m_X1_compare) (px_gv T) (k10 y1 y2 st) 10 [some (.ref 11), some (.int y1), some (.int y2), none, none, none] [] (HP T st) 0 0) : ∀ (n : Nat) (y1 : Int32) (y2 : Int32) (y3 : Int32) (y4 : Int32) (st : px_S), px_O (7, 0, 0, px_n T, m_X1_compare) (px_gv T) (f_X1_compare_21 T k10 n y1 y2 y3 y4 st) 21 [some (.ref 11), some (.int y1), some (.int y2), some (.int y3), some (.int y4), none] [] (HP T st) 0 0 := by
  intro n
  induction n with
  | zero => intro y1 y2 y3 y4 st; rw [f_X1_compare_21]; exact o_none
  | succ n ih =>
    intro y1 y2 y3 y4 st
    rw [f_X1_compare_21]
    refine o_iload dX1_compare_21 rfl ?_
    refine o_bipush (v := 7) dX1_compare_23 (by decide) ?_
    refine o_icmpge (tgt := 85) dX1_compare_25 (by decide) (fun u4 => ?_) (fun u4 => ?_)
    · refine o_iconst (v := 0) dX1_compare_85 (by decide) ?_
      refine o_istore (L' := [some (.ref 11), some (.int y1), some (.int y2), some (.int y3), some (.int 0), none]) dX1_compare_86 (Nat.le_of_ble_eq_true rfl) rfl rfl ?_
      exact (t_X1_compare_88 T k10 hk10 1000 y1 y2 y3 0 st)
    · refine o_aload_n dX1_compare_28 rfl ?_
      refine o_iload_n dX1_compare_29 rfl ?_
      refine o_iload dX1_compare_30 rfl ?_
      refine h_cV0 (as := [.int y2, .int y4]) (S1 := []) (d' := 1) dX1_compare_32 mf_X1_isLookedPair ml_X1_116 mv_X1_isLookedPair q1 rfl (hp_at (px_lt (by decide)) (c11 _)) rfl (Nat.le_of_ble_eq_true rfl) rfl (Nat.le_of_ble_eq_true rfl) ⟨Nat.zero_le _, Nat.zero_le _⟩ (fun b hb => k_X1_isLookedPair hb) (fun b5 hb5 => ?_)
      refine o_ifeq (tgt := 79) dX1_compare_35 (by decide) (fun u6 => ?_) (fun u6 => ?_)
      · refine o_iinc (v := (y4 + 1)) (L' := [some (.ref 11), some (.int y1), some (.int y2), some (.int y3), some (.int (y4 + 1)), none]) dX1_compare_79 rfl rfl (Nat.le_of_ble_eq_true rfl) rfl rfl ?_
        refine o_goto (tgt := 21) dX1_compare_82 (by decide) ?_
        exact (ih y1 y2 y3 (y4 + 1) st)
      · refine o_aload_n dX1_compare_38 rfl ?_
        refine o_iload_n dX1_compare_39 rfl ?_
        refine o_iload dX1_compare_40 rfl ?_
        refine o_iload_n dX1_compare_42 rfl ?_
        refine o_iconst (v := 1) dX1_compare_43 (by decide) ?_
        refine o_isub dX1_compare_44 ?_
        refine h_cVi (as := [.int y2, .int y4, .int (y1 - 1)]) (S1 := []) (d' := 6) dX1_compare_45 mf_X1_worthOf ml_X1_95 mv_X1_worthOf q1 rfl (hp_at (px_lt (by decide)) (c11 _)) rfl (Nat.le_of_ble_eq_true rfl) rfl (Nat.le_of_ble_eq_true rfl) (fun b hb => k_X1_worthOf hb) (fun b7 hb7 => ?_)
        refine o_istore (L' := [some (.ref 11), some (.int y1), some (.int y2), some (.int y3), some (.int y4), some (.int b7.1)]) dX1_compare_48 (Nat.le_of_ble_eq_true rfl) rfl rfl ?_
        refine o_iload_n dX1_compare_50 rfl ?_
        refine o_iload dX1_compare_51 rfl ?_
        refine o_aload_n dX1_compare_53 rfl ?_
        refine o_iload_n dX1_compare_54 rfl ?_
        refine o_iload dX1_compare_55 rfl ?_
        refine o_iload_n dX1_compare_57 rfl ?_
        refine h_cVi (as := [.int y2, .int y4, .int y1]) (S1 := [.int b7.1, .int y3]) (d' := 6) dX1_compare_58 mf_X1_worthOf ml_X1_95 mv_X1_worthOf q1 rfl (hp_at (px_lt (by decide)) (c11 _)) rfl (Nat.le_of_ble_eq_true rfl) rfl (Nat.le_of_ble_eq_true rfl) (fun b hb => k_X1_worthOf hb) (fun b8 hb8 => ?_)
        refine o_isub dX1_compare_61 ?_
        refine o_iadd dX1_compare_62 ?_
        refine o_istore_n (L' := [some (.ref 11), some (.int y1), some (.int y2), some (.int (y3 + (b7.1 - b8.1))), some (.int y4), some (.int b7.1)]) dX1_compare_63 (Nat.le_of_ble_eq_true rfl) rfl rfl ?_
        refine o_aload_n dX1_compare_64 rfl ?_
        refine h_get (v := .ref 21) dX1_compare_65 q1 fl_X1_34 (by decide) (px_lt (by decide)) (c11 _) rfl ?_
        refine o_iload_n dX1_compare_68 rfl ?_
        refine o_bipush (v := 7) dX1_compare_69 (by decide) ?_
        refine o_imul dX1_compare_71 ?_
        refine o_iload dX1_compare_72 rfl ?_
        refine o_iadd dX1_compare_74 ?_
        refine o_iload dX1_compare_75 rfl ?_
        refine o_ineg dX1_compare_77 ?_
        refine h_iast (n := 49) dX1_compare_78 (px_lt (by decide)) c21 (fun u9 => ?_)
        refine o_iinc (v := (y4 + 1)) (L' := [some (.ref 11), some (.int y1), some (.int y2), some (.int (y3 + (b7.1 - b8.1))), some (.int (y4 + 1)), some (.int b7.1)]) dX1_compare_79 rfl rfl (Nat.le_of_ble_eq_true rfl) rfl rfl ?_
        refine o_goto (tgt := 21) dX1_compare_82 (by decide) ?_
        exact o_weak (L' := [some (.ref 11), some (.int y1), some (.int y2), some (.int (y3 + (b7.1 - b8.1))), some (.int (y4 + 1)), none]) ⟨rfl, ⟨rfl, ⟨rfl, ⟨rfl, ⟨rfl, trivial⟩⟩⟩⟩⟩ (ih y1 y2 (y3 + (b7.1 - b8.1)) (y4 + 1) (up b8.2 21 ((y2 * 7) + y4).toNatClampNeg (-b7.1)))
def f_X1_compare_10 (T : Nat) : Nat → Int32 → Int32 → px_S → Option (px_S)
  | 0, _, _, _ => none
  | n + 1, y1, y2, st => (if y2 < 7 then (f_X1_compare_21 T (f_X1_compare_10 T n) 1000 y1 y2 0 0 st) else (some st))
set_option maxRecDepth 20000 in
theorem t_X1_compare_10 (T : Nat) : ∀ (n : Nat) (y1 : Int32) (y2 : Int32) (st : px_S), px_O (7, 0, 0, px_n T, m_X1_compare) (px_gv T) (f_X1_compare_10 T n y1 y2 st) 10 [some (.ref 11), some (.int y1), some (.int y2), none, none, none] [] (HP T st) 0 0 := by
  intro n
  induction n with
  | zero => intro y1 y2 st; rw [f_X1_compare_10]; exact o_none
  | succ n ih =>
    intro y1 y2 st
    rw [f_X1_compare_10]
    refine o_iload_n dX1_compare_10 rfl ?_
    refine o_bipush (v := 7) dX1_compare_11 (by decide) ?_
    refine o_icmpge (tgt := 123) dX1_compare_13 (by decide) (fun u10 => ?_) (fun u10 => ?_)
    · exact o_vret rfl dX1_compare_123 rfl (Nat.zero_le _) (Nat.zero_le _)
    · refine o_iconst (v := 0) dX1_compare_16 (by decide) ?_
      refine o_istore_n (L' := [some (.ref 11), some (.int y1), some (.int y2), some (.int 0), none, none]) dX1_compare_17 (Nat.le_of_ble_eq_true rfl) rfl rfl ?_
      refine o_iconst (v := 0) dX1_compare_18 (by decide) ?_
      refine o_istore (L' := [some (.ref 11), some (.int y1), some (.int y2), some (.int 0), some (.int 0), none]) dX1_compare_19 (Nat.le_of_ble_eq_true rfl) rfl rfl ?_
      exact (t_X1_compare_21 T (f_X1_compare_10 T n) ih 1000 y1 y2 0 0 st)
def f_X1_compare (T : Nat) (st : px_S) : Option (px_S) := (f_X1_compare_10 T 1000 (p_J6_bitCount_0f7a4 (st 11 4)) 0 st)
set_option maxRecDepth 20000 in
theorem t_X1_compare (T : Nat) (st : px_S) : px_O (7, 0, 0, px_n T, m_X1_compare) (px_gv T) (f_X1_compare T st) 0 [some (.ref 11), none, none, none, none, none] [] (HP T st) 0 0 := by
  rw [f_X1_compare]
  refine o_aload_n dX1_compare_0 rfl ?_
  refine h_get (v := .int (st 11 4)) dX1_compare_1 q1 fl_X1_102 (by decide) (px_lt (by decide)) (c11 _) rfl ?_
  refine h_cSP (as := [.int (st 11 4)]) (S1 := []) (d' := 0) dX1_compare_4 mf_J6_bitCount_0f7a4 ml_X1_111 ms_J6_bitCount_0f7a4 rfl (Nat.le_of_ble_eq_true rfl) rfl (Nat.le_of_ble_eq_true rfl) ⟨Nat.zero_le _, Nat.zero_le _⟩ (k_J6_bitCount_0f7a4) ?_
  refine o_istore_n (L' := [some (.ref 11), some (.int (p_J6_bitCount_0f7a4 (st 11 4))), none, none, none, none]) dX1_compare_7 (Nat.le_of_ble_eq_true rfl) rfl rfl ?_
  refine o_iconst (v := 0) dX1_compare_8 (by decide) ?_
  refine o_istore_n (L' := [some (.ref 11), some (.int (p_J6_bitCount_0f7a4 (st 11 4))), some (.int 0), none, none, none]) dX1_compare_9 (Nat.le_of_ble_eq_true rfl) rfl rfl ?_
  exact (t_X1_compare_10 T 1000 (p_J6_bitCount_0f7a4 (st 11 4)) 0 st)
theorem k_X1_compare {T : Nat} {st : px_S} {b : px_S} (hf : f_X1_compare T st = some b) : px_K (7) 0 0 m_X1_compare [.ref 11] (HP T st) ((px_gv T) b).1 ((px_gv T) b).2 := px_KofH hf mf_X1_compare (Nat.le_of_ble_eq_true rfl) rfl (t_X1_compare T st)
/-! ThreeOfThem$Judge.weigh()V: S, depth 7 -/
def f_X1_weigh_118 (T : Nat) (k55 : Int32 → Int32 → Int32 → Int32 → px_S → Option (px_S)) (y1 : Int32) (y2 : Int32) (y3 : Int32) (y4 : Int32) (y5 : Int32) (z0 : Int32) (z1 : Int32) (z2 : Int32) (st : px_S) : Option (px_S) := (if px_in z2 7 then (if px_in y4 7 then ((f_X1_moves T y5 y3 y4 y1 1 (up st 22 z2.toNatClampNeg (z1 ||| z0))).bind fun b3 => (if b3.1 = 0 then (if px_in y4 7 then (k55 y1 y2 y3 (y4 + 1) (up b3.2 23 y4.toNatClampNeg (((up st 22 z2.toNatClampNeg (z1 ||| z0)) 23 y4.toNatClampNeg) ||| 0))) else none) else (if px_in y4 7 then (k55 y1 y2 y3 (y4 + 1) (up b3.2 23 y4.toNatClampNeg (((up st 22 z2.toNatClampNeg (z1 ||| z0)) 23 y4.toNatClampNeg) ||| (p_X5_bit y3)))) else none))) else none) else none)
set_option maxRecDepth 20000 in
theorem t_X1_weigh_118 (T : Nat) (k55 : Int32 → Int32 → Int32 → Int32 → px_S → Option (px_S)) (hk55 : ∀ (y1 : Int32) (y2 : Int32) (y3 : Int32) (y4 : Int32) (st : px_S), px_O (7, 0, 0, px_n T, m_X1_weigh) (px_gv T) (k55 y1 y2 y3 y4 st) 55 [some (.ref 11), some (.int y1), some (.int y2), some (.int y3), some (.int y4), none] [] (HP T st) 0 0) (y1 : Int32) (y2 : Int32) (y3 : Int32) (y4 : Int32) (y5 : Int32) (z0 : Int32) (z1 : Int32) (z2 : Int32) (st : px_S) : px_O (7, 0, 0, px_n T, m_X1_weigh) (px_gv T) (f_X1_weigh_118 T k55 y1 y2 y3 y4 y5 z0 z1 z2 st) 118 [some (.ref 11), some (.int y1), some (.int y2), some (.int y3), some (.int y4), some (.int y5)] [.int z0, .int z1, .int z2, .ref 22] (HP T st) 0 0 := by
  rw [f_X1_weigh_118]
  refine o_ior dX1_weigh_118 ?_
  refine h_iast (n := 7) dX1_weigh_119 (px_lt (by decide)) c22 (fun u1 => ?_)
  refine o_aload_n dX1_weigh_120 rfl ?_
  refine h_get (v := .ref 23) dX1_weigh_121 q1 fl_X1_40 (by decide) (px_lt (by decide)) (c11 _) rfl ?_
  refine o_iload dX1_weigh_124 rfl ?_
  refine o_dup2 dX1_weigh_126 rfl rfl ?_
  refine h_iald (n := 7) dX1_weigh_127 (px_lt (by decide)) (c23 _) (fun u2 => ?_)
  refine o_aload_n dX1_weigh_128 rfl ?_
  refine o_iload dX1_weigh_129 rfl ?_
  refine o_iload_n dX1_weigh_131 rfl ?_
  refine o_iload dX1_weigh_132 rfl ?_
  refine o_iload_n dX1_weigh_134 rfl ?_
  refine o_iconst (v := 1) dX1_weigh_135 (by decide) ?_
  refine h_cVi (as := [.int y5, .int y3, .int y4, .int y1, .int 1]) (S1 := [.int ((up st 22 z2.toNatClampNeg (z1 ||| z0)) 23 y4.toNatClampNeg), .int y4, .ref 23]) (d' := 6) dX1_weigh_136 mf_X1_moves ml_X1_125 mv_X1_moves q1 rfl (hp_at (px_lt (by decide)) (c11 _)) rfl (Nat.le_of_ble_eq_true rfl) rfl (Nat.le_of_ble_eq_true rfl) (fun b hb => k_X1_moves hb) (fun b3 hb3 => ?_)
  refine o_ifeq (tgt := 149) dX1_weigh_139 (by decide) (fun u4 => ?_) (fun u4 => ?_)
  · refine o_iconst (v := 0) dX1_weigh_149 (by decide) ?_
    refine o_ior dX1_weigh_150 ?_
    refine h_iast (n := 7) dX1_weigh_151 (px_lt (by decide)) c23 (fun u5 => ?_)
    refine o_iinc (v := (y4 + 1)) (L' := [some (.ref 11), some (.int y1), some (.int y2), some (.int y3), some (.int (y4 + 1)), some (.int y5)]) dX1_weigh_152 rfl rfl (Nat.le_of_ble_eq_true rfl) rfl rfl ?_
    refine o_goto (tgt := 55) dX1_weigh_155 (by decide) ?_
    exact o_weak (L' := [some (.ref 11), some (.int y1), some (.int y2), some (.int y3), some (.int (y4 + 1)), none]) ⟨rfl, ⟨rfl, ⟨rfl, ⟨rfl, ⟨rfl, trivial⟩⟩⟩⟩⟩ (hk55 y1 y2 y3 (y4 + 1) (up b3.2 23 y4.toNatClampNeg (((up st 22 z2.toNatClampNeg (z1 ||| z0)) 23 y4.toNatClampNeg) ||| 0)))
  · refine o_iload_n dX1_weigh_142 rfl ?_
    refine h_cNP (as := [.int y3]) (S1 := [.int ((up st 22 z2.toNatClampNeg (z1 ||| z0)) 23 y4.toNatClampNeg), .int y4, .ref 23]) (d' := 0) dX1_weigh_143 mf_X5_bit ml_X1_129 ms_X5_bit rfl (Nat.le_of_ble_eq_true rfl) rfl (Nat.le_of_ble_eq_true rfl) ⟨Nat.zero_le _, Nat.zero_le _⟩ (k_X5_bit) ?_
    refine o_goto (tgt := 150) dX1_weigh_146 (by decide) ?_
    refine o_ior dX1_weigh_150 ?_
    refine h_iast (n := 7) dX1_weigh_151 (px_lt (by decide)) c23 (fun u6 => ?_)
    refine o_iinc (v := (y4 + 1)) (L' := [some (.ref 11), some (.int y1), some (.int y2), some (.int y3), some (.int (y4 + 1)), some (.int y5)]) dX1_weigh_152 rfl rfl (Nat.le_of_ble_eq_true rfl) rfl rfl ?_
    refine o_goto (tgt := 55) dX1_weigh_155 (by decide) ?_
    exact o_weak (L' := [some (.ref 11), some (.int y1), some (.int y2), some (.int y3), some (.int (y4 + 1)), none]) ⟨rfl, ⟨rfl, ⟨rfl, ⟨rfl, ⟨rfl, trivial⟩⟩⟩⟩⟩ (hk55 y1 y2 y3 (y4 + 1) (up b3.2 23 y4.toNatClampNeg (((up st 22 z2.toNatClampNeg (z1 ||| z0)) 23 y4.toNatClampNeg) ||| (p_X5_bit y3))))
def f_X1_weigh_55 (T : Nat) (k46 : Int32 → Int32 → Int32 → px_S → Option (px_S)) : Nat → Int32 → Int32 → Int32 → Int32 → px_S → Option (px_S)
  | 0, _, _, _, _, _ => none
  | n + 1, y1, y2, y3, y4, st => (if y4 < 7 then ((f_X1_isLookedPair T st y3 y4).bind fun b8 => (if b8 = 0 then ((f_X1_weigh_55 T k46 n) y1 y2 y3 (y4 + 1) st) else (if px_in ((y3 * 7) + y4) 49 then (if px_in y4 7 then ((f_X1_moves T ((st 21 ((y3 * 7) + y4).toNatClampNeg) + y2) y3 y4 y1 0 st).bind fun b12 => (if b12.1 = 0 then (f_X1_weigh_118 T (f_X1_weigh_55 T k46 n) y1 y2 y3 y4 ((st 21 ((y3 * 7) + y4).toNatClampNeg) + y2) 0 (st 22 y4.toNatClampNeg) y4 b12.2) else (f_X1_weigh_118 T (f_X1_weigh_55 T k46 n) y1 y2 y3 y4 ((st 21 ((y3 * 7) + y4).toNatClampNeg) + y2) (p_X5_bit y3) (st 22 y4.toNatClampNeg) y4 b12.2))) else none) else none))) else (k46 y1 y2 (y3 + 1) st))
set_option maxRecDepth 20000 in
theorem t_X1_weigh_55 (T : Nat) (k46 : Int32 → Int32 → Int32 → px_S → Option (px_S)) (hk46 : ∀ (y1 : Int32) (y2 : Int32) (y3 : Int32) (st : px_S), px_O (7, 0, 0, px_n T, m_X1_weigh) (px_gv T) (k46 y1 y2 y3 st) 46 [some (.ref 11), some (.int y1), some (.int y2), some (.int y3), none, none] [] (HP T st) 0 0) : ∀ (n : Nat) (y1 : Int32) (y2 : Int32) (y3 : Int32) (y4 : Int32) (st : px_S), px_O (7, 0, 0, px_n T, m_X1_weigh) (px_gv T) (f_X1_weigh_55 T k46 n y1 y2 y3 y4 st) 55 [some (.ref 11), some (.int y1), some (.int y2), some (.int y3), some (.int y4), none] [] (HP T st) 0 0 := by
  intro n
  induction n with
  | zero => intro y1 y2 y3 y4 st; rw [f_X1_weigh_55]; exact o_none
  | succ n ih =>
    intro y1 y2 y3 y4 st
    rw [f_X1_weigh_55]
    refine o_iload dX1_weigh_55 rfl ?_
    refine o_bipush (v := 7) dX1_weigh_57 (by decide) ?_
    refine o_icmpge (tgt := 158) dX1_weigh_59 (by decide) (fun u7 => ?_) (fun u7 => ?_)
    · refine o_iinc (v := (y3 + 1)) (L' := [some (.ref 11), some (.int y1), some (.int y2), some (.int (y3 + 1)), some (.int y4), none]) dX1_weigh_158 rfl rfl (Nat.le_of_ble_eq_true rfl) rfl rfl ?_
      refine o_goto (tgt := 46) dX1_weigh_161 (by decide) ?_
      exact o_weak (L' := [some (.ref 11), some (.int y1), some (.int y2), some (.int (y3 + 1)), none, none]) ⟨rfl, ⟨rfl, ⟨rfl, ⟨rfl, trivial⟩⟩⟩⟩ (hk46 y1 y2 (y3 + 1) st)
    · refine o_aload_n dX1_weigh_62 rfl ?_
      refine o_iload_n dX1_weigh_63 rfl ?_
      refine o_iload dX1_weigh_64 rfl ?_
      refine h_cV0 (as := [.int y3, .int y4]) (S1 := []) (d' := 1) dX1_weigh_66 mf_X1_isLookedPair ml_X1_116 mv_X1_isLookedPair q1 rfl (hp_at (px_lt (by decide)) (c11 _)) rfl (Nat.le_of_ble_eq_true rfl) rfl (Nat.le_of_ble_eq_true rfl) ⟨Nat.zero_le _, Nat.zero_le _⟩ (fun b hb => k_X1_isLookedPair hb) (fun b8 hb8 => ?_)
      refine o_ifeq (tgt := 152) dX1_weigh_69 (by decide) (fun u9 => ?_) (fun u9 => ?_)
      · refine o_iinc (v := (y4 + 1)) (L' := [some (.ref 11), some (.int y1), some (.int y2), some (.int y3), some (.int (y4 + 1)), none]) dX1_weigh_152 rfl rfl (Nat.le_of_ble_eq_true rfl) rfl rfl ?_
        refine o_goto (tgt := 55) dX1_weigh_155 (by decide) ?_
        exact (ih y1 y2 y3 (y4 + 1) st)
      · refine o_aload_n dX1_weigh_72 rfl ?_
        refine h_get (v := .ref 21) dX1_weigh_73 q1 fl_X1_34 (by decide) (px_lt (by decide)) (c11 _) rfl ?_
        refine o_iload_n dX1_weigh_76 rfl ?_
        refine o_bipush (v := 7) dX1_weigh_77 (by decide) ?_
        refine o_imul dX1_weigh_79 ?_
        refine o_iload dX1_weigh_80 rfl ?_
        refine o_iadd dX1_weigh_82 ?_
        refine h_iald (n := 49) dX1_weigh_83 (px_lt (by decide)) (c21 _) (fun u10 => ?_)
        refine o_iload_n dX1_weigh_84 rfl ?_
        refine o_iadd dX1_weigh_85 ?_
        refine o_istore (L' := [some (.ref 11), some (.int y1), some (.int y2), some (.int y3), some (.int y4), some (.int ((st 21 ((y3 * 7) + y4).toNatClampNeg) + y2))]) dX1_weigh_86 (Nat.le_of_ble_eq_true rfl) rfl rfl ?_
        refine o_aload_n dX1_weigh_88 rfl ?_
        refine h_get (v := .ref 22) dX1_weigh_89 q1 fl_X1_37 (by decide) (px_lt (by decide)) (c11 _) rfl ?_
        refine o_iload dX1_weigh_92 rfl ?_
        refine o_dup2 dX1_weigh_94 rfl rfl ?_
        refine h_iald (n := 7) dX1_weigh_95 (px_lt (by decide)) (c22 _) (fun u11 => ?_)
        refine o_aload_n dX1_weigh_96 rfl ?_
        refine o_iload dX1_weigh_97 rfl ?_
        refine o_iload_n dX1_weigh_99 rfl ?_
        refine o_iload dX1_weigh_100 rfl ?_
        refine o_iload_n dX1_weigh_102 rfl ?_
        refine o_iconst (v := 0) dX1_weigh_103 (by decide) ?_
        refine h_cVi (as := [.int ((st 21 ((y3 * 7) + y4).toNatClampNeg) + y2), .int y3, .int y4, .int y1, .int 0]) (S1 := [.int (st 22 y4.toNatClampNeg), .int y4, .ref 22]) (d' := 6) dX1_weigh_104 mf_X1_moves ml_X1_125 mv_X1_moves q1 rfl (hp_at (px_lt (by decide)) (c11 _)) rfl (Nat.le_of_ble_eq_true rfl) rfl (Nat.le_of_ble_eq_true rfl) (fun b hb => k_X1_moves hb) (fun b12 hb12 => ?_)
        refine o_ifeq (tgt := 117) dX1_weigh_107 (by decide) (fun u13 => ?_) (fun u13 => ?_)
        · refine o_iconst (v := 0) dX1_weigh_117 (by decide) ?_
          exact (t_X1_weigh_118 T (f_X1_weigh_55 T k46 n) ih y1 y2 y3 y4 ((st 21 ((y3 * 7) + y4).toNatClampNeg) + y2) 0 (st 22 y4.toNatClampNeg) y4 b12.2)
        · refine o_iload_n dX1_weigh_110 rfl ?_
          refine h_cNP (as := [.int y3]) (S1 := [.int (st 22 y4.toNatClampNeg), .int y4, .ref 22]) (d' := 0) dX1_weigh_111 mf_X5_bit ml_X1_129 ms_X5_bit rfl (Nat.le_of_ble_eq_true rfl) rfl (Nat.le_of_ble_eq_true rfl) ⟨Nat.zero_le _, Nat.zero_le _⟩ (k_X5_bit) ?_
          refine o_goto (tgt := 118) dX1_weigh_114 (by decide) ?_
          exact (t_X1_weigh_118 T (f_X1_weigh_55 T k46 n) ih y1 y2 y3 y4 ((st 21 ((y3 * 7) + y4).toNatClampNeg) + y2) (p_X5_bit y3) (st 22 y4.toNatClampNeg) y4 b12.2)
def f_X1_weigh_46 (T : Nat) : Nat → Int32 → Int32 → Int32 → px_S → Option (px_S)
  | 0, _, _, _, _ => none
  | n + 1, y1, y2, y3, st => (if y3 < 7 then (f_X1_weigh_55 T (f_X1_weigh_46 T n) 1000 y1 y2 y3 0 st) else (some st))
set_option maxRecDepth 20000 in
theorem t_X1_weigh_46 (T : Nat) : ∀ (n : Nat) (y1 : Int32) (y2 : Int32) (y3 : Int32) (st : px_S), px_O (7, 0, 0, px_n T, m_X1_weigh) (px_gv T) (f_X1_weigh_46 T n y1 y2 y3 st) 46 [some (.ref 11), some (.int y1), some (.int y2), some (.int y3), none, none] [] (HP T st) 0 0 := by
  intro n
  induction n with
  | zero => intro y1 y2 y3 st; rw [f_X1_weigh_46]; exact o_none
  | succ n ih =>
    intro y1 y2 y3 st
    rw [f_X1_weigh_46]
    refine o_iload_n dX1_weigh_46 rfl ?_
    refine o_bipush (v := 7) dX1_weigh_47 (by decide) ?_
    refine o_icmpge (tgt := 164) dX1_weigh_49 (by decide) (fun u14 => ?_) (fun u14 => ?_)
    · exact o_vret rfl dX1_weigh_164 rfl (Nat.zero_le _) (Nat.zero_le _)
    · refine o_iconst (v := 0) dX1_weigh_52 (by decide) ?_
      refine o_istore (L' := [some (.ref 11), some (.int y1), some (.int y2), some (.int y3), some (.int 0), none]) dX1_weigh_53 (Nat.le_of_ble_eq_true rfl) rfl rfl ?_
      exact (t_X1_weigh_55 T (f_X1_weigh_46 T n) ih 1000 y1 y2 y3 0 st)
def f_X1_weigh (T : Nat) (st : px_S) : Option (px_S) := ((f_X0_share T (upr (upr st 22 (fun _ => 0)) 23 (fun _ => 0)) 12 ((p_J6_bitCount_0f7a4 (st 11 4)) - 1)).bind fun b15 => ((f_X0_share T (upr (upr st 22 (fun _ => 0)) 23 (fun _ => 0)) 12 (p_J6_bitCount_0f7a4 (st 11 4))).bind fun b16 => (f_X1_weigh_46 T 1000 (p_J6_bitCount_0f7a4 (st 11 4)) (b15 - b16) 0 (upr (upr st 22 (fun _ => 0)) 23 (fun _ => 0)))))
set_option maxRecDepth 20000 in
theorem t_X1_weigh (T : Nat) (st : px_S) : px_O (7, 0, 0, px_n T, m_X1_weigh) (px_gv T) (f_X1_weigh T st) 0 [some (.ref 11), none, none, none, none, none] [] (HP T st) 0 0 := by
  rw [f_X1_weigh]
  refine o_aload_n dX1_weigh_0 rfl ?_
  refine h_get (v := .ref 22) dX1_weigh_1 q1 fl_X1_37 (by decide) (px_lt (by decide)) (c11 _) rfl ?_
  refine o_iconst (v := 0) dX1_weigh_4 (by decide) ?_
  refine h_fill (S1 := []) dX1_weigh_5 mf_J7_fill_53178 ml_X1_119 ms_J7_fill_53178 (Nat.le_of_ble_eq_true rfl) rfl (Nat.le_of_ble_eq_true rfl) (px_lt (by decide)) c22 (by decide) ?_
  refine o_aload_n dX1_weigh_8 rfl ?_
  refine h_get (v := .ref 23) dX1_weigh_9 q1 fl_X1_40 (by decide) (px_lt (by decide)) (c11 _) rfl ?_
  refine o_iconst (v := 0) dX1_weigh_12 (by decide) ?_
  refine h_fill (S1 := []) dX1_weigh_13 mf_J7_fill_53178 ml_X1_119 ms_J7_fill_53178 (Nat.le_of_ble_eq_true rfl) rfl (Nat.le_of_ble_eq_true rfl) (px_lt (by decide)) c23 (by decide) ?_
  refine o_aload_n dX1_weigh_16 rfl ?_
  refine h_get (v := .int (st 11 4)) dX1_weigh_17 q1 fl_X1_102 (by decide) (px_lt (by decide)) (c11 _) rfl ?_
  refine h_cSP (as := [.int (st 11 4)]) (S1 := []) (d' := 0) dX1_weigh_20 mf_J6_bitCount_0f7a4 ml_X1_111 ms_J6_bitCount_0f7a4 rfl (Nat.le_of_ble_eq_true rfl) rfl (Nat.le_of_ble_eq_true rfl) ⟨Nat.zero_le _, Nat.zero_le _⟩ (k_J6_bitCount_0f7a4) ?_
  refine o_istore_n (L' := [some (.ref 11), some (.int (p_J6_bitCount_0f7a4 (st 11 4))), none, none, none, none]) dX1_weigh_23 (Nat.le_of_ble_eq_true rfl) rfl rfl ?_
  refine o_aload_n dX1_weigh_24 rfl ?_
  refine h_get (v := .ref 12) dX1_weigh_25 q1 fl_X1_12 (by decide) (px_lt (by decide)) (c11 _) rfl ?_
  refine o_iload_n dX1_weigh_28 rfl ?_
  refine o_iconst (v := 1) dX1_weigh_29 (by decide) ?_
  refine o_isub dX1_weigh_30 ?_
  refine h_cV0 (as := [.int ((p_J6_bitCount_0f7a4 (st 11 4)) - 1)]) (S1 := []) (d' := 0) dX1_weigh_31 mf_X0_share ml_X1_67 mv_X0_share q0 rfl (hp_at (px_ltH 0 (by decide) (Or.inr (Or.inr rfl))) (cH (Or.inr (Or.inr rfl)) _)) rfl (Nat.le_of_ble_eq_true rfl) rfl (Nat.le_of_ble_eq_true rfl) ⟨Nat.zero_le _, Nat.zero_le _⟩ (fun b hb => k_X0_share (Or.inr (Or.inr rfl)) hb) (fun b15 hb15 => ?_)
  refine o_aload_n dX1_weigh_34 rfl ?_
  refine h_get (v := .ref 12) dX1_weigh_35 q1 fl_X1_12 (by decide) (px_lt (by decide)) (c11 _) rfl ?_
  refine o_iload_n dX1_weigh_38 rfl ?_
  refine h_cV0 (as := [.int (p_J6_bitCount_0f7a4 (st 11 4))]) (S1 := [.int b15]) (d' := 0) dX1_weigh_39 mf_X0_share ml_X1_67 mv_X0_share q0 rfl (hp_at (px_ltH 0 (by decide) (Or.inr (Or.inr rfl))) (cH (Or.inr (Or.inr rfl)) _)) rfl (Nat.le_of_ble_eq_true rfl) rfl (Nat.le_of_ble_eq_true rfl) ⟨Nat.zero_le _, Nat.zero_le _⟩ (fun b hb => k_X0_share (Or.inr (Or.inr rfl)) hb) (fun b16 hb16 => ?_)
  refine o_isub dX1_weigh_42 ?_
  refine o_istore_n (L' := [some (.ref 11), some (.int (p_J6_bitCount_0f7a4 (st 11 4))), some (.int (b15 - b16)), none, none, none]) dX1_weigh_43 (Nat.le_of_ble_eq_true rfl) rfl rfl ?_
  refine o_iconst (v := 0) dX1_weigh_44 (by decide) ?_
  refine o_istore_n (L' := [some (.ref 11), some (.int (p_J6_bitCount_0f7a4 (st 11 4))), some (.int (b15 - b16)), some (.int 0), none, none]) dX1_weigh_45 (Nat.le_of_ble_eq_true rfl) rfl rfl ?_
  exact (t_X1_weigh_46 T 1000 (p_J6_bitCount_0f7a4 (st 11 4)) (b15 - b16) 0 (upr (upr st 22 (fun _ => 0)) 23 (fun _ => 0)))
theorem k_X1_weigh {T : Nat} {st : px_S} {b : px_S} (hf : f_X1_weigh T st = some b) : px_K (7) 0 0 m_X1_weigh [.ref 11] (HP T st) ((px_gv T) b).1 ((px_gv T) b).2 := px_KofH hf mf_X1_weigh (Nat.le_of_ble_eq_true rfl) rfl (t_X1_weigh T st)
/-! ThreeOfThem$Judge.lookAt(I)V: S, depth 8 -/
def f_X1_lookAt (T : Nat) (x0 : Int32) (st : px_S) : Option (px_S) := ((f_X1_compare T (up st 11 4 x0)).bind fun b1 => ((f_X1_weigh T b1).bind fun b2 => (some b2)))
set_option maxRecDepth 20000 in
theorem t_X1_lookAt (T : Nat) (x0 : Int32) (st : px_S) : px_O (8, 0, 0, px_n T, m_X1_lookAt) (px_gv T) (f_X1_lookAt T x0 st) 0 [some (.ref 11), some (.int x0)] [] (HP T st) 0 0 := by
  rw [f_X1_lookAt]
  refine o_aload_n dX1_lookAt_0 rfl ?_
  refine o_iload_n dX1_lookAt_1 rfl ?_
  refine h_puti dX1_lookAt_2 q1 fl_X1_102 pf_X1_4 (px_lt (by decide)) (c11 _) (Nat.le_of_ble_eq_true rfl) (s11_4 _ _) ?_
  refine o_aload_n dX1_lookAt_5 rfl ?_
  refine h_cVv (as := []) (S1 := []) (d' := 7) dX1_lookAt_6 mf_X1_compare ml_X1_105 mv_X1_compare q1 rfl (hp_at (px_lt (by decide)) (c11 _)) rfl (Nat.le_of_ble_eq_true rfl) rfl (Nat.le_of_ble_eq_true rfl) (fun b hb => k_X1_compare hb) (fun b1 hb1 => ?_)
  refine o_aload_n dX1_lookAt_9 rfl ?_
  refine h_cVv (as := []) (S1 := []) (d' := 7) dX1_lookAt_10 mf_X1_weigh ml_X1_108 mv_X1_weigh q1 rfl (hp_at (px_lt (by decide)) (c11 _)) rfl (Nat.le_of_ble_eq_true rfl) rfl (Nat.le_of_ble_eq_true rfl) (fun b hb => k_X1_weigh hb) (fun b2 hb2 => ?_)
  exact o_vret rfl dX1_lookAt_13 rfl (Nat.zero_le _) (Nat.zero_le _)
theorem k_X1_lookAt {T : Nat} {st : px_S} {x0 : Int32} {b : px_S} (hf : f_X1_lookAt T x0 st = some b) : px_K (8) 0 0 m_X1_lookAt [.ref 11, .int x0] (HP T st) ((px_gv T) b).1 ((px_gv T) b).2 := px_KofH hf mf_X1_lookAt (Nat.le_of_ble_eq_true rfl) rfl (t_X1_lookAt T x0 st)
/-! ThreeOfThem$Judge.against(II)I: R, depth 0 -/
def f_X1_against (T : Nat) (st : px_S) (x0 : Int32) (x1 : Int32) : Option (Int32) := (if px_in x0 7 then (if px_in x0 7 then (some (((st 22 x0.toNatClampNeg) &&& (x1 ^^^ (-1))) ||| ((st 23 x0.toNatClampNeg) &&& x1))) else none) else none)
set_option maxRecDepth 20000 in
theorem t_X1_against (T : Nat) (st : px_S) (x0 : Int32) (x1 : Int32) : px_O (0, 0, 0, px_n T, m_X1_against) (px_g0 (HP T st)) (f_X1_against T st x0 x1) 0 [some (.ref 11), some (.int x0), some (.int x1)] [] (HP T st) 0 0 := by
  rw [f_X1_against]
  refine o_aload_n dX1_against_0 rfl ?_
  refine h_get (v := .ref 22) dX1_against_1 q1 fl_X1_37 (by decide) (px_lt (by decide)) (c11 _) rfl ?_
  refine o_iload_n dX1_against_4 rfl ?_
  refine h_iald (n := 7) dX1_against_5 (px_lt (by decide)) (c22 _) (fun u1 => ?_)
  refine o_iload_n dX1_against_6 rfl ?_
  refine o_iconst (v := (-1)) dX1_against_7 (by decide) ?_
  refine o_ixor dX1_against_8 ?_
  refine o_iand dX1_against_9 ?_
  refine o_aload_n dX1_against_10 rfl ?_
  refine h_get (v := .ref 23) dX1_against_11 q1 fl_X1_40 (by decide) (px_lt (by decide)) (c11 _) rfl ?_
  refine o_iload_n dX1_against_14 rfl ?_
  refine h_iald (n := 7) dX1_against_15 (px_lt (by decide)) (c23 _) (fun u2 => ?_)
  refine o_iload_n dX1_against_16 rfl ?_
  refine o_iand dX1_against_17 ?_
  refine o_ior dX1_against_18 ?_
  exact o_iret (rt := .int) rfl rfl dX1_against_19 rfl (Nat.zero_le _) (Nat.zero_le _)
theorem k_X1_against_o {T : Nat} {st : px_S} {x0 : Int32} {x1 : Int32} {b : Int32} (hf : f_X1_against T st x0 x1 = some b) : px_K (0) 0 0 m_X1_against [.ref 11, .int x0, .int x1] (HP T st) (some (.int b)) (HP T st) := px_KofH (g := px_g0 (HP T st)) hf mf_X1_against (Nat.le_of_ble_eq_true rfl) rfl (t_X1_against T st x0 x1)
theorem k_X1_against {T : Nat} {st : px_S} {x0 : Int32} {x1 : Int32} {b : Int32} (hf : f_X1_against T st x0 x1 = some b) : px_K (0) 0 0 m_X1_against [.ref 11, .int x0, .int x1] (HP T st) (some (.int b)) (HP T st) := k_X1_against_o hf
/-! ThreeOfThem$Judge.against(I)I: R, depth 1 -/
def f_X1_against_ (T : Nat) (st : px_S) (x0 : Int32) : Option (Int32) := (if px_in x0 7 then ((f_X1_against T st x0 (st 16 x0.toNatClampNeg)).bind fun b2 => (some b2)) else none)
set_option maxRecDepth 20000 in
theorem t_X1_against_ (T : Nat) (st : px_S) (x0 : Int32) : px_O (1, 0, 0, px_n T, m_X1_against_) (px_g0 (HP T st)) (f_X1_against_ T st x0) 0 [some (.ref 11), some (.int x0)] [] (HP T st) 0 0 := by
  rw [f_X1_against_]
  refine o_aload_n dX1_against__0 rfl ?_
  refine o_iload_n dX1_against__1 rfl ?_
  refine o_aload_n dX1_against__2 rfl ?_
  refine h_get (v := .ref 12) dX1_against__3 q1 fl_X1_12 (by decide) (px_lt (by decide)) (c11 _) rfl ?_
  refine h_get (v := .ref 16) dX1_against__6 q0 fl_X1_132 (by decide) (px_ltH 0 (by decide) (Or.inr (Or.inr rfl))) (cH (Or.inr (Or.inr rfl)) _) rfl ?_
  refine o_iload_n dX1_against__9 rfl ?_
  refine h_iald (n := 7) dX1_against__10 (px_lt (by decide)) (c16 _) (fun u1 => ?_)
  refine h_cV0 (as := [.int x0, .int (st 16 x0.toNatClampNeg)]) (S1 := []) (d' := 0) dX1_against__11 mf_X1_against ml_X1_135 mv_X1_against q1 rfl (hp_at (px_lt (by decide)) (c11 _)) rfl (Nat.le_of_ble_eq_true rfl) rfl (Nat.le_of_ble_eq_true rfl) ⟨Nat.zero_le _, Nat.zero_le _⟩ (fun b hb => k_X1_against hb) (fun b2 hb2 => ?_)
  exact o_iret (rt := .int) rfl rfl dX1_against__14 rfl (Nat.zero_le _) (Nat.zero_le _)
theorem k_X1_against__o {T : Nat} {st : px_S} {x0 : Int32} {b : Int32} (hf : f_X1_against_ T st x0 = some b) : px_K (1) 0 0 m_X1_against_ [.ref 11, .int x0] (HP T st) (some (.int b)) (HP T st) := px_KofH (g := px_g0 (HP T st)) hf mf_X1_against_ (Nat.le_of_ble_eq_true rfl) rfl (t_X1_against_ T st x0)
theorem k_X1_against_ {T : Nat} {st : px_S} {x0 : Int32} {b : Int32} (hf : f_X1_against_ T st x0 = some b) : px_K (1) 0 0 m_X1_against_ [.ref 11, .int x0] (HP T st) (some (.int b)) (HP T st) := k_X1_against__o hf
/-! ThreeOfThem$Judge.wouldTurnOut(II)Z: R, depth 2 -/
def f_X1_wouldTurnOut (T : Nat) (st : px_S) (x0 : Int32) (x1 : Int32) : Option (Int32) := ((f_X1_against_ T st x1).bind fun b1 => (if (x0 &&& (b1 ^^^ (-1))) = 0 then (some 1) else (some 0)))
set_option maxRecDepth 20000 in
theorem t_X1_wouldTurnOut (T : Nat) (st : px_S) (x0 : Int32) (x1 : Int32) : px_O (2, 0, 0, px_n T, m_X1_wouldTurnOut) (px_g0 (HP T st)) (f_X1_wouldTurnOut T st x0 x1) 0 [some (.ref 11), some (.int x0), some (.int x1)] [] (HP T st) 0 0 := by
  rw [f_X1_wouldTurnOut]
  refine o_iload_n dX1_wouldTurnOut_0 rfl ?_
  refine o_aload_n dX1_wouldTurnOut_1 rfl ?_
  refine o_iload_n dX1_wouldTurnOut_2 rfl ?_
  refine h_cV0 (as := [.int x1]) (S1 := [.int x0]) (d' := 1) dX1_wouldTurnOut_3 mf_X1_against_ ml_X1_138 mv_X1_against_ q1 rfl (hp_at (px_lt (by decide)) (c11 _)) rfl (Nat.le_of_ble_eq_true rfl) rfl (Nat.le_of_ble_eq_true rfl) ⟨Nat.zero_le _, Nat.zero_le _⟩ (fun b hb => k_X1_against_ hb) (fun b1 hb1 => ?_)
  refine o_iconst (v := (-1)) dX1_wouldTurnOut_6 (by decide) ?_
  refine o_ixor dX1_wouldTurnOut_7 ?_
  refine o_iand dX1_wouldTurnOut_8 ?_
  refine o_ifne (tgt := 16) dX1_wouldTurnOut_9 (by decide) (fun u2 => ?_) (fun u2 => ?_)
  · refine o_iconst (v := 0) dX1_wouldTurnOut_16 (by decide) ?_
    exact o_iret (rt := .boolean) rfl rfl dX1_wouldTurnOut_17 rfl (Nat.zero_le _) (Nat.zero_le _)
  · refine o_iconst (v := 1) dX1_wouldTurnOut_12 (by decide) ?_
    refine o_goto (tgt := 17) dX1_wouldTurnOut_13 (by decide) ?_
    exact o_iret (rt := .boolean) rfl rfl dX1_wouldTurnOut_17 rfl (Nat.zero_le _) (Nat.zero_le _)
theorem k_X1_wouldTurnOut_o {T : Nat} {st : px_S} {x0 : Int32} {x1 : Int32} {b : Int32} (hf : f_X1_wouldTurnOut T st x0 x1 = some b) : px_K (2) 0 0 m_X1_wouldTurnOut [.ref 11, .int x0, .int x1] (HP T st) (some (.int b)) (HP T st) := px_KofH (g := px_g0 (HP T st)) hf mf_X1_wouldTurnOut (Nat.le_of_ble_eq_true rfl) rfl (t_X1_wouldTurnOut T st x0 x1)
theorem k_X1_wouldTurnOut {T : Nat} {st : px_S} {x0 : Int32} {x1 : Int32} {b : Int32} (hf : f_X1_wouldTurnOut T st x0 x1 = some b) : px_K (2) 0 0 m_X1_wouldTurnOut [.ref 11, .int x0, .int x1] (HP T st) (some (.int b)) (HP T st) := k_X1_wouldTurnOut_o hf
/-! ThreeOfThem$Judge.firstBand(I)I: R, depth 2 -/
def f_X1_firstBand (T : Nat) (st : px_S) (x0 : Int32) : Option (Int32) := ((f_X1_against_ T st x0).bind fun b1 => ((f_X5_lowest b1 (st 12 7)).bind fun b2 => (some b2)))
set_option maxRecDepth 20000 in
theorem t_X1_firstBand (T : Nat) (st : px_S) (x0 : Int32) : px_O (2, 0, 0, px_n T, m_X1_firstBand) (px_g0 (HP T st)) (f_X1_firstBand T st x0) 0 [some (.ref 11), some (.int x0)] [] (HP T st) 0 0 := by
  rw [f_X1_firstBand]
  refine o_aload_n dX1_firstBand_0 rfl ?_
  refine o_iload_n dX1_firstBand_1 rfl ?_
  refine h_cV0 (as := [.int x0]) (S1 := []) (d' := 1) dX1_firstBand_2 mf_X1_against_ ml_X1_138 mv_X1_against_ q1 rfl (hp_at (px_lt (by decide)) (c11 _)) rfl (Nat.le_of_ble_eq_true rfl) rfl (Nat.le_of_ble_eq_true rfl) ⟨Nat.zero_le _, Nat.zero_le _⟩ (fun b hb => k_X1_against_ hb) (fun b1 hb1 => ?_)
  refine o_aload_n dX1_firstBand_5 rfl ?_
  refine h_get (v := .ref 12) dX1_firstBand_6 q1 fl_X1_12 (by decide) (px_lt (by decide)) (c11 _) rfl ?_
  refine h_get (v := .int (st 12 7)) dX1_firstBand_9 q0 fl_X1_140 (by decide) (px_ltH 0 (by decide) (Or.inr (Or.inr rfl))) (cH (Or.inr (Or.inr rfl)) _) rfl ?_
  refine h_cN0 (as := [.int b1, .int (st 12 7)]) (S1 := []) (d' := 0) dX1_firstBand_12 mf_X5_lowest ml_X1_143 ms_X5_lowest rfl (Nat.le_of_ble_eq_true rfl) rfl (Nat.le_of_ble_eq_true rfl) ⟨Nat.zero_le _, Nat.zero_le _⟩ (fun b hb => k_X5_lowest hb) (fun b2 hb2 => ?_)
  exact o_iret (rt := .int) rfl rfl dX1_firstBand_15 rfl (Nat.zero_le _) (Nat.zero_le _)
theorem k_X1_firstBand_o {T : Nat} {st : px_S} {x0 : Int32} {b : Int32} (hf : f_X1_firstBand T st x0 = some b) : px_K (2) 0 0 m_X1_firstBand [.ref 11, .int x0] (HP T st) (some (.int b)) (HP T st) := px_KofH (g := px_g0 (HP T st)) hf mf_X1_firstBand (Nat.le_of_ble_eq_true rfl) rfl (t_X1_firstBand T st x0)
theorem k_X1_firstBand {T : Nat} {st : px_S} {x0 : Int32} {b : Int32} (hf : f_X1_firstBand T st x0 = some b) : px_K (2) 0 0 m_X1_firstBand [.ref 11, .int x0] (HP T st) (some (.int b)) (HP T st) := k_X1_firstBand_o hf
/-! ThreeOfThem$Judge.bandsAgainst(I)I: R, depth 2 -/
def f_X1_bandsAgainst (T : Nat) (st : px_S) (x0 : Int32) : Option (Int32) := ((f_X1_against_ T st x0).bind fun b1 => ((f_X5_choose (p_J6_bitCount_0f7a4 b1) (st 12 7)).bind fun b2 => (some b2)))
set_option maxRecDepth 20000 in
theorem t_X1_bandsAgainst (T : Nat) (st : px_S) (x0 : Int32) : px_O (2, 0, 0, px_n T, m_X1_bandsAgainst) (px_g0 (HP T st)) (f_X1_bandsAgainst T st x0) 0 [some (.ref 11), some (.int x0)] [] (HP T st) 0 0 := by
  rw [f_X1_bandsAgainst]
  refine o_aload_n dX1_bandsAgainst_0 rfl ?_
  refine o_iload_n dX1_bandsAgainst_1 rfl ?_
  refine h_cV0 (as := [.int x0]) (S1 := []) (d' := 1) dX1_bandsAgainst_2 mf_X1_against_ ml_X1_138 mv_X1_against_ q1 rfl (hp_at (px_lt (by decide)) (c11 _)) rfl (Nat.le_of_ble_eq_true rfl) rfl (Nat.le_of_ble_eq_true rfl) ⟨Nat.zero_le _, Nat.zero_le _⟩ (fun b hb => k_X1_against_ hb) (fun b1 hb1 => ?_)
  refine h_cSP (as := [.int b1]) (S1 := []) (d' := 0) dX1_bandsAgainst_5 mf_J6_bitCount_0f7a4 ml_X1_111 ms_J6_bitCount_0f7a4 rfl (Nat.le_of_ble_eq_true rfl) rfl (Nat.le_of_ble_eq_true rfl) ⟨Nat.zero_le _, Nat.zero_le _⟩ (k_J6_bitCount_0f7a4) ?_
  refine o_aload_n dX1_bandsAgainst_8 rfl ?_
  refine h_get (v := .ref 12) dX1_bandsAgainst_9 q1 fl_X1_12 (by decide) (px_lt (by decide)) (c11 _) rfl ?_
  refine h_get (v := .int (st 12 7)) dX1_bandsAgainst_12 q0 fl_X1_140 (by decide) (px_ltH 0 (by decide) (Or.inr (Or.inr rfl))) (cH (Or.inr (Or.inr rfl)) _) rfl ?_
  refine h_cN0 (as := [.int (p_J6_bitCount_0f7a4 b1), .int (st 12 7)]) (S1 := []) (d' := 0) dX1_bandsAgainst_15 mf_X5_choose ml_X1_146 ms_X5_choose rfl (Nat.le_of_ble_eq_true rfl) rfl (Nat.le_of_ble_eq_true rfl) ⟨Nat.zero_le _, Nat.zero_le _⟩ (fun b hb => k_X5_choose hb) (fun b2 hb2 => ?_)
  exact o_iret (rt := .int) rfl rfl dX1_bandsAgainst_18 rfl (Nat.zero_le _) (Nat.zero_le _)
theorem k_X1_bandsAgainst_o {T : Nat} {st : px_S} {x0 : Int32} {b : Int32} (hf : f_X1_bandsAgainst T st x0 = some b) : px_K (2) 0 0 m_X1_bandsAgainst [.ref 11, .int x0] (HP T st) (some (.int b)) (HP T st) := px_KofH (g := px_g0 (HP T st)) hf mf_X1_bandsAgainst (Nat.le_of_ble_eq_true rfl) rfl (t_X1_bandsAgainst T st x0)
theorem k_X1_bandsAgainst {T : Nat} {st : px_S} {x0 : Int32} {b : Int32} (hf : f_X1_bandsAgainst T st x0 = some b) : px_K (2) 0 0 m_X1_bandsAgainst [.ref 11, .int x0] (HP T st) (some (.int b)) (HP T st) := k_X1_bandsAgainst_o hf
/-! ThreeOfThem$Judge.allBands()I: R, depth 3 -/
def f_X1_allBands_4 (T : Nat) (st : px_S) : Nat → Int32 → Int32 → Option (Int32)
  | 0, _, _ => none
  | n + 1, y1, y2 => (if y2 < 7 then ((f_X1_bandsAgainst T st y2).bind fun b2 => ((f_X1_allBands_4 T st n) (y1 + b2) (y2 + 1))) else (some y1))
set_option maxRecDepth 20000 in
theorem t_X1_allBands_4 (T : Nat) (st : px_S) : ∀ (n : Nat) (y1 : Int32) (y2 : Int32), px_O (3, 0, 0, px_n T, m_X1_allBands) (px_g0 (HP T st)) (f_X1_allBands_4 T st n y1 y2) 4 [some (.ref 11), some (.int y1), some (.int y2)] [] (HP T st) 0 0 := by
  intro n
  induction n with
  | zero => intro y1 y2; rw [f_X1_allBands_4]; exact o_none
  | succ n ih =>
    intro y1 y2
    rw [f_X1_allBands_4]
    refine o_iload_n dX1_allBands_4 rfl ?_
    refine o_bipush (v := 7) dX1_allBands_5 (by decide) ?_
    refine o_icmpge (tgt := 24) dX1_allBands_7 (by decide) (fun u1 => ?_) (fun u1 => ?_)
    · refine o_iload_n dX1_allBands_24 rfl ?_
      exact o_iret (rt := .int) rfl rfl dX1_allBands_25 rfl (Nat.zero_le _) (Nat.zero_le _)
    · refine o_iload_n dX1_allBands_10 rfl ?_
      refine o_aload_n dX1_allBands_11 rfl ?_
      refine o_iload_n dX1_allBands_12 rfl ?_
      refine h_cV0 (as := [.int y2]) (S1 := [.int y1]) (d' := 2) dX1_allBands_13 mf_X1_bandsAgainst ml_X1_149 mv_X1_bandsAgainst q1 rfl (hp_at (px_lt (by decide)) (c11 _)) rfl (Nat.le_of_ble_eq_true rfl) rfl (Nat.le_of_ble_eq_true rfl) ⟨Nat.zero_le _, Nat.zero_le _⟩ (fun b hb => k_X1_bandsAgainst hb) (fun b2 hb2 => ?_)
      refine o_iadd dX1_allBands_16 ?_
      refine o_istore_n (L' := [some (.ref 11), some (.int (y1 + b2)), some (.int y2)]) dX1_allBands_17 (Nat.le_of_ble_eq_true rfl) rfl rfl ?_
      refine o_iinc (v := (y2 + 1)) (L' := [some (.ref 11), some (.int (y1 + b2)), some (.int (y2 + 1))]) dX1_allBands_18 rfl rfl (Nat.le_of_ble_eq_true rfl) rfl rfl ?_
      refine o_goto (tgt := 4) dX1_allBands_21 (by decide) ?_
      exact (ih (y1 + b2) (y2 + 1))
def f_X1_allBands (T : Nat) (st : px_S) : Option (Int32) := (f_X1_allBands_4 T st 1000 0 0)
set_option maxRecDepth 20000 in
theorem t_X1_allBands (T : Nat) (st : px_S) : px_O (3, 0, 0, px_n T, m_X1_allBands) (px_g0 (HP T st)) (f_X1_allBands T st) 0 [some (.ref 11), none, none] [] (HP T st) 0 0 := by
  rw [f_X1_allBands]
  refine o_iconst (v := 0) dX1_allBands_0 (by decide) ?_
  refine o_istore_n (L' := [some (.ref 11), some (.int 0), none]) dX1_allBands_1 (Nat.le_of_ble_eq_true rfl) rfl rfl ?_
  refine o_iconst (v := 0) dX1_allBands_2 (by decide) ?_
  refine o_istore_n (L' := [some (.ref 11), some (.int 0), some (.int 0)]) dX1_allBands_3 (Nat.le_of_ble_eq_true rfl) rfl rfl ?_
  exact (t_X1_allBands_4 T st 1000 0 0)
theorem k_X1_allBands_o {T : Nat} {st : px_S} {b : Int32} (hf : f_X1_allBands T st = some b) : px_K (3) 0 0 m_X1_allBands [.ref 11] (HP T st) (some (.int b)) (HP T st) := px_KofH (g := px_g0 (HP T st)) hf mf_X1_allBands (Nat.le_of_ble_eq_true rfl) rfl (t_X1_allBands T st)
theorem k_X1_allBands {T : Nat} {st : px_S} {b : Int32} (hf : f_X1_allBands T st = some b) : px_K (3) 0 0 m_X1_allBands [.ref 11] (HP T st) (some (.int b)) (HP T st) := k_X1_allBands_o hf
/-! ThreeOfThem$Judge.firstOther()I: R, depth 3 -/
def f_X1_firstOther_4 (T : Nat) (st : px_S) : Nat → Int32 → Int32 → Option (Int32)
  | 0, _, _ => none
  | n + 1, y1, y2 => (if y2 < 7 then ((f_X1_firstBand T st y2).bind fun b2 => (if b2 = (-1) then ((f_X1_firstOther_4 T st n) y1 (y2 + 1)) else (if y1 = (-1) then ((f_X1_firstOther_4 T st n) y2 (y2 + 1)) else ((f_X1_firstBand T st y1).bind fun b5 => (if b2 < b5 then ((f_X1_firstOther_4 T st n) y2 (y2 + 1)) else ((f_X1_firstOther_4 T st n) y1 (y2 + 1))))))) else (some y1))
set_option maxRecDepth 20000 in
theorem t_X1_firstOther_4 (T : Nat) (st : px_S) : ∀ (n : Nat) (y1 : Int32) (y2 : Int32), px_O (3, 0, 0, px_n T, m_X1_firstOther) (px_g0 (HP T st)) (f_X1_firstOther_4 T st n y1 y2) 4 [some (.ref 11), some (.int y1), some (.int y2), none] [] (HP T st) 0 0 := by
  intro n
  induction n with
  | zero => intro y1 y2; rw [f_X1_firstOther_4]; exact o_none
  | succ n ih =>
    intro y1 y2
    rw [f_X1_firstOther_4]
    refine o_iload_n dX1_firstOther_4 rfl ?_
    refine o_bipush (v := 7) dX1_firstOther_5 (by decide) ?_
    refine o_icmpge (tgt := 43) dX1_firstOther_7 (by decide) (fun u1 => ?_) (fun u1 => ?_)
    · refine o_iload_n dX1_firstOther_43 rfl ?_
      exact o_iret (rt := .int) rfl rfl dX1_firstOther_44 rfl (Nat.zero_le _) (Nat.zero_le _)
    · refine o_aload_n dX1_firstOther_10 rfl ?_
      refine o_iload_n dX1_firstOther_11 rfl ?_
      refine h_cV0 (as := [.int y2]) (S1 := []) (d' := 2) dX1_firstOther_12 mf_X1_firstBand ml_X1_152 mv_X1_firstBand q1 rfl (hp_at (px_lt (by decide)) (c11 _)) rfl (Nat.le_of_ble_eq_true rfl) rfl (Nat.le_of_ble_eq_true rfl) ⟨Nat.zero_le _, Nat.zero_le _⟩ (fun b hb => k_X1_firstBand hb) (fun b2 hb2 => ?_)
      refine o_istore_n (L' := [some (.ref 11), some (.int y1), some (.int y2), some (.int b2)]) dX1_firstOther_15 (Nat.le_of_ble_eq_true rfl) rfl rfl ?_
      refine o_iload_n dX1_firstOther_16 rfl ?_
      refine o_iconst (v := (-1)) dX1_firstOther_17 (by decide) ?_
      refine o_icmpeq (tgt := 37) dX1_firstOther_18 (by decide) (fun u3 => ?_) (fun u3 => ?_)
      · refine o_iinc (v := (y2 + 1)) (L' := [some (.ref 11), some (.int y1), some (.int (y2 + 1)), some (.int b2)]) dX1_firstOther_37 rfl rfl (Nat.le_of_ble_eq_true rfl) rfl rfl ?_
        refine o_goto (tgt := 4) dX1_firstOther_40 (by decide) ?_
        exact o_weak (L' := [some (.ref 11), some (.int y1), some (.int (y2 + 1)), none]) ⟨rfl, ⟨rfl, ⟨rfl, trivial⟩⟩⟩ (ih y1 (y2 + 1))
      · refine o_iload_n dX1_firstOther_21 rfl ?_
        refine o_iconst (v := (-1)) dX1_firstOther_22 (by decide) ?_
        refine o_icmpeq (tgt := 35) dX1_firstOther_23 (by decide) (fun u4 => ?_) (fun u4 => ?_)
        · refine o_iload_n dX1_firstOther_35 rfl ?_
          refine o_istore_n (L' := [some (.ref 11), some (.int y2), some (.int y2), some (.int b2)]) dX1_firstOther_36 (Nat.le_of_ble_eq_true rfl) rfl rfl ?_
          refine o_iinc (v := (y2 + 1)) (L' := [some (.ref 11), some (.int y2), some (.int (y2 + 1)), some (.int b2)]) dX1_firstOther_37 rfl rfl (Nat.le_of_ble_eq_true rfl) rfl rfl ?_
          refine o_goto (tgt := 4) dX1_firstOther_40 (by decide) ?_
          exact o_weak (L' := [some (.ref 11), some (.int y2), some (.int (y2 + 1)), none]) ⟨rfl, ⟨rfl, ⟨rfl, trivial⟩⟩⟩ (ih y2 (y2 + 1))
        · refine o_iload_n dX1_firstOther_26 rfl ?_
          refine o_aload_n dX1_firstOther_27 rfl ?_
          refine o_iload_n dX1_firstOther_28 rfl ?_
          refine h_cV0 (as := [.int y1]) (S1 := [.int b2]) (d' := 2) dX1_firstOther_29 mf_X1_firstBand ml_X1_152 mv_X1_firstBand q1 rfl (hp_at (px_lt (by decide)) (c11 _)) rfl (Nat.le_of_ble_eq_true rfl) rfl (Nat.le_of_ble_eq_true rfl) ⟨Nat.zero_le _, Nat.zero_le _⟩ (fun b hb => k_X1_firstBand hb) (fun b5 hb5 => ?_)
          refine o_icmpge (tgt := 37) dX1_firstOther_32 (by decide) (fun u6 => ?_) (fun u6 => ?_)
          · refine o_iinc (v := (y2 + 1)) (L' := [some (.ref 11), some (.int y1), some (.int (y2 + 1)), some (.int b2)]) dX1_firstOther_37 rfl rfl (Nat.le_of_ble_eq_true rfl) rfl rfl ?_
            refine o_goto (tgt := 4) dX1_firstOther_40 (by decide) ?_
            exact o_weak (L' := [some (.ref 11), some (.int y1), some (.int (y2 + 1)), none]) ⟨rfl, ⟨rfl, ⟨rfl, trivial⟩⟩⟩ (ih y1 (y2 + 1))
          · refine o_iload_n dX1_firstOther_35 rfl ?_
            refine o_istore_n (L' := [some (.ref 11), some (.int y2), some (.int y2), some (.int b2)]) dX1_firstOther_36 (Nat.le_of_ble_eq_true rfl) rfl rfl ?_
            refine o_iinc (v := (y2 + 1)) (L' := [some (.ref 11), some (.int y2), some (.int (y2 + 1)), some (.int b2)]) dX1_firstOther_37 rfl rfl (Nat.le_of_ble_eq_true rfl) rfl rfl ?_
            refine o_goto (tgt := 4) dX1_firstOther_40 (by decide) ?_
            exact o_weak (L' := [some (.ref 11), some (.int y2), some (.int (y2 + 1)), none]) ⟨rfl, ⟨rfl, ⟨rfl, trivial⟩⟩⟩ (ih y2 (y2 + 1))
def f_X1_firstOther (T : Nat) (st : px_S) : Option (Int32) := (f_X1_firstOther_4 T st 1000 (-1) 0)
set_option maxRecDepth 20000 in
theorem t_X1_firstOther (T : Nat) (st : px_S) : px_O (3, 0, 0, px_n T, m_X1_firstOther) (px_g0 (HP T st)) (f_X1_firstOther T st) 0 [some (.ref 11), none, none, none] [] (HP T st) 0 0 := by
  rw [f_X1_firstOther]
  refine o_iconst (v := (-1)) dX1_firstOther_0 (by decide) ?_
  refine o_istore_n (L' := [some (.ref 11), some (.int (-1)), none, none]) dX1_firstOther_1 (Nat.le_of_ble_eq_true rfl) rfl rfl ?_
  refine o_iconst (v := 0) dX1_firstOther_2 (by decide) ?_
  refine o_istore_n (L' := [some (.ref 11), some (.int (-1)), some (.int 0), none]) dX1_firstOther_3 (Nat.le_of_ble_eq_true rfl) rfl rfl ?_
  exact (t_X1_firstOther_4 T st 1000 (-1) 0)
theorem k_X1_firstOther_o {T : Nat} {st : px_S} {b : Int32} (hf : f_X1_firstOther T st = some b) : px_K (3) 0 0 m_X1_firstOther [.ref 11] (HP T st) (some (.int b)) (HP T st) := px_KofH (g := px_g0 (HP T st)) hf mf_X1_firstOther (Nat.le_of_ble_eq_true rfl) rfl (t_X1_firstOther T st)
theorem k_X1_firstOther {T : Nat} {st : px_S} {b : Int32} (hf : f_X1_firstOther T st = some b) : px_K (3) 0 0 m_X1_firstOther [.ref 11] (HP T st) (some (.int b)) (HP T st) := k_X1_firstOther_o hf
/-! ThreeOfThem$Judge.isSafe(I)Z: R, depth 2 -/
def f_X1_isSafe (T : Nat) (st : px_S) (x0 : Int32) : Option (Int32) := ((f_X1_against_ T st x0).bind fun b1 => (if (p_J6_bitCount_0f7a4 b1) < (st 12 7) then (some 1) else (some 0)))
set_option maxRecDepth 20000 in
theorem t_X1_isSafe (T : Nat) (st : px_S) (x0 : Int32) : px_O (2, 0, 0, px_n T, m_X1_isSafe) (px_g0 (HP T st)) (f_X1_isSafe T st x0) 0 [some (.ref 11), some (.int x0)] [] (HP T st) 0 0 := by
  rw [f_X1_isSafe]
  refine o_aload_n dX1_isSafe_0 rfl ?_
  refine o_iload_n dX1_isSafe_1 rfl ?_
  refine h_cV0 (as := [.int x0]) (S1 := []) (d' := 1) dX1_isSafe_2 mf_X1_against_ ml_X1_138 mv_X1_against_ q1 rfl (hp_at (px_lt (by decide)) (c11 _)) rfl (Nat.le_of_ble_eq_true rfl) rfl (Nat.le_of_ble_eq_true rfl) ⟨Nat.zero_le _, Nat.zero_le _⟩ (fun b hb => k_X1_against_ hb) (fun b1 hb1 => ?_)
  refine h_cSP (as := [.int b1]) (S1 := []) (d' := 0) dX1_isSafe_5 mf_J6_bitCount_0f7a4 ml_X1_111 ms_J6_bitCount_0f7a4 rfl (Nat.le_of_ble_eq_true rfl) rfl (Nat.le_of_ble_eq_true rfl) ⟨Nat.zero_le _, Nat.zero_le _⟩ (k_J6_bitCount_0f7a4) ?_
  refine o_aload_n dX1_isSafe_8 rfl ?_
  refine h_get (v := .ref 12) dX1_isSafe_9 q1 fl_X1_12 (by decide) (px_lt (by decide)) (c11 _) rfl ?_
  refine h_get (v := .int (st 12 7)) dX1_isSafe_12 q0 fl_X1_140 (by decide) (px_ltH 0 (by decide) (Or.inr (Or.inr rfl))) (cH (Or.inr (Or.inr rfl)) _) rfl ?_
  refine o_icmpge (tgt := 22) dX1_isSafe_15 (by decide) (fun u2 => ?_) (fun u2 => ?_)
  · refine o_iconst (v := 0) dX1_isSafe_22 (by decide) ?_
    exact o_iret (rt := .boolean) rfl rfl dX1_isSafe_23 rfl (Nat.zero_le _) (Nat.zero_le _)
  · refine o_iconst (v := 1) dX1_isSafe_18 (by decide) ?_
    refine o_goto (tgt := 23) dX1_isSafe_19 (by decide) ?_
    exact o_iret (rt := .boolean) rfl rfl dX1_isSafe_23 rfl (Nat.zero_le _) (Nat.zero_le _)
theorem k_X1_isSafe_o {T : Nat} {st : px_S} {x0 : Int32} {b : Int32} (hf : f_X1_isSafe T st x0 = some b) : px_K (2) 0 0 m_X1_isSafe [.ref 11, .int x0] (HP T st) (some (.int b)) (HP T st) := px_KofH (g := px_g0 (HP T st)) hf mf_X1_isSafe (Nat.le_of_ble_eq_true rfl) rfl (t_X1_isSafe T st x0)
theorem k_X1_isSafe {T : Nat} {st : px_S} {x0 : Int32} {b : Int32} (hf : f_X1_isSafe T st x0 = some b) : px_K (2) 0 0 m_X1_isSafe [.ref 11, .int x0] (HP T st) (some (.int b)) (HP T st) := k_X1_isSafe_o hf
/-! ThreeOfThem$Judge.atRest()Z: R, depth 3 -/
def f_X1_atRest_2 (T : Nat) (st : px_S) : Nat → Int32 → Option (Int32)
  | 0, _ => none
  | n + 1, y1 => (if y1 < 7 then ((f_X1_isSafe T st y1).bind fun b2 => (if b2 = 0 then (some 0) else ((f_X1_atRest_2 T st n) (y1 + 1)))) else (some 1))
set_option maxRecDepth 20000 in
theorem t_X1_atRest_2 (T : Nat) (st : px_S) : ∀ (n : Nat) (y1 : Int32), px_O (3, 0, 0, px_n T, m_X1_atRest) (px_g0 (HP T st)) (f_X1_atRest_2 T st n y1) 2 [some (.ref 11), some (.int y1)] [] (HP T st) 0 0 := by
  intro n
  induction n with
  | zero => intro y1; rw [f_X1_atRest_2]; exact o_none
  | succ n ih =>
    intro y1
    rw [f_X1_atRest_2]
    refine o_iload_n dX1_atRest_2 rfl ?_
    refine o_bipush (v := 7) dX1_atRest_3 (by decide) ?_
    refine o_icmpge (tgt := 24) dX1_atRest_5 (by decide) (fun u1 => ?_) (fun u1 => ?_)
    · refine o_iconst (v := 1) dX1_atRest_24 (by decide) ?_
      exact o_iret (rt := .boolean) rfl rfl dX1_atRest_25 rfl (Nat.zero_le _) (Nat.zero_le _)
    · refine o_aload_n dX1_atRest_8 rfl ?_
      refine o_iload_n dX1_atRest_9 rfl ?_
      refine h_cV0 (as := [.int y1]) (S1 := []) (d' := 2) dX1_atRest_10 mf_X1_isSafe ml_X1_155 mv_X1_isSafe q1 rfl (hp_at (px_lt (by decide)) (c11 _)) rfl (Nat.le_of_ble_eq_true rfl) rfl (Nat.le_of_ble_eq_true rfl) ⟨Nat.zero_le _, Nat.zero_le _⟩ (fun b hb => k_X1_isSafe hb) (fun b2 hb2 => ?_)
      refine o_ifne (tgt := 18) dX1_atRest_13 (by decide) (fun u3 => ?_) (fun u3 => ?_)
      · refine o_iinc (v := (y1 + 1)) (L' := [some (.ref 11), some (.int (y1 + 1))]) dX1_atRest_18 rfl rfl (Nat.le_of_ble_eq_true rfl) rfl rfl ?_
        refine o_goto (tgt := 2) dX1_atRest_21 (by decide) ?_
        exact (ih (y1 + 1))
      · refine o_iconst (v := 0) dX1_atRest_16 (by decide) ?_
        exact o_iret (rt := .boolean) rfl rfl dX1_atRest_17 rfl (Nat.zero_le _) (Nat.zero_le _)
def f_X1_atRest (T : Nat) (st : px_S) : Option (Int32) := (f_X1_atRest_2 T st 1000 0)
set_option maxRecDepth 20000 in
theorem t_X1_atRest (T : Nat) (st : px_S) : px_O (3, 0, 0, px_n T, m_X1_atRest) (px_g0 (HP T st)) (f_X1_atRest T st) 0 [some (.ref 11), none] [] (HP T st) 0 0 := by
  rw [f_X1_atRest]
  refine o_iconst (v := 0) dX1_atRest_0 (by decide) ?_
  refine o_istore_n (L' := [some (.ref 11), some (.int 0)]) dX1_atRest_1 (Nat.le_of_ble_eq_true rfl) rfl rfl ?_
  exact (t_X1_atRest_2 T st 1000 0)
theorem k_X1_atRest_o {T : Nat} {st : px_S} {b : Int32} (hf : f_X1_atRest T st = some b) : px_K (3) 0 0 m_X1_atRest [.ref 11] (HP T st) (some (.int b)) (HP T st) := px_KofH (g := px_g0 (HP T st)) hf mf_X1_atRest (Nat.le_of_ble_eq_true rfl) rfl (t_X1_atRest T st)
theorem k_X1_atRest {T : Nat} {st : px_S} {b : Int32} (hf : f_X1_atRest T st = some b) : px_K (3) 0 0 m_X1_atRest [.ref 11] (HP T st) (some (.int b)) (HP T st) := k_X1_atRest_o hf
/-! ThreeOfThem$Judge.runOn()I: S, depth 9 -/
def f_X1_runOn_4 (T : Nat) : Nat → Int32 → Int32 → px_S → Option (Int32 × px_S)
  | 0, _, _, _ => none
  | n + 1, y1, y2, st => (if y2 < 7 then ((f_X1_lookAt T (st 12 5) st).bind fun b2 => ((f_X1_firstOther T b2).bind fun b3 => (if b3 = (-1) then (some (y1, b2)) else (if px_in y1 7 then ((f_X0_leave T 12 b3 (up b2 28 y1.toNatClampNeg b3)).bind fun b6 => ((f_X0_passDay T 12 b6).bind fun b7 => ((f_X1_runOn_4 T n) (y1 + 1) (y2 + 1) b7))) else none)))) else (some (y1, st)))
set_option maxRecDepth 20000 in
theorem t_X1_runOn_4 (T : Nat) : ∀ (n : Nat) (y1 : Int32) (y2 : Int32) (st : px_S), px_O (9, 0, 0, px_n T, m_X1_runOn) (px_gi T) (f_X1_runOn_4 T n y1 y2 st) 4 [some (.ref 11), some (.int y1), some (.int y2), none] [] (HP T st) 0 0 := by
  intro n
  induction n with
  | zero => intro y1 y2 st; rw [f_X1_runOn_4]; exact o_none
  | succ n ih =>
    intro y1 y2 st
    rw [f_X1_runOn_4]
    refine o_iload_n dX1_runOn_4 rfl ?_
    refine o_bipush (v := 7) dX1_runOn_5 (by decide) ?_
    refine o_icmpge (tgt := 64) dX1_runOn_7 (by decide) (fun u1 => ?_) (fun u1 => ?_)
    · refine o_iload_n dX1_runOn_64 rfl ?_
      exact o_iret (rt := .int) rfl rfl dX1_runOn_65 rfl (Nat.zero_le _) (Nat.zero_le _)
    · refine o_aload_n dX1_runOn_10 rfl ?_
      refine o_aload_n dX1_runOn_11 rfl ?_
      refine h_get (v := .ref 12) dX1_runOn_12 q1 fl_X1_12 (by decide) (px_lt (by decide)) (c11 _) rfl ?_
      refine h_get (v := .int (st 12 5)) dX1_runOn_15 q0 fl_X1_159 (by decide) (px_ltH 0 (by decide) (Or.inr (Or.inr rfl))) (cH (Or.inr (Or.inr rfl)) _) rfl ?_
      refine h_cVv (as := [.int (st 12 5)]) (S1 := []) (d' := 8) dX1_runOn_18 mf_X1_lookAt ml_X1_162 mv_X1_lookAt q1 rfl (hp_at (px_lt (by decide)) (c11 _)) rfl (Nat.le_of_ble_eq_true rfl) rfl (Nat.le_of_ble_eq_true rfl) (fun b hb => k_X1_lookAt hb) (fun b2 hb2 => ?_)
      refine o_aload_n dX1_runOn_21 rfl ?_
      refine h_cV0 (as := []) (S1 := []) (d' := 3) dX1_runOn_22 mf_X1_firstOther ml_X1_166 mv_X1_firstOther q1 rfl (hp_at (px_lt (by decide)) (c11 _)) rfl (Nat.le_of_ble_eq_true rfl) rfl (Nat.le_of_ble_eq_true rfl) ⟨Nat.zero_le _, Nat.zero_le _⟩ (fun b hb => k_X1_firstOther hb) (fun b3 hb3 => ?_)
      refine o_istore_n (L' := [some (.ref 11), some (.int y1), some (.int y2), some (.int b3)]) dX1_runOn_25 (Nat.le_of_ble_eq_true rfl) rfl rfl ?_
      refine o_iload_n dX1_runOn_26 rfl ?_
      refine o_iconst (v := (-1)) dX1_runOn_27 (by decide) ?_
      refine o_icmpne (tgt := 33) dX1_runOn_28 (by decide) (fun u4 => ?_) (fun u4 => ?_)
      · refine o_aload_n dX1_runOn_33 rfl ?_
        refine h_get (v := .ref 28) dX1_runOn_34 q1 fl_X1_55 (by decide) (px_lt (by decide)) (c11 _) rfl ?_
        refine o_iload_n dX1_runOn_37 rfl ?_
        refine o_iload_n dX1_runOn_38 rfl ?_
        refine h_iast (n := 7) dX1_runOn_39 (px_lt (by decide)) c28 (fun u5 => ?_)
        refine o_iinc (v := (y1 + 1)) (L' := [some (.ref 11), some (.int (y1 + 1)), some (.int y2), some (.int b3)]) dX1_runOn_40 rfl rfl (Nat.le_of_ble_eq_true rfl) rfl rfl ?_
        refine o_aload_n dX1_runOn_43 rfl ?_
        refine h_get (v := .ref 12) dX1_runOn_44 q1 fl_X1_12 (by decide) (px_lt (by decide)) (c11 _) rfl ?_
        refine o_iload_n dX1_runOn_47 rfl ?_
        refine h_cVv (as := [.int b3]) (S1 := []) (d' := 1) dX1_runOn_48 mf_X0_leave ml_X1_170 mv_X0_leave q0 rfl (hp_at (px_ltH 0 (by decide) (Or.inr (Or.inr rfl))) (cH (Or.inr (Or.inr rfl)) _)) rfl (Nat.le_of_ble_eq_true rfl) rfl (Nat.le_of_ble_eq_true rfl) (fun b hb => k_X0_leave (Or.inr (Or.inr rfl)) hb) (fun b6 hb6 => ?_)
        refine o_aload_n dX1_runOn_51 rfl ?_
        refine h_get (v := .ref 12) dX1_runOn_52 q1 fl_X1_12 (by decide) (px_lt (by decide)) (c11 _) rfl ?_
        refine h_cVv (as := []) (S1 := []) (d' := 1) dX1_runOn_55 mf_X0_passDay ml_X1_173 mv_X0_passDay q0 rfl (hp_at (px_ltH 0 (by decide) (Or.inr (Or.inr rfl))) (cH (Or.inr (Or.inr rfl)) _)) rfl (Nat.le_of_ble_eq_true rfl) rfl (Nat.le_of_ble_eq_true rfl) (fun b hb => k_X0_passDay (Or.inr (Or.inr rfl)) hb) (fun b7 hb7 => ?_)
        refine o_iinc (v := (y2 + 1)) (L' := [some (.ref 11), some (.int (y1 + 1)), some (.int (y2 + 1)), some (.int b3)]) dX1_runOn_58 rfl rfl (Nat.le_of_ble_eq_true rfl) rfl rfl ?_
        refine o_goto (tgt := 4) dX1_runOn_61 (by decide) ?_
        exact o_weak (L' := [some (.ref 11), some (.int (y1 + 1)), some (.int (y2 + 1)), none]) ⟨rfl, ⟨rfl, ⟨rfl, trivial⟩⟩⟩ (ih (y1 + 1) (y2 + 1) b7)
      · refine o_iload_n dX1_runOn_31 rfl ?_
        exact o_iret (rt := .int) rfl rfl dX1_runOn_32 rfl (Nat.zero_le _) (Nat.zero_le _)
def f_X1_runOn (T : Nat) (st : px_S) : Option (Int32 × px_S) := (f_X1_runOn_4 T 1000 0 0 st)
set_option maxRecDepth 20000 in
theorem t_X1_runOn (T : Nat) (st : px_S) : px_O (9, 0, 0, px_n T, m_X1_runOn) (px_gi T) (f_X1_runOn T st) 0 [some (.ref 11), none, none, none] [] (HP T st) 0 0 := by
  rw [f_X1_runOn]
  refine o_iconst (v := 0) dX1_runOn_0 (by decide) ?_
  refine o_istore_n (L' := [some (.ref 11), some (.int 0), none, none]) dX1_runOn_1 (Nat.le_of_ble_eq_true rfl) rfl rfl ?_
  refine o_iconst (v := 0) dX1_runOn_2 (by decide) ?_
  refine o_istore_n (L' := [some (.ref 11), some (.int 0), some (.int 0), none]) dX1_runOn_3 (Nat.le_of_ble_eq_true rfl) rfl rfl ?_
  exact (t_X1_runOn_4 T 1000 0 0 st)
theorem k_X1_runOn {T : Nat} {st : px_S} {b : Int32 × px_S} (hf : f_X1_runOn T st = some b) : px_K (9) 0 0 m_X1_runOn [.ref 11] (HP T st) ((px_gi T) b).1 ((px_gi T) b).2 := px_KofH hf mf_X1_runOn (Nat.le_of_ble_eq_true rfl) rfl (t_X1_runOn T st)
/-! ThreeOfThem$Judge.foreseers(III)I: S, depth 7 -/
def f_X1_foreseers_21 (T : Nat) : Nat → Int32 → Int32 → Int32 → Int32 → Int32 → Int32 → px_S → Option (Int32 × px_S)
  | 0, _, _, _, _, _, _, _ => none
  | n + 1, y1, y2, y3, y4, y5, y6, st => (if y6 < 7 then (if (p_X5_has y4 y6) = 0 then ((f_X1_foreseers_21 T n) y1 y2 y3 y4 y5 (y6 + 1) st) else (if px_in ((y4 * 7) + y6) 896 then (if px_in ((y1 * 7) + y6) 896 then (if px_in y3 7 then ((f_X1_moves T ((st 24 ((y4 * 7) + y6).toNatClampNeg) - (st 24 ((y1 * 7) + y6).toNatClampNeg)) y6 y3 y2 (p_X5_has (st 16 y3.toNatClampNeg) y6) st).bind fun b6 => (if b6.1 = 0 then ((f_X1_foreseers_21 T n) y1 y2 y3 y4 y5 (y6 + 1) b6.2) else ((f_X1_foreseers_21 T n) y1 y2 y3 y4 (y5 ||| (p_X5_bit y6)) (y6 + 1) b6.2))) else none) else none) else none)) else (some (y5, st)))
set_option maxRecDepth 20000 in
theorem t_X1_foreseers_21 (T : Nat) : ∀ (n : Nat) (y1 : Int32) (y2 : Int32) (y3 : Int32) (y4 : Int32) (y5 : Int32) (y6 : Int32) (st : px_S), px_O (7, 0, 0, px_n T, m_X1_foreseers) (px_gi T) (f_X1_foreseers_21 T n y1 y2 y3 y4 y5 y6 st) 21 [some (.ref 11), some (.int y1), some (.int y2), some (.int y3), some (.int y4), some (.int y5), some (.int y6), none] [] (HP T st) 0 0 := by
  intro n
  induction n with
  | zero => intro y1 y2 y3 y4 y5 y6 st; rw [f_X1_foreseers_21]; exact o_none
  | succ n ih =>
    intro y1 y2 y3 y4 y5 y6 st
    rw [f_X1_foreseers_21]
    refine o_iload dX1_foreseers_21 rfl ?_
    refine o_bipush (v := 7) dX1_foreseers_23 (by decide) ?_
    refine o_icmpge (tgt := 109) dX1_foreseers_25 (by decide) (fun u1 => ?_) (fun u1 => ?_)
    · refine o_iload dX1_foreseers_109 rfl ?_
      exact o_iret (rt := .int) rfl rfl dX1_foreseers_111 rfl (Nat.zero_le _) (Nat.zero_le _)
    · refine o_iload dX1_foreseers_28 rfl ?_
      refine o_iload dX1_foreseers_30 rfl ?_
      refine h_cNP (as := [.int y4, .int y6]) (S1 := []) (d' := 0) dX1_foreseers_32 mf_X5_has ml_X1_91 ms_X5_has rfl (Nat.le_of_ble_eq_true rfl) rfl (Nat.le_of_ble_eq_true rfl) ⟨Nat.zero_le _, Nat.zero_le _⟩ (k_X5_has) ?_
      refine o_ifeq (tgt := 103) dX1_foreseers_35 (by decide) (fun u2 => ?_) (fun u2 => ?_)
      · refine o_iinc (v := (y6 + 1)) (L' := [some (.ref 11), some (.int y1), some (.int y2), some (.int y3), some (.int y4), some (.int y5), some (.int (y6 + 1)), none]) dX1_foreseers_103 rfl rfl (Nat.le_of_ble_eq_true rfl) rfl rfl ?_
        refine o_goto (tgt := 21) dX1_foreseers_106 (by decide) ?_
        exact (ih y1 y2 y3 y4 y5 (y6 + 1) st)
      · refine o_aload_n dX1_foreseers_38 rfl ?_
        refine h_get (v := .ref 24) dX1_foreseers_39 q1 fl_X1_43 (by decide) (px_lt (by decide)) (c11 _) rfl ?_
        refine o_iload dX1_foreseers_42 rfl ?_
        refine o_bipush (v := 7) dX1_foreseers_44 (by decide) ?_
        refine o_imul dX1_foreseers_46 ?_
        refine o_iload dX1_foreseers_47 rfl ?_
        refine o_iadd dX1_foreseers_49 ?_
        refine h_iald (n := 896) dX1_foreseers_50 (px_lt (by decide)) (c24 _) (fun u3 => ?_)
        refine o_aload_n dX1_foreseers_51 rfl ?_
        refine h_get (v := .ref 24) dX1_foreseers_52 q1 fl_X1_43 (by decide) (px_lt (by decide)) (c11 _) rfl ?_
        refine o_iload_n dX1_foreseers_55 rfl ?_
        refine o_bipush (v := 7) dX1_foreseers_56 (by decide) ?_
        refine o_imul dX1_foreseers_58 ?_
        refine o_iload dX1_foreseers_59 rfl ?_
        refine o_iadd dX1_foreseers_61 ?_
        refine h_iald (n := 896) dX1_foreseers_62 (px_lt (by decide)) (c24 _) (fun u4 => ?_)
        refine o_isub dX1_foreseers_63 ?_
        refine o_istore (L' := [some (.ref 11), some (.int y1), some (.int y2), some (.int y3), some (.int y4), some (.int y5), some (.int y6), some (.int ((st 24 ((y4 * 7) + y6).toNatClampNeg) - (st 24 ((y1 * 7) + y6).toNatClampNeg)))]) dX1_foreseers_64 (Nat.le_of_ble_eq_true rfl) rfl rfl ?_
        refine o_aload_n dX1_foreseers_66 rfl ?_
        refine o_iload dX1_foreseers_67 rfl ?_
        refine o_iload dX1_foreseers_69 rfl ?_
        refine o_iload_n dX1_foreseers_71 rfl ?_
        refine o_iload_n dX1_foreseers_72 rfl ?_
        refine o_aload_n dX1_foreseers_73 rfl ?_
        refine h_get (v := .ref 12) dX1_foreseers_74 q1 fl_X1_12 (by decide) (px_lt (by decide)) (c11 _) rfl ?_
        refine h_get (v := .ref 16) dX1_foreseers_77 q0 fl_X1_132 (by decide) (px_ltH 0 (by decide) (Or.inr (Or.inr rfl))) (cH (Or.inr (Or.inr rfl)) _) rfl ?_
        refine o_iload_n dX1_foreseers_80 rfl ?_
        refine h_iald (n := 7) dX1_foreseers_81 (px_lt (by decide)) (c16 _) (fun u5 => ?_)
        refine o_iload dX1_foreseers_82 rfl ?_
        refine h_cNP (as := [.int (st 16 y3.toNatClampNeg), .int y6]) (S1 := [.int y2, .int y3, .int y6, .int ((st 24 ((y4 * 7) + y6).toNatClampNeg) - (st 24 ((y1 * 7) + y6).toNatClampNeg)), .ref 11]) (d' := 0) dX1_foreseers_84 mf_X5_has ml_X1_91 ms_X5_has rfl (Nat.le_of_ble_eq_true rfl) rfl (Nat.le_of_ble_eq_true rfl) ⟨Nat.zero_le _, Nat.zero_le _⟩ (k_X5_has) ?_
        refine h_cVi (as := [.int ((st 24 ((y4 * 7) + y6).toNatClampNeg) - (st 24 ((y1 * 7) + y6).toNatClampNeg)), .int y6, .int y3, .int y2, .int (p_X5_has (st 16 y3.toNatClampNeg) y6)]) (S1 := []) (d' := 6) dX1_foreseers_87 mf_X1_moves ml_X1_125 mv_X1_moves q1 rfl (hp_at (px_lt (by decide)) (c11 _)) rfl (Nat.le_of_ble_eq_true rfl) rfl (Nat.le_of_ble_eq_true rfl) (fun b hb => k_X1_moves hb) (fun b6 hb6 => ?_)
        refine o_ifeq (tgt := 103) dX1_foreseers_90 (by decide) (fun u7 => ?_) (fun u7 => ?_)
        · refine o_iinc (v := (y6 + 1)) (L' := [some (.ref 11), some (.int y1), some (.int y2), some (.int y3), some (.int y4), some (.int y5), some (.int (y6 + 1)), some (.int ((st 24 ((y4 * 7) + y6).toNatClampNeg) - (st 24 ((y1 * 7) + y6).toNatClampNeg)))]) dX1_foreseers_103 rfl rfl (Nat.le_of_ble_eq_true rfl) rfl rfl ?_
          refine o_goto (tgt := 21) dX1_foreseers_106 (by decide) ?_
          exact o_weak (L' := [some (.ref 11), some (.int y1), some (.int y2), some (.int y3), some (.int y4), some (.int y5), some (.int (y6 + 1)), none]) ⟨rfl, ⟨rfl, ⟨rfl, ⟨rfl, ⟨rfl, ⟨rfl, ⟨rfl, trivial⟩⟩⟩⟩⟩⟩⟩ (ih y1 y2 y3 y4 y5 (y6 + 1) b6.2)
        · refine o_iload dX1_foreseers_93 rfl ?_
          refine o_iload dX1_foreseers_95 rfl ?_
          refine h_cNP (as := [.int y6]) (S1 := [.int y5]) (d' := 0) dX1_foreseers_97 mf_X5_bit ml_X1_129 ms_X5_bit rfl (Nat.le_of_ble_eq_true rfl) rfl (Nat.le_of_ble_eq_true rfl) ⟨Nat.zero_le _, Nat.zero_le _⟩ (k_X5_bit) ?_
          refine o_ior dX1_foreseers_100 ?_
          refine o_istore (L' := [some (.ref 11), some (.int y1), some (.int y2), some (.int y3), some (.int y4), some (.int (y5 ||| (p_X5_bit y6))), some (.int y6), some (.int ((st 24 ((y4 * 7) + y6).toNatClampNeg) - (st 24 ((y1 * 7) + y6).toNatClampNeg)))]) dX1_foreseers_101 (Nat.le_of_ble_eq_true rfl) rfl rfl ?_
          refine o_iinc (v := (y6 + 1)) (L' := [some (.ref 11), some (.int y1), some (.int y2), some (.int y3), some (.int y4), some (.int (y5 ||| (p_X5_bit y6))), some (.int (y6 + 1)), some (.int ((st 24 ((y4 * 7) + y6).toNatClampNeg) - (st 24 ((y1 * 7) + y6).toNatClampNeg)))]) dX1_foreseers_103 rfl rfl (Nat.le_of_ble_eq_true rfl) rfl rfl ?_
          refine o_goto (tgt := 21) dX1_foreseers_106 (by decide) ?_
          exact o_weak (L' := [some (.ref 11), some (.int y1), some (.int y2), some (.int y3), some (.int y4), some (.int (y5 ||| (p_X5_bit y6))), some (.int (y6 + 1)), none]) ⟨rfl, ⟨rfl, ⟨rfl, ⟨rfl, ⟨rfl, ⟨rfl, ⟨rfl, trivial⟩⟩⟩⟩⟩⟩⟩ (ih y1 y2 y3 y4 (y5 ||| (p_X5_bit y6)) (y6 + 1) b6.2)
def f_X1_foreseers (T : Nat) (x0 : Int32) (x1 : Int32) (x2 : Int32) (st : px_S) : Option (Int32 × px_S) := (if px_in (x0 &&& ((p_X5_bit x2) ^^^ (-1))) 128 then (f_X1_foreseers_21 T 1000 x0 x1 x2 (st 25 (x0 &&& ((p_X5_bit x2) ^^^ (-1))).toNatClampNeg) 0 0 st) else none)
set_option maxRecDepth 20000 in
theorem t_X1_foreseers (T : Nat) (x0 : Int32) (x1 : Int32) (x2 : Int32) (st : px_S) : px_O (7, 0, 0, px_n T, m_X1_foreseers) (px_gi T) (f_X1_foreseers T x0 x1 x2 st) 0 [some (.ref 11), some (.int x0), some (.int x1), some (.int x2), none, none, none, none] [] (HP T st) 0 0 := by
  rw [f_X1_foreseers]
  refine o_aload_n dX1_foreseers_0 rfl ?_
  refine h_get (v := .ref 25) dX1_foreseers_1 q1 fl_X1_46 (by decide) (px_lt (by decide)) (c11 _) rfl ?_
  refine o_iload_n dX1_foreseers_4 rfl ?_
  refine o_iload_n dX1_foreseers_5 rfl ?_
  refine h_cNP (as := [.int x2]) (S1 := [.int x0, .ref 25]) (d' := 0) dX1_foreseers_6 mf_X5_bit ml_X1_129 ms_X5_bit rfl (Nat.le_of_ble_eq_true rfl) rfl (Nat.le_of_ble_eq_true rfl) ⟨Nat.zero_le _, Nat.zero_le _⟩ (k_X5_bit) ?_
  refine o_iconst (v := (-1)) dX1_foreseers_9 (by decide) ?_
  refine o_ixor dX1_foreseers_10 ?_
  refine o_iand dX1_foreseers_11 ?_
  refine h_iald (n := 128) dX1_foreseers_12 (px_lt (by decide)) (c25 _) (fun u8 => ?_)
  refine o_istore (L' := [some (.ref 11), some (.int x0), some (.int x1), some (.int x2), some (.int (st 25 (x0 &&& ((p_X5_bit x2) ^^^ (-1))).toNatClampNeg)), none, none, none]) dX1_foreseers_13 (Nat.le_of_ble_eq_true rfl) rfl rfl ?_
  refine o_iconst (v := 0) dX1_foreseers_15 (by decide) ?_
  refine o_istore (L' := [some (.ref 11), some (.int x0), some (.int x1), some (.int x2), some (.int (st 25 (x0 &&& ((p_X5_bit x2) ^^^ (-1))).toNatClampNeg)), some (.int 0), none, none]) dX1_foreseers_16 (Nat.le_of_ble_eq_true rfl) rfl rfl ?_
  refine o_iconst (v := 0) dX1_foreseers_18 (by decide) ?_
  refine o_istore (L' := [some (.ref 11), some (.int x0), some (.int x1), some (.int x2), some (.int (st 25 (x0 &&& ((p_X5_bit x2) ^^^ (-1))).toNatClampNeg)), some (.int 0), some (.int 0), none]) dX1_foreseers_19 (Nat.le_of_ble_eq_true rfl) rfl rfl ?_
  exact (t_X1_foreseers_21 T 1000 x0 x1 x2 (st 25 (x0 &&& ((p_X5_bit x2) ^^^ (-1))).toNatClampNeg) 0 0 st)
theorem k_X1_foreseers {T : Nat} {st : px_S} {x0 : Int32} {x1 : Int32} {x2 : Int32} {b : Int32 × px_S} (hf : f_X1_foreseers T x0 x1 x2 st = some b) : px_K (7) 0 0 m_X1_foreseers [.ref 11, .int x0, .int x1, .int x2] (HP T st) ((px_gi T) b).1 ((px_gi T) b).2 := px_KofH hf mf_X1_foreseers (Nat.le_of_ble_eq_true rfl) rfl (t_X1_foreseers T x0 x1 x2 st)
/-! ThreeOfThem$Judge.foreseeSet(II)V: S, depth 8 -/
def f_X1_foreseeSet_91 (T : Nat) (k53 : Int32 → Int32 → Int32 → Int32 → Int32 → px_S → Option (px_S)) (y1 : Int32) (y2 : Int32) (y3 : Int32) (y4 : Int32) (y5 : Int32) (z0 : Int32) (st : px_S) : Option (px_S) := (if z0 = (-1) then (k53 y1 y2 y3 y4 (y5 + 1) st) else (if y4 = (-1) then (k53 y1 y2 z0 y5 (y5 + 1) st) else (if z0 < y3 then (k53 y1 y2 z0 y5 (y5 + 1) st) else (k53 y1 y2 y3 y4 (y5 + 1) st))))
set_option maxRecDepth 20000 in
theorem t_X1_foreseeSet_91 (T : Nat) (k53 : Int32 → Int32 → Int32 → Int32 → Int32 → px_S → Option (px_S)) (hk53 : ∀ (y1 : Int32) (y2 : Int32) (y3 : Int32) (y4 : Int32) (y5 : Int32) (st : px_S), px_O (8, 0, 0, px_n T, m_X1_foreseeSet) (px_gv T) (k53 y1 y2 y3 y4 y5 st) 53 [some (.ref 11), some (.int y1), some (.int y2), some (.int y3), some (.int y4), some (.int y5), none] [] (HP T st) 0 0) (y1 : Int32) (y2 : Int32) (y3 : Int32) (y4 : Int32) (y5 : Int32) (z0 : Int32) (st : px_S) : px_O (8, 0, 0, px_n T, m_X1_foreseeSet) (px_gv T) (f_X1_foreseeSet_91 T k53 y1 y2 y3 y4 y5 z0 st) 91 [some (.ref 11), some (.int y1), some (.int y2), some (.int y3), some (.int y4), some (.int y5), none] [.int z0] (HP T st) 0 0 := by
  rw [f_X1_foreseeSet_91]
  refine o_istore (L' := [some (.ref 11), some (.int y1), some (.int y2), some (.int y3), some (.int y4), some (.int y5), some (.int z0)]) dX1_foreseeSet_91 (Nat.le_of_ble_eq_true rfl) rfl rfl ?_
  refine o_iload dX1_foreseeSet_93 rfl ?_
  refine o_iconst (v := (-1)) dX1_foreseeSet_95 (by decide) ?_
  refine o_icmpeq (tgt := 118) dX1_foreseeSet_96 (by decide) (fun u1 => ?_) (fun u1 => ?_)
  · refine o_iinc (v := (y5 + 1)) (L' := [some (.ref 11), some (.int y1), some (.int y2), some (.int y3), some (.int y4), some (.int (y5 + 1)), some (.int z0)]) dX1_foreseeSet_118 rfl rfl (Nat.le_of_ble_eq_true rfl) rfl rfl ?_
    refine o_goto (tgt := 53) dX1_foreseeSet_121 (by decide) ?_
    exact o_weak (L' := [some (.ref 11), some (.int y1), some (.int y2), some (.int y3), some (.int y4), some (.int (y5 + 1)), none]) ⟨rfl, ⟨rfl, ⟨rfl, ⟨rfl, ⟨rfl, ⟨rfl, trivial⟩⟩⟩⟩⟩⟩ (hk53 y1 y2 y3 y4 (y5 + 1) st)
  · refine o_iload dX1_foreseeSet_99 rfl ?_
    refine o_iconst (v := (-1)) dX1_foreseeSet_101 (by decide) ?_
    refine o_icmpeq (tgt := 111) dX1_foreseeSet_102 (by decide) (fun u2 => ?_) (fun u2 => ?_)
    · refine o_iload dX1_foreseeSet_111 rfl ?_
      refine o_istore_n (L' := [some (.ref 11), some (.int y1), some (.int y2), some (.int z0), some (.int y4), some (.int y5), some (.int z0)]) dX1_foreseeSet_113 (Nat.le_of_ble_eq_true rfl) rfl rfl ?_
      refine o_iload dX1_foreseeSet_114 rfl ?_
      refine o_istore (L' := [some (.ref 11), some (.int y1), some (.int y2), some (.int z0), some (.int y5), some (.int y5), some (.int z0)]) dX1_foreseeSet_116 (Nat.le_of_ble_eq_true rfl) rfl rfl ?_
      refine o_iinc (v := (y5 + 1)) (L' := [some (.ref 11), some (.int y1), some (.int y2), some (.int z0), some (.int y5), some (.int (y5 + 1)), some (.int z0)]) dX1_foreseeSet_118 rfl rfl (Nat.le_of_ble_eq_true rfl) rfl rfl ?_
      refine o_goto (tgt := 53) dX1_foreseeSet_121 (by decide) ?_
      exact o_weak (L' := [some (.ref 11), some (.int y1), some (.int y2), some (.int z0), some (.int y5), some (.int (y5 + 1)), none]) ⟨rfl, ⟨rfl, ⟨rfl, ⟨rfl, ⟨rfl, ⟨rfl, trivial⟩⟩⟩⟩⟩⟩ (hk53 y1 y2 z0 y5 (y5 + 1) st)
    · refine o_iload dX1_foreseeSet_105 rfl ?_
      refine o_iload_n dX1_foreseeSet_107 rfl ?_
      refine o_icmpge (tgt := 118) dX1_foreseeSet_108 (by decide) (fun u3 => ?_) (fun u3 => ?_)
      · refine o_iinc (v := (y5 + 1)) (L' := [some (.ref 11), some (.int y1), some (.int y2), some (.int y3), some (.int y4), some (.int (y5 + 1)), some (.int z0)]) dX1_foreseeSet_118 rfl rfl (Nat.le_of_ble_eq_true rfl) rfl rfl ?_
        refine o_goto (tgt := 53) dX1_foreseeSet_121 (by decide) ?_
        exact o_weak (L' := [some (.ref 11), some (.int y1), some (.int y2), some (.int y3), some (.int y4), some (.int (y5 + 1)), none]) ⟨rfl, ⟨rfl, ⟨rfl, ⟨rfl, ⟨rfl, ⟨rfl, trivial⟩⟩⟩⟩⟩⟩ (hk53 y1 y2 y3 y4 (y5 + 1) st)
      · refine o_iload dX1_foreseeSet_111 rfl ?_
        refine o_istore_n (L' := [some (.ref 11), some (.int y1), some (.int y2), some (.int z0), some (.int y4), some (.int y5), some (.int z0)]) dX1_foreseeSet_113 (Nat.le_of_ble_eq_true rfl) rfl rfl ?_
        refine o_iload dX1_foreseeSet_114 rfl ?_
        refine o_istore (L' := [some (.ref 11), some (.int y1), some (.int y2), some (.int z0), some (.int y5), some (.int y5), some (.int z0)]) dX1_foreseeSet_116 (Nat.le_of_ble_eq_true rfl) rfl rfl ?_
        refine o_iinc (v := (y5 + 1)) (L' := [some (.ref 11), some (.int y1), some (.int y2), some (.int z0), some (.int y5), some (.int (y5 + 1)), some (.int z0)]) dX1_foreseeSet_118 rfl rfl (Nat.le_of_ble_eq_true rfl) rfl rfl ?_
        refine o_goto (tgt := 53) dX1_foreseeSet_121 (by decide) ?_
        exact o_weak (L' := [some (.ref 11), some (.int y1), some (.int y2), some (.int z0), some (.int y5), some (.int (y5 + 1)), none]) ⟨rfl, ⟨rfl, ⟨rfl, ⟨rfl, ⟨rfl, ⟨rfl, trivial⟩⟩⟩⟩⟩⟩ (hk53 y1 y2 z0 y5 (y5 + 1) st)
def f_X1_foreseeSet_53 (T : Nat) : Nat → Int32 → Int32 → Int32 → Int32 → Int32 → px_S → Option (px_S)
  | 0, _, _, _, _, _, _ => none
  | n + 1, y1, y2, y3, y4, y5, st => (if y5 < 7 then (if (p_X5_has y1 y5) = 0 then (f_X1_foreseeSet_91 T (f_X1_foreseeSet_53 T n) y1 y2 y3 y4 y5 (-1) st) else ((f_X1_foreseers T y1 y2 y5 st).bind fun b12 => ((f_X5_lowest b12.1 (b12.2 12 7)).bind fun b13 => (f_X1_foreseeSet_91 T (f_X1_foreseeSet_53 T n) y1 y2 y3 y4 y5 b13 b12.2)))) else (if y4 = (-1) then (if px_in y1 128 then (if px_in y1 128 then (some (up (up st 25 y1.toNatClampNeg y1) 26 y1.toNatClampNeg y4)) else none) else none) else (if px_in (y1 &&& ((p_X5_bit y4) ^^^ (-1))) 128 then (if px_in y1 128 then (if px_in y1 128 then (some (up (up st 25 y1.toNatClampNeg (st 25 (y1 &&& ((p_X5_bit y4) ^^^ (-1))).toNatClampNeg)) 26 y1.toNatClampNeg y4)) else none) else none) else none)))
set_option maxRecDepth 20000 in
theorem t_X1_foreseeSet_53 (T : Nat) : ∀ (n : Nat) (y1 : Int32) (y2 : Int32) (y3 : Int32) (y4 : Int32) (y5 : Int32) (st : px_S), px_O (8, 0, 0, px_n T, m_X1_foreseeSet) (px_gv T) (f_X1_foreseeSet_53 T n y1 y2 y3 y4 y5 st) 53 [some (.ref 11), some (.int y1), some (.int y2), some (.int y3), some (.int y4), some (.int y5), none] [] (HP T st) 0 0 := by
  intro n
  induction n with
  | zero => intro y1 y2 y3 y4 y5 st; rw [f_X1_foreseeSet_53]; exact o_none
  | succ n ih =>
    intro y1 y2 y3 y4 y5 st
    rw [f_X1_foreseeSet_53]
    refine o_iload dX1_foreseeSet_53 rfl ?_
    refine o_bipush (v := 7) dX1_foreseeSet_55 (by decide) ?_
    refine o_icmpge (tgt := 124) dX1_foreseeSet_57 (by decide) (fun u4 => ?_) (fun u4 => ?_)
    · refine o_aload_n dX1_foreseeSet_124 rfl ?_
      refine h_get (v := .ref 25) dX1_foreseeSet_125 q1 fl_X1_46 (by decide) (px_lt (by decide)) (c11 _) rfl ?_
      refine o_iload_n dX1_foreseeSet_128 rfl ?_
      refine o_iload dX1_foreseeSet_129 rfl ?_
      refine o_iconst (v := (-1)) dX1_foreseeSet_131 (by decide) ?_
      refine o_icmpne (tgt := 139) dX1_foreseeSet_132 (by decide) (fun u5 => ?_) (fun u5 => ?_)
      · refine o_aload_n dX1_foreseeSet_139 rfl ?_
        refine h_get (v := .ref 25) dX1_foreseeSet_140 q1 fl_X1_46 (by decide) (px_lt (by decide)) (c11 _) rfl ?_
        refine o_iload_n dX1_foreseeSet_143 rfl ?_
        refine o_iload dX1_foreseeSet_144 rfl ?_
        refine h_cNP (as := [.int y4]) (S1 := [.int y1, .ref 25, .int y1, .ref 25]) (d' := 0) dX1_foreseeSet_146 mf_X5_bit ml_X1_129 ms_X5_bit rfl (Nat.le_of_ble_eq_true rfl) rfl (Nat.le_of_ble_eq_true rfl) ⟨Nat.zero_le _, Nat.zero_le _⟩ (k_X5_bit) ?_
        refine o_iconst (v := (-1)) dX1_foreseeSet_149 (by decide) ?_
        refine o_ixor dX1_foreseeSet_150 ?_
        refine o_iand dX1_foreseeSet_151 ?_
        refine h_iald (n := 128) dX1_foreseeSet_152 (px_lt (by decide)) (c25 _) (fun u6 => ?_)
        refine h_iast (n := 128) dX1_foreseeSet_153 (px_lt (by decide)) c25 (fun u7 => ?_)
        refine o_aload_n dX1_foreseeSet_154 rfl ?_
        refine h_get (v := .ref 26) dX1_foreseeSet_155 q1 fl_X1_49 (by decide) (px_lt (by decide)) (c11 _) rfl ?_
        refine o_iload_n dX1_foreseeSet_158 rfl ?_
        refine o_iload dX1_foreseeSet_159 rfl ?_
        refine h_iast (n := 128) dX1_foreseeSet_161 (px_lt (by decide)) c26 (fun u8 => ?_)
        exact o_vret rfl dX1_foreseeSet_162 rfl (Nat.zero_le _) (Nat.zero_le _)
      · refine o_iload_n dX1_foreseeSet_135 rfl ?_
        refine o_goto (tgt := 153) dX1_foreseeSet_136 (by decide) ?_
        refine h_iast (n := 128) dX1_foreseeSet_153 (px_lt (by decide)) c25 (fun u9 => ?_)
        refine o_aload_n dX1_foreseeSet_154 rfl ?_
        refine h_get (v := .ref 26) dX1_foreseeSet_155 q1 fl_X1_49 (by decide) (px_lt (by decide)) (c11 _) rfl ?_
        refine o_iload_n dX1_foreseeSet_158 rfl ?_
        refine o_iload dX1_foreseeSet_159 rfl ?_
        refine h_iast (n := 128) dX1_foreseeSet_161 (px_lt (by decide)) c26 (fun u10 => ?_)
        exact o_vret rfl dX1_foreseeSet_162 rfl (Nat.zero_le _) (Nat.zero_le _)
    · refine o_iload_n dX1_foreseeSet_60 rfl ?_
      refine o_iload dX1_foreseeSet_61 rfl ?_
      refine h_cNP (as := [.int y1, .int y5]) (S1 := []) (d' := 0) dX1_foreseeSet_63 mf_X5_has ml_X1_91 ms_X5_has rfl (Nat.le_of_ble_eq_true rfl) rfl (Nat.le_of_ble_eq_true rfl) ⟨Nat.zero_le _, Nat.zero_le _⟩ (k_X5_has) ?_
      refine o_ifeq (tgt := 90) dX1_foreseeSet_66 (by decide) (fun u11 => ?_) (fun u11 => ?_)
      · refine o_iconst (v := (-1)) dX1_foreseeSet_90 (by decide) ?_
        exact (t_X1_foreseeSet_91 T (f_X1_foreseeSet_53 T n) ih y1 y2 y3 y4 y5 (-1) st)
      · refine o_aload_n dX1_foreseeSet_69 rfl ?_
        refine o_iload_n dX1_foreseeSet_70 rfl ?_
        refine o_iload_n dX1_foreseeSet_71 rfl ?_
        refine o_iload dX1_foreseeSet_72 rfl ?_
        refine h_cVi (as := [.int y1, .int y2, .int y5]) (S1 := []) (d' := 7) dX1_foreseeSet_74 mf_X1_foreseers ml_X1_183 mv_X1_foreseers q1 rfl (hp_at (px_lt (by decide)) (c11 _)) rfl (Nat.le_of_ble_eq_true rfl) rfl (Nat.le_of_ble_eq_true rfl) (fun b hb => k_X1_foreseers hb) (fun b12 hb12 => ?_)
        refine o_aload_n dX1_foreseeSet_77 rfl ?_
        refine h_get (v := .ref 12) dX1_foreseeSet_78 q1 fl_X1_12 (by decide) (px_lt (by decide)) (c11 _) rfl ?_
        refine h_get (v := .int (b12.2 12 7)) dX1_foreseeSet_81 q0 fl_X1_140 (by decide) (px_ltH 0 (by decide) (Or.inr (Or.inr rfl))) (cH (Or.inr (Or.inr rfl)) _) rfl ?_
        refine h_cN0 (as := [.int b12.1, .int (b12.2 12 7)]) (S1 := []) (d' := 0) dX1_foreseeSet_84 mf_X5_lowest ml_X1_143 ms_X5_lowest rfl (Nat.le_of_ble_eq_true rfl) rfl (Nat.le_of_ble_eq_true rfl) ⟨Nat.zero_le _, Nat.zero_le _⟩ (fun b hb => k_X5_lowest hb) (fun b13 hb13 => ?_)
        refine o_goto (tgt := 91) dX1_foreseeSet_87 (by decide) ?_
        exact (t_X1_foreseeSet_91 T (f_X1_foreseeSet_53 T n) ih y1 y2 y3 y4 y5 b13 b12.2)
def f_X1_foreseeSet_8 (T : Nat) : Nat → Int32 → Int32 → Int32 → Int32 → Int32 → px_S → Option (px_S)
  | 0, _, _, _, _, _, _ => none
  | n + 1, y1, y2, y3, y4, y5, st => (if y5 < 7 then (if (p_X5_has y1 y5) = 0 then ((f_X1_foreseeSet_8 T n) y1 y2 y3 y4 (y5 + 1) st) else ((f_X1_goodOf T y5 y1 y2 st).bind fun b16 => (if px_in ((y1 * 7) + y5) 896 then ((f_X1_foreseeSet_8 T n) y1 y2 y3 y4 (y5 + 1) (up b16.2 24 ((y1 * 7) + y5).toNatClampNeg b16.1)) else none))) else (f_X1_foreseeSet_53 T 1000 y1 y2 y3 y4 0 st))
set_option maxRecDepth 20000 in
theorem t_X1_foreseeSet_8 (T : Nat) : ∀ (n : Nat) (y1 : Int32) (y2 : Int32) (y3 : Int32) (y4 : Int32) (y5 : Int32) (st : px_S), px_O (8, 0, 0, px_n T, m_X1_foreseeSet) (px_gv T) (f_X1_foreseeSet_8 T n y1 y2 y3 y4 y5 st) 8 [some (.ref 11), some (.int y1), some (.int y2), some (.int y3), some (.int y4), some (.int y5), none] [] (HP T st) 0 0 := by
  intro n
  induction n with
  | zero => intro y1 y2 y3 y4 y5 st; rw [f_X1_foreseeSet_8]; exact o_none
  | succ n ih =>
    intro y1 y2 y3 y4 y5 st
    rw [f_X1_foreseeSet_8]
    refine o_iload dX1_foreseeSet_8 rfl ?_
    refine o_bipush (v := 7) dX1_foreseeSet_10 (by decide) ?_
    refine o_icmpge (tgt := 50) dX1_foreseeSet_12 (by decide) (fun u14 => ?_) (fun u14 => ?_)
    · refine o_iconst (v := 0) dX1_foreseeSet_50 (by decide) ?_
      refine o_istore (L' := [some (.ref 11), some (.int y1), some (.int y2), some (.int y3), some (.int y4), some (.int 0), none]) dX1_foreseeSet_51 (Nat.le_of_ble_eq_true rfl) rfl rfl ?_
      exact (t_X1_foreseeSet_53 T 1000 y1 y2 y3 y4 0 st)
    · refine o_iload_n dX1_foreseeSet_15 rfl ?_
      refine o_iload dX1_foreseeSet_16 rfl ?_
      refine h_cNP (as := [.int y1, .int y5]) (S1 := []) (d' := 0) dX1_foreseeSet_18 mf_X5_has ml_X1_91 ms_X5_has rfl (Nat.le_of_ble_eq_true rfl) rfl (Nat.le_of_ble_eq_true rfl) ⟨Nat.zero_le _, Nat.zero_le _⟩ (k_X5_has) ?_
      refine o_ifeq (tgt := 44) dX1_foreseeSet_21 (by decide) (fun u15 => ?_) (fun u15 => ?_)
      · refine o_iinc (v := (y5 + 1)) (L' := [some (.ref 11), some (.int y1), some (.int y2), some (.int y3), some (.int y4), some (.int (y5 + 1)), none]) dX1_foreseeSet_44 rfl rfl (Nat.le_of_ble_eq_true rfl) rfl rfl ?_
        refine o_goto (tgt := 8) dX1_foreseeSet_47 (by decide) ?_
        exact (ih y1 y2 y3 y4 (y5 + 1) st)
      · refine o_aload_n dX1_foreseeSet_24 rfl ?_
        refine h_get (v := .ref 24) dX1_foreseeSet_25 q1 fl_X1_43 (by decide) (px_lt (by decide)) (c11 _) rfl ?_
        refine o_iload_n dX1_foreseeSet_28 rfl ?_
        refine o_bipush (v := 7) dX1_foreseeSet_29 (by decide) ?_
        refine o_imul dX1_foreseeSet_31 ?_
        refine o_iload dX1_foreseeSet_32 rfl ?_
        refine o_iadd dX1_foreseeSet_34 ?_
        refine o_aload_n dX1_foreseeSet_35 rfl ?_
        refine o_iload dX1_foreseeSet_36 rfl ?_
        refine o_iload_n dX1_foreseeSet_38 rfl ?_
        refine o_iload_n dX1_foreseeSet_39 rfl ?_
        refine h_cVi (as := [.int y5, .int y1, .int y2]) (S1 := [.int ((y1 * 7) + y5), .ref 24]) (d' := 7) dX1_foreseeSet_40 mf_X1_goodOf ml_X1_180 mv_X1_goodOf q1 rfl (hp_at (px_lt (by decide)) (c11 _)) rfl (Nat.le_of_ble_eq_true rfl) rfl (Nat.le_of_ble_eq_true rfl) (fun b hb => k_X1_goodOf hb) (fun b16 hb16 => ?_)
        refine h_iast (n := 896) dX1_foreseeSet_43 (px_lt (by decide)) c24 (fun u17 => ?_)
        refine o_iinc (v := (y5 + 1)) (L' := [some (.ref 11), some (.int y1), some (.int y2), some (.int y3), some (.int y4), some (.int (y5 + 1)), none]) dX1_foreseeSet_44 rfl rfl (Nat.le_of_ble_eq_true rfl) rfl rfl ?_
        refine o_goto (tgt := 8) dX1_foreseeSet_47 (by decide) ?_
        exact (ih y1 y2 y3 y4 (y5 + 1) (up b16.2 24 ((y1 * 7) + y5).toNatClampNeg b16.1))
def f_X1_foreseeSet (T : Nat) (x0 : Int32) (x1 : Int32) (st : px_S) : Option (px_S) := (f_X1_foreseeSet_8 T 1000 x0 x1 (-1) (-1) 0 st)
set_option maxRecDepth 20000 in
theorem t_X1_foreseeSet (T : Nat) (x0 : Int32) (x1 : Int32) (st : px_S) : px_O (8, 0, 0, px_n T, m_X1_foreseeSet) (px_gv T) (f_X1_foreseeSet T x0 x1 st) 0 [some (.ref 11), some (.int x0), some (.int x1), none, none, none, none] [] (HP T st) 0 0 := by
  rw [f_X1_foreseeSet]
  refine o_iconst (v := (-1)) dX1_foreseeSet_0 (by decide) ?_
  refine o_istore_n (L' := [some (.ref 11), some (.int x0), some (.int x1), some (.int (-1)), none, none, none]) dX1_foreseeSet_1 (Nat.le_of_ble_eq_true rfl) rfl rfl ?_
  refine o_iconst (v := (-1)) dX1_foreseeSet_2 (by decide) ?_
  refine o_istore (L' := [some (.ref 11), some (.int x0), some (.int x1), some (.int (-1)), some (.int (-1)), none, none]) dX1_foreseeSet_3 (Nat.le_of_ble_eq_true rfl) rfl rfl ?_
  refine o_iconst (v := 0) dX1_foreseeSet_5 (by decide) ?_
  refine o_istore (L' := [some (.ref 11), some (.int x0), some (.int x1), some (.int (-1)), some (.int (-1)), some (.int 0), none]) dX1_foreseeSet_6 (Nat.le_of_ble_eq_true rfl) rfl rfl ?_
  exact (t_X1_foreseeSet_8 T 1000 x0 x1 (-1) (-1) 0 st)
theorem k_X1_foreseeSet {T : Nat} {st : px_S} {x0 : Int32} {x1 : Int32} {b : px_S} (hf : f_X1_foreseeSet T x0 x1 st = some b) : px_K (8) 0 0 m_X1_foreseeSet [.ref 11, .int x0, .int x1] (HP T st) ((px_gv T) b).1 ((px_gv T) b).2 := px_KofH hf mf_X1_foreseeSet (Nat.le_of_ble_eq_true rfl) rfl (t_X1_foreseeSet T x0 x1 st)
/-! ThreeOfThem$Judge.foresee(I)V: S, depth 9 -/
def f_X1_foresee_2 (T : Nat) : Nat → Int32 → Int32 → px_S → Option (px_S)
  | 0, _, _, _ => none
  | n + 1, y1, y2, st => (if y1 < y2 then (some st) else (if y2 < 128 then (if (y2 &&& (y1 ^^^ (-1))) = 0 then ((f_X1_foreseeSet T y2 (p_J6_bitCount_0f7a4 y2) st).bind fun b4 => ((f_X1_foresee_2 T n) y1 (y2 + 1) b4)) else ((f_X1_foresee_2 T n) y1 (y2 + 1) st)) else (some st)))
set_option maxRecDepth 20000 in
theorem t_X1_foresee_2 (T : Nat) : ∀ (n : Nat) (y1 : Int32) (y2 : Int32) (st : px_S), px_O (9, 0, 0, px_n T, m_X1_foresee) (px_gv T) (f_X1_foresee_2 T n y1 y2 st) 2 [some (.ref 11), some (.int y1), some (.int y2)] [] (HP T st) 0 0 := by
  intro n
  induction n with
  | zero => intro y1 y2 st; rw [f_X1_foresee_2]; exact o_none
  | succ n ih =>
    intro y1 y2 st
    rw [f_X1_foresee_2]
    refine o_iload_n dX1_foresee_2 rfl ?_
    refine o_iload_n dX1_foresee_3 rfl ?_
    refine o_icmpgt (tgt := 37) dX1_foresee_4 (by decide) (fun u1 => ?_) (fun u1 => ?_)
    · exact o_vret rfl dX1_foresee_37 rfl (Nat.zero_le _) (Nat.zero_le _)
    · refine o_iload_n dX1_foresee_7 rfl ?_
      refine o_sipush (v := 128) dX1_foresee_8 (by decide) ?_
      refine o_icmpge (tgt := 37) dX1_foresee_11 (by decide) (fun u2 => ?_) (fun u2 => ?_)
      · exact o_vret rfl dX1_foresee_37 rfl (Nat.zero_le _) (Nat.zero_le _)
      · refine o_iload_n dX1_foresee_14 rfl ?_
        refine o_iload_n dX1_foresee_15 rfl ?_
        refine o_iconst (v := (-1)) dX1_foresee_16 (by decide) ?_
        refine o_ixor dX1_foresee_17 ?_
        refine o_iand dX1_foresee_18 ?_
        refine o_ifne (tgt := 31) dX1_foresee_19 (by decide) (fun u3 => ?_) (fun u3 => ?_)
        · refine o_iinc (v := (y2 + 1)) (L' := [some (.ref 11), some (.int y1), some (.int (y2 + 1))]) dX1_foresee_31 rfl rfl (Nat.le_of_ble_eq_true rfl) rfl rfl ?_
          refine o_goto (tgt := 2) dX1_foresee_34 (by decide) ?_
          exact (ih y1 (y2 + 1) st)
        · refine o_aload_n dX1_foresee_22 rfl ?_
          refine o_iload_n dX1_foresee_23 rfl ?_
          refine o_iload_n dX1_foresee_24 rfl ?_
          refine h_cSP (as := [.int y2]) (S1 := [.int y2, .ref 11]) (d' := 0) dX1_foresee_25 mf_J6_bitCount_0f7a4 ml_X1_111 ms_J6_bitCount_0f7a4 rfl (Nat.le_of_ble_eq_true rfl) rfl (Nat.le_of_ble_eq_true rfl) ⟨Nat.zero_le _, Nat.zero_le _⟩ (k_J6_bitCount_0f7a4) ?_
          refine h_cVv (as := [.int y2, .int (p_J6_bitCount_0f7a4 y2)]) (S1 := []) (d' := 8) dX1_foresee_28 mf_X1_foreseeSet ml_X1_176 mv_X1_foreseeSet q1 rfl (hp_at (px_lt (by decide)) (c11 _)) rfl (Nat.le_of_ble_eq_true rfl) rfl (Nat.le_of_ble_eq_true rfl) (fun b hb => k_X1_foreseeSet hb) (fun b4 hb4 => ?_)
          refine o_iinc (v := (y2 + 1)) (L' := [some (.ref 11), some (.int y1), some (.int (y2 + 1))]) dX1_foresee_31 rfl rfl (Nat.le_of_ble_eq_true rfl) rfl rfl ?_
          refine o_goto (tgt := 2) dX1_foresee_34 (by decide) ?_
          exact (ih y1 (y2 + 1) b4)
def f_X1_foresee (T : Nat) (x0 : Int32) (st : px_S) : Option (px_S) := (f_X1_foresee_2 T 1000 x0 0 st)
set_option maxRecDepth 20000 in
theorem t_X1_foresee (T : Nat) (x0 : Int32) (st : px_S) : px_O (9, 0, 0, px_n T, m_X1_foresee) (px_gv T) (f_X1_foresee T x0 st) 0 [some (.ref 11), some (.int x0), none] [] (HP T st) 0 0 := by
  rw [f_X1_foresee]
  refine o_iconst (v := 0) dX1_foresee_0 (by decide) ?_
  refine o_istore_n (L' := [some (.ref 11), some (.int x0), some (.int 0)]) dX1_foresee_1 (Nat.le_of_ble_eq_true rfl) rfl rfl ?_
  exact (t_X1_foresee_2 T 1000 x0 0 st)
theorem k_X1_foresee {T : Nat} {st : px_S} {x0 : Int32} {b : px_S} (hf : f_X1_foresee T x0 st = some b) : px_K (9) 0 0 m_X1_foresee [.ref 11, .int x0] (HP T st) ((px_gv T) b).1 ((px_gv T) b).2 := px_KofH hf mf_X1_foresee (Nat.le_of_ble_eq_true rfl) rfl (t_X1_foresee T x0 st)
