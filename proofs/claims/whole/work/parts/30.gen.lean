/-! ThreeOfThemModel.spell(IIIIIIIII)V: S, depth 0 -/
def f_X6_spell (T : Nat) (x0 : Int32) (x1 : Int32) (x2 : Int32) (x3 : Int32) (x4 : Int32) (x5 : Int32) (x6 : Int32) (x7 : Int32) (x8 : Int32) (st : px_S) : Option (px_S) := (if px_in x0 960 then (if px_in (x0 + 1) 960 then (if px_in (x0 + 2) 960 then (if px_in (x0 + 3) 960 then (if px_in (x0 + 4) 960 then (if px_in (x0 + 5) 960 then (if px_in (x0 + 6) 960 then (if px_in (x0 + 7) 960 then (some (up (up (up (up (up (up (up (up st 49 x0.toNatClampNeg x1) 49 (x0 + 1).toNatClampNeg x2) 49 (x0 + 2).toNatClampNeg x3) 49 (x0 + 3).toNatClampNeg x4) 49 (x0 + 4).toNatClampNeg x5) 49 (x0 + 5).toNatClampNeg x6) 49 (x0 + 6).toNatClampNeg x7) 49 (x0 + 7).toNatClampNeg x8)) else none) else none) else none) else none) else none) else none) else none) else none)
set_option maxRecDepth 20000 in
theorem t_X6_spell (T : Nat) (x0 : Int32) (x1 : Int32) (x2 : Int32) (x3 : Int32) (x4 : Int32) (x5 : Int32) (x6 : Int32) (x7 : Int32) (x8 : Int32) (st : px_S) : px_O (0, 0, 0, px_n (T + 2), m_X6_spell) (px_gv (T + 2)) (f_X6_spell T x0 x1 x2 x3 x4 x5 x6 x7 x8 st) 0 [some (.ref 48), some (.int x0), some (.int x1), some (.int x2), some (.int x3), some (.int x4), some (.int x5), some (.int x6), some (.int x7), some (.int x8)] [] (HP (T + 2) st) 0 0 := by
  rw [f_X6_spell]
  refine o_aload_n dX6_spell_0 rfl ?_
  refine h_get (v := .ref 49) dX6_spell_1 q6 fl_X6_13 (by decide) (px_ltM (by decide)) (c48 _) rfl ?_
  refine o_iload_n dX6_spell_4 rfl ?_
  refine o_iload_n dX6_spell_5 rfl ?_
  refine h_iast (n := 960) dX6_spell_6 (px_ltM (by decide)) c49 (fun u1 => ?_)
  refine o_aload_n dX6_spell_7 rfl ?_
  refine h_get (v := .ref 49) dX6_spell_8 q6 fl_X6_13 (by decide) (px_ltM (by decide)) (c48 _) rfl ?_
  refine o_iload_n dX6_spell_11 rfl ?_
  refine o_iconst (v := 1) dX6_spell_12 (by decide) ?_
  refine o_iadd dX6_spell_13 ?_
  refine o_iload_n dX6_spell_14 rfl ?_
  refine h_iast (n := 960) dX6_spell_15 (px_ltM (by decide)) c49 (fun u2 => ?_)
  refine o_aload_n dX6_spell_16 rfl ?_
  refine h_get (v := .ref 49) dX6_spell_17 q6 fl_X6_13 (by decide) (px_ltM (by decide)) (c48 _) rfl ?_
  refine o_iload_n dX6_spell_20 rfl ?_
  refine o_iconst (v := 2) dX6_spell_21 (by decide) ?_
  refine o_iadd dX6_spell_22 ?_
  refine o_iload dX6_spell_23 rfl ?_
  refine h_iast (n := 960) dX6_spell_25 (px_ltM (by decide)) c49 (fun u3 => ?_)
  refine o_aload_n dX6_spell_26 rfl ?_
  refine h_get (v := .ref 49) dX6_spell_27 q6 fl_X6_13 (by decide) (px_ltM (by decide)) (c48 _) rfl ?_
  refine o_iload_n dX6_spell_30 rfl ?_
  refine o_iconst (v := 3) dX6_spell_31 (by decide) ?_
  refine o_iadd dX6_spell_32 ?_
  refine o_iload dX6_spell_33 rfl ?_
  refine h_iast (n := 960) dX6_spell_35 (px_ltM (by decide)) c49 (fun u4 => ?_)
  refine o_aload_n dX6_spell_36 rfl ?_
  refine h_get (v := .ref 49) dX6_spell_37 q6 fl_X6_13 (by decide) (px_ltM (by decide)) (c48 _) rfl ?_
  refine o_iload_n dX6_spell_40 rfl ?_
  refine o_iconst (v := 4) dX6_spell_41 (by decide) ?_
  refine o_iadd dX6_spell_42 ?_
  refine o_iload dX6_spell_43 rfl ?_
  refine h_iast (n := 960) dX6_spell_45 (px_ltM (by decide)) c49 (fun u5 => ?_)
  refine o_aload_n dX6_spell_46 rfl ?_
  refine h_get (v := .ref 49) dX6_spell_47 q6 fl_X6_13 (by decide) (px_ltM (by decide)) (c48 _) rfl ?_
  refine o_iload_n dX6_spell_50 rfl ?_
  refine o_iconst (v := 5) dX6_spell_51 (by decide) ?_
  refine o_iadd dX6_spell_52 ?_
  refine o_iload dX6_spell_53 rfl ?_
  refine h_iast (n := 960) dX6_spell_55 (px_ltM (by decide)) c49 (fun u6 => ?_)
  refine o_aload_n dX6_spell_56 rfl ?_
  refine h_get (v := .ref 49) dX6_spell_57 q6 fl_X6_13 (by decide) (px_ltM (by decide)) (c48 _) rfl ?_
  refine o_iload_n dX6_spell_60 rfl ?_
  refine o_bipush (v := 6) dX6_spell_61 (by decide) ?_
  refine o_iadd dX6_spell_63 ?_
  refine o_iload dX6_spell_64 rfl ?_
  refine h_iast (n := 960) dX6_spell_66 (px_ltM (by decide)) c49 (fun u7 => ?_)
  refine o_aload_n dX6_spell_67 rfl ?_
  refine h_get (v := .ref 49) dX6_spell_68 q6 fl_X6_13 (by decide) (px_ltM (by decide)) (c48 _) rfl ?_
  refine o_iload_n dX6_spell_71 rfl ?_
  refine o_bipush (v := 7) dX6_spell_72 (by decide) ?_
  refine o_iadd dX6_spell_74 ?_
  refine o_iload dX6_spell_75 rfl ?_
  refine h_iast (n := 960) dX6_spell_77 (px_ltM (by decide)) c49 (fun u8 => ?_)
  exact o_vret rfl dX6_spell_78 rfl (Nat.zero_le _) (Nat.zero_le _)
theorem k_X6_spell {T : Nat} {st : px_S} {x0 : Int32} {x1 : Int32} {x2 : Int32} {x3 : Int32} {x4 : Int32} {x5 : Int32} {x6 : Int32} {x7 : Int32} {x8 : Int32} {b : px_S} (hf : f_X6_spell T x0 x1 x2 x3 x4 x5 x6 x7 x8 st = some b) : px_K (0) 0 0 m_X6_spell [.ref 48, .int x0, .int x1, .int x2, .int x3, .int x4, .int x5, .int x6, .int x7, .int x8] (HP (T + 2) st) ((px_gv (T + 2)) b).1 ((px_gv (T + 2)) b).2 := px_KofH hf mf_X6_spell (Nat.le_of_ble_eq_true rfl) rfl (t_X6_spell T x0 x1 x2 x3 x4 x5 x6 x7 x8 st)
/-! ThreeOfThemModel.isOne(I)Z: R, depth 1 -/
def f_X6_isOne (T : Nat) (st : px_S) (x0 : Int32) : Option (Int32) := (if (p_X6_in x0.toInt64 0 ((st 48 11) - 1).toInt64) = 0 ∨ (p_X6_in x0.toInt64 0 ((st 48 11) - 1).toInt64) = 1 then some (p_X6_in x0.toInt64 0 ((st 48 11) - 1).toInt64) else none)
set_option maxRecDepth 20000 in
theorem t_X6_isOne (T : Nat) (st : px_S) (x0 : Int32) : px_O (1, 0, 0, px_n (T + 2), m_X6_isOne) (px_g0 (HP (T + 2) st)) (f_X6_isOne T st x0) 0 [some (.ref 48), some (.int x0)] [] (HP (T + 2) st) 0 0 := by
  rw [f_X6_isOne]
  refine o_iload_n dX6_isOne_0 rfl ?_
  refine o_i2l dX6_isOne_1 ?_
  refine o_lconst (v := 0) dX6_isOne_2 (by decide) ?_
  refine o_aload_n dX6_isOne_3 rfl ?_
  refine h_get (v := .int (st 48 11)) dX6_isOne_4 q6 fl_X6_94 (by decide) (px_ltM (by decide)) (c48 _) rfl ?_
  refine o_iconst (v := 1) dX6_isOne_7 (by decide) ?_
  refine o_isub dX6_isOne_8 ?_
  refine o_i2l dX6_isOne_9 ?_
  refine h_cSP (as := [.long x0.toInt64, .long 0, .long ((st 48 11) - 1).toInt64]) (S1 := []) (d' := 0) dX6_isOne_10 mf_X6_in ml_X6_97 ms_X6_in rfl (Nat.le_of_ble_eq_true rfl) rfl (Nat.le_of_ble_eq_true rfl) ⟨Nat.zero_le _, Nat.zero_le _⟩ (k_X6_in) ?_
  refine o_ite (fun u1 => ?_) (fun _ => o_none)
  exact o_iret (rt := .boolean) rfl (by rcases u1 with u1 | u1 <;> rw [u1] <;> rfl) dX6_isOne_13 rfl (Nat.zero_le _) (Nat.zero_le _)
theorem k_X6_isOne_o {T : Nat} {st : px_S} {x0 : Int32} {b : Int32} (hf : f_X6_isOne T st x0 = some b) : px_K (1) 0 0 m_X6_isOne [.ref 48, .int x0] (HP (T + 2) st) (some (.int b)) (HP (T + 2) st) := px_KofH (g := px_g0 (HP (T + 2) st)) hf mf_X6_isOne (Nat.le_of_ble_eq_true rfl) rfl (t_X6_isOne T st x0)
theorem k_X6_isOne {T : Nat} {st : px_S} {x0 : Int32} {b : Int32} (hf : f_X6_isOne T st x0 = some b) : px_K (1) 0 0 m_X6_isOne [.ref 48, .int x0] (HP (T + 2) st) (some (.int b)) (HP (T + 2) st) := k_X6_isOne_o hf
/-! ThreeOfThemModel.isIn(I)Z: R, depth 2 -/
def f_X6_isIn (T : Nat) (st : px_S) (x0 : Int32) : Option (Int32) := ((f_X6_isOne T st x0).bind fun b1 => (if b1 = 0 then (some 0) else (if (((st 48 12) >>> (x0 &&& 31)) &&& 1) = 1 then (some 1) else (some 0))))
set_option maxRecDepth 20000 in
theorem t_X6_isIn (T : Nat) (st : px_S) (x0 : Int32) : px_O (2, 0, 0, px_n (T + 2), m_X6_isIn) (px_g0 (HP (T + 2) st)) (f_X6_isIn T st x0) 0 [some (.ref 48), some (.int x0)] [] (HP (T + 2) st) 0 0 := by
  rw [f_X6_isIn]
  refine o_aload_n dX6_isIn_0 rfl ?_
  refine o_iload_n dX6_isIn_1 rfl ?_
  refine h_cV0 (as := [.int x0]) (S1 := []) (d' := 1) dX6_isIn_2 mf_X6_isOne ml_X6_101 mv_X6_isOne q6 rfl (hp_at (px_ltM (by decide)) (c48 _)) rfl (Nat.le_of_ble_eq_true rfl) rfl (Nat.le_of_ble_eq_true rfl) ⟨Nat.zero_le _, Nat.zero_le _⟩ (fun b hb => k_X6_isOne hb) (fun b1 hb1 => ?_)
  refine o_ifeq (tgt := 24) dX6_isIn_5 (by decide) (fun u2 => ?_) (fun u2 => ?_)
  · refine o_iconst (v := 0) dX6_isIn_24 (by decide) ?_
    exact o_iret (rt := .boolean) rfl rfl dX6_isIn_25 rfl (Nat.zero_le _) (Nat.zero_le _)
  · refine o_aload_n dX6_isIn_8 rfl ?_
    refine h_get (v := .int (st 48 12)) dX6_isIn_9 q6 fl_X6_105 (by decide) (px_ltM (by decide)) (c48 _) rfl ?_
    refine o_iload_n dX6_isIn_12 rfl ?_
    refine o_ishr dX6_isIn_13 ?_
    refine o_iconst (v := 1) dX6_isIn_14 (by decide) ?_
    refine o_iand dX6_isIn_15 ?_
    refine o_iconst (v := 1) dX6_isIn_16 (by decide) ?_
    refine o_icmpne (tgt := 24) dX6_isIn_17 (by decide) (fun u3 => ?_) (fun u3 => ?_)
    · refine o_iconst (v := 0) dX6_isIn_24 (by decide) ?_
      exact o_iret (rt := .boolean) rfl rfl dX6_isIn_25 rfl (Nat.zero_le _) (Nat.zero_le _)
    · refine o_iconst (v := 1) dX6_isIn_20 (by decide) ?_
      refine o_goto (tgt := 25) dX6_isIn_21 (by decide) ?_
      exact o_iret (rt := .boolean) rfl rfl dX6_isIn_25 rfl (Nat.zero_le _) (Nat.zero_le _)
theorem k_X6_isIn_o {T : Nat} {st : px_S} {x0 : Int32} {b : Int32} (hf : f_X6_isIn T st x0 = some b) : px_K (2) 0 0 m_X6_isIn [.ref 48, .int x0] (HP (T + 2) st) (some (.int b)) (HP (T + 2) st) := px_KofH (g := px_g0 (HP (T + 2) st)) hf mf_X6_isIn (Nat.le_of_ble_eq_true rfl) rfl (t_X6_isIn T st x0)
theorem k_X6_isIn {T : Nat} {st : px_S} {x0 : Int32} {b : Int32} (hf : f_X6_isIn T st x0 = some b) : px_K (2) 0 0 m_X6_isIn [.ref 48, .int x0] (HP (T + 2) st) (some (.int b)) (HP (T + 2) st) := k_X6_isIn_o hf
/-! ThreeOfThemModel.inmate(II)I: S, depth 1 -/
def f_X6_inmate_71 (T : Nat) : Nat → Int32 → px_S → Option (Int32 × px_S)
  | 0, _, _ => none
  | n + 1, y3, st => (if y3 < 7 then (if px_in (((7 : Int32) * (st 48 11)) + y3) 49 then (if px_in (((7 : Int32) * y3) + (st 48 11)) 49 then (if px_in y3 7 then (if px_in y3 7 then ((f_X6_inmate_71 T n) (y3 + 1) (up (up (up st 54 (((7 : Int32) * (st 48 11)) + y3).toNatClampNeg 5) 54 (((7 : Int32) * y3) + (st 48 11)).toNatClampNeg 5) 55 y3.toNatClampNeg (((up (up st 54 (((7 : Int32) * (st 48 11)) + y3).toNatClampNeg 5) 54 (((7 : Int32) * y3) + (st 48 11)).toNatClampNeg 5) 55 y3.toNatClampNeg) &&& (((1 : Int32) <<< ((st 48 11) &&& 31)) ^^^ (-1))))) else none) else none) else none) else none) else (some ((((st 48 11) + 1) - 1), (up (up st 48 12 ((st 48 12) ||| ((1 : Int32) <<< ((st 48 11) &&& 31)))) 48 11 ((st 48 11) + 1)))))
set_option maxRecDepth 20000 in
theorem t_X6_inmate_71 (T : Nat) : ∀ (n : Nat) (y3 : Int32) (st : px_S), px_O (1, 0, 0, px_n (T + 2), m_X6_inmate) (px_gi (T + 2)) (f_X6_inmate_71 T n y3 st) 71 [some (.ref 48), none, none, some (.int y3)] [] (HP (T + 2) st) 0 0 := by
  intro n
  induction n with
  | zero => intro y3 st; rw [f_X6_inmate_71]; exact o_none
  | succ n ih =>
    intro y3 st
    rw [f_X6_inmate_71]
    refine o_iload_n dX6_inmate_71 rfl ?_
    refine o_bipush (v := 7) dX6_inmate_72 (by decide) ?_
    refine o_icmpge (tgt := 130) dX6_inmate_74 (by decide) (fun u1 => ?_) (fun u1 => ?_)
    · refine o_aload_n dX6_inmate_130 rfl ?_
      refine o_dup dX6_inmate_131 rfl ?_
      refine h_get (v := .int (st 48 12)) dX6_inmate_132 q6 fl_X6_105 (by decide) (px_ltM (by decide)) (c48 _) rfl ?_
      refine o_iconst (v := 1) dX6_inmate_135 (by decide) ?_
      refine o_aload_n dX6_inmate_136 rfl ?_
      refine h_get (v := .int (st 48 11)) dX6_inmate_137 q6 fl_X6_94 (by decide) (px_ltM (by decide)) (c48 _) rfl ?_
      refine o_ishl dX6_inmate_140 ?_
      refine o_ior dX6_inmate_141 ?_
      refine h_puti dX6_inmate_142 q6 fl_X6_105 pf_X6_12 (px_ltM (by decide)) (c48 _) (Nat.le_of_ble_eq_true rfl) (s48_12 _ _) ?_
      refine o_aload_n dX6_inmate_145 rfl ?_
      refine o_dup dX6_inmate_146 rfl ?_
      refine h_get (v := .int (st 48 11)) dX6_inmate_147 q6 fl_X6_94 (by decide) (px_ltM (by decide)) (c48 _) rfl ?_
      refine o_iconst (v := 1) dX6_inmate_150 (by decide) ?_
      refine o_iadd dX6_inmate_151 ?_
      refine h_puti dX6_inmate_152 q6 fl_X6_94 pf_X6_11 (px_ltM (by decide)) (c48 _) (Nat.le_of_ble_eq_true rfl) (s48_11 _ _) ?_
      refine o_aload_n dX6_inmate_155 rfl ?_
      refine h_get (v := .int ((st 48 11) + 1)) dX6_inmate_156 q6 fl_X6_94 (by decide) (px_ltM (by decide)) (c48 _) rfl ?_
      refine o_iconst (v := 1) dX6_inmate_159 (by decide) ?_
      refine o_isub dX6_inmate_160 ?_
      exact o_iret (rt := .int) rfl rfl dX6_inmate_161 rfl (Nat.zero_le _) (Nat.zero_le _)
    · refine o_aload_n dX6_inmate_77 rfl ?_
      refine h_get (v := .ref 54) dX6_inmate_78 q6 fl_X6_29 (by decide) (px_ltM (by decide)) (c48 _) rfl ?_
      refine o_bipush (v := 7) dX6_inmate_81 (by decide) ?_
      refine o_aload_n dX6_inmate_83 rfl ?_
      refine h_get (v := .int (st 48 11)) dX6_inmate_84 q6 fl_X6_94 (by decide) (px_ltM (by decide)) (c48 _) rfl ?_
      refine o_imul dX6_inmate_87 ?_
      refine o_iload_n dX6_inmate_88 rfl ?_
      refine o_iadd dX6_inmate_89 ?_
      refine o_iconst (v := 5) dX6_inmate_90 (by decide) ?_
      refine h_iast (n := 49) dX6_inmate_91 (px_ltM (by decide)) c54 (fun u2 => ?_)
      refine o_aload_n dX6_inmate_92 rfl ?_
      refine h_get (v := .ref 54) dX6_inmate_93 q6 fl_X6_29 (by decide) (px_ltM (by decide)) (c48 _) rfl ?_
      refine o_bipush (v := 7) dX6_inmate_96 (by decide) ?_
      refine o_iload_n dX6_inmate_98 rfl ?_
      refine o_imul dX6_inmate_99 ?_
      refine o_aload_n dX6_inmate_100 rfl ?_
      refine h_get (v := .int (st 48 11)) dX6_inmate_101 q6 fl_X6_94 (by decide) (px_ltM (by decide)) (c48 _) rfl ?_
      refine o_iadd dX6_inmate_104 ?_
      refine o_iconst (v := 5) dX6_inmate_105 (by decide) ?_
      refine h_iast (n := 49) dX6_inmate_106 (px_ltM (by decide)) c54 (fun u3 => ?_)
      refine o_aload_n dX6_inmate_107 rfl ?_
      refine h_get (v := .ref 55) dX6_inmate_108 q6 fl_X6_32 (by decide) (px_ltM (by decide)) (c48 _) rfl ?_
      refine o_iload_n dX6_inmate_111 rfl ?_
      refine o_dup2 dX6_inmate_112 rfl rfl ?_
      refine h_iald (n := 7) dX6_inmate_113 (px_ltM (by decide)) (c55 _) (fun u4 => ?_)
      refine o_iconst (v := 1) dX6_inmate_114 (by decide) ?_
      refine o_aload_n dX6_inmate_115 rfl ?_
      refine h_get (v := .int (st 48 11)) dX6_inmate_116 q6 fl_X6_94 (by decide) (px_ltM (by decide)) (c48 _) rfl ?_
      refine o_ishl dX6_inmate_119 ?_
      refine o_iconst (v := (-1)) dX6_inmate_120 (by decide) ?_
      refine o_ixor dX6_inmate_121 ?_
      refine o_iand dX6_inmate_122 ?_
      refine h_iast (n := 7) dX6_inmate_123 (px_ltM (by decide)) c55 (fun u5 => ?_)
      refine o_iinc (v := (y3 + 1)) (L' := [some (.ref 48), none, none, some (.int (y3 + 1))]) dX6_inmate_124 rfl rfl (Nat.le_of_ble_eq_true rfl) rfl rfl ?_
      refine o_goto (tgt := 71) dX6_inmate_127 (by decide) ?_
      exact (ih (y3 + 1) (up (up (up st 54 (((7 : Int32) * (st 48 11)) + y3).toNatClampNeg 5) 54 (((7 : Int32) * y3) + (st 48 11)).toNatClampNeg 5) 55 y3.toNatClampNeg (((up (up st 54 (((7 : Int32) * (st 48 11)) + y3).toNatClampNeg 5) 54 (((7 : Int32) * y3) + (st 48 11)).toNatClampNeg 5) 55 y3.toNatClampNeg) &&& (((1 : Int32) <<< ((st 48 11) &&& 31)) ^^^ (-1)))))
def f_X6_inmate (T : Nat) (x0 : Int32) (x1 : Int32) (st : px_S) : Option (Int32 × px_S) := (if (p_X6_in x0.toInt64 0 5) = 0 then (some ((-2), st)) else (if (p_X6_in x1.toInt64 0 9) = 0 then (some ((-2), st)) else (if (st 48 11) = 7 then (some ((-4), st)) else (if px_in (st 48 11) 7 then (if px_in (st 48 11) 7 then (if px_in (st 48 11) 7 then (f_X6_inmate_71 T 1000 0 (up (up (up st 52 (st 48 11).toNatClampNeg x0) 53 (st 48 11).toNatClampNeg x1) 55 (st 48 11).toNatClampNeg 0)) else none) else none) else none))))
set_option maxRecDepth 20000 in
theorem t_X6_inmate (T : Nat) (x0 : Int32) (x1 : Int32) (st : px_S) : px_O (1, 0, 0, px_n (T + 2), m_X6_inmate) (px_gi (T + 2)) (f_X6_inmate T x0 x1 st) 0 [some (.ref 48), some (.int x0), some (.int x1), none] [] (HP (T + 2) st) 0 0 := by
  rw [f_X6_inmate]
  refine o_iload_n dX6_inmate_0 rfl ?_
  refine o_i2l dX6_inmate_1 ?_
  refine o_lconst (v := 0) dX6_inmate_2 (by decide) ?_
  refine o_ldc2 (v := 5) dX6_inmate_3 cst_X6_108 ?_
  refine h_cSP (as := [.long x0.toInt64, .long 0, .long 5]) (S1 := []) (d' := 0) dX6_inmate_6 mf_X6_in ml_X6_97 ms_X6_in rfl (Nat.le_of_ble_eq_true rfl) rfl (Nat.le_of_ble_eq_true rfl) ⟨Nat.zero_le _, Nat.zero_le _⟩ (k_X6_in) ?_
  refine o_ifeq (tgt := 24) dX6_inmate_9 (by decide) (fun u6 => ?_) (fun u6 => ?_)
  · refine o_bipush (v := (-2)) dX6_inmate_24 (by decide) ?_
    exact o_iret (rt := .int) rfl rfl dX6_inmate_26 rfl (Nat.zero_le _) (Nat.zero_le _)
  · refine o_iload_n dX6_inmate_12 rfl ?_
    refine o_i2l dX6_inmate_13 ?_
    refine o_lconst (v := 0) dX6_inmate_14 (by decide) ?_
    refine o_ldc2 (v := 9) dX6_inmate_15 cst_X6_110 ?_
    refine h_cSP (as := [.long x1.toInt64, .long 0, .long 9]) (S1 := []) (d' := 0) dX6_inmate_18 mf_X6_in ml_X6_97 ms_X6_in rfl (Nat.le_of_ble_eq_true rfl) rfl (Nat.le_of_ble_eq_true rfl) ⟨Nat.zero_le _, Nat.zero_le _⟩ (k_X6_in) ?_
    refine o_ifne (tgt := 27) dX6_inmate_21 (by decide) (fun u7 => ?_) (fun u7 => ?_)
    · refine o_aload_n dX6_inmate_27 rfl ?_
      refine h_get (v := .int (st 48 11)) dX6_inmate_28 q6 fl_X6_94 (by decide) (px_ltM (by decide)) (c48 _) rfl ?_
      refine o_bipush (v := 7) dX6_inmate_31 (by decide) ?_
      refine o_icmpne (tgt := 39) dX6_inmate_33 (by decide) (fun u8 => ?_) (fun u8 => ?_)
      · refine o_aload_n dX6_inmate_39 rfl ?_
        refine h_get (v := .ref 52) dX6_inmate_40 q6 fl_X6_23 (by decide) (px_ltM (by decide)) (c48 _) rfl ?_
        refine o_aload_n dX6_inmate_43 rfl ?_
        refine h_get (v := .int (st 48 11)) dX6_inmate_44 q6 fl_X6_94 (by decide) (px_ltM (by decide)) (c48 _) rfl ?_
        refine o_iload_n dX6_inmate_47 rfl ?_
        refine h_iast (n := 7) dX6_inmate_48 (px_ltM (by decide)) c52 (fun u9 => ?_)
        refine o_aload_n dX6_inmate_49 rfl ?_
        refine h_get (v := .ref 53) dX6_inmate_50 q6 fl_X6_26 (by decide) (px_ltM (by decide)) (c48 _) rfl ?_
        refine o_aload_n dX6_inmate_53 rfl ?_
        refine h_get (v := .int (st 48 11)) dX6_inmate_54 q6 fl_X6_94 (by decide) (px_ltM (by decide)) (c48 _) rfl ?_
        refine o_iload_n dX6_inmate_57 rfl ?_
        refine h_iast (n := 7) dX6_inmate_58 (px_ltM (by decide)) c53 (fun u10 => ?_)
        refine o_aload_n dX6_inmate_59 rfl ?_
        refine h_get (v := .ref 55) dX6_inmate_60 q6 fl_X6_32 (by decide) (px_ltM (by decide)) (c48 _) rfl ?_
        refine o_aload_n dX6_inmate_63 rfl ?_
        refine h_get (v := .int (st 48 11)) dX6_inmate_64 q6 fl_X6_94 (by decide) (px_ltM (by decide)) (c48 _) rfl ?_
        refine o_iconst (v := 0) dX6_inmate_67 (by decide) ?_
        refine h_iast (n := 7) dX6_inmate_68 (px_ltM (by decide)) c55 (fun u11 => ?_)
        refine o_iconst (v := 0) dX6_inmate_69 (by decide) ?_
        refine o_istore_n (L' := [some (.ref 48), some (.int x0), some (.int x1), some (.int 0)]) dX6_inmate_70 (Nat.le_of_ble_eq_true rfl) rfl rfl ?_
        exact o_weak (L' := [some (.ref 48), none, none, some (.int 0)]) ⟨rfl, ⟨rfl, trivial⟩⟩ (t_X6_inmate_71 T 1000 0 (up (up (up st 52 (st 48 11).toNatClampNeg x0) 53 (st 48 11).toNatClampNeg x1) 55 (st 48 11).toNatClampNeg 0))
      · refine o_bipush (v := (-4)) dX6_inmate_36 (by decide) ?_
        exact o_iret (rt := .int) rfl rfl dX6_inmate_38 rfl (Nat.zero_le _) (Nat.zero_le _)
    · refine o_bipush (v := (-2)) dX6_inmate_24 (by decide) ?_
      exact o_iret (rt := .int) rfl rfl dX6_inmate_26 rfl (Nat.zero_le _) (Nat.zero_le _)
theorem k_X6_inmate {T : Nat} {st : px_S} {x0 : Int32} {x1 : Int32} {b : Int32 × px_S} (hf : f_X6_inmate T x0 x1 st = some b) : px_K (1) 0 0 m_X6_inmate [.ref 48, .int x0, .int x1] (HP (T + 2) st) ((px_gi (T + 2)) b).1 ((px_gi (T + 2)) b).2 := px_KofH hf mf_X6_inmate (Nat.le_of_ble_eq_true rfl) rfl (t_X6_inmate T x0 x1 st)
/-! ThreeOfThemModel.like(III)I: S, depth 2 -/
def f_X6_like (T : Nat) (x0 : Int32) (x1 : Int32) (x2 : Int32) (st : px_S) : Option (Int32 × px_S) := ((f_X6_isOne T st x0).bind fun b1 => (if b1 = 0 then (some ((-2), st)) else ((f_X6_isOne T st x1).bind fun b3 => (if b3 = 0 then (some ((-2), st)) else (if x0 = x1 then (some ((-2), st)) else (if (p_X6_in x2.toInt64 0 9) = 0 then (some ((-2), st)) else (if px_in (((7 : Int32) * x0) + x1) 49 then (if px_in (((7 : Int32) * x0) + x1) 49 then (some ((st 54 (((7 : Int32) * x0) + x1).toNatClampNeg), (up st 54 (((7 : Int32) * x0) + x1).toNatClampNeg x2))) else none) else none)))))))
set_option maxRecDepth 20000 in
theorem t_X6_like (T : Nat) (x0 : Int32) (x1 : Int32) (x2 : Int32) (st : px_S) : px_O (2, 0, 0, px_n (T + 2), m_X6_like) (px_gi (T + 2)) (f_X6_like T x0 x1 x2 st) 0 [some (.ref 48), some (.int x0), some (.int x1), some (.int x2), none] [] (HP (T + 2) st) 0 0 := by
  rw [f_X6_like]
  refine o_aload_n dX6_like_0 rfl ?_
  refine o_iload_n dX6_like_1 rfl ?_
  refine h_cV0 (as := [.int x0]) (S1 := []) (d' := 1) dX6_like_2 mf_X6_isOne ml_X6_101 mv_X6_isOne q6 rfl (hp_at (px_ltM (by decide)) (c48 _)) rfl (Nat.le_of_ble_eq_true rfl) rfl (Nat.le_of_ble_eq_true rfl) ⟨Nat.zero_le _, Nat.zero_le _⟩ (fun b hb => k_X6_isOne hb) (fun b1 hb1 => ?_)
  refine o_ifeq (tgt := 33) dX6_like_5 (by decide) (fun u2 => ?_) (fun u2 => ?_)
  · refine o_bipush (v := (-2)) dX6_like_33 (by decide) ?_
    exact o_iret (rt := .int) rfl rfl dX6_like_35 rfl (Nat.zero_le _) (Nat.zero_le _)
  · refine o_aload_n dX6_like_8 rfl ?_
    refine o_iload_n dX6_like_9 rfl ?_
    refine h_cV0 (as := [.int x1]) (S1 := []) (d' := 1) dX6_like_10 mf_X6_isOne ml_X6_101 mv_X6_isOne q6 rfl (hp_at (px_ltM (by decide)) (c48 _)) rfl (Nat.le_of_ble_eq_true rfl) rfl (Nat.le_of_ble_eq_true rfl) ⟨Nat.zero_le _, Nat.zero_le _⟩ (fun b hb => k_X6_isOne hb) (fun b3 hb3 => ?_)
    refine o_ifeq (tgt := 33) dX6_like_13 (by decide) (fun u4 => ?_) (fun u4 => ?_)
    · refine o_bipush (v := (-2)) dX6_like_33 (by decide) ?_
      exact o_iret (rt := .int) rfl rfl dX6_like_35 rfl (Nat.zero_le _) (Nat.zero_le _)
    · refine o_iload_n dX6_like_16 rfl ?_
      refine o_iload_n dX6_like_17 rfl ?_
      refine o_icmpeq (tgt := 33) dX6_like_18 (by decide) (fun u5 => ?_) (fun u5 => ?_)
      · refine o_bipush (v := (-2)) dX6_like_33 (by decide) ?_
        exact o_iret (rt := .int) rfl rfl dX6_like_35 rfl (Nat.zero_le _) (Nat.zero_le _)
      · refine o_iload_n dX6_like_21 rfl ?_
        refine o_i2l dX6_like_22 ?_
        refine o_lconst (v := 0) dX6_like_23 (by decide) ?_
        refine o_ldc2 (v := 9) dX6_like_24 cst_X6_110 ?_
        refine h_cSP (as := [.long x2.toInt64, .long 0, .long 9]) (S1 := []) (d' := 0) dX6_like_27 mf_X6_in ml_X6_97 ms_X6_in rfl (Nat.le_of_ble_eq_true rfl) rfl (Nat.le_of_ble_eq_true rfl) ⟨Nat.zero_le _, Nat.zero_le _⟩ (k_X6_in) ?_
        refine o_ifne (tgt := 36) dX6_like_30 (by decide) (fun u6 => ?_) (fun u6 => ?_)
        · refine o_aload_n dX6_like_36 rfl ?_
          refine h_get (v := .ref 54) dX6_like_37 q6 fl_X6_29 (by decide) (px_ltM (by decide)) (c48 _) rfl ?_
          refine o_bipush (v := 7) dX6_like_40 (by decide) ?_
          refine o_iload_n dX6_like_42 rfl ?_
          refine o_imul dX6_like_43 ?_
          refine o_iload_n dX6_like_44 rfl ?_
          refine o_iadd dX6_like_45 ?_
          refine h_iald (n := 49) dX6_like_46 (px_ltM (by decide)) (c54 _) (fun u7 => ?_)
          refine o_istore (L' := [some (.ref 48), some (.int x0), some (.int x1), some (.int x2), some (.int (st 54 (((7 : Int32) * x0) + x1).toNatClampNeg))]) dX6_like_47 (Nat.le_of_ble_eq_true rfl) rfl rfl ?_
          refine o_aload_n dX6_like_49 rfl ?_
          refine h_get (v := .ref 54) dX6_like_50 q6 fl_X6_29 (by decide) (px_ltM (by decide)) (c48 _) rfl ?_
          refine o_bipush (v := 7) dX6_like_53 (by decide) ?_
          refine o_iload_n dX6_like_55 rfl ?_
          refine o_imul dX6_like_56 ?_
          refine o_iload_n dX6_like_57 rfl ?_
          refine o_iadd dX6_like_58 ?_
          refine o_iload_n dX6_like_59 rfl ?_
          refine h_iast (n := 49) dX6_like_60 (px_ltM (by decide)) c54 (fun u8 => ?_)
          refine o_iload dX6_like_61 rfl ?_
          exact o_iret (rt := .int) rfl rfl dX6_like_63 rfl (Nat.zero_le _) (Nat.zero_le _)
        · refine o_bipush (v := (-2)) dX6_like_33 (by decide) ?_
          exact o_iret (rt := .int) rfl rfl dX6_like_35 rfl (Nat.zero_le _) (Nat.zero_le _)
theorem k_X6_like {T : Nat} {st : px_S} {x0 : Int32} {x1 : Int32} {x2 : Int32} {b : Int32 × px_S} (hf : f_X6_like T x0 x1 x2 st = some b) : px_K (2) 0 0 m_X6_like [.ref 48, .int x0, .int x1, .int x2] (HP (T + 2) st) ((px_gi (T + 2)) b).1 ((px_gi (T + 2)) b).2 := px_KofH hf mf_X6_like (Nat.le_of_ble_eq_true rfl) rfl (t_X6_like T x0 x1 x2 st)
/-! ThreeOfThemModel.areSworn(II)Z: R, depth 0 -/
def f_X6_areSworn (T : Nat) (st : px_S) (x0 : Int32) (x1 : Int32) : Option (Int32) := (if px_in x0 7 then (if (((st 55 x0.toNatClampNeg) >>> (x1 &&& 31)) &&& 1) = 1 then (some 1) else (some 0)) else none)
set_option maxRecDepth 20000 in
theorem t_X6_areSworn (T : Nat) (st : px_S) (x0 : Int32) (x1 : Int32) : px_O (0, 0, 0, px_n (T + 2), m_X6_areSworn) (px_g0 (HP (T + 2) st)) (f_X6_areSworn T st x0 x1) 0 [some (.ref 48), some (.int x0), some (.int x1)] [] (HP (T + 2) st) 0 0 := by
  rw [f_X6_areSworn]
  refine o_aload_n dX6_areSworn_0 rfl ?_
  refine h_get (v := .ref 55) dX6_areSworn_1 q6 fl_X6_32 (by decide) (px_ltM (by decide)) (c48 _) rfl ?_
  refine o_iload_n dX6_areSworn_4 rfl ?_
  refine h_iald (n := 7) dX6_areSworn_5 (px_ltM (by decide)) (c55 _) (fun u1 => ?_)
  refine o_iload_n dX6_areSworn_6 rfl ?_
  refine o_ishr dX6_areSworn_7 ?_
  refine o_iconst (v := 1) dX6_areSworn_8 (by decide) ?_
  refine o_iand dX6_areSworn_9 ?_
  refine o_iconst (v := 1) dX6_areSworn_10 (by decide) ?_
  refine o_icmpne (tgt := 18) dX6_areSworn_11 (by decide) (fun u2 => ?_) (fun u2 => ?_)
  · refine o_iconst (v := 0) dX6_areSworn_18 (by decide) ?_
    exact o_iret (rt := .boolean) rfl rfl dX6_areSworn_19 rfl (Nat.zero_le _) (Nat.zero_le _)
  · refine o_iconst (v := 1) dX6_areSworn_14 (by decide) ?_
    refine o_goto (tgt := 19) dX6_areSworn_15 (by decide) ?_
    exact o_iret (rt := .boolean) rfl rfl dX6_areSworn_19 rfl (Nat.zero_le _) (Nat.zero_le _)
theorem k_X6_areSworn_o {T : Nat} {st : px_S} {x0 : Int32} {x1 : Int32} {b : Int32} (hf : f_X6_areSworn T st x0 x1 = some b) : px_K (0) 0 0 m_X6_areSworn [.ref 48, .int x0, .int x1] (HP (T + 2) st) (some (.int b)) (HP (T + 2) st) := px_KofH (g := px_g0 (HP (T + 2) st)) hf mf_X6_areSworn (Nat.le_of_ble_eq_true rfl) rfl (t_X6_areSworn T st x0 x1)
theorem k_X6_areSworn {T : Nat} {st : px_S} {x0 : Int32} {x1 : Int32} {b : Int32} (hf : f_X6_areSworn T st x0 x1 = some b) : px_K (0) 0 0 m_X6_areSworn [.ref 48, .int x0, .int x1] (HP (T + 2) st) (some (.int b)) (HP (T + 2) st) := k_X6_areSworn_o hf
/-! ThreeOfThemModel.swears(III)V: S, depth 0 -/
def f_X6_swears (T : Nat) (x0 : Int32) (x1 : Int32) (x2 : Int32) (st : px_S) : Option (px_S) := (if px_in x0 7 then (if px_in x0 7 then (if px_in x1 7 then (if px_in x1 7 then (some (up (up st 55 x0.toNatClampNeg (((st 55 x0.toNatClampNeg) &&& (((1 : Int32) <<< (x1 &&& 31)) ^^^ (-1))) ||| (x2 <<< (x1 &&& 31)))) 55 x1.toNatClampNeg ((((up st 55 x0.toNatClampNeg (((st 55 x0.toNatClampNeg) &&& (((1 : Int32) <<< (x1 &&& 31)) ^^^ (-1))) ||| (x2 <<< (x1 &&& 31)))) 55 x1.toNatClampNeg) &&& (((1 : Int32) <<< (x0 &&& 31)) ^^^ (-1))) ||| (x2 <<< (x0 &&& 31))))) else none) else none) else none) else none)
set_option maxRecDepth 20000 in
theorem t_X6_swears (T : Nat) (x0 : Int32) (x1 : Int32) (x2 : Int32) (st : px_S) : px_O (0, 0, 0, px_n (T + 2), m_X6_swears) (px_gv (T + 2)) (f_X6_swears T x0 x1 x2 st) 0 [some (.ref 48), some (.int x0), some (.int x1), some (.int x2)] [] (HP (T + 2) st) 0 0 := by
  rw [f_X6_swears]
  refine o_aload_n dX6_swears_0 rfl ?_
  refine h_get (v := .ref 55) dX6_swears_1 q6 fl_X6_32 (by decide) (px_ltM (by decide)) (c48 _) rfl ?_
  refine o_iload_n dX6_swears_4 rfl ?_
  refine o_aload_n dX6_swears_5 rfl ?_
  refine h_get (v := .ref 55) dX6_swears_6 q6 fl_X6_32 (by decide) (px_ltM (by decide)) (c48 _) rfl ?_
  refine o_iload_n dX6_swears_9 rfl ?_
  refine h_iald (n := 7) dX6_swears_10 (px_ltM (by decide)) (c55 _) (fun u1 => ?_)
  refine o_iconst (v := 1) dX6_swears_11 (by decide) ?_
  refine o_iload_n dX6_swears_12 rfl ?_
  refine o_ishl dX6_swears_13 ?_
  refine o_iconst (v := (-1)) dX6_swears_14 (by decide) ?_
  refine o_ixor dX6_swears_15 ?_
  refine o_iand dX6_swears_16 ?_
  refine o_iload_n dX6_swears_17 rfl ?_
  refine o_iload_n dX6_swears_18 rfl ?_
  refine o_ishl dX6_swears_19 ?_
  refine o_ior dX6_swears_20 ?_
  refine h_iast (n := 7) dX6_swears_21 (px_ltM (by decide)) c55 (fun u2 => ?_)
  refine o_aload_n dX6_swears_22 rfl ?_
  refine h_get (v := .ref 55) dX6_swears_23 q6 fl_X6_32 (by decide) (px_ltM (by decide)) (c48 _) rfl ?_
  refine o_iload_n dX6_swears_26 rfl ?_
  refine o_aload_n dX6_swears_27 rfl ?_
  refine h_get (v := .ref 55) dX6_swears_28 q6 fl_X6_32 (by decide) (px_ltM (by decide)) (c48 _) rfl ?_
  refine o_iload_n dX6_swears_31 rfl ?_
  refine h_iald (n := 7) dX6_swears_32 (px_ltM (by decide)) (c55 _) (fun u3 => ?_)
  refine o_iconst (v := 1) dX6_swears_33 (by decide) ?_
  refine o_iload_n dX6_swears_34 rfl ?_
  refine o_ishl dX6_swears_35 ?_
  refine o_iconst (v := (-1)) dX6_swears_36 (by decide) ?_
  refine o_ixor dX6_swears_37 ?_
  refine o_iand dX6_swears_38 ?_
  refine o_iload_n dX6_swears_39 rfl ?_
  refine o_iload_n dX6_swears_40 rfl ?_
  refine o_ishl dX6_swears_41 ?_
  refine o_ior dX6_swears_42 ?_
  refine h_iast (n := 7) dX6_swears_43 (px_ltM (by decide)) c55 (fun u4 => ?_)
  exact o_vret rfl dX6_swears_44 rfl (Nat.zero_le _) (Nat.zero_le _)
theorem k_X6_swears {T : Nat} {st : px_S} {x0 : Int32} {x1 : Int32} {x2 : Int32} {b : px_S} (hf : f_X6_swears T x0 x1 x2 st = some b) : px_K (0) 0 0 m_X6_swears [.ref 48, .int x0, .int x1, .int x2] (HP (T + 2) st) ((px_gv (T + 2)) b).1 ((px_gv (T + 2)) b).2 := px_KofH hf mf_X6_swears (Nat.le_of_ble_eq_true rfl) rfl (t_X6_swears T x0 x1 x2 st)
/-! ThreeOfThemModel.swear(III)I: S, depth 2 -/
def f_X6_swear_48 (T : Nat) (y1 : Int32) (y2 : Int32) (y3 : Int32) (z0 : Int32) (st : px_S) : Option (Int32 × px_S) := ((f_X6_swears T y1 y2 y3 st).bind fun b1 => (some (z0, b1)))
set_option maxRecDepth 20000 in
theorem t_X6_swear_48 (T : Nat) (y1 : Int32) (y2 : Int32) (y3 : Int32) (z0 : Int32) (st : px_S) : px_O (2, 0, 0, px_n (T + 2), m_X6_swear) (px_gi (T + 2)) (f_X6_swear_48 T y1 y2 y3 z0 st) 48 [some (.ref 48), some (.int y1), some (.int y2), some (.int y3), none] [.int z0] (HP (T + 2) st) 0 0 := by
  rw [f_X6_swear_48]
  refine o_istore (L' := [some (.ref 48), some (.int y1), some (.int y2), some (.int y3), some (.int z0)]) dX6_swear_48 (Nat.le_of_ble_eq_true rfl) rfl rfl ?_
  refine o_aload_n dX6_swear_50 rfl ?_
  refine o_iload_n dX6_swear_51 rfl ?_
  refine o_iload_n dX6_swear_52 rfl ?_
  refine o_iload_n dX6_swear_53 rfl ?_
  refine h_cVv (as := [.int y1, .int y2, .int y3]) (S1 := []) (d' := 0) dX6_swear_54 mf_X6_swears ml_X6_116 mv_X6_swears q6 rfl (hp_at (px_ltM (by decide)) (c48 _)) rfl (Nat.le_of_ble_eq_true rfl) rfl (Nat.le_of_ble_eq_true rfl) (fun b hb => k_X6_swears hb) (fun b1 hb1 => ?_)
  refine o_iload dX6_swear_57 rfl ?_
  exact o_iret (rt := .int) rfl rfl dX6_swear_59 rfl (Nat.zero_le _) (Nat.zero_le _)
def f_X6_swear (T : Nat) (x0 : Int32) (x1 : Int32) (x2 : Int32) (st : px_S) : Option (Int32 × px_S) := ((f_X6_isOne T st x0).bind fun b2 => (if b2 = 0 then (some ((-2), st)) else ((f_X6_isOne T st x1).bind fun b4 => (if b4 = 0 then (some ((-2), st)) else (if x0 = x1 then (some ((-2), st)) else (if (p_X6_in x2.toInt64 0 1) = 0 then (some ((-2), st)) else ((f_X6_areSworn T st x0 x1).bind fun b8 => (if b8 = 0 then (f_X6_swear_48 T x0 x1 x2 0 st) else (f_X6_swear_48 T x0 x1 x2 1 st)))))))))
set_option maxRecDepth 20000 in
theorem t_X6_swear (T : Nat) (x0 : Int32) (x1 : Int32) (x2 : Int32) (st : px_S) : px_O (2, 0, 0, px_n (T + 2), m_X6_swear) (px_gi (T + 2)) (f_X6_swear T x0 x1 x2 st) 0 [some (.ref 48), some (.int x0), some (.int x1), some (.int x2), none] [] (HP (T + 2) st) 0 0 := by
  rw [f_X6_swear]
  refine o_aload_n dX6_swear_0 rfl ?_
  refine o_iload_n dX6_swear_1 rfl ?_
  refine h_cV0 (as := [.int x0]) (S1 := []) (d' := 1) dX6_swear_2 mf_X6_isOne ml_X6_101 mv_X6_isOne q6 rfl (hp_at (px_ltM (by decide)) (c48 _)) rfl (Nat.le_of_ble_eq_true rfl) rfl (Nat.le_of_ble_eq_true rfl) ⟨Nat.zero_le _, Nat.zero_le _⟩ (fun b hb => k_X6_isOne hb) (fun b2 hb2 => ?_)
  refine o_ifeq (tgt := 31) dX6_swear_5 (by decide) (fun u3 => ?_) (fun u3 => ?_)
  · refine o_bipush (v := (-2)) dX6_swear_31 (by decide) ?_
    exact o_iret (rt := .int) rfl rfl dX6_swear_33 rfl (Nat.zero_le _) (Nat.zero_le _)
  · refine o_aload_n dX6_swear_8 rfl ?_
    refine o_iload_n dX6_swear_9 rfl ?_
    refine h_cV0 (as := [.int x1]) (S1 := []) (d' := 1) dX6_swear_10 mf_X6_isOne ml_X6_101 mv_X6_isOne q6 rfl (hp_at (px_ltM (by decide)) (c48 _)) rfl (Nat.le_of_ble_eq_true rfl) rfl (Nat.le_of_ble_eq_true rfl) ⟨Nat.zero_le _, Nat.zero_le _⟩ (fun b hb => k_X6_isOne hb) (fun b4 hb4 => ?_)
    refine o_ifeq (tgt := 31) dX6_swear_13 (by decide) (fun u5 => ?_) (fun u5 => ?_)
    · refine o_bipush (v := (-2)) dX6_swear_31 (by decide) ?_
      exact o_iret (rt := .int) rfl rfl dX6_swear_33 rfl (Nat.zero_le _) (Nat.zero_le _)
    · refine o_iload_n dX6_swear_16 rfl ?_
      refine o_iload_n dX6_swear_17 rfl ?_
      refine o_icmpeq (tgt := 31) dX6_swear_18 (by decide) (fun u6 => ?_) (fun u6 => ?_)
      · refine o_bipush (v := (-2)) dX6_swear_31 (by decide) ?_
        exact o_iret (rt := .int) rfl rfl dX6_swear_33 rfl (Nat.zero_le _) (Nat.zero_le _)
      · refine o_iload_n dX6_swear_21 rfl ?_
        refine o_i2l dX6_swear_22 ?_
        refine o_lconst (v := 0) dX6_swear_23 (by decide) ?_
        refine o_lconst (v := 1) dX6_swear_24 (by decide) ?_
        refine h_cSP (as := [.long x2.toInt64, .long 0, .long 1]) (S1 := []) (d' := 0) dX6_swear_25 mf_X6_in ml_X6_97 ms_X6_in rfl (Nat.le_of_ble_eq_true rfl) rfl (Nat.le_of_ble_eq_true rfl) ⟨Nat.zero_le _, Nat.zero_le _⟩ (k_X6_in) ?_
        refine o_ifne (tgt := 34) dX6_swear_28 (by decide) (fun u7 => ?_) (fun u7 => ?_)
        · refine o_aload_n dX6_swear_34 rfl ?_
          refine o_iload_n dX6_swear_35 rfl ?_
          refine o_iload_n dX6_swear_36 rfl ?_
          refine h_cV0 (as := [.int x0, .int x1]) (S1 := []) (d' := 0) dX6_swear_37 mf_X6_areSworn ml_X6_112 mv_X6_areSworn q6 rfl (hp_at (px_ltM (by decide)) (c48 _)) rfl (Nat.le_of_ble_eq_true rfl) rfl (Nat.le_of_ble_eq_true rfl) ⟨Nat.zero_le _, Nat.zero_le _⟩ (fun b hb => k_X6_areSworn hb) (fun b8 hb8 => ?_)
          refine o_ifeq (tgt := 47) dX6_swear_40 (by decide) (fun u9 => ?_) (fun u9 => ?_)
          · refine o_iconst (v := 0) dX6_swear_47 (by decide) ?_
            exact (t_X6_swear_48 T x0 x1 x2 0 st)
          · refine o_iconst (v := 1) dX6_swear_43 (by decide) ?_
            refine o_goto (tgt := 48) dX6_swear_44 (by decide) ?_
            exact (t_X6_swear_48 T x0 x1 x2 1 st)
        · refine o_bipush (v := (-2)) dX6_swear_31 (by decide) ?_
          exact o_iret (rt := .int) rfl rfl dX6_swear_33 rfl (Nat.zero_le _) (Nat.zero_le _)
theorem k_X6_swear {T : Nat} {st : px_S} {x0 : Int32} {x1 : Int32} {x2 : Int32} {b : Int32 × px_S} (hf : f_X6_swear T x0 x1 x2 st = some b) : px_K (2) 0 0 m_X6_swear [.ref 48, .int x0, .int x1, .int x2] (HP (T + 2) st) ((px_gi (T + 2)) b).1 ((px_gi (T + 2)) b).2 := px_KofH hf mf_X6_swear (Nat.le_of_ble_eq_true rfl) rfl (t_X6_swear T x0 x1 x2 st)
/-! ThreeOfThemModel.set(III)I: S, depth 2 -/
def f_X6_set_149 (T : Nat) (y1 : Int32) (y2 : Int32) (y3 : Int32) (z0 : Int32) (st : px_S) : Option (Int32 × px_S) := (if y1 = 0 then (some (z0, (up st 48 13 y3))) else (if y1 = 1 then (some (z0, (up st 48 14 y3))) else (if y1 = 2 then (some (z0, (up st 48 15 y3))) else (if y1 = 3 then (if px_in y2 7 then (some (z0, (up st 53 y2.toNatClampNeg y3))) else none) else (some (z0, (up st 48 12 (((st 48 12) &&& (((1 : Int32) <<< (y2 &&& 31)) ^^^ (-1))) ||| (y3 <<< (y2 &&& 31))))))))))
set_option maxRecDepth 20000 in
theorem t_X6_set_149 (T : Nat) (y1 : Int32) (y2 : Int32) (y3 : Int32) (z0 : Int32) (st : px_S) : px_O (2, 0, 0, px_n (T + 2), m_X6_set) (px_gi (T + 2)) (f_X6_set_149 T y1 y2 y3 z0 st) 149 [some (.ref 48), some (.int y1), some (.int y2), some (.int y3), none] [.int z0] (HP (T + 2) st) 0 0 := by
  rw [f_X6_set_149]
  refine o_istore (L' := [some (.ref 48), some (.int y1), some (.int y2), some (.int y3), some (.int z0)]) dX6_set_149 (Nat.le_of_ble_eq_true rfl) rfl rfl ?_
  refine o_iload_n dX6_set_151 rfl ?_
  refine o_ifne (tgt := 163) dX6_set_152 (by decide) (fun u1 => ?_) (fun u1 => ?_)
  · refine o_iload_n dX6_set_163 rfl ?_
    refine o_iconst (v := 1) dX6_set_164 (by decide) ?_
    refine o_icmpne (tgt := 176) dX6_set_165 (by decide) (fun u2 => ?_) (fun u2 => ?_)
    · refine o_iload_n dX6_set_176 rfl ?_
      refine o_iconst (v := 2) dX6_set_177 (by decide) ?_
      refine o_icmpne (tgt := 189) dX6_set_178 (by decide) (fun u3 => ?_) (fun u3 => ?_)
      · refine o_iload_n dX6_set_189 rfl ?_
        refine o_iconst (v := 3) dX6_set_190 (by decide) ?_
        refine o_icmpne (tgt := 204) dX6_set_191 (by decide) (fun u4 => ?_) (fun u4 => ?_)
        · refine o_aload_n dX6_set_204 rfl ?_
          refine o_aload_n dX6_set_205 rfl ?_
          refine h_get (v := .int (st 48 12)) dX6_set_206 q6 fl_X6_105 (by decide) (px_ltM (by decide)) (c48 _) rfl ?_
          refine o_iconst (v := 1) dX6_set_209 (by decide) ?_
          refine o_iload_n dX6_set_210 rfl ?_
          refine o_ishl dX6_set_211 ?_
          refine o_iconst (v := (-1)) dX6_set_212 (by decide) ?_
          refine o_ixor dX6_set_213 ?_
          refine o_iand dX6_set_214 ?_
          refine o_iload_n dX6_set_215 rfl ?_
          refine o_iload_n dX6_set_216 rfl ?_
          refine o_ishl dX6_set_217 ?_
          refine o_ior dX6_set_218 ?_
          refine h_puti dX6_set_219 q6 fl_X6_105 pf_X6_12 (px_ltM (by decide)) (c48 _) (Nat.le_of_ble_eq_true rfl) (s48_12 _ _) ?_
          refine o_iload dX6_set_222 rfl ?_
          exact o_iret (rt := .int) rfl rfl dX6_set_224 rfl (Nat.zero_le _) (Nat.zero_le _)
        · refine o_aload_n dX6_set_194 rfl ?_
          refine h_get (v := .ref 53) dX6_set_195 q6 fl_X6_26 (by decide) (px_ltM (by decide)) (c48 _) rfl ?_
          refine o_iload_n dX6_set_198 rfl ?_
          refine o_iload_n dX6_set_199 rfl ?_
          refine h_iast (n := 7) dX6_set_200 (px_ltM (by decide)) c53 (fun u5 => ?_)
          refine o_goto (tgt := 222) dX6_set_201 (by decide) ?_
          refine o_iload dX6_set_222 rfl ?_
          exact o_iret (rt := .int) rfl rfl dX6_set_224 rfl (Nat.zero_le _) (Nat.zero_le _)
      · refine o_aload_n dX6_set_181 rfl ?_
        refine o_iload_n dX6_set_182 rfl ?_
        refine h_puti dX6_set_183 q6 fl_X6_128 pf_X6_15 (px_ltM (by decide)) (c48 _) (Nat.le_of_ble_eq_true rfl) (s48_15 _ _) ?_
        refine o_goto (tgt := 222) dX6_set_186 (by decide) ?_
        refine o_iload dX6_set_222 rfl ?_
        exact o_iret (rt := .int) rfl rfl dX6_set_224 rfl (Nat.zero_le _) (Nat.zero_le _)
    · refine o_aload_n dX6_set_168 rfl ?_
      refine o_iload_n dX6_set_169 rfl ?_
      refine h_puti dX6_set_170 q6 fl_X6_38 pf_X6_14 (px_ltM (by decide)) (c48 _) (Nat.le_of_ble_eq_true rfl) (s48_14 _ _) ?_
      refine o_goto (tgt := 222) dX6_set_173 (by decide) ?_
      refine o_iload dX6_set_222 rfl ?_
      exact o_iret (rt := .int) rfl rfl dX6_set_224 rfl (Nat.zero_le _) (Nat.zero_le _)
  · refine o_aload_n dX6_set_155 rfl ?_
    refine o_iload_n dX6_set_156 rfl ?_
    refine h_puti dX6_set_157 q6 fl_X6_35 pf_X6_13 (px_ltM (by decide)) (c48 _) (Nat.le_of_ble_eq_true rfl) (s48_13 _ _) ?_
    refine o_goto (tgt := 222) dX6_set_160 (by decide) ?_
    refine o_iload dX6_set_222 rfl ?_
    exact o_iret (rt := .int) rfl rfl dX6_set_224 rfl (Nat.zero_le _) (Nat.zero_le _)
def f_X6_set_83 (T : Nat) (y1 : Int32) (y2 : Int32) (y3 : Int32) (z0 : Int64) (z1 : Int64) (z2 : Int64) (st : px_S) : Option (Int32 × px_S) := (if (p_X6_in z2 z1 z0) = 0 then (some ((-2), st)) else (if y1 = 0 then (f_X6_set_149 T y1 y2 y3 (st 48 13) st) else (if y1 = 1 then (f_X6_set_149 T y1 y2 y3 (st 48 14) st) else (if y1 = 2 then (f_X6_set_149 T y1 y2 y3 (st 48 15) st) else (if y1 = 3 then (if px_in y2 7 then (f_X6_set_149 T y1 y2 y3 (st 53 y2.toNatClampNeg) st) else none) else (f_X6_set_149 T y1 y2 y3 (((st 48 12) >>> (y2 &&& 31)) &&& 1) st))))))
set_option maxRecDepth 20000 in
theorem t_X6_set_83 (T : Nat) (y1 : Int32) (y2 : Int32) (y3 : Int32) (z0 : Int64) (z1 : Int64) (z2 : Int64) (st : px_S) : px_O (2, 0, 0, px_n (T + 2), m_X6_set) (px_gi (T + 2)) (f_X6_set_83 T y1 y2 y3 z0 z1 z2 st) 83 [some (.ref 48), some (.int y1), some (.int y2), some (.int y3), none] [.long z0, .long z1, .long z2] (HP (T + 2) st) 0 0 := by
  rw [f_X6_set_83]
  refine h_cSP (as := [.long z2, .long z1, .long z0]) (S1 := []) (d' := 0) dX6_set_83 mf_X6_in ml_X6_97 ms_X6_in rfl (Nat.le_of_ble_eq_true rfl) rfl (Nat.le_of_ble_eq_true rfl) ⟨Nat.zero_le _, Nat.zero_le _⟩ (k_X6_in) ?_
  refine o_ifne (tgt := 92) dX6_set_86 (by decide) (fun u6 => ?_) (fun u6 => ?_)
  · refine o_iload_n dX6_set_92 rfl ?_
    refine o_ifne (tgt := 103) dX6_set_93 (by decide) (fun u7 => ?_) (fun u7 => ?_)
    · refine o_iload_n dX6_set_103 rfl ?_
      refine o_iconst (v := 1) dX6_set_104 (by decide) ?_
      refine o_icmpne (tgt := 115) dX6_set_105 (by decide) (fun u8 => ?_) (fun u8 => ?_)
      · refine o_iload_n dX6_set_115 rfl ?_
        refine o_iconst (v := 2) dX6_set_116 (by decide) ?_
        refine o_icmpne (tgt := 127) dX6_set_117 (by decide) (fun u9 => ?_) (fun u9 => ?_)
        · refine o_iload_n dX6_set_127 rfl ?_
          refine o_iconst (v := 3) dX6_set_128 (by decide) ?_
          refine o_icmpne (tgt := 141) dX6_set_129 (by decide) (fun u10 => ?_) (fun u10 => ?_)
          · refine o_aload_n dX6_set_141 rfl ?_
            refine h_get (v := .int (st 48 12)) dX6_set_142 q6 fl_X6_105 (by decide) (px_ltM (by decide)) (c48 _) rfl ?_
            refine o_iload_n dX6_set_145 rfl ?_
            refine o_ishr dX6_set_146 ?_
            refine o_iconst (v := 1) dX6_set_147 (by decide) ?_
            refine o_iand dX6_set_148 ?_
            exact (t_X6_set_149 T y1 y2 y3 (((st 48 12) >>> (y2 &&& 31)) &&& 1) st)
          · refine o_aload_n dX6_set_132 rfl ?_
            refine h_get (v := .ref 53) dX6_set_133 q6 fl_X6_26 (by decide) (px_ltM (by decide)) (c48 _) rfl ?_
            refine o_iload_n dX6_set_136 rfl ?_
            refine h_iald (n := 7) dX6_set_137 (px_ltM (by decide)) (c53 _) (fun u11 => ?_)
            refine o_goto (tgt := 149) dX6_set_138 (by decide) ?_
            exact (t_X6_set_149 T y1 y2 y3 (st 53 y2.toNatClampNeg) st)
        · refine o_aload_n dX6_set_120 rfl ?_
          refine h_get (v := .int (st 48 15)) dX6_set_121 q6 fl_X6_128 (by decide) (px_ltM (by decide)) (c48 _) rfl ?_
          refine o_goto (tgt := 149) dX6_set_124 (by decide) ?_
          exact (t_X6_set_149 T y1 y2 y3 (st 48 15) st)
      · refine o_aload_n dX6_set_108 rfl ?_
        refine h_get (v := .int (st 48 14)) dX6_set_109 q6 fl_X6_38 (by decide) (px_ltM (by decide)) (c48 _) rfl ?_
        refine o_goto (tgt := 149) dX6_set_112 (by decide) ?_
        exact (t_X6_set_149 T y1 y2 y3 (st 48 14) st)
    · refine o_aload_n dX6_set_96 rfl ?_
      refine h_get (v := .int (st 48 13)) dX6_set_97 q6 fl_X6_35 (by decide) (px_ltM (by decide)) (c48 _) rfl ?_
      refine o_goto (tgt := 149) dX6_set_100 (by decide) ?_
      exact (t_X6_set_149 T y1 y2 y3 (st 48 13) st)
  · refine o_bipush (v := (-2)) dX6_set_89 (by decide) ?_
    exact o_iret (rt := .int) rfl rfl dX6_set_91 rfl (Nat.zero_le _) (Nat.zero_le _)
def f_X6_set_39 (T : Nat) (y1 : Int32) (y2 : Int32) (y3 : Int32) (z0 : Int64) (z1 : Int64) (st : px_S) : Option (Int32 × px_S) := (if y1 = 0 then (f_X6_set_83 T y1 y2 y3 9999 z0 z1 st) else (if y1 = 1 then (f_X6_set_83 T y1 y2 y3 5 z0 z1 st) else (if y1 = 2 then (f_X6_set_83 T y1 y2 y3 999 z0 z1 st) else (if y1 = 3 then (f_X6_set_83 T y1 y2 y3 9 z0 z1 st) else (f_X6_set_83 T y1 y2 y3 1 z0 z1 st)))))
set_option maxRecDepth 20000 in
theorem t_X6_set_39 (T : Nat) (y1 : Int32) (y2 : Int32) (y3 : Int32) (z0 : Int64) (z1 : Int64) (st : px_S) : px_O (2, 0, 0, px_n (T + 2), m_X6_set) (px_gi (T + 2)) (f_X6_set_39 T y1 y2 y3 z0 z1 st) 39 [some (.ref 48), some (.int y1), some (.int y2), some (.int y3), none] [.long z0, .long z1] (HP (T + 2) st) 0 0 := by
  rw [f_X6_set_39]
  refine o_iload_n dX6_set_39 rfl ?_
  refine o_ifne (tgt := 49) dX6_set_40 (by decide) (fun u12 => ?_) (fun u12 => ?_)
  · refine o_iload_n dX6_set_49 rfl ?_
    refine o_iconst (v := 1) dX6_set_50 (by decide) ?_
    refine o_icmpne (tgt := 60) dX6_set_51 (by decide) (fun u13 => ?_) (fun u13 => ?_)
    · refine o_iload_n dX6_set_60 rfl ?_
      refine o_iconst (v := 2) dX6_set_61 (by decide) ?_
      refine o_icmpne (tgt := 71) dX6_set_62 (by decide) (fun u14 => ?_) (fun u14 => ?_)
      · refine o_iload_n dX6_set_71 rfl ?_
        refine o_iconst (v := 3) dX6_set_72 (by decide) ?_
        refine o_icmpne (tgt := 82) dX6_set_73 (by decide) (fun u15 => ?_) (fun u15 => ?_)
        · refine o_lconst (v := 1) dX6_set_82 (by decide) ?_
          exact (t_X6_set_83 T y1 y2 y3 1 z0 z1 st)
        · refine o_ldc2 (v := 9) dX6_set_76 cst_X6_110 ?_
          refine o_goto (tgt := 83) dX6_set_79 (by decide) ?_
          exact (t_X6_set_83 T y1 y2 y3 9 z0 z1 st)
      · refine o_ldc2 (v := 999) dX6_set_65 cst_X6_126 ?_
        refine o_goto (tgt := 83) dX6_set_68 (by decide) ?_
        exact (t_X6_set_83 T y1 y2 y3 999 z0 z1 st)
    · refine o_ldc2 (v := 5) dX6_set_54 cst_X6_108 ?_
      refine o_goto (tgt := 83) dX6_set_57 (by decide) ?_
      exact (t_X6_set_83 T y1 y2 y3 5 z0 z1 st)
  · refine o_ldc2 (v := 9999) dX6_set_43 cst_X6_124 ?_
    refine o_goto (tgt := 83) dX6_set_46 (by decide) ?_
    exact (t_X6_set_83 T y1 y2 y3 9999 z0 z1 st)
def f_X6_set_25 (T : Nat) (y1 : Int32) (y2 : Int32) (y3 : Int32) (st : px_S) : Option (Int32 × px_S) := (if y1 = 1 then (f_X6_set_39 T y1 y2 y3 2 y3.toInt64 st) else (f_X6_set_39 T y1 y2 y3 0 y3.toInt64 st))
set_option maxRecDepth 20000 in
theorem t_X6_set_25 (T : Nat) (y1 : Int32) (y2 : Int32) (y3 : Int32) (st : px_S) : px_O (2, 0, 0, px_n (T + 2), m_X6_set) (px_gi (T + 2)) (f_X6_set_25 T y1 y2 y3 st) 25 [some (.ref 48), some (.int y1), some (.int y2), some (.int y3), none] [] (HP (T + 2) st) 0 0 := by
  rw [f_X6_set_25]
  refine o_iload_n dX6_set_25 rfl ?_
  refine o_i2l dX6_set_26 ?_
  refine o_iload_n dX6_set_27 rfl ?_
  refine o_iconst (v := 1) dX6_set_28 (by decide) ?_
  refine o_icmpne (tgt := 38) dX6_set_29 (by decide) (fun u16 => ?_) (fun u16 => ?_)
  · refine o_lconst (v := 0) dX6_set_38 (by decide) ?_
    exact (t_X6_set_39 T y1 y2 y3 0 y3.toInt64 st)
  · refine o_ldc2 (v := 2) dX6_set_32 cst_X6_122 ?_
    refine o_goto (tgt := 39) dX6_set_35 (by decide) ?_
    exact (t_X6_set_39 T y1 y2 y3 2 y3.toInt64 st)
def f_X6_set (T : Nat) (x0 : Int32) (x1 : Int32) (x2 : Int32) (st : px_S) : Option (Int32 × px_S) := (if (p_X6_in x0.toInt64 0 4) = 0 then (some ((-2), st)) else (if 2 < x0 then ((f_X6_isOne T st x1).bind fun b19 => (if b19 = 0 then (some ((-2), st)) else (f_X6_set_25 T x0 x1 x2 st))) else (f_X6_set_25 T x0 x1 x2 st)))
set_option maxRecDepth 20000 in
theorem t_X6_set (T : Nat) (x0 : Int32) (x1 : Int32) (x2 : Int32) (st : px_S) : px_O (2, 0, 0, px_n (T + 2), m_X6_set) (px_gi (T + 2)) (f_X6_set T x0 x1 x2 st) 0 [some (.ref 48), some (.int x0), some (.int x1), some (.int x2), none] [] (HP (T + 2) st) 0 0 := by
  rw [f_X6_set]
  refine o_iload_n dX6_set_0 rfl ?_
  refine o_i2l dX6_set_1 ?_
  refine o_lconst (v := 0) dX6_set_2 (by decide) ?_
  refine o_ldc2 (v := 4) dX6_set_3 cst_X6_120 ?_
  refine h_cSP (as := [.long x0.toInt64, .long 0, .long 4]) (S1 := []) (d' := 0) dX6_set_6 mf_X6_in ml_X6_97 ms_X6_in rfl (Nat.le_of_ble_eq_true rfl) rfl (Nat.le_of_ble_eq_true rfl) ⟨Nat.zero_le _, Nat.zero_le _⟩ (k_X6_in) ?_
  refine o_ifeq (tgt := 89) dX6_set_9 (by decide) (fun u17 => ?_) (fun u17 => ?_)
  · refine o_bipush (v := (-2)) dX6_set_89 (by decide) ?_
    exact o_iret (rt := .int) rfl rfl dX6_set_91 rfl (Nat.zero_le _) (Nat.zero_le _)
  · refine o_iload_n dX6_set_12 rfl ?_
    refine o_iconst (v := 2) dX6_set_13 (by decide) ?_
    refine o_icmple (tgt := 25) dX6_set_14 (by decide) (fun u18 => ?_) (fun u18 => ?_)
    · exact (t_X6_set_25 T x0 x1 x2 st)
    · refine o_aload_n dX6_set_17 rfl ?_
      refine o_iload_n dX6_set_18 rfl ?_
      refine h_cV0 (as := [.int x1]) (S1 := []) (d' := 1) dX6_set_19 mf_X6_isOne ml_X6_101 mv_X6_isOne q6 rfl (hp_at (px_ltM (by decide)) (c48 _)) rfl (Nat.le_of_ble_eq_true rfl) rfl (Nat.le_of_ble_eq_true rfl) ⟨Nat.zero_le _, Nat.zero_le _⟩ (fun b hb => k_X6_isOne hb) (fun b19 hb19 => ?_)
      refine o_ifeq (tgt := 89) dX6_set_22 (by decide) (fun u20 => ?_) (fun u20 => ?_)
      · refine o_bipush (v := (-2)) dX6_set_89 (by decide) ?_
        exact o_iret (rt := .int) rfl rfl dX6_set_91 rfl (Nat.zero_le _) (Nat.zero_le _)
      · exact (t_X6_set_25 T x0 x1 x2 st)
theorem k_X6_set {T : Nat} {st : px_S} {x0 : Int32} {x1 : Int32} {x2 : Int32} {b : Int32 × px_S} (hf : f_X6_set T x0 x1 x2 st = some b) : px_K (2) 0 0 m_X6_set [.ref 48, .int x0, .int x1, .int x2] (HP (T + 2) st) ((px_gi (T + 2)) b).1 ((px_gi (T + 2)) b).2 := px_KofH hf mf_X6_set (Nat.le_of_ble_eq_true rfl) rfl (t_X6_set T x0 x1 x2 st)
/-! ThreeOfThemModel.brings(II)I: R, depth 0 -/
def f_X6_brings_49 (T : Nat) (st : px_S) (y3 : Int32) (y4 : Int32) : Option (Int32) := (if y3 = 3 then (some ((2 : Int32) * y4)) else (if y3 = 5 then (some (y4 - 12)) else (some y4)))
set_option maxRecDepth 20000 in
theorem t_X6_brings_49 (T : Nat) (st : px_S) (y3 : Int32) (y4 : Int32) : px_O (0, 0, 0, px_n (T + 2), m_X6_brings) (px_g0 (HP (T + 2) st)) (f_X6_brings_49 T st y3 y4) 49 [none, none, none, some (.int y3), some (.int y4), none] [] (HP (T + 2) st) 0 0 := by
  rw [f_X6_brings_49]
  refine o_iload_n dX6_brings_49 rfl ?_
  refine o_iconst (v := 3) dX6_brings_50 (by decide) ?_
  refine o_icmpne (tgt := 61) dX6_brings_51 (by decide) (fun u1 => ?_) (fun u1 => ?_)
  · refine o_iload_n dX6_brings_61 rfl ?_
    refine o_iconst (v := 5) dX6_brings_62 (by decide) ?_
    refine o_icmpne (tgt := 74) dX6_brings_63 (by decide) (fun u2 => ?_) (fun u2 => ?_)
    · refine o_iload dX6_brings_74 rfl ?_
      exact o_iret (rt := .int) rfl rfl dX6_brings_76 rfl (Nat.zero_le _) (Nat.zero_le _)
    · refine o_iload dX6_brings_66 rfl ?_
      refine o_bipush (v := 12) dX6_brings_68 (by decide) ?_
      refine o_isub dX6_brings_70 ?_
      refine o_goto (tgt := 76) dX6_brings_71 (by decide) ?_
      exact o_iret (rt := .int) rfl rfl dX6_brings_76 rfl (Nat.zero_le _) (Nat.zero_le _)
  · refine o_iconst (v := 2) dX6_brings_54 (by decide) ?_
    refine o_iload dX6_brings_55 rfl ?_
    refine o_imul dX6_brings_57 ?_
    refine o_goto (tgt := 76) dX6_brings_58 (by decide) ?_
    exact o_iret (rt := .int) rfl rfl dX6_brings_76 rfl (Nat.zero_le _) (Nat.zero_le _)
def f_X6_brings_32 (T : Nat) (st : px_S) (y3 : Int32) (y4 : Int32) (z0 : Int32) : Option (Int32) := (if y3 = 1 then (f_X6_brings_49 T st y3 y4) else (if y3 = 3 then (f_X6_brings_49 T st y3 y4) else (if y3 = 5 then (f_X6_brings_49 T st y3 y4) else (if y3 = 2 then (some z0) else (if y3 = 4 then (some (z0 - 3)) else (some 0))))))
set_option maxRecDepth 20000 in
theorem t_X6_brings_32 (T : Nat) (st : px_S) (y3 : Int32) (y4 : Int32) (z0 : Int32) : px_O (0, 0, 0, px_n (T + 2), m_X6_brings) (px_g0 (HP (T + 2) st)) (f_X6_brings_32 T st y3 y4 z0) 32 [none, none, none, some (.int y3), some (.int y4), none] [.int z0] (HP (T + 2) st) 0 0 := by
  rw [f_X6_brings_32]
  refine o_istore (L' := [none, none, none, some (.int y3), some (.int y4), some (.int z0)]) dX6_brings_32 (Nat.le_of_ble_eq_true rfl) rfl rfl ?_
  refine o_iload_n dX6_brings_34 rfl ?_
  refine o_iconst (v := 1) dX6_brings_35 (by decide) ?_
  refine o_icmpeq (tgt := 49) dX6_brings_36 (by decide) (fun u3 => ?_) (fun u3 => ?_)
  · exact o_weak (L' := [none, none, none, some (.int y3), some (.int y4), none]) ⟨rfl, ⟨rfl, trivial⟩⟩ (t_X6_brings_49 T st y3 y4)
  · refine o_iload_n dX6_brings_39 rfl ?_
    refine o_iconst (v := 3) dX6_brings_40 (by decide) ?_
    refine o_icmpeq (tgt := 49) dX6_brings_41 (by decide) (fun u4 => ?_) (fun u4 => ?_)
    · exact o_weak (L' := [none, none, none, some (.int y3), some (.int y4), none]) ⟨rfl, ⟨rfl, trivial⟩⟩ (t_X6_brings_49 T st y3 y4)
    · refine o_iload_n dX6_brings_44 rfl ?_
      refine o_iconst (v := 5) dX6_brings_45 (by decide) ?_
      refine o_icmpne (tgt := 77) dX6_brings_46 (by decide) (fun u5 => ?_) (fun u5 => ?_)
      · refine o_iload_n dX6_brings_77 rfl ?_
        refine o_iconst (v := 2) dX6_brings_78 (by decide) ?_
        refine o_icmpne (tgt := 87) dX6_brings_79 (by decide) (fun u6 => ?_) (fun u6 => ?_)
        · refine o_iload_n dX6_brings_87 rfl ?_
          refine o_iconst (v := 4) dX6_brings_88 (by decide) ?_
          refine o_icmpne (tgt := 99) dX6_brings_89 (by decide) (fun u7 => ?_) (fun u7 => ?_)
          · refine o_iconst (v := 0) dX6_brings_99 (by decide) ?_
            exact o_iret (rt := .int) rfl rfl dX6_brings_100 rfl (Nat.zero_le _) (Nat.zero_le _)
          · refine o_iload dX6_brings_92 rfl ?_
            refine o_iconst (v := 3) dX6_brings_94 (by decide) ?_
            refine o_isub dX6_brings_95 ?_
            refine o_goto (tgt := 100) dX6_brings_96 (by decide) ?_
            exact o_iret (rt := .int) rfl rfl dX6_brings_100 rfl (Nat.zero_le _) (Nat.zero_le _)
        · refine o_iload dX6_brings_82 rfl ?_
          refine o_goto (tgt := 100) dX6_brings_84 (by decide) ?_
          exact o_iret (rt := .int) rfl rfl dX6_brings_100 rfl (Nat.zero_le _) (Nat.zero_le _)
      · exact o_weak (L' := [none, none, none, some (.int y3), some (.int y4), none]) ⟨rfl, ⟨rfl, trivial⟩⟩ (t_X6_brings_49 T st y3 y4)
def f_X6_brings (T : Nat) (st : px_S) (x0 : Int32) (x1 : Int32) : Option (Int32) := (if px_in x0 7 then (if px_in x0 7 then (if x1 < 4 then (if px_in x0 7 then (f_X6_brings_32 T st (st 52 x0.toNatClampNeg) ((st 53 x0.toNatClampNeg) + x1) (st 53 x0.toNatClampNeg)) else none) else (f_X6_brings_32 T st (st 52 x0.toNatClampNeg) ((st 53 x0.toNatClampNeg) + x1) 0)) else none) else none)
set_option maxRecDepth 20000 in
theorem t_X6_brings (T : Nat) (st : px_S) (x0 : Int32) (x1 : Int32) : px_O (0, 0, 0, px_n (T + 2), m_X6_brings) (px_g0 (HP (T + 2) st)) (f_X6_brings T st x0 x1) 0 [some (.ref 48), some (.int x0), some (.int x1), none, none, none] [] (HP (T + 2) st) 0 0 := by
  rw [f_X6_brings]
  refine o_aload_n dX6_brings_0 rfl ?_
  refine h_get (v := .ref 52) dX6_brings_1 q6 fl_X6_23 (by decide) (px_ltM (by decide)) (c48 _) rfl ?_
  refine o_iload_n dX6_brings_4 rfl ?_
  refine h_iald (n := 7) dX6_brings_5 (px_ltM (by decide)) (c52 _) (fun u8 => ?_)
  refine o_istore_n (L' := [some (.ref 48), some (.int x0), some (.int x1), some (.int (st 52 x0.toNatClampNeg)), none, none]) dX6_brings_6 (Nat.le_of_ble_eq_true rfl) rfl rfl ?_
  refine o_aload_n dX6_brings_7 rfl ?_
  refine h_get (v := .ref 53) dX6_brings_8 q6 fl_X6_26 (by decide) (px_ltM (by decide)) (c48 _) rfl ?_
  refine o_iload_n dX6_brings_11 rfl ?_
  refine h_iald (n := 7) dX6_brings_12 (px_ltM (by decide)) (c53 _) (fun u9 => ?_)
  refine o_iload_n dX6_brings_13 rfl ?_
  refine o_iadd dX6_brings_14 ?_
  refine o_istore (L' := [some (.ref 48), some (.int x0), some (.int x1), some (.int (st 52 x0.toNatClampNeg)), some (.int ((st 53 x0.toNatClampNeg) + x1)), none]) dX6_brings_15 (Nat.le_of_ble_eq_true rfl) rfl rfl ?_
  refine o_iload_n dX6_brings_17 rfl ?_
  refine o_iconst (v := 4) dX6_brings_18 (by decide) ?_
  refine o_icmpge (tgt := 31) dX6_brings_19 (by decide) (fun u10 => ?_) (fun u10 => ?_)
  · refine o_iconst (v := 0) dX6_brings_31 (by decide) ?_
    exact o_weak (L' := [none, none, none, some (.int (st 52 x0.toNatClampNeg)), some (.int ((st 53 x0.toNatClampNeg) + x1)), none]) ⟨rfl, ⟨rfl, trivial⟩⟩ (t_X6_brings_32 T st (st 52 x0.toNatClampNeg) ((st 53 x0.toNatClampNeg) + x1) 0)
  · refine o_aload_n dX6_brings_22 rfl ?_
    refine h_get (v := .ref 53) dX6_brings_23 q6 fl_X6_26 (by decide) (px_ltM (by decide)) (c48 _) rfl ?_
    refine o_iload_n dX6_brings_26 rfl ?_
    refine h_iald (n := 7) dX6_brings_27 (px_ltM (by decide)) (c53 _) (fun u11 => ?_)
    refine o_goto (tgt := 32) dX6_brings_28 (by decide) ?_
    exact o_weak (L' := [none, none, none, some (.int (st 52 x0.toNatClampNeg)), some (.int ((st 53 x0.toNatClampNeg) + x1)), none]) ⟨rfl, ⟨rfl, trivial⟩⟩ (t_X6_brings_32 T st (st 52 x0.toNatClampNeg) ((st 53 x0.toNatClampNeg) + x1) (st 53 x0.toNatClampNeg))
theorem k_X6_brings_o {T : Nat} {st : px_S} {x0 : Int32} {x1 : Int32} {b : Int32} (hf : f_X6_brings T st x0 x1 = some b) : px_K (0) 0 0 m_X6_brings [.ref 48, .int x0, .int x1] (HP (T + 2) st) (some (.int b)) (HP (T + 2) st) := px_KofH (g := px_g0 (HP (T + 2) st)) hf mf_X6_brings (Nat.le_of_ble_eq_true rfl) rfl (t_X6_brings T st x0 x1)
theorem k_X6_brings {T : Nat} {st : px_S} {x0 : Int32} {x1 : Int32} {b : Int32} (hf : f_X6_brings T st x0 x1 = some b) : px_K (0) 0 0 m_X6_brings [.ref 48, .int x0, .int x1] (HP (T + 2) st) (some (.int b)) (HP (T + 2) st) := k_X6_brings_o hf
/-! ThreeOfThemModel.wants(IIZ)I: R, depth 0 -/
def f_X6_wants_83 (T : Nat) (st : px_S) (y2 : Int32) (y4 : Int32) (y5 : Int32) : Option (Int32) := (if y4 = 5 then (if (y2 - 4) < 0 then (some 0) else (some (y2 - 4))) else (if y5 < 0 then (some 0) else (some y5)))
set_option maxRecDepth 20000 in
theorem t_X6_wants_83 (T : Nat) (st : px_S) (y2 : Int32) (y4 : Int32) (y5 : Int32) : px_O (0, 0, 0, px_n (T + 2), m_X6_wants) (px_g0 (HP (T + 2) st)) (f_X6_wants_83 T st y2 y4 y5) 83 [none, none, some (.int y2), none, some (.int y4), some (.int y5)] [] (HP (T + 2) st) 0 0 := by
  rw [f_X6_wants_83]
  refine o_iload dX6_wants_83 rfl ?_
  refine o_iconst (v := 5) dX6_wants_85 (by decide) ?_
  refine o_icmpne (tgt := 94) dX6_wants_86 (by decide) (fun u1 => ?_) (fun u1 => ?_)
  · refine o_iload dX6_wants_94 rfl ?_
    refine o_ifge (tgt := 103) dX6_wants_96 (by decide) (fun u2 => ?_) (fun u2 => ?_)
    · refine o_iload dX6_wants_103 rfl ?_
      exact o_iret (rt := .int) rfl rfl dX6_wants_105 rfl (Nat.zero_le _) (Nat.zero_le _)
    · refine o_iconst (v := 0) dX6_wants_99 (by decide) ?_
      refine o_goto (tgt := 105) dX6_wants_100 (by decide) ?_
      exact o_iret (rt := .int) rfl rfl dX6_wants_105 rfl (Nat.zero_le _) (Nat.zero_le _)
  · refine o_iload_n dX6_wants_89 rfl ?_
    refine o_iconst (v := 4) dX6_wants_90 (by decide) ?_
    refine o_isub dX6_wants_91 ?_
    refine o_istore (L' := [none, none, some (.int y2), none, some (.int y4), some (.int (y2 - 4))]) dX6_wants_92 (Nat.le_of_ble_eq_true rfl) rfl rfl ?_
    refine o_iload dX6_wants_94 rfl ?_
    refine o_ifge (tgt := 103) dX6_wants_96 (by decide) (fun u3 => ?_) (fun u3 => ?_)
    · refine o_iload dX6_wants_103 rfl ?_
      exact o_iret (rt := .int) rfl rfl dX6_wants_105 rfl (Nat.zero_le _) (Nat.zero_le _)
    · refine o_iconst (v := 0) dX6_wants_99 (by decide) ?_
      refine o_goto (tgt := 105) dX6_wants_100 (by decide) ?_
      exact o_iret (rt := .int) rfl rfl dX6_wants_105 rfl (Nat.zero_le _) (Nat.zero_le _)
def f_X6_wants_72 (T : Nat) (st : px_S) (y1 : Int32) (y2 : Int32) (y4 : Int32) (z0 : Int32) : Option (Int32) := (if px_in y1 7 then (f_X6_wants_83 T st y2 y4 (z0 * ((1 : Int32) + (st 53 y1.toNatClampNeg)))) else none)
set_option maxRecDepth 20000 in
theorem t_X6_wants_72 (T : Nat) (st : px_S) (y1 : Int32) (y2 : Int32) (y4 : Int32) (z0 : Int32) : px_O (0, 0, 0, px_n (T + 2), m_X6_wants) (px_g0 (HP (T + 2) st)) (f_X6_wants_72 T st y1 y2 y4 z0) 72 [some (.ref 48), some (.int y1), some (.int y2), none, some (.int y4), none] [.int z0] (HP (T + 2) st) 0 0 := by
  rw [f_X6_wants_72]
  refine o_iconst (v := 1) dX6_wants_72 (by decide) ?_
  refine o_aload_n dX6_wants_73 rfl ?_
  refine h_get (v := .ref 53) dX6_wants_74 q6 fl_X6_26 (by decide) (px_ltM (by decide)) (c48 _) rfl ?_
  refine o_iload_n dX6_wants_77 rfl ?_
  refine h_iald (n := 7) dX6_wants_78 (px_ltM (by decide)) (c53 _) (fun u4 => ?_)
  refine o_iadd dX6_wants_79 ?_
  refine o_imul dX6_wants_80 ?_
  refine o_istore (L' := [some (.ref 48), some (.int y1), some (.int y2), none, some (.int y4), some (.int (z0 * ((1 : Int32) + (st 53 y1.toNatClampNeg))))]) dX6_wants_81 (Nat.le_of_ble_eq_true rfl) rfl rfl ?_
  exact o_weak (L' := [none, none, some (.int y2), none, some (.int y4), some (.int (z0 * ((1 : Int32) + (st 53 y1.toNatClampNeg))))]) ⟨rfl, ⟨rfl, ⟨rfl, trivial⟩⟩⟩ (t_X6_wants_83 T st y2 y4 (z0 * ((1 : Int32) + (st 53 y1.toNatClampNeg))))
def f_X6_wants_57 (T : Nat) (st : px_S) (y1 : Int32) (y2 : Int32) (y3 : Int32) (y4 : Int32) (y5 : Int32) : Option (Int32) := (if y4 = 4 then (if y3 = 0 then (f_X6_wants_72 T st y1 y2 y4 1) else (f_X6_wants_72 T st y1 y2 y4 2)) else (f_X6_wants_83 T st y2 y4 y5))
set_option maxRecDepth 20000 in
theorem t_X6_wants_57 (T : Nat) (st : px_S) (y1 : Int32) (y2 : Int32) (y3 : Int32) (y4 : Int32) (y5 : Int32) : px_O (0, 0, 0, px_n (T + 2), m_X6_wants) (px_g0 (HP (T + 2) st)) (f_X6_wants_57 T st y1 y2 y3 y4 y5) 57 [some (.ref 48), some (.int y1), some (.int y2), some (.int y3), some (.int y4), some (.int y5)] [] (HP (T + 2) st) 0 0 := by
  rw [f_X6_wants_57]
  refine o_iload dX6_wants_57 rfl ?_
  refine o_iconst (v := 4) dX6_wants_59 (by decide) ?_
  refine o_icmpne (tgt := 83) dX6_wants_60 (by decide) (fun u5 => ?_) (fun u5 => ?_)
  · exact o_weak (L' := [none, none, some (.int y2), none, some (.int y4), some (.int y5)]) ⟨rfl, ⟨rfl, ⟨rfl, trivial⟩⟩⟩ (t_X6_wants_83 T st y2 y4 y5)
  · refine o_iload_n dX6_wants_63 rfl ?_
    refine o_ifeq (tgt := 71) dX6_wants_64 (by decide) (fun u6 => ?_) (fun u6 => ?_)
    · refine o_iconst (v := 1) dX6_wants_71 (by decide) ?_
      exact o_weak (L' := [some (.ref 48), some (.int y1), some (.int y2), none, some (.int y4), none]) ⟨rfl, ⟨rfl, ⟨rfl, ⟨rfl, trivial⟩⟩⟩⟩ (t_X6_wants_72 T st y1 y2 y4 1)
    · refine o_iconst (v := 2) dX6_wants_67 (by decide) ?_
      refine o_goto (tgt := 72) dX6_wants_68 (by decide) ?_
      exact o_weak (L' := [some (.ref 48), some (.int y1), some (.int y2), none, some (.int y4), none]) ⟨rfl, ⟨rfl, ⟨rfl, ⟨rfl, trivial⟩⟩⟩⟩ (t_X6_wants_72 T st y1 y2 y4 2)
def f_X6_wants_55 (T : Nat) (st : px_S) (y1 : Int32) (y2 : Int32) (y3 : Int32) (y4 : Int32) (z0 : Int32) : Option (Int32) := (f_X6_wants_57 T st y1 y2 y3 y4 z0)
set_option maxRecDepth 20000 in
theorem t_X6_wants_55 (T : Nat) (st : px_S) (y1 : Int32) (y2 : Int32) (y3 : Int32) (y4 : Int32) (z0 : Int32) : px_O (0, 0, 0, px_n (T + 2), m_X6_wants) (px_g0 (HP (T + 2) st)) (f_X6_wants_55 T st y1 y2 y3 y4 z0) 55 [some (.ref 48), some (.int y1), some (.int y2), some (.int y3), some (.int y4), none] [.int z0] (HP (T + 2) st) 0 0 := by
  rw [f_X6_wants_55]
  refine o_istore (L' := [some (.ref 48), some (.int y1), some (.int y2), some (.int y3), some (.int y4), some (.int z0)]) dX6_wants_55 (Nat.le_of_ble_eq_true rfl) rfl rfl ?_
  exact (t_X6_wants_57 T st y1 y2 y3 y4 z0)
def f_X6_wants_38 (T : Nat) (st : px_S) (y1 : Int32) (y2 : Int32) (y3 : Int32) (y4 : Int32) (y5 : Int32) : Option (Int32) := (if y4 = 3 then (if y3 = 0 then (f_X6_wants_55 T st y1 y2 y3 y4 0) else (f_X6_wants_55 T st y1 y2 y3 y4 ((1 : Int32) + y2))) else (f_X6_wants_57 T st y1 y2 y3 y4 y5))
set_option maxRecDepth 20000 in
theorem t_X6_wants_38 (T : Nat) (st : px_S) (y1 : Int32) (y2 : Int32) (y3 : Int32) (y4 : Int32) (y5 : Int32) : px_O (0, 0, 0, px_n (T + 2), m_X6_wants) (px_g0 (HP (T + 2) st)) (f_X6_wants_38 T st y1 y2 y3 y4 y5) 38 [some (.ref 48), some (.int y1), some (.int y2), some (.int y3), some (.int y4), some (.int y5)] [] (HP (T + 2) st) 0 0 := by
  rw [f_X6_wants_38]
  refine o_iload dX6_wants_38 rfl ?_
  refine o_iconst (v := 3) dX6_wants_40 (by decide) ?_
  refine o_icmpne (tgt := 57) dX6_wants_41 (by decide) (fun u7 => ?_) (fun u7 => ?_)
  · exact (t_X6_wants_57 T st y1 y2 y3 y4 y5)
  · refine o_iload_n dX6_wants_44 rfl ?_
    refine o_ifeq (tgt := 54) dX6_wants_45 (by decide) (fun u8 => ?_) (fun u8 => ?_)
    · refine o_iconst (v := 0) dX6_wants_54 (by decide) ?_
      exact o_weak (L' := [some (.ref 48), some (.int y1), some (.int y2), some (.int y3), some (.int y4), none]) ⟨rfl, ⟨rfl, ⟨rfl, ⟨rfl, ⟨rfl, trivial⟩⟩⟩⟩⟩ (t_X6_wants_55 T st y1 y2 y3 y4 0)
    · refine o_iconst (v := 1) dX6_wants_48 (by decide) ?_
      refine o_iload_n dX6_wants_49 rfl ?_
      refine o_iadd dX6_wants_50 ?_
      refine o_goto (tgt := 55) dX6_wants_51 (by decide) ?_
      exact o_weak (L' := [some (.ref 48), some (.int y1), some (.int y2), some (.int y3), some (.int y4), none]) ⟨rfl, ⟨rfl, ⟨rfl, ⟨rfl, ⟨rfl, trivial⟩⟩⟩⟩⟩ (t_X6_wants_55 T st y1 y2 y3 y4 ((1 : Int32) + y2))
def f_X6_wants_22 (T : Nat) (st : px_S) (y1 : Int32) (y2 : Int32) (y3 : Int32) (y4 : Int32) (y5 : Int32) : Option (Int32) := (if y4 = 2 then (if px_in y1 7 then (f_X6_wants_38 T st y1 y2 y3 y4 ((1 : Int32) + (st 53 y1.toNatClampNeg))) else none) else (f_X6_wants_38 T st y1 y2 y3 y4 y5))
set_option maxRecDepth 20000 in
theorem t_X6_wants_22 (T : Nat) (st : px_S) (y1 : Int32) (y2 : Int32) (y3 : Int32) (y4 : Int32) (y5 : Int32) : px_O (0, 0, 0, px_n (T + 2), m_X6_wants) (px_g0 (HP (T + 2) st)) (f_X6_wants_22 T st y1 y2 y3 y4 y5) 22 [some (.ref 48), some (.int y1), some (.int y2), some (.int y3), some (.int y4), some (.int y5)] [] (HP (T + 2) st) 0 0 := by
  rw [f_X6_wants_22]
  refine o_iload dX6_wants_22 rfl ?_
  refine o_iconst (v := 2) dX6_wants_24 (by decide) ?_
  refine o_icmpne (tgt := 38) dX6_wants_25 (by decide) (fun u9 => ?_) (fun u9 => ?_)
  · exact (t_X6_wants_38 T st y1 y2 y3 y4 y5)
  · refine o_iconst (v := 1) dX6_wants_28 (by decide) ?_
    refine o_aload_n dX6_wants_29 rfl ?_
    refine h_get (v := .ref 53) dX6_wants_30 q6 fl_X6_26 (by decide) (px_ltM (by decide)) (c48 _) rfl ?_
    refine o_iload_n dX6_wants_33 rfl ?_
    refine h_iald (n := 7) dX6_wants_34 (px_ltM (by decide)) (c53 _) (fun u10 => ?_)
    refine o_iadd dX6_wants_35 ?_
    refine o_istore (L' := [some (.ref 48), some (.int y1), some (.int y2), some (.int y3), some (.int y4), some (.int ((1 : Int32) + (st 53 y1.toNatClampNeg)))]) dX6_wants_36 (Nat.le_of_ble_eq_true rfl) rfl rfl ?_
    exact (t_X6_wants_38 T st y1 y2 y3 y4 ((1 : Int32) + (st 53 y1.toNatClampNeg)))
def f_X6_wants (T : Nat) (st : px_S) (x0 : Int32) (x1 : Int32) (x2 : Int32) : Option (Int32) := (if px_in x0 7 then (if (st 52 x0.toNatClampNeg) = 1 then (f_X6_wants_22 T st x0 x1 x2 (st 52 x0.toNatClampNeg) ((1 : Int32) + x1)) else (f_X6_wants_22 T st x0 x1 x2 (st 52 x0.toNatClampNeg) 1)) else none)
set_option maxRecDepth 20000 in
theorem t_X6_wants (T : Nat) (st : px_S) (x0 : Int32) (x1 : Int32) (x2 : Int32) : px_O (0, 0, 0, px_n (T + 2), m_X6_wants) (px_g0 (HP (T + 2) st)) (f_X6_wants T st x0 x1 x2) 0 [some (.ref 48), some (.int x0), some (.int x1), some (.int x2), none, none] [] (HP (T + 2) st) 0 0 := by
  rw [f_X6_wants]
  refine o_aload_n dX6_wants_0 rfl ?_
  refine h_get (v := .ref 52) dX6_wants_1 q6 fl_X6_23 (by decide) (px_ltM (by decide)) (c48 _) rfl ?_
  refine o_iload_n dX6_wants_4 rfl ?_
  refine h_iald (n := 7) dX6_wants_5 (px_ltM (by decide)) (c52 _) (fun u11 => ?_)
  refine o_istore (L' := [some (.ref 48), some (.int x0), some (.int x1), some (.int x2), some (.int (st 52 x0.toNatClampNeg)), none]) dX6_wants_6 (Nat.le_of_ble_eq_true rfl) rfl rfl ?_
  refine o_iconst (v := 1) dX6_wants_8 (by decide) ?_
  refine o_istore (L' := [some (.ref 48), some (.int x0), some (.int x1), some (.int x2), some (.int (st 52 x0.toNatClampNeg)), some (.int 1)]) dX6_wants_9 (Nat.le_of_ble_eq_true rfl) rfl rfl ?_
  refine o_iload dX6_wants_11 rfl ?_
  refine o_iconst (v := 1) dX6_wants_13 (by decide) ?_
  refine o_icmpne (tgt := 22) dX6_wants_14 (by decide) (fun u12 => ?_) (fun u12 => ?_)
  · exact (t_X6_wants_22 T st x0 x1 x2 (st 52 x0.toNatClampNeg) 1)
  · refine o_iconst (v := 1) dX6_wants_17 (by decide) ?_
    refine o_iload_n dX6_wants_18 rfl ?_
    refine o_iadd dX6_wants_19 ?_
    refine o_istore (L' := [some (.ref 48), some (.int x0), some (.int x1), some (.int x2), some (.int (st 52 x0.toNatClampNeg)), some (.int ((1 : Int32) + x1))]) dX6_wants_20 (Nat.le_of_ble_eq_true rfl) rfl rfl ?_
    exact (t_X6_wants_22 T st x0 x1 x2 (st 52 x0.toNatClampNeg) ((1 : Int32) + x1))
theorem k_X6_wants_o {T : Nat} {st : px_S} {x0 : Int32} {x1 : Int32} {x2 : Int32} {b : Int32} (hf : f_X6_wants T st x0 x1 x2 = some b) : px_K (0) 0 0 m_X6_wants [.ref 48, .int x0, .int x1, .int x2] (HP (T + 2) st) (some (.int b)) (HP (T + 2) st) := px_KofH (g := px_g0 (HP (T + 2) st)) hf mf_X6_wants (Nat.le_of_ble_eq_true rfl) rfl (t_X6_wants T st x0 x1 x2)
theorem k_X6_wants {T : Nat} {st : px_S} {x0 : Int32} {x1 : Int32} {x2 : Int32} {b : Int32} (hf : f_X6_wants T st x0 x1 x2 = some b) : px_K (0) 0 0 m_X6_wants [.ref 48, .int x0, .int x1, .int x2] (HP (T + 2) st) (some (.int b)) (HP (T + 2) st) := k_X6_wants_o hf
/-! ThreeOfThemModel.feed(I)I: S, depth 1 -/
def f_X6_feed (T : Nat) (x0 : Int32) (st : px_S) : Option (Int32 × px_S) := (if (p_X6_in x0.toInt64 0 255) = 0 then (some ((-2), st)) else (if (st 48 6) = 160 then (some ((-4), st)) else (if px_in (st 48 6) 160 then (some (((st 48 6) + 1), (up (up st 51 (st 48 6).toNatClampNeg x0) 48 6 ((st 48 6) + 1)))) else none)))
set_option maxRecDepth 20000 in
theorem t_X6_feed (T : Nat) (x0 : Int32) (st : px_S) : px_O (1, 0, 0, px_n (T + 2), m_X6_feed) (px_gi (T + 2)) (f_X6_feed T x0 st) 0 [some (.ref 48), some (.int x0)] [] (HP (T + 2) st) 0 0 := by
  rw [f_X6_feed]
  refine o_iload_n dX6_feed_0 rfl ?_
  refine o_i2l dX6_feed_1 ?_
  refine o_lconst (v := 0) dX6_feed_2 (by decide) ?_
  refine o_ldc2 (v := 255) dX6_feed_3 cst_X6_131 ?_
  refine h_cSP (as := [.long x0.toInt64, .long 0, .long 255]) (S1 := []) (d' := 0) dX6_feed_6 mf_X6_in ml_X6_97 ms_X6_in rfl (Nat.le_of_ble_eq_true rfl) rfl (Nat.le_of_ble_eq_true rfl) ⟨Nat.zero_le _, Nat.zero_le _⟩ (k_X6_in) ?_
  refine o_ifne (tgt := 15) dX6_feed_9 (by decide) (fun u1 => ?_) (fun u1 => ?_)
  · refine o_aload_n dX6_feed_15 rfl ?_
    refine h_get (v := .int (st 48 6)) dX6_feed_16 q6 fl_X6_133 (by decide) (px_ltM (by decide)) (c48 _) rfl ?_
    refine o_sipush (v := 160) dX6_feed_19 (by decide) ?_
    refine o_icmpne (tgt := 28) dX6_feed_22 (by decide) (fun u2 => ?_) (fun u2 => ?_)
    · refine o_aload_n dX6_feed_28 rfl ?_
      refine h_get (v := .ref 51) dX6_feed_29 q6 fl_X6_20 (by decide) (px_ltM (by decide)) (c48 _) rfl ?_
      refine o_aload_n dX6_feed_32 rfl ?_
      refine h_get (v := .int (st 48 6)) dX6_feed_33 q6 fl_X6_133 (by decide) (px_ltM (by decide)) (c48 _) rfl ?_
      refine o_iload_n dX6_feed_36 rfl ?_
      refine h_iast (n := 160) dX6_feed_37 (px_ltM (by decide)) c51 (fun u3 => ?_)
      refine o_aload_n dX6_feed_38 rfl ?_
      refine o_dup dX6_feed_39 rfl ?_
      refine h_get (v := .int (st 48 6)) dX6_feed_40 q6 fl_X6_133 (by decide) (px_ltM (by decide)) (c48 _) rfl ?_
      refine o_iconst (v := 1) dX6_feed_43 (by decide) ?_
      refine o_iadd dX6_feed_44 ?_
      refine h_puti dX6_feed_45 q6 fl_X6_133 pf_X6_6 (px_ltM (by decide)) (c48 _) (Nat.le_of_ble_eq_true rfl) (s48_6 _ _) ?_
      refine o_aload_n dX6_feed_48 rfl ?_
      refine h_get (v := .int ((st 48 6) + 1)) dX6_feed_49 q6 fl_X6_133 (by decide) (px_ltM (by decide)) (c48 _) rfl ?_
      exact o_iret (rt := .int) rfl rfl dX6_feed_52 rfl (Nat.zero_le _) (Nat.zero_le _)
    · refine o_bipush (v := (-4)) dX6_feed_25 (by decide) ?_
      exact o_iret (rt := .int) rfl rfl dX6_feed_27 rfl (Nat.zero_le _) (Nat.zero_le _)
  · refine o_bipush (v := (-2)) dX6_feed_12 (by decide) ?_
    exact o_iret (rt := .int) rfl rfl dX6_feed_14 rfl (Nat.zero_le _) (Nat.zero_le _)
theorem k_X6_feed {T : Nat} {st : px_S} {x0 : Int32} {b : Int32 × px_S} (hf : f_X6_feed T x0 st = some b) : px_K (1) 0 0 m_X6_feed [.ref 48, .int x0] (HP (T + 2) st) ((px_gi (T + 2)) b).1 ((px_gi (T + 2)) b).2 := px_KofH hf mf_X6_feed (Nat.le_of_ble_eq_true rfl) rfl (t_X6_feed T x0 st)
/-! ThreeOfThemModel.byteAt(I)I: R, depth 0 -/
def f_X6_byteAt (T : Nat) (st : px_S) (x0 : Int32) : Option (Int32) := (if x0 < (st 48 23) then (if px_in ((st 48 22) + x0) 960 then (some (st 49 ((st 48 22) + x0).toNatClampNeg)) else none) else (some (-1)))
set_option maxRecDepth 20000 in
theorem t_X6_byteAt (T : Nat) (st : px_S) (x0 : Int32) : px_O (0, 0, 0, px_n (T + 2), m_X6_byteAt) (px_g0 (HP (T + 2) st)) (f_X6_byteAt T st x0) 0 [some (.ref 48), some (.int x0)] [] (HP (T + 2) st) 0 0 := by
  rw [f_X6_byteAt]
  refine o_iload_n dX6_byteAt_0 rfl ?_
  refine o_aload_n dX6_byteAt_1 rfl ?_
  refine h_get (v := .int (st 48 23)) dX6_byteAt_2 q6 fl_X6_136 (by decide) (px_ltM (by decide)) (c48 _) rfl ?_
  refine o_icmpge (tgt := 22) dX6_byteAt_5 (by decide) (fun u1 => ?_) (fun u1 => ?_)
  · refine o_iconst (v := (-1)) dX6_byteAt_22 (by decide) ?_
    exact o_iret (rt := .int) rfl rfl dX6_byteAt_23 rfl (Nat.zero_le _) (Nat.zero_le _)
  · refine o_aload_n dX6_byteAt_8 rfl ?_
    refine h_get (v := .ref 49) dX6_byteAt_9 q6 fl_X6_13 (by decide) (px_ltM (by decide)) (c48 _) rfl ?_
    refine o_aload_n dX6_byteAt_12 rfl ?_
    refine h_get (v := .int (st 48 22)) dX6_byteAt_13 q6 fl_X6_139 (by decide) (px_ltM (by decide)) (c48 _) rfl ?_
    refine o_iload_n dX6_byteAt_16 rfl ?_
    refine o_iadd dX6_byteAt_17 ?_
    refine h_iald (n := 960) dX6_byteAt_18 (px_ltM (by decide)) (c49 _) (fun u2 => ?_)
    refine o_goto (tgt := 23) dX6_byteAt_19 (by decide) ?_
    exact o_iret (rt := .int) rfl rfl dX6_byteAt_23 rfl (Nat.zero_le _) (Nat.zero_le _)
theorem k_X6_byteAt_o {T : Nat} {st : px_S} {x0 : Int32} {b : Int32} (hf : f_X6_byteAt T st x0 = some b) : px_K (0) 0 0 m_X6_byteAt [.ref 48, .int x0] (HP (T + 2) st) (some (.int b)) (HP (T + 2) st) := px_KofH (g := px_g0 (HP (T + 2) st)) hf mf_X6_byteAt (Nat.le_of_ble_eq_true rfl) rfl (t_X6_byteAt T st x0)
theorem k_X6_byteAt {T : Nat} {st : px_S} {x0 : Int32} {b : Int32} (hf : f_X6_byteAt T st x0 = some b) : px_K (0) 0 0 m_X6_byteAt [.ref 48, .int x0] (HP (T + 2) st) (some (.int b)) (HP (T + 2) st) := k_X6_byteAt_o hf
/-! ThreeOfThemModel.next()V: S, depth 1 -/
def f_X6_next_300 (T : Nat) (y1 : Int32) (st : px_S) : Option (px_S) := (some (up (up (up st 48 25 3) 48 27 y1) 48 24 ((st 48 24) + 1)))
set_option maxRecDepth 20000 in
theorem t_X6_next_300 (T : Nat) (y1 : Int32) (st : px_S) : px_O (1, 0, 0, px_n (T + 2), m_X6_next) (px_gv (T + 2)) (f_X6_next_300 T y1 st) 300 [some (.ref 48), some (.int y1), none] [] (HP (T + 2) st) 0 0 := by
  rw [f_X6_next_300]
  refine o_aload_n dX6_next_300 rfl ?_
  refine o_iconst (v := 3) dX6_next_301 (by decide) ?_
  refine h_puti dX6_next_302 q6 fl_X6_152 pf_X6_25 (px_ltM (by decide)) (c48 _) (Nat.le_of_ble_eq_true rfl) (s48_25 _ _) ?_
  refine o_aload_n dX6_next_305 rfl ?_
  refine o_iload_n dX6_next_306 rfl ?_
  refine o_i2l dX6_next_307 ?_
  refine h_putl (x := y1) rfl dX6_next_308 q6 fl_X6_163 pf_X6_27 (px_ltM (by decide)) (c48 _) (Nat.le_of_ble_eq_true rfl) (s48_27 _ _) ?_
  refine o_aload_n dX6_next_311 rfl ?_
  refine o_dup dX6_next_312 rfl ?_
  refine h_get (v := .int (st 48 24)) dX6_next_313 q6 fl_X6_142 (by decide) (px_ltM (by decide)) (c48 _) rfl ?_
  refine o_iconst (v := 1) dX6_next_316 (by decide) ?_
  refine o_iadd dX6_next_317 ?_
  refine h_puti dX6_next_318 q6 fl_X6_142 pf_X6_24 (px_ltM (by decide)) (c48 _) (Nat.le_of_ble_eq_true rfl) (s48_24 _ _) ?_
  exact o_vret rfl dX6_next_321 rfl (Nat.zero_le _) (Nat.zero_le _)
def f_X6_next_216 (T : Nat) (k160 : Int32 → px_S → Option (px_S)) (y2 : Int32) (z0 : Int64) (st : px_S) : Option (px_S) := (if z0.toInt32.toInt64 = z0 then (k160 (y2 + 1) (up (up st 48 27 z0.toInt32) 48 24 ((st 48 24) + 1))) else none)
set_option maxRecDepth 20000 in
theorem t_X6_next_216 (T : Nat) (k160 : Int32 → px_S → Option (px_S)) (hk160 : ∀ (y2 : Int32) (st : px_S), px_O (1, 0, 0, px_n (T + 2), m_X6_next) (px_gv (T + 2)) (k160 y2 st) 160 [some (.ref 48), none, some (.int y2)] [] (HP (T + 2) st) 0 0) (y2 : Int32) (z0 : Int64) (st : px_S) : px_O (1, 0, 0, px_n (T + 2), m_X6_next) (px_gv (T + 2)) (f_X6_next_216 T k160 y2 z0 st) 216 [some (.ref 48), none, some (.int y2)] [.long z0, .ref 48] (HP (T + 2) st) 0 0 := by
  rw [f_X6_next_216]
  refine o_ite (fun u1 => ?_) (fun _ => o_none)
  refine h_putl (x := z0.toInt32) u1 dX6_next_216 q6 fl_X6_163 pf_X6_27 (px_ltM (by decide)) (c48 _) (Nat.le_of_ble_eq_true rfl) (s48_27 _ _) ?_
  refine o_iinc (v := (y2 + 1)) (L' := [some (.ref 48), none, some (.int (y2 + 1))]) dX6_next_219 rfl rfl (Nat.le_of_ble_eq_true rfl) rfl rfl ?_
  refine o_aload_n dX6_next_222 rfl ?_
  refine o_dup dX6_next_223 rfl ?_
  refine h_get (v := .int (st 48 24)) dX6_next_224 q6 fl_X6_142 (by decide) (px_ltM (by decide)) (c48 _) rfl ?_
  refine o_iconst (v := 1) dX6_next_227 (by decide) ?_
  refine o_iadd dX6_next_228 ?_
  refine h_puti dX6_next_229 q6 fl_X6_142 pf_X6_24 (px_ltM (by decide)) (c48 _) (Nat.le_of_ble_eq_true rfl) (s48_24 _ _) ?_
  refine o_goto (tgt := 160) dX6_next_232 (by decide) ?_
  exact (hk160 (y2 + 1) (up (up st 48 27 z0.toInt32) 48 24 ((st 48 24) + 1)))
def f_X6_next_160 (T : Nat) : Nat → Int32 → px_S → Option (px_S)
  | 0, _, _ => none
  | n + 1, y2, st => ((f_X6_byteAt T st (st 48 24)).bind fun b2 => (if (p_X6_in b2.toInt64 48 57) = 0 then (if 4 < y2 then (some (up st 48 25 4)) else (some (up st 48 25 2))) else (if y2 < 4 then ((f_X6_byteAt T st (st 48 24)).bind fun b6 => (f_X6_next_216 T (f_X6_next_160 T n) y2 (((10 * (st 48 27).toInt64) + b6.toInt64) - 48) st)) else (f_X6_next_216 T (f_X6_next_160 T n) y2 (st 48 27).toInt64 st))))
set_option maxRecDepth 20000 in
theorem t_X6_next_160 (T : Nat) : ∀ (n : Nat) (y2 : Int32) (st : px_S), px_O (1, 0, 0, px_n (T + 2), m_X6_next) (px_gv (T + 2)) (f_X6_next_160 T n y2 st) 160 [some (.ref 48), none, some (.int y2)] [] (HP (T + 2) st) 0 0 := by
  intro n
  induction n with
  | zero => intro y2 st; rw [f_X6_next_160]; exact o_none
  | succ n ih =>
    intro y2 st
    rw [f_X6_next_160]
    refine o_aload_n dX6_next_160 rfl ?_
    refine o_aload_n dX6_next_161 rfl ?_
    refine h_get (v := .int (st 48 24)) dX6_next_162 q6 fl_X6_142 (by decide) (px_ltM (by decide)) (c48 _) rfl ?_
    refine h_cV0 (as := [.int (st 48 24)]) (S1 := []) (d' := 0) dX6_next_165 mf_X6_byteAt ml_X6_145 mv_X6_byteAt q6 rfl (hp_at (px_ltM (by decide)) (c48 _)) rfl (Nat.le_of_ble_eq_true rfl) rfl (Nat.le_of_ble_eq_true rfl) ⟨Nat.zero_le _, Nat.zero_le _⟩ (fun b hb => k_X6_byteAt hb) (fun b2 hb2 => ?_)
    refine o_i2l dX6_next_168 ?_
    refine o_ldc2 (v := 48) dX6_next_169 cst_X6_159 ?_
    refine o_ldc2 (v := 57) dX6_next_172 cst_X6_161 ?_
    refine h_cSP (as := [.long b2.toInt64, .long 48, .long 57]) (S1 := []) (d' := 0) dX6_next_175 mf_X6_in ml_X6_97 ms_X6_in rfl (Nat.le_of_ble_eq_true rfl) rfl (Nat.le_of_ble_eq_true rfl) ⟨Nat.zero_le _, Nat.zero_le _⟩ (k_X6_in) ?_
    refine o_ifeq (tgt := 235) dX6_next_178 (by decide) (fun u3 => ?_) (fun u3 => ?_)
    · refine o_aload_n dX6_next_235 rfl ?_
      refine o_iload_n dX6_next_236 rfl ?_
      refine o_iconst (v := 4) dX6_next_237 (by decide) ?_
      refine o_icmple (tgt := 245) dX6_next_238 (by decide) (fun u4 => ?_) (fun u4 => ?_)
      · refine o_iconst (v := 2) dX6_next_245 (by decide) ?_
        refine h_puti dX6_next_246 q6 fl_X6_152 pf_X6_25 (px_ltM (by decide)) (c48 _) (Nat.le_of_ble_eq_true rfl) (s48_25 _ _) ?_
        refine o_goto (tgt := 321) dX6_next_249 (by decide) ?_
        exact o_vret rfl dX6_next_321 rfl (Nat.zero_le _) (Nat.zero_le _)
      · refine o_iconst (v := 4) dX6_next_241 (by decide) ?_
        refine o_goto (tgt := 246) dX6_next_242 (by decide) ?_
        refine h_puti dX6_next_246 q6 fl_X6_152 pf_X6_25 (px_ltM (by decide)) (c48 _) (Nat.le_of_ble_eq_true rfl) (s48_25 _ _) ?_
        refine o_goto (tgt := 321) dX6_next_249 (by decide) ?_
        exact o_vret rfl dX6_next_321 rfl (Nat.zero_le _) (Nat.zero_le _)
    · refine o_aload_n dX6_next_181 rfl ?_
      refine o_iload_n dX6_next_182 rfl ?_
      refine o_iconst (v := 4) dX6_next_183 (by decide) ?_
      refine o_icmpge (tgt := 212) dX6_next_184 (by decide) (fun u5 => ?_) (fun u5 => ?_)
      · refine o_aload_n dX6_next_212 rfl ?_
        refine h_get (v := .long (st 48 27).toInt64) dX6_next_213 q6 fl_X6_163 (by decide) (px_ltM (by decide)) (c48 _) rfl ?_
        exact (t_X6_next_216 T (f_X6_next_160 T n) ih y2 (st 48 27).toInt64 st)
      · refine o_ldc2 (v := 10) dX6_next_187 cst_X6_167 ?_
        refine o_aload_n dX6_next_190 rfl ?_
        refine h_get (v := .long (st 48 27).toInt64) dX6_next_191 q6 fl_X6_163 (by decide) (px_ltM (by decide)) (c48 _) rfl ?_
        refine o_lmul dX6_next_194 ?_
        refine o_aload_n dX6_next_195 rfl ?_
        refine o_aload_n dX6_next_196 rfl ?_
        refine h_get (v := .int (st 48 24)) dX6_next_197 q6 fl_X6_142 (by decide) (px_ltM (by decide)) (c48 _) rfl ?_
        refine h_cV0 (as := [.int (st 48 24)]) (S1 := [.long (10 * (st 48 27).toInt64), .ref 48]) (d' := 0) dX6_next_200 mf_X6_byteAt ml_X6_145 mv_X6_byteAt q6 rfl (hp_at (px_ltM (by decide)) (c48 _)) rfl (Nat.le_of_ble_eq_true rfl) rfl (Nat.le_of_ble_eq_true rfl) ⟨Nat.zero_le _, Nat.zero_le _⟩ (fun b hb => k_X6_byteAt hb) (fun b6 hb6 => ?_)
        refine o_i2l dX6_next_203 ?_
        refine o_ladd dX6_next_204 ?_
        refine o_ldc2 (v := 48) dX6_next_205 cst_X6_159 ?_
        refine o_lsub dX6_next_208 ?_
        refine o_goto (tgt := 216) dX6_next_209 (by decide) ?_
        exact (t_X6_next_216 T (f_X6_next_160 T n) ih y2 (((10 * (st 48 27).toInt64) + b6.toInt64) - 48) st)
def f_X6_next_100 (T : Nat) : Nat → px_S → Option (px_S)
  | 0, _ => none
  | n + 1, st => ((f_X6_byteAt T st (st 48 24)).bind fun b7 => (if (p_X6_in b7.toInt64 97 122) = 0 then (some st) else ((f_X6_next_100 T n)  (up st 48 24 ((st 48 24) + 1)))))
set_option maxRecDepth 20000 in
theorem t_X6_next_100 (T : Nat) : ∀ (n : Nat) (st : px_S), px_O (1, 0, 0, px_n (T + 2), m_X6_next) (px_gv (T + 2)) (f_X6_next_100 T n st) 100 [some (.ref 48), none, none] [] (HP (T + 2) st) 0 0 := by
  intro n
  induction n with
  | zero => intro st; rw [f_X6_next_100]; exact o_none
  | succ n ih =>
    intro st
    rw [f_X6_next_100]
    refine o_aload_n dX6_next_100 rfl ?_
    refine o_aload_n dX6_next_101 rfl ?_
    refine h_get (v := .int (st 48 24)) dX6_next_102 q6 fl_X6_142 (by decide) (px_ltM (by decide)) (c48 _) rfl ?_
    refine h_cV0 (as := [.int (st 48 24)]) (S1 := []) (d' := 0) dX6_next_105 mf_X6_byteAt ml_X6_145 mv_X6_byteAt q6 rfl (hp_at (px_ltM (by decide)) (c48 _)) rfl (Nat.le_of_ble_eq_true rfl) rfl (Nat.le_of_ble_eq_true rfl) ⟨Nat.zero_le _, Nat.zero_le _⟩ (fun b hb => k_X6_byteAt hb) (fun b7 hb7 => ?_)
    refine o_i2l dX6_next_108 ?_
    refine o_ldc2 (v := 97) dX6_next_109 cst_X6_155 ?_
    refine o_ldc2 (v := 122) dX6_next_112 cst_X6_157 ?_
    refine h_cSP (as := [.long b7.toInt64, .long 97, .long 122]) (S1 := []) (d' := 0) dX6_next_115 mf_X6_in ml_X6_97 ms_X6_in rfl (Nat.le_of_ble_eq_true rfl) rfl (Nat.le_of_ble_eq_true rfl) ⟨Nat.zero_le _, Nat.zero_le _⟩ (k_X6_in) ?_
    refine o_ifeq (tgt := 321) dX6_next_118 (by decide) (fun u8 => ?_) (fun u8 => ?_)
    · exact o_vret rfl dX6_next_321 rfl (Nat.zero_le _) (Nat.zero_le _)
    · refine o_aload_n dX6_next_121 rfl ?_
      refine o_dup dX6_next_122 rfl ?_
      refine h_get (v := .int (st 48 24)) dX6_next_123 q6 fl_X6_142 (by decide) (px_ltM (by decide)) (c48 _) rfl ?_
      refine o_iconst (v := 1) dX6_next_126 (by decide) ?_
      refine o_iadd dX6_next_127 ?_
      refine h_puti dX6_next_128 q6 fl_X6_142 pf_X6_24 (px_ltM (by decide)) (c48 _) (Nat.le_of_ble_eq_true rfl) (s48_24 _ _) ?_
      refine o_goto (tgt := 100) dX6_next_131 (by decide) ?_
      exact (ih  (up st 48 24 ((st 48 24) + 1)))
def f_X6_next_0 (T : Nat) : Nat → px_S → Option (px_S)
  | 0, _ => none
  | n + 1, st => ((f_X6_byteAt T st (st 48 24)).bind fun b9 => (if b9 = 32 then ((f_X6_next_0 T n)  (up st 48 24 ((st 48 24) + 1))) else ((f_X6_byteAt T st (st 48 24)).bind fun b11 => (if b11 = 10 then ((f_X6_next_0 T n)  (up st 48 24 ((st 48 24) + 1))) else ((f_X6_byteAt T (up st 48 26 (st 48 24)) (st 48 24)).bind fun b13 => (if b13 < 0 then (some (up (up (up (up st 48 26 (st 48 24)) 48 25 4) 48 25 0) 48 26 (st 48 23))) else (if (p_X6_in b13.toInt64 97 122) = 0 then (if (p_X6_in b13.toInt64 48 57) = 0 then (if b13 = 40 then (f_X6_next_300 T b13 (up (up st 48 26 (st 48 24)) 48 25 4)) else (if b13 = 41 then (f_X6_next_300 T b13 (up (up st 48 26 (st 48 24)) 48 25 4)) else (if b13 = 59 then (f_X6_next_300 T b13 (up (up st 48 26 (st 48 24)) 48 25 4)) else (if b13 = 43 then (f_X6_next_300 T b13 (up (up st 48 26 (st 48 24)) 48 25 4)) else (if b13 = 45 then (f_X6_next_300 T b13 (up (up st 48 26 (st 48 24)) 48 25 4)) else (if b13 = 42 then (f_X6_next_300 T b13 (up (up st 48 26 (st 48 24)) 48 25 4)) else (if b13 = 60 then (f_X6_next_300 T b13 (up (up st 48 26 (st 48 24)) 48 25 4)) else (if b13 = 61 then (f_X6_next_300 T b13 (up (up st 48 26 (st 48 24)) 48 25 4)) else (some (up (up st 48 26 (st 48 24)) 48 25 4)))))))))) else (f_X6_next_160 T 1000 0 (up (up (up (up st 48 26 (st 48 24)) 48 25 4) 48 25 2) 48 27 0))) else (f_X6_next_100 T 1000  (up (up (up st 48 26 (st 48 24)) 48 25 4) 48 25 1)))))))))
set_option maxRecDepth 20000 in
theorem t_X6_next_0 (T : Nat) : ∀ (n : Nat) (st : px_S), px_O (1, 0, 0, px_n (T + 2), m_X6_next) (px_gv (T + 2)) (f_X6_next_0 T n st) 0 [some (.ref 48), none, none] [] (HP (T + 2) st) 0 0 := by
  intro n
  induction n with
  | zero => intro st; rw [f_X6_next_0]; exact o_none
  | succ n ih =>
    intro st
    rw [f_X6_next_0]
    refine o_aload_n dX6_next_0 rfl ?_
    refine o_aload_n dX6_next_1 rfl ?_
    refine h_get (v := .int (st 48 24)) dX6_next_2 q6 fl_X6_142 (by decide) (px_ltM (by decide)) (c48 _) rfl ?_
    refine h_cV0 (as := [.int (st 48 24)]) (S1 := []) (d' := 0) dX6_next_5 mf_X6_byteAt ml_X6_145 mv_X6_byteAt q6 rfl (hp_at (px_ltM (by decide)) (c48 _)) rfl (Nat.le_of_ble_eq_true rfl) rfl (Nat.le_of_ble_eq_true rfl) ⟨Nat.zero_le _, Nat.zero_le _⟩ (fun b hb => k_X6_byteAt hb) (fun b9 hb9 => ?_)
    refine o_bipush (v := 32) dX6_next_8 (by decide) ?_
    refine o_icmpeq (tgt := 26) dX6_next_10 (by decide) (fun u10 => ?_) (fun u10 => ?_)
    · refine o_aload_n dX6_next_26 rfl ?_
      refine o_dup dX6_next_27 rfl ?_
      refine h_get (v := .int (st 48 24)) dX6_next_28 q6 fl_X6_142 (by decide) (px_ltM (by decide)) (c48 _) rfl ?_
      refine o_iconst (v := 1) dX6_next_31 (by decide) ?_
      refine o_iadd dX6_next_32 ?_
      refine h_puti dX6_next_33 q6 fl_X6_142 pf_X6_24 (px_ltM (by decide)) (c48 _) (Nat.le_of_ble_eq_true rfl) (s48_24 _ _) ?_
      refine o_goto (tgt := 0) dX6_next_36 (by decide) ?_
      exact (ih  (up st 48 24 ((st 48 24) + 1)))
    · refine o_aload_n dX6_next_13 rfl ?_
      refine o_aload_n dX6_next_14 rfl ?_
      refine h_get (v := .int (st 48 24)) dX6_next_15 q6 fl_X6_142 (by decide) (px_ltM (by decide)) (c48 _) rfl ?_
      refine h_cV0 (as := [.int (st 48 24)]) (S1 := []) (d' := 0) dX6_next_18 mf_X6_byteAt ml_X6_145 mv_X6_byteAt q6 rfl (hp_at (px_ltM (by decide)) (c48 _)) rfl (Nat.le_of_ble_eq_true rfl) rfl (Nat.le_of_ble_eq_true rfl) ⟨Nat.zero_le _, Nat.zero_le _⟩ (fun b hb => k_X6_byteAt hb) (fun b11 hb11 => ?_)
      refine o_bipush (v := 10) dX6_next_21 (by decide) ?_
      refine o_icmpne (tgt := 39) dX6_next_23 (by decide) (fun u12 => ?_) (fun u12 => ?_)
      · refine o_aload_n dX6_next_39 rfl ?_
        refine o_aload_n dX6_next_40 rfl ?_
        refine h_get (v := .int (st 48 24)) dX6_next_41 q6 fl_X6_142 (by decide) (px_ltM (by decide)) (c48 _) rfl ?_
        refine h_puti dX6_next_44 q6 fl_X6_149 pf_X6_26 (px_ltM (by decide)) (c48 _) (Nat.le_of_ble_eq_true rfl) (s48_26 _ _) ?_
        refine o_aload_n dX6_next_47 rfl ?_
        refine o_aload_n dX6_next_48 rfl ?_
        refine h_get (v := .int (st 48 24)) dX6_next_49 q6 fl_X6_142 (by decide) (px_ltM (by decide)) (c48 _) rfl ?_
        refine h_cV0 (as := [.int (st 48 24)]) (S1 := []) (d' := 0) dX6_next_52 mf_X6_byteAt ml_X6_145 mv_X6_byteAt q6 rfl (hp_at (px_ltM (by decide)) (c48 _)) rfl (Nat.le_of_ble_eq_true rfl) rfl (Nat.le_of_ble_eq_true rfl) ⟨Nat.zero_le _, Nat.zero_le _⟩ (fun b hb => k_X6_byteAt hb) (fun b13 hb13 => ?_)
        refine o_istore_n (L' := [some (.ref 48), some (.int b13), none]) dX6_next_55 (Nat.le_of_ble_eq_true rfl) rfl rfl ?_
        refine o_aload_n dX6_next_56 rfl ?_
        refine o_iconst (v := 4) dX6_next_57 (by decide) ?_
        refine h_puti dX6_next_58 q6 fl_X6_152 pf_X6_25 (px_ltM (by decide)) (c48 _) (Nat.le_of_ble_eq_true rfl) (s48_25 _ _) ?_
        refine o_iload_n dX6_next_61 rfl ?_
        refine o_ifge (tgt := 81) dX6_next_62 (by decide) (fun u14 => ?_) (fun u14 => ?_)
        · refine o_iload_n dX6_next_81 rfl ?_
          refine o_i2l dX6_next_82 ?_
          refine o_ldc2 (v := 97) dX6_next_83 cst_X6_155 ?_
          refine o_ldc2 (v := 122) dX6_next_86 cst_X6_157 ?_
          refine h_cSP (as := [.long b13.toInt64, .long 97, .long 122]) (S1 := []) (d' := 0) dX6_next_89 mf_X6_in ml_X6_97 ms_X6_in rfl (Nat.le_of_ble_eq_true rfl) rfl (Nat.le_of_ble_eq_true rfl) ⟨Nat.zero_le _, Nat.zero_le _⟩ (k_X6_in) ?_
          refine o_ifeq (tgt := 134) dX6_next_92 (by decide) (fun u15 => ?_) (fun u15 => ?_)
          · refine o_iload_n dX6_next_134 rfl ?_
            refine o_i2l dX6_next_135 ?_
            refine o_ldc2 (v := 48) dX6_next_136 cst_X6_159 ?_
            refine o_ldc2 (v := 57) dX6_next_139 cst_X6_161 ?_
            refine h_cSP (as := [.long b13.toInt64, .long 48, .long 57]) (S1 := []) (d' := 0) dX6_next_142 mf_X6_in ml_X6_97 ms_X6_in rfl (Nat.le_of_ble_eq_true rfl) rfl (Nat.le_of_ble_eq_true rfl) ⟨Nat.zero_le _, Nat.zero_le _⟩ (k_X6_in) ?_
            refine o_ifeq (tgt := 252) dX6_next_145 (by decide) (fun u16 => ?_) (fun u16 => ?_)
            · refine o_iload_n dX6_next_252 rfl ?_
              refine o_bipush (v := 40) dX6_next_253 (by decide) ?_
              refine o_icmpeq (tgt := 300) dX6_next_255 (by decide) (fun u17 => ?_) (fun u17 => ?_)
              · exact (t_X6_next_300 T b13 (up (up st 48 26 (st 48 24)) 48 25 4))
              · refine o_iload_n dX6_next_258 rfl ?_
                refine o_bipush (v := 41) dX6_next_259 (by decide) ?_
                refine o_icmpeq (tgt := 300) dX6_next_261 (by decide) (fun u18 => ?_) (fun u18 => ?_)
                · exact (t_X6_next_300 T b13 (up (up st 48 26 (st 48 24)) 48 25 4))
                · refine o_iload_n dX6_next_264 rfl ?_
                  refine o_bipush (v := 59) dX6_next_265 (by decide) ?_
                  refine o_icmpeq (tgt := 300) dX6_next_267 (by decide) (fun u19 => ?_) (fun u19 => ?_)
                  · exact (t_X6_next_300 T b13 (up (up st 48 26 (st 48 24)) 48 25 4))
                  · refine o_iload_n dX6_next_270 rfl ?_
                    refine o_bipush (v := 43) dX6_next_271 (by decide) ?_
                    refine o_icmpeq (tgt := 300) dX6_next_273 (by decide) (fun u20 => ?_) (fun u20 => ?_)
                    · exact (t_X6_next_300 T b13 (up (up st 48 26 (st 48 24)) 48 25 4))
                    · refine o_iload_n dX6_next_276 rfl ?_
                      refine o_bipush (v := 45) dX6_next_277 (by decide) ?_
                      refine o_icmpeq (tgt := 300) dX6_next_279 (by decide) (fun u21 => ?_) (fun u21 => ?_)
                      · exact (t_X6_next_300 T b13 (up (up st 48 26 (st 48 24)) 48 25 4))
                      · refine o_iload_n dX6_next_282 rfl ?_
                        refine o_bipush (v := 42) dX6_next_283 (by decide) ?_
                        refine o_icmpeq (tgt := 300) dX6_next_285 (by decide) (fun u22 => ?_) (fun u22 => ?_)
                        · exact (t_X6_next_300 T b13 (up (up st 48 26 (st 48 24)) 48 25 4))
                        · refine o_iload_n dX6_next_288 rfl ?_
                          refine o_bipush (v := 60) dX6_next_289 (by decide) ?_
                          refine o_icmpeq (tgt := 300) dX6_next_291 (by decide) (fun u23 => ?_) (fun u23 => ?_)
                          · exact (t_X6_next_300 T b13 (up (up st 48 26 (st 48 24)) 48 25 4))
                          · refine o_iload_n dX6_next_294 rfl ?_
                            refine o_bipush (v := 61) dX6_next_295 (by decide) ?_
                            refine o_icmpne (tgt := 321) dX6_next_297 (by decide) (fun u24 => ?_) (fun u24 => ?_)
                            · exact o_vret rfl dX6_next_321 rfl (Nat.zero_le _) (Nat.zero_le _)
                            · exact (t_X6_next_300 T b13 (up (up st 48 26 (st 48 24)) 48 25 4))
            · refine o_aload_n dX6_next_148 rfl ?_
              refine o_iconst (v := 2) dX6_next_149 (by decide) ?_
              refine h_puti dX6_next_150 q6 fl_X6_152 pf_X6_25 (px_ltM (by decide)) (c48 _) (Nat.le_of_ble_eq_true rfl) (s48_25 _ _) ?_
              refine o_aload_n dX6_next_153 rfl ?_
              refine o_lconst (v := 0) dX6_next_154 (by decide) ?_
              refine h_putl (x := 0) (by decide) dX6_next_155 q6 fl_X6_163 pf_X6_27 (px_ltM (by decide)) (c48 _) (Nat.le_of_ble_eq_true rfl) (s48_27 _ _) ?_
              refine o_iconst (v := 0) dX6_next_158 (by decide) ?_
              refine o_istore_n (L' := [some (.ref 48), some (.int b13), some (.int 0)]) dX6_next_159 (Nat.le_of_ble_eq_true rfl) rfl rfl ?_
              exact o_weak (L' := [some (.ref 48), none, some (.int 0)]) ⟨rfl, ⟨rfl, trivial⟩⟩ (t_X6_next_160 T 1000 0 (up (up (up (up st 48 26 (st 48 24)) 48 25 4) 48 25 2) 48 27 0))
          · refine o_aload_n dX6_next_95 rfl ?_
            refine o_iconst (v := 1) dX6_next_96 (by decide) ?_
            refine h_puti dX6_next_97 q6 fl_X6_152 pf_X6_25 (px_ltM (by decide)) (c48 _) (Nat.le_of_ble_eq_true rfl) (s48_25 _ _) ?_
            exact o_weak (L' := [some (.ref 48), none, none]) ⟨rfl, trivial⟩ (t_X6_next_100 T 1000  (up (up (up st 48 26 (st 48 24)) 48 25 4) 48 25 1))
        · refine o_aload_n dX6_next_65 rfl ?_
          refine o_iconst (v := 0) dX6_next_66 (by decide) ?_
          refine h_puti dX6_next_67 q6 fl_X6_152 pf_X6_25 (px_ltM (by decide)) (c48 _) (Nat.le_of_ble_eq_true rfl) (s48_25 _ _) ?_
          refine o_aload_n dX6_next_70 rfl ?_
          refine o_aload_n dX6_next_71 rfl ?_
          refine h_get (v := .int (st 48 23)) dX6_next_72 q6 fl_X6_136 (by decide) (px_ltM (by decide)) (c48 _) rfl ?_
          refine h_puti dX6_next_75 q6 fl_X6_149 pf_X6_26 (px_ltM (by decide)) (c48 _) (Nat.le_of_ble_eq_true rfl) (s48_26 _ _) ?_
          refine o_goto (tgt := 321) dX6_next_78 (by decide) ?_
          exact o_vret rfl dX6_next_321 rfl (Nat.zero_le _) (Nat.zero_le _)
      · refine o_aload_n dX6_next_26 rfl ?_
        refine o_dup dX6_next_27 rfl ?_
        refine h_get (v := .int (st 48 24)) dX6_next_28 q6 fl_X6_142 (by decide) (px_ltM (by decide)) (c48 _) rfl ?_
        refine o_iconst (v := 1) dX6_next_31 (by decide) ?_
        refine o_iadd dX6_next_32 ?_
        refine h_puti dX6_next_33 q6 fl_X6_142 pf_X6_24 (px_ltM (by decide)) (c48 _) (Nat.le_of_ble_eq_true rfl) (s48_24 _ _) ?_
        refine o_goto (tgt := 0) dX6_next_36 (by decide) ?_
        exact (ih  (up st 48 24 ((st 48 24) + 1)))
def f_X6_next (T : Nat) (st : px_S) : Option (px_S) := (f_X6_next_0 T 1000  st)
set_option maxRecDepth 20000 in
theorem t_X6_next (T : Nat) (st : px_S) : px_O (1, 0, 0, px_n (T + 2), m_X6_next) (px_gv (T + 2)) (f_X6_next T st) 0 [some (.ref 48), none, none] [] (HP (T + 2) st) 0 0 := by
  rw [f_X6_next]
  exact (t_X6_next_0 T 1000  st)
theorem k_X6_next {T : Nat} {st : px_S} {b : px_S} (hf : f_X6_next T st = some b) : px_K (1) 0 0 m_X6_next [.ref 48] (HP (T + 2) st) ((px_gv (T + 2)) b).1 ((px_gv (T + 2)) b).2 := px_KofH hf mf_X6_next (Nat.le_of_ble_eq_true rfl) rfl (t_X6_next T st)
/-! ThreeOfThemModel.fail()V: S, depth 0 -/
def f_X6_fail (T : Nat) (st : px_S) : Option (px_S) := (if (st 48 29) = 0 then (some (up (up st 48 29 1) 48 30 (st 48 26))) else (some st))
set_option maxRecDepth 20000 in
theorem t_X6_fail (T : Nat) (st : px_S) : px_O (0, 0, 0, px_n (T + 2), m_X6_fail) (px_gv (T + 2)) (f_X6_fail T st) 0 [some (.ref 48)] [] (HP (T + 2) st) 0 0 := by
  rw [f_X6_fail]
  refine o_aload_n dX6_fail_0 rfl ?_
  refine h_get (v := .int (st 48 29)) dX6_fail_1 q6 fl_X6_169 (by decide) (px_ltM (by decide)) (c48 _) rfl ?_
  refine o_ifne (tgt := 20) dX6_fail_4 (by decide) (fun u1 => ?_) (fun u1 => ?_)
  · exact o_vret rfl dX6_fail_20 rfl (Nat.zero_le _) (Nat.zero_le _)
  · refine o_aload_n dX6_fail_7 rfl ?_
    refine o_iconst (v := 1) dX6_fail_8 (by decide) ?_
    refine h_putz dX6_fail_9 q6 fl_X6_169 pf_X6_29 (Or.inr rfl) (px_ltM (by decide)) (c48 _) (Nat.le_of_ble_eq_true rfl) (s48_29 _ _) ?_
    refine o_aload_n dX6_fail_12 rfl ?_
    refine o_aload_n dX6_fail_13 rfl ?_
    refine h_get (v := .int (st 48 26)) dX6_fail_14 q6 fl_X6_149 (by decide) (px_ltM (by decide)) (c48 _) rfl ?_
    refine h_puti dX6_fail_17 q6 fl_X6_173 pf_X6_30 (px_ltM (by decide)) (c48 _) (Nat.le_of_ble_eq_true rfl) (s48_30 _ _) ?_
    exact o_vret rfl dX6_fail_20 rfl (Nat.zero_le _) (Nat.zero_le _)
theorem k_X6_fail {T : Nat} {st : px_S} {b : px_S} (hf : f_X6_fail T st = some b) : px_K (0) 0 0 m_X6_fail [.ref 48] (HP (T + 2) st) ((px_gv (T + 2)) b).1 ((px_gv (T + 2)) b).2 := px_KofH hf mf_X6_fail (Nat.le_of_ble_eq_true rfl) rfl (t_X6_fail T st)
/-! ThreeOfThemModel.isLetter(II)Z: R, depth 1 -/
def f_X6_isLetter (T : Nat) (st : px_S) (x0 : Int32) (x1 : Int32) : Option (Int32) := (if ((st 48 26) + x0) < (st 48 24) then ((f_X6_byteAt T st ((st 48 26) + x0)).bind fun b3 => (if b3 = x1 then (some 1) else (some 0))) else (if x1 = 0 then (some 1) else (some 0)))
set_option maxRecDepth 20000 in
theorem t_X6_isLetter (T : Nat) (st : px_S) (x0 : Int32) (x1 : Int32) : px_O (1, 0, 0, px_n (T + 2), m_X6_isLetter) (px_g0 (HP (T + 2) st)) (f_X6_isLetter T st x0 x1) 0 [some (.ref 48), some (.int x0), some (.int x1)] [] (HP (T + 2) st) 0 0 := by
  rw [f_X6_isLetter]
  refine o_aload_n dX6_isLetter_0 rfl ?_
  refine h_get (v := .int (st 48 26)) dX6_isLetter_1 q6 fl_X6_149 (by decide) (px_ltM (by decide)) (c48 _) rfl ?_
  refine o_iload_n dX6_isLetter_4 rfl ?_
  refine o_iadd dX6_isLetter_5 ?_
  refine o_aload_n dX6_isLetter_6 rfl ?_
  refine h_get (v := .int (st 48 24)) dX6_isLetter_7 q6 fl_X6_142 (by decide) (px_ltM (by decide)) (c48 _) rfl ?_
  refine o_icmpge (tgt := 35) dX6_isLetter_10 (by decide) (fun u1 => ?_) (fun u1 => ?_)
  · refine o_iload_n dX6_isLetter_35 rfl ?_
    refine o_ifne (tgt := 43) dX6_isLetter_36 (by decide) (fun u2 => ?_) (fun u2 => ?_)
    · refine o_iconst (v := 0) dX6_isLetter_43 (by decide) ?_
      exact o_iret (rt := .boolean) rfl rfl dX6_isLetter_44 rfl (Nat.zero_le _) (Nat.zero_le _)
    · refine o_iconst (v := 1) dX6_isLetter_39 (by decide) ?_
      refine o_goto (tgt := 44) dX6_isLetter_40 (by decide) ?_
      exact o_iret (rt := .boolean) rfl rfl dX6_isLetter_44 rfl (Nat.zero_le _) (Nat.zero_le _)
  · refine o_aload_n dX6_isLetter_13 rfl ?_
    refine o_aload_n dX6_isLetter_14 rfl ?_
    refine h_get (v := .int (st 48 26)) dX6_isLetter_15 q6 fl_X6_149 (by decide) (px_ltM (by decide)) (c48 _) rfl ?_
    refine o_iload_n dX6_isLetter_18 rfl ?_
    refine o_iadd dX6_isLetter_19 ?_
    refine h_cV0 (as := [.int ((st 48 26) + x0)]) (S1 := []) (d' := 0) dX6_isLetter_20 mf_X6_byteAt ml_X6_145 mv_X6_byteAt q6 rfl (hp_at (px_ltM (by decide)) (c48 _)) rfl (Nat.le_of_ble_eq_true rfl) rfl (Nat.le_of_ble_eq_true rfl) ⟨Nat.zero_le _, Nat.zero_le _⟩ (fun b hb => k_X6_byteAt hb) (fun b3 hb3 => ?_)
    refine o_iload_n dX6_isLetter_23 rfl ?_
    refine o_icmpne (tgt := 31) dX6_isLetter_24 (by decide) (fun u4 => ?_) (fun u4 => ?_)
    · refine o_iconst (v := 0) dX6_isLetter_31 (by decide) ?_
      refine o_goto (tgt := 44) dX6_isLetter_32 (by decide) ?_
      exact o_iret (rt := .boolean) rfl rfl dX6_isLetter_44 rfl (Nat.zero_le _) (Nat.zero_le _)
    · refine o_iconst (v := 1) dX6_isLetter_27 (by decide) ?_
      refine o_goto (tgt := 44) dX6_isLetter_28 (by decide) ?_
      exact o_iret (rt := .boolean) rfl rfl dX6_isLetter_44 rfl (Nat.zero_le _) (Nat.zero_le _)
theorem k_X6_isLetter_o {T : Nat} {st : px_S} {x0 : Int32} {x1 : Int32} {b : Int32} (hf : f_X6_isLetter T st x0 x1 = some b) : px_K (1) 0 0 m_X6_isLetter [.ref 48, .int x0, .int x1] (HP (T + 2) st) (some (.int b)) (HP (T + 2) st) := px_KofH (g := px_g0 (HP (T + 2) st)) hf mf_X6_isLetter (Nat.le_of_ble_eq_true rfl) rfl (t_X6_isLetter T st x0 x1)
theorem k_X6_isLetter {T : Nat} {st : px_S} {x0 : Int32} {x1 : Int32} {b : Int32} (hf : f_X6_isLetter T st x0 x1 = some b) : px_K (1) 0 0 m_X6_isLetter [.ref 48, .int x0, .int x1] (HP (T + 2) st) (some (.int b)) (HP (T + 2) st) := k_X6_isLetter_o hf
/-! ThreeOfThemModel.isWord(IIIIIIII)Z: R, depth 2 -/
def f_X6_isWord (T : Nat) (st : px_S) (x0 : Int32) (x1 : Int32) (x2 : Int32) (x3 : Int32) (x4 : Int32) (x5 : Int32) (x6 : Int32) (x7 : Int32) : Option (Int32) := (if (st 48 29) = 0 then (if (st 48 25) = 1 then (if ((st 48 26) + 8) < (st 48 24) then (some 0) else ((f_X6_isLetter T st 0 x0).bind fun b4 => (if b4 = 0 then (some 0) else ((f_X6_isLetter T st 1 x1).bind fun b6 => (if b6 = 0 then (some 0) else ((f_X6_isLetter T st 2 x2).bind fun b8 => (if b8 = 0 then (some 0) else ((f_X6_isLetter T st 3 x3).bind fun b10 => (if b10 = 0 then (some 0) else ((f_X6_isLetter T st 4 x4).bind fun b12 => (if b12 = 0 then (some 0) else ((f_X6_isLetter T st 5 x5).bind fun b14 => (if b14 = 0 then (some 0) else ((f_X6_isLetter T st 6 x6).bind fun b16 => (if b16 = 0 then (some 0) else ((f_X6_isLetter T st 7 x7).bind fun b18 => (if b18 = 0 then (some 0) else (some 1)))))))))))))))))) else (some 0)) else (some 0))
set_option maxRecDepth 20000 in
theorem t_X6_isWord (T : Nat) (st : px_S) (x0 : Int32) (x1 : Int32) (x2 : Int32) (x3 : Int32) (x4 : Int32) (x5 : Int32) (x6 : Int32) (x7 : Int32) : px_O (2, 0, 0, px_n (T + 2), m_X6_isWord) (px_g0 (HP (T + 2) st)) (f_X6_isWord T st x0 x1 x2 x3 x4 x5 x6 x7) 0 [some (.ref 48), some (.int x0), some (.int x1), some (.int x2), some (.int x3), some (.int x4), some (.int x5), some (.int x6), some (.int x7)] [] (HP (T + 2) st) 0 0 := by
  rw [f_X6_isWord]
  refine o_aload_n dX6_isWord_0 rfl ?_
  refine h_get (v := .int (st 48 29)) dX6_isWord_1 q6 fl_X6_169 (by decide) (px_ltM (by decide)) (c48 _) rfl ?_
  refine o_ifne (tgt := 112) dX6_isWord_4 (by decide) (fun u1 => ?_) (fun u1 => ?_)
  · refine o_iconst (v := 0) dX6_isWord_112 (by decide) ?_
    exact o_iret (rt := .boolean) rfl rfl dX6_isWord_113 rfl (Nat.zero_le _) (Nat.zero_le _)
  · refine o_aload_n dX6_isWord_7 rfl ?_
    refine h_get (v := .int (st 48 25)) dX6_isWord_8 q6 fl_X6_152 (by decide) (px_ltM (by decide)) (c48 _) rfl ?_
    refine o_iconst (v := 1) dX6_isWord_11 (by decide) ?_
    refine o_icmpne (tgt := 112) dX6_isWord_12 (by decide) (fun u2 => ?_) (fun u2 => ?_)
    · refine o_iconst (v := 0) dX6_isWord_112 (by decide) ?_
      exact o_iret (rt := .boolean) rfl rfl dX6_isWord_113 rfl (Nat.zero_le _) (Nat.zero_le _)
    · refine o_aload_n dX6_isWord_15 rfl ?_
      refine h_get (v := .int (st 48 24)) dX6_isWord_16 q6 fl_X6_142 (by decide) (px_ltM (by decide)) (c48 _) rfl ?_
      refine o_aload_n dX6_isWord_19 rfl ?_
      refine h_get (v := .int (st 48 26)) dX6_isWord_20 q6 fl_X6_149 (by decide) (px_ltM (by decide)) (c48 _) rfl ?_
      refine o_bipush (v := 8) dX6_isWord_23 (by decide) ?_
      refine o_iadd dX6_isWord_25 ?_
      refine o_icmpgt (tgt := 112) dX6_isWord_26 (by decide) (fun u3 => ?_) (fun u3 => ?_)
      · refine o_iconst (v := 0) dX6_isWord_112 (by decide) ?_
        exact o_iret (rt := .boolean) rfl rfl dX6_isWord_113 rfl (Nat.zero_le _) (Nat.zero_le _)
      · refine o_aload_n dX6_isWord_29 rfl ?_
        refine o_iconst (v := 0) dX6_isWord_30 (by decide) ?_
        refine o_iload_n dX6_isWord_31 rfl ?_
        refine h_cV0 (as := [.int 0, .int x0]) (S1 := []) (d' := 1) dX6_isWord_32 mf_X6_isLetter ml_X6_176 mv_X6_isLetter q6 rfl (hp_at (px_ltM (by decide)) (c48 _)) rfl (Nat.le_of_ble_eq_true rfl) rfl (Nat.le_of_ble_eq_true rfl) ⟨Nat.zero_le _, Nat.zero_le _⟩ (fun b hb => k_X6_isLetter hb) (fun b4 hb4 => ?_)
        refine o_ifeq (tgt := 112) dX6_isWord_35 (by decide) (fun u5 => ?_) (fun u5 => ?_)
        · refine o_iconst (v := 0) dX6_isWord_112 (by decide) ?_
          exact o_iret (rt := .boolean) rfl rfl dX6_isWord_113 rfl (Nat.zero_le _) (Nat.zero_le _)
        · refine o_aload_n dX6_isWord_38 rfl ?_
          refine o_iconst (v := 1) dX6_isWord_39 (by decide) ?_
          refine o_iload_n dX6_isWord_40 rfl ?_
          refine h_cV0 (as := [.int 1, .int x1]) (S1 := []) (d' := 1) dX6_isWord_41 mf_X6_isLetter ml_X6_176 mv_X6_isLetter q6 rfl (hp_at (px_ltM (by decide)) (c48 _)) rfl (Nat.le_of_ble_eq_true rfl) rfl (Nat.le_of_ble_eq_true rfl) ⟨Nat.zero_le _, Nat.zero_le _⟩ (fun b hb => k_X6_isLetter hb) (fun b6 hb6 => ?_)
          refine o_ifeq (tgt := 112) dX6_isWord_44 (by decide) (fun u7 => ?_) (fun u7 => ?_)
          · refine o_iconst (v := 0) dX6_isWord_112 (by decide) ?_
            exact o_iret (rt := .boolean) rfl rfl dX6_isWord_113 rfl (Nat.zero_le _) (Nat.zero_le _)
          · refine o_aload_n dX6_isWord_47 rfl ?_
            refine o_iconst (v := 2) dX6_isWord_48 (by decide) ?_
            refine o_iload_n dX6_isWord_49 rfl ?_
            refine h_cV0 (as := [.int 2, .int x2]) (S1 := []) (d' := 1) dX6_isWord_50 mf_X6_isLetter ml_X6_176 mv_X6_isLetter q6 rfl (hp_at (px_ltM (by decide)) (c48 _)) rfl (Nat.le_of_ble_eq_true rfl) rfl (Nat.le_of_ble_eq_true rfl) ⟨Nat.zero_le _, Nat.zero_le _⟩ (fun b hb => k_X6_isLetter hb) (fun b8 hb8 => ?_)
            refine o_ifeq (tgt := 112) dX6_isWord_53 (by decide) (fun u9 => ?_) (fun u9 => ?_)
            · refine o_iconst (v := 0) dX6_isWord_112 (by decide) ?_
              exact o_iret (rt := .boolean) rfl rfl dX6_isWord_113 rfl (Nat.zero_le _) (Nat.zero_le _)
            · refine o_aload_n dX6_isWord_56 rfl ?_
              refine o_iconst (v := 3) dX6_isWord_57 (by decide) ?_
              refine o_iload dX6_isWord_58 rfl ?_
              refine h_cV0 (as := [.int 3, .int x3]) (S1 := []) (d' := 1) dX6_isWord_60 mf_X6_isLetter ml_X6_176 mv_X6_isLetter q6 rfl (hp_at (px_ltM (by decide)) (c48 _)) rfl (Nat.le_of_ble_eq_true rfl) rfl (Nat.le_of_ble_eq_true rfl) ⟨Nat.zero_le _, Nat.zero_le _⟩ (fun b hb => k_X6_isLetter hb) (fun b10 hb10 => ?_)
              refine o_ifeq (tgt := 112) dX6_isWord_63 (by decide) (fun u11 => ?_) (fun u11 => ?_)
              · refine o_iconst (v := 0) dX6_isWord_112 (by decide) ?_
                exact o_iret (rt := .boolean) rfl rfl dX6_isWord_113 rfl (Nat.zero_le _) (Nat.zero_le _)
              · refine o_aload_n dX6_isWord_66 rfl ?_
                refine o_iconst (v := 4) dX6_isWord_67 (by decide) ?_
                refine o_iload dX6_isWord_68 rfl ?_
                refine h_cV0 (as := [.int 4, .int x4]) (S1 := []) (d' := 1) dX6_isWord_70 mf_X6_isLetter ml_X6_176 mv_X6_isLetter q6 rfl (hp_at (px_ltM (by decide)) (c48 _)) rfl (Nat.le_of_ble_eq_true rfl) rfl (Nat.le_of_ble_eq_true rfl) ⟨Nat.zero_le _, Nat.zero_le _⟩ (fun b hb => k_X6_isLetter hb) (fun b12 hb12 => ?_)
                refine o_ifeq (tgt := 112) dX6_isWord_73 (by decide) (fun u13 => ?_) (fun u13 => ?_)
                · refine o_iconst (v := 0) dX6_isWord_112 (by decide) ?_
                  exact o_iret (rt := .boolean) rfl rfl dX6_isWord_113 rfl (Nat.zero_le _) (Nat.zero_le _)
                · refine o_aload_n dX6_isWord_76 rfl ?_
                  refine o_iconst (v := 5) dX6_isWord_77 (by decide) ?_
                  refine o_iload dX6_isWord_78 rfl ?_
                  refine h_cV0 (as := [.int 5, .int x5]) (S1 := []) (d' := 1) dX6_isWord_80 mf_X6_isLetter ml_X6_176 mv_X6_isLetter q6 rfl (hp_at (px_ltM (by decide)) (c48 _)) rfl (Nat.le_of_ble_eq_true rfl) rfl (Nat.le_of_ble_eq_true rfl) ⟨Nat.zero_le _, Nat.zero_le _⟩ (fun b hb => k_X6_isLetter hb) (fun b14 hb14 => ?_)
                  refine o_ifeq (tgt := 112) dX6_isWord_83 (by decide) (fun u15 => ?_) (fun u15 => ?_)
                  · refine o_iconst (v := 0) dX6_isWord_112 (by decide) ?_
                    exact o_iret (rt := .boolean) rfl rfl dX6_isWord_113 rfl (Nat.zero_le _) (Nat.zero_le _)
                  · refine o_aload_n dX6_isWord_86 rfl ?_
                    refine o_bipush (v := 6) dX6_isWord_87 (by decide) ?_
                    refine o_iload dX6_isWord_89 rfl ?_
                    refine h_cV0 (as := [.int 6, .int x6]) (S1 := []) (d' := 1) dX6_isWord_91 mf_X6_isLetter ml_X6_176 mv_X6_isLetter q6 rfl (hp_at (px_ltM (by decide)) (c48 _)) rfl (Nat.le_of_ble_eq_true rfl) rfl (Nat.le_of_ble_eq_true rfl) ⟨Nat.zero_le _, Nat.zero_le _⟩ (fun b hb => k_X6_isLetter hb) (fun b16 hb16 => ?_)
                    refine o_ifeq (tgt := 112) dX6_isWord_94 (by decide) (fun u17 => ?_) (fun u17 => ?_)
                    · refine o_iconst (v := 0) dX6_isWord_112 (by decide) ?_
                      exact o_iret (rt := .boolean) rfl rfl dX6_isWord_113 rfl (Nat.zero_le _) (Nat.zero_le _)
                    · refine o_aload_n dX6_isWord_97 rfl ?_
                      refine o_bipush (v := 7) dX6_isWord_98 (by decide) ?_
                      refine o_iload dX6_isWord_100 rfl ?_
                      refine h_cV0 (as := [.int 7, .int x7]) (S1 := []) (d' := 1) dX6_isWord_102 mf_X6_isLetter ml_X6_176 mv_X6_isLetter q6 rfl (hp_at (px_ltM (by decide)) (c48 _)) rfl (Nat.le_of_ble_eq_true rfl) rfl (Nat.le_of_ble_eq_true rfl) ⟨Nat.zero_le _, Nat.zero_le _⟩ (fun b hb => k_X6_isLetter hb) (fun b18 hb18 => ?_)
                      refine o_ifeq (tgt := 112) dX6_isWord_105 (by decide) (fun u19 => ?_) (fun u19 => ?_)
                      · refine o_iconst (v := 0) dX6_isWord_112 (by decide) ?_
                        exact o_iret (rt := .boolean) rfl rfl dX6_isWord_113 rfl (Nat.zero_le _) (Nat.zero_le _)
                      · refine o_iconst (v := 1) dX6_isWord_108 (by decide) ?_
                        refine o_goto (tgt := 113) dX6_isWord_109 (by decide) ?_
                        exact o_iret (rt := .boolean) rfl rfl dX6_isWord_113 rfl (Nat.zero_le _) (Nat.zero_le _)
theorem k_X6_isWord_o {T : Nat} {st : px_S} {x0 : Int32} {x1 : Int32} {x2 : Int32} {x3 : Int32} {x4 : Int32} {x5 : Int32} {x6 : Int32} {x7 : Int32} {b : Int32} (hf : f_X6_isWord T st x0 x1 x2 x3 x4 x5 x6 x7 = some b) : px_K (2) 0 0 m_X6_isWord [.ref 48, .int x0, .int x1, .int x2, .int x3, .int x4, .int x5, .int x6, .int x7] (HP (T + 2) st) (some (.int b)) (HP (T + 2) st) := px_KofH (g := px_g0 (HP (T + 2) st)) hf mf_X6_isWord (Nat.le_of_ble_eq_true rfl) rfl (t_X6_isWord T st x0 x1 x2 x3 x4 x5 x6 x7)
theorem k_X6_isWord {T : Nat} {st : px_S} {x0 : Int32} {x1 : Int32} {x2 : Int32} {x3 : Int32} {x4 : Int32} {x5 : Int32} {x6 : Int32} {x7 : Int32} {b : Int32} (hf : f_X6_isWord T st x0 x1 x2 x3 x4 x5 x6 x7 = some b) : px_K (2) 0 0 m_X6_isWord [.ref 48, .int x0, .int x1, .int x2, .int x3, .int x4, .int x5, .int x6, .int x7] (HP (T + 2) st) (some (.int b)) (HP (T + 2) st) := k_X6_isWord_o hf
/-! ThreeOfThemModel.isSign(I)Z: R, depth 0 -/
def f_X6_isSign (T : Nat) (st : px_S) (x0 : Int32) : Option (Int32) := (if (st 48 29) = 0 then (if (st 48 25) = 3 then (if (lg_cmp (st 48 27).toInt64 x0.toInt64) = 0 then (some 1) else (some 0)) else (some 0)) else (some 0))
set_option maxRecDepth 20000 in
theorem t_X6_isSign (T : Nat) (st : px_S) (x0 : Int32) : px_O (0, 0, 0, px_n (T + 2), m_X6_isSign) (px_g0 (HP (T + 2) st)) (f_X6_isSign T st x0) 0 [some (.ref 48), some (.int x0)] [] (HP (T + 2) st) 0 0 := by
  rw [f_X6_isSign]
  refine o_aload_n dX6_isSign_0 rfl ?_
  refine h_get (v := .int (st 48 29)) dX6_isSign_1 q6 fl_X6_169 (by decide) (px_ltM (by decide)) (c48 _) rfl ?_
  refine o_ifne (tgt := 29) dX6_isSign_4 (by decide) (fun u1 => ?_) (fun u1 => ?_)
  · refine o_iconst (v := 0) dX6_isSign_29 (by decide) ?_
    exact o_iret (rt := .boolean) rfl rfl dX6_isSign_30 rfl (Nat.zero_le _) (Nat.zero_le _)
  · refine o_aload_n dX6_isSign_7 rfl ?_
    refine h_get (v := .int (st 48 25)) dX6_isSign_8 q6 fl_X6_152 (by decide) (px_ltM (by decide)) (c48 _) rfl ?_
    refine o_iconst (v := 3) dX6_isSign_11 (by decide) ?_
    refine o_icmpne (tgt := 29) dX6_isSign_12 (by decide) (fun u2 => ?_) (fun u2 => ?_)
    · refine o_iconst (v := 0) dX6_isSign_29 (by decide) ?_
      exact o_iret (rt := .boolean) rfl rfl dX6_isSign_30 rfl (Nat.zero_le _) (Nat.zero_le _)
    · refine o_aload_n dX6_isSign_15 rfl ?_
      refine h_get (v := .long (st 48 27).toInt64) dX6_isSign_16 q6 fl_X6_163 (by decide) (px_ltM (by decide)) (c48 _) rfl ?_
      refine o_iload_n dX6_isSign_19 rfl ?_
      refine o_i2l dX6_isSign_20 ?_
      refine o_lcmp dX6_isSign_21 ?_
      refine o_ifne (tgt := 29) dX6_isSign_22 (by decide) (fun u3 => ?_) (fun u3 => ?_)
      · refine o_iconst (v := 0) dX6_isSign_29 (by decide) ?_
        exact o_iret (rt := .boolean) rfl rfl dX6_isSign_30 rfl (Nat.zero_le _) (Nat.zero_le _)
      · refine o_iconst (v := 1) dX6_isSign_25 (by decide) ?_
        refine o_goto (tgt := 30) dX6_isSign_26 (by decide) ?_
        exact o_iret (rt := .boolean) rfl rfl dX6_isSign_30 rfl (Nat.zero_le _) (Nat.zero_le _)
theorem k_X6_isSign_o {T : Nat} {st : px_S} {x0 : Int32} {b : Int32} (hf : f_X6_isSign T st x0 = some b) : px_K (0) 0 0 m_X6_isSign [.ref 48, .int x0] (HP (T + 2) st) (some (.int b)) (HP (T + 2) st) := px_KofH (g := px_g0 (HP (T + 2) st)) hf mf_X6_isSign (Nat.le_of_ble_eq_true rfl) rfl (t_X6_isSign T st x0)
theorem k_X6_isSign {T : Nat} {st : px_S} {x0 : Int32} {b : Int32} (hf : f_X6_isSign T st x0 = some b) : px_K (0) 0 0 m_X6_isSign [.ref 48, .int x0] (HP (T + 2) st) (some (.int b)) (HP (T + 2) st) := k_X6_isSign_o hf
