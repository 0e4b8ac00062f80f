/-! ThreeOfThemModel.dayMore()V: S, depth 0 -/
def f_X6_dayMore (T : Nat) (st : px_S) : Option (px_S) := (if (st 48 15) < 999 then (some (up st 48 15 ((st 48 15) + 1))) else (some (up st 48 15 999)))
set_option maxRecDepth 20000 in
theorem t_X6_dayMore (T : Nat) (st : px_S) : px_O (0, 0, 0, px_n (T + 2), m_X6_dayMore) (px_gv (T + 2)) (f_X6_dayMore T st) 0 [some (.ref 48)] [] (HP (T + 2) st) 0 0 := by
  rw [f_X6_dayMore]
  refine o_aload_n dX6_dayMore_0 rfl ?_
  refine o_aload_n dX6_dayMore_1 rfl ?_
  refine h_get (v := .int (st 48 15)) dX6_dayMore_2 q6 fl_X6_128 (by decide) (px_ltM (by decide)) (c48 _) rfl ?_
  refine o_sipush (v := 999) dX6_dayMore_5 (by decide) ?_
  refine o_icmpge (tgt := 20) dX6_dayMore_8 (by decide) (fun u1 => ?_) (fun u1 => ?_)
  · refine o_sipush (v := 999) dX6_dayMore_20 (by decide) ?_
    refine h_puti dX6_dayMore_23 q6 fl_X6_128 pf_X6_15 (px_ltM (by decide)) (c48 _) (Nat.le_of_ble_eq_true rfl) (s48_15 _ _) ?_
    exact o_vret rfl dX6_dayMore_26 rfl (Nat.zero_le _) (Nat.zero_le _)
  · refine o_aload_n dX6_dayMore_11 rfl ?_
    refine h_get (v := .int (st 48 15)) dX6_dayMore_12 q6 fl_X6_128 (by decide) (px_ltM (by decide)) (c48 _) rfl ?_
    refine o_iconst (v := 1) dX6_dayMore_15 (by decide) ?_
    refine o_iadd dX6_dayMore_16 ?_
    refine o_goto (tgt := 23) dX6_dayMore_17 (by decide) ?_
    refine h_puti dX6_dayMore_23 q6 fl_X6_128 pf_X6_15 (px_ltM (by decide)) (c48 _) (Nat.le_of_ble_eq_true rfl) (s48_15 _ _) ?_
    exact o_vret rfl dX6_dayMore_26 rfl (Nat.zero_le _) (Nat.zero_le _)
theorem k_X6_dayMore {T : Nat} {st : px_S} {b : px_S} (hf : f_X6_dayMore T st = some b) : px_K (0) 0 0 m_X6_dayMore [.ref 48] (HP (T + 2) st) ((px_gv (T + 2)) b).1 ((px_gv (T + 2)) b).2 := px_KofH hf mf_X6_dayMore (Nat.le_of_ble_eq_true rfl) rfl (t_X6_dayMore T st)
/-! ThreeOfThemModel.turnOut(II)I: S, depth 46 -/
def f_X6_turnOut (T : Nat) (x0 : Int32) (x1 : Int32) (st : px_S) : Option (Int32 × px_S) := ((f_X6_would T x0 x1 st).bind fun b1 => (if b1.1 < 1 then (if b1.1 = (-2) then (some ((-2), b1.2)) else (some ((-3), b1.2))) else ((f_X6_dayMore T (up b1.2 48 12 ((b1.2 48 12) &&& (((1 : Int32) <<< (x1 &&& 31)) ^^^ (-1))))).bind fun b3 => ((f_X6_bitsOf (b3 48 12)).bind fun b4 => (some (b4, b3))))))
set_option maxRecDepth 20000 in
theorem t_X6_turnOut (T : Nat) (x0 : Int32) (x1 : Int32) (st : px_S) : px_O (46, 0, 0, px_n (T + 2), m_X6_turnOut) (px_gi (T + 2)) (f_X6_turnOut T x0 x1 st) 0 [some (.ref 48), some (.int x0), some (.int x1), none] [] (HP (T + 2) st) 0 0 := by
  rw [f_X6_turnOut]
  refine o_aload_n dX6_turnOut_0 rfl ?_
  refine o_iload_n dX6_turnOut_1 rfl ?_
  refine o_iload_n dX6_turnOut_2 rfl ?_
  refine h_cVi (as := [.int x0, .int x1]) (S1 := []) (d' := 45) dX6_turnOut_3 mf_X6_would ml_X6_400 mv_X6_would q6 rfl (hp_at (px_ltM (by decide)) (c48 _)) rfl (Nat.le_of_ble_eq_true rfl) rfl (Nat.le_of_ble_eq_true rfl) (fun b hb => k_X6_would hb) (fun b1 hb1 => ?_)
  refine o_istore_n (L' := [some (.ref 48), some (.int x0), some (.int x1), some (.int b1.1)]) dX6_turnOut_6 (Nat.le_of_ble_eq_true rfl) rfl rfl ?_
  refine o_iload_n dX6_turnOut_7 rfl ?_
  refine o_iconst (v := 1) dX6_turnOut_8 (by decide) ?_
  refine o_icmpge (tgt := 26) dX6_turnOut_9 (by decide) (fun u2 => ?_) (fun u2 => ?_)
  · refine o_aload_n dX6_turnOut_26 rfl ?_
    refine o_dup dX6_turnOut_27 rfl ?_
    refine h_get (v := .int (b1.2 48 12)) dX6_turnOut_28 q6 fl_X6_105 (by decide) (px_ltM (by decide)) (c48 _) rfl ?_
    refine o_iconst (v := 1) dX6_turnOut_31 (by decide) ?_
    refine o_iload_n dX6_turnOut_32 rfl ?_
    refine o_ishl dX6_turnOut_33 ?_
    refine o_iconst (v := (-1)) dX6_turnOut_34 (by decide) ?_
    refine o_ixor dX6_turnOut_35 ?_
    refine o_iand dX6_turnOut_36 ?_
    refine h_puti dX6_turnOut_37 q6 fl_X6_105 pf_X6_12 (px_ltM (by decide)) (c48 _) (Nat.le_of_ble_eq_true rfl) (s48_12 _ _) ?_
    refine o_aload_n dX6_turnOut_40 rfl ?_
    refine h_cVv (as := []) (S1 := []) (d' := 0) dX6_turnOut_41 mf_X6_dayMore ml_X6_403 mv_X6_dayMore q6 rfl (hp_at (px_ltM (by decide)) (c48 _)) rfl (Nat.le_of_ble_eq_true rfl) rfl (Nat.le_of_ble_eq_true rfl) (fun b hb => k_X6_dayMore hb) (fun b3 hb3 => ?_)
    refine o_aload_n dX6_turnOut_44 rfl ?_
    refine h_get (v := .int (b3 48 12)) dX6_turnOut_45 q6 fl_X6_105 (by decide) (px_ltM (by decide)) (c48 _) rfl ?_
    refine h_cS0 (as := [.int (b3 48 12)]) (S1 := []) (d' := 0) dX6_turnOut_48 mf_X6_bitsOf ml_X6_348 ms_X6_bitsOf rfl (Nat.le_of_ble_eq_true rfl) rfl (Nat.le_of_ble_eq_true rfl) ⟨Nat.zero_le _, Nat.zero_le _⟩ (fun b hb => k_X6_bitsOf hb) (fun b4 hb4 => ?_)
    exact o_iret (rt := .int) rfl rfl dX6_turnOut_51 rfl (Nat.zero_le _) (Nat.zero_le _)
  · refine o_iload_n dX6_turnOut_12 rfl ?_
    refine o_bipush (v := (-2)) dX6_turnOut_13 (by decide) ?_
    refine o_icmpne (tgt := 23) dX6_turnOut_15 (by decide) (fun u5 => ?_) (fun u5 => ?_)
    · refine o_bipush (v := (-3)) dX6_turnOut_23 (by decide) ?_
      exact o_iret (rt := .int) rfl rfl dX6_turnOut_25 rfl (Nat.zero_le _) (Nat.zero_le _)
    · refine o_bipush (v := (-2)) dX6_turnOut_18 (by decide) ?_
      refine o_goto (tgt := 25) dX6_turnOut_20 (by decide) ?_
      exact o_iret (rt := .int) rfl rfl dX6_turnOut_25 rfl (Nat.zero_le _) (Nat.zero_le _)
theorem k_X6_turnOut {T : Nat} {st : px_S} {x0 : Int32} {x1 : Int32} {b : Int32 × px_S} (hf : f_X6_turnOut T x0 x1 st = some b) : px_K (46) 0 0 m_X6_turnOut [.ref 48, .int x0, .int x1] (HP (T + 2) st) ((px_gi (T + 2)) b).1 ((px_gi (T + 2)) b).2 := px_KofH hf mf_X6_turnOut (Nat.le_of_ble_eq_true rfl) rfl (t_X6_turnOut T x0 x1 st)
/-! ThreeOfThemModel.goOn(I)I: S, depth 45 -/
def f_X6_goOn_36 (T : Nat) : Nat → Int32 → Int32 → Int32 → Int32 → px_S → Option (Int32 × px_S)
  | 0, _, _, _, _, _ => none
  | n + 1, y1, y2, y3, y4, st => ((f_X6_isRest T st).bind fun b1 => (if b1.1 = 0 then (if px_in y4 7 then ((f_X6_dayMore T (up (up b1.2 59 y4.toNatClampNeg (b1.2 48 36)) 48 12 ((b1.2 48 12) &&& (((1 : Int32) <<< ((b1.2 48 36) &&& 31)) ^^^ (-1))))).bind fun b8 => ((f_X6_looks T (b8 48 12) b8).bind fun b9 => ((f_X6_goOn_36 T n) y1 y2 y3 (y4 + 1) b9))) else none) else (if y1 = 0 then (some ((b1.2 48 12), (up (up b1.2 48 12 y2) 48 15 y3))) else (if y1 = 1 then (some (y4, (up (up b1.2 48 12 y2) 48 15 y3))) else (if (y1 - 2) < y4 then (if px_in (y1 - 2) 7 then (some (((up (up b1.2 48 12 y2) 48 15 y3) 59 (y1 - 2).toNatClampNeg), (up (up b1.2 48 12 y2) 48 15 y3))) else none) else (some ((-1), (up (up b1.2 48 12 y2) 48 15 y3))))))))
set_option maxRecDepth 20000 in
theorem t_X6_goOn_36 (T : Nat) : ∀ (n : Nat) (y1 : Int32) (y2 : Int32) (y3 : Int32) (y4 : Int32) (st : px_S), px_O (45, 0, 0, px_n (T + 2), m_X6_goOn) (px_gi (T + 2)) (f_X6_goOn_36 T n y1 y2 y3 y4 st) 36 [some (.ref 48), some (.int y1), some (.int y2), some (.int y3), some (.int y4), none] [] (HP (T + 2) st) 0 0 := by
  intro n
  induction n with
  | zero => intro y1 y2 y3 y4 st; rw [f_X6_goOn_36]; exact o_none
  | succ n ih =>
    intro y1 y2 y3 y4 st
    rw [f_X6_goOn_36]
    refine o_aload_n dX6_goOn_36 rfl ?_
    refine h_cVi (as := []) (S1 := []) (d' := 4) dX6_goOn_37 mf_X6_isRest ml_X6_408 mv_X6_isRest q6 rfl (hp_at (px_ltM (by decide)) (c48 _)) rfl (Nat.le_of_ble_eq_true rfl) rfl (Nat.le_of_ble_eq_true rfl) (fun b hb => k_X6_isRest hb) (fun b1 hb1 => ?_)
    refine o_ifne (tgt := 89) dX6_goOn_40 (by decide) (fun u2 => ?_) (fun u2 => ?_)
    · refine o_aload_n dX6_goOn_89 rfl ?_
      refine h_get (v := .int (b1.2 48 12)) dX6_goOn_90 q6 fl_X6_105 (by decide) (px_ltM (by decide)) (c48 _) rfl ?_
      refine o_istore (L' := [some (.ref 48), some (.int y1), some (.int y2), some (.int y3), some (.int y4), some (.int (b1.2 48 12))]) dX6_goOn_93 (Nat.le_of_ble_eq_true rfl) rfl rfl ?_
      refine o_aload_n dX6_goOn_95 rfl ?_
      refine o_iload_n dX6_goOn_96 rfl ?_
      refine h_puti dX6_goOn_97 q6 fl_X6_105 pf_X6_12 (px_ltM (by decide)) (c48 _) (Nat.le_of_ble_eq_true rfl) (s48_12 _ _) ?_
      refine o_aload_n dX6_goOn_100 rfl ?_
      refine o_iload_n dX6_goOn_101 rfl ?_
      refine h_puti dX6_goOn_102 q6 fl_X6_128 pf_X6_15 (px_ltM (by decide)) (c48 _) (Nat.le_of_ble_eq_true rfl) (s48_15 _ _) ?_
      refine o_iload_n dX6_goOn_105 rfl ?_
      refine o_ifne (tgt := 114) dX6_goOn_106 (by decide) (fun u3 => ?_) (fun u3 => ?_)
      · refine o_iload_n dX6_goOn_114 rfl ?_
        refine o_iconst (v := 1) dX6_goOn_115 (by decide) ?_
        refine o_icmpne (tgt := 124) dX6_goOn_116 (by decide) (fun u4 => ?_) (fun u4 => ?_)
        · refine o_iload_n dX6_goOn_124 rfl ?_
          refine o_iconst (v := 2) dX6_goOn_125 (by decide) ?_
          refine o_isub dX6_goOn_126 ?_
          refine o_iload dX6_goOn_127 rfl ?_
          refine o_icmpge (tgt := 143) dX6_goOn_129 (by decide) (fun u5 => ?_) (fun u5 => ?_)
          · refine o_iconst (v := (-1)) dX6_goOn_143 (by decide) ?_
            exact o_iret (rt := .int) rfl rfl dX6_goOn_144 rfl (Nat.zero_le _) (Nat.zero_le _)
          · refine o_aload_n dX6_goOn_132 rfl ?_
            refine h_get (v := .ref 59) dX6_goOn_133 q6 fl_X6_50 (by decide) (px_ltM (by decide)) (c48 _) rfl ?_
            refine o_iload_n dX6_goOn_136 rfl ?_
            refine o_iconst (v := 2) dX6_goOn_137 (by decide) ?_
            refine o_isub dX6_goOn_138 ?_
            refine h_iald (n := 7) dX6_goOn_139 (px_ltM (by decide)) (c59 _) (fun u6 => ?_)
            refine o_goto (tgt := 144) dX6_goOn_140 (by decide) ?_
            exact o_iret (rt := .int) rfl rfl dX6_goOn_144 rfl (Nat.zero_le _) (Nat.zero_le _)
        · refine o_iload dX6_goOn_119 rfl ?_
          refine o_goto (tgt := 144) dX6_goOn_121 (by decide) ?_
          exact o_iret (rt := .int) rfl rfl dX6_goOn_144 rfl (Nat.zero_le _) (Nat.zero_le _)
      · refine o_iload dX6_goOn_109 rfl ?_
        refine o_goto (tgt := 144) dX6_goOn_111 (by decide) ?_
        exact o_iret (rt := .int) rfl rfl dX6_goOn_144 rfl (Nat.zero_le _) (Nat.zero_le _)
    · refine o_aload_n dX6_goOn_43 rfl ?_
      refine h_get (v := .ref 59) dX6_goOn_44 q6 fl_X6_50 (by decide) (px_ltM (by decide)) (c48 _) rfl ?_
      refine o_iload dX6_goOn_47 rfl ?_
      refine o_aload_n dX6_goOn_49 rfl ?_
      refine h_get (v := .int (b1.2 48 36)) dX6_goOn_50 q6 fl_X6_380 (by decide) (px_ltM (by decide)) (c48 _) rfl ?_
      refine h_iast (n := 7) dX6_goOn_53 (px_ltM (by decide)) c59 (fun u7 => ?_)
      refine o_iinc (v := (y4 + 1)) (L' := [some (.ref 48), some (.int y1), some (.int y2), some (.int y3), some (.int (y4 + 1)), none]) dX6_goOn_54 rfl rfl (Nat.le_of_ble_eq_true rfl) rfl rfl ?_
      refine o_aload_n dX6_goOn_57 rfl ?_
      refine o_dup dX6_goOn_58 rfl ?_
      refine h_get (v := .int (b1.2 48 12)) dX6_goOn_59 q6 fl_X6_105 (by decide) (px_ltM (by decide)) (c48 _) rfl ?_
      refine o_iconst (v := 1) dX6_goOn_62 (by decide) ?_
      refine o_aload_n dX6_goOn_63 rfl ?_
      refine h_get (v := .int (b1.2 48 36)) dX6_goOn_64 q6 fl_X6_380 (by decide) (px_ltM (by decide)) (c48 _) rfl ?_
      refine o_ishl dX6_goOn_67 ?_
      refine o_iconst (v := (-1)) dX6_goOn_68 (by decide) ?_
      refine o_ixor dX6_goOn_69 ?_
      refine o_iand dX6_goOn_70 ?_
      refine h_puti dX6_goOn_71 q6 fl_X6_105 pf_X6_12 (px_ltM (by decide)) (c48 _) (Nat.le_of_ble_eq_true rfl) (s48_12 _ _) ?_
      refine o_aload_n dX6_goOn_74 rfl ?_
      refine h_cVv (as := []) (S1 := []) (d' := 0) dX6_goOn_75 mf_X6_dayMore ml_X6_403 mv_X6_dayMore q6 rfl (hp_at (px_ltM (by decide)) (c48 _)) rfl (Nat.le_of_ble_eq_true rfl) rfl (Nat.le_of_ble_eq_true rfl) (fun b hb => k_X6_dayMore hb) (fun b8 hb8 => ?_)
      refine o_aload_n dX6_goOn_78 rfl ?_
      refine o_aload_n dX6_goOn_79 rfl ?_
      refine h_get (v := .int (b8 48 12)) dX6_goOn_80 q6 fl_X6_105 (by decide) (px_ltM (by decide)) (c48 _) rfl ?_
      refine h_cVv (as := [.int (b8 48 12)]) (S1 := []) (d' := 44) dX6_goOn_83 mf_X6_looks ml_X6_396 mv_X6_looks q6 rfl (hp_at (px_ltM (by decide)) (c48 _)) rfl (Nat.le_of_ble_eq_true rfl) rfl (Nat.le_of_ble_eq_true rfl) (fun b hb => k_X6_looks hb) (fun b9 hb9 => ?_)
      refine o_goto (tgt := 36) dX6_goOn_86 (by decide) ?_
      exact (ih y1 y2 y3 (y4 + 1) b9)
def f_X6_goOn (T : Nat) (x0 : Int32) (st : px_S) : Option (Int32 × px_S) := (if (p_X6_in x0.toInt64 0 6) = 0 then (some ((-2), st)) else ((f_X6_looks T (st 48 12) st).bind fun b11 => (f_X6_goOn_36 T 1000 x0 (st 48 12) (st 48 15) 0 b11)))
set_option maxRecDepth 20000 in
theorem t_X6_goOn (T : Nat) (x0 : Int32) (st : px_S) : px_O (45, 0, 0, px_n (T + 2), m_X6_goOn) (px_gi (T + 2)) (f_X6_goOn T x0 st) 0 [some (.ref 48), some (.int x0), none, none, none, none] [] (HP (T + 2) st) 0 0 := by
  rw [f_X6_goOn]
  refine o_iload_n dX6_goOn_0 rfl ?_
  refine o_i2l dX6_goOn_1 ?_
  refine o_lconst (v := 0) dX6_goOn_2 (by decide) ?_
  refine o_ldc2 (v := 6) dX6_goOn_3 cst_X6_406 ?_
  refine h_cSP (as := [.long x0.toInt64, .long 0, .long 6]) (S1 := []) (d' := 0) dX6_goOn_6 mf_X6_in ml_X6_97 ms_X6_in rfl (Nat.le_of_ble_eq_true rfl) rfl (Nat.le_of_ble_eq_true rfl) ⟨Nat.zero_le _, Nat.zero_le _⟩ (k_X6_in) ?_
  refine o_ifne (tgt := 15) dX6_goOn_9 (by decide) (fun u10 => ?_) (fun u10 => ?_)
  · refine o_aload_n dX6_goOn_15 rfl ?_
    refine h_get (v := .int (st 48 12)) dX6_goOn_16 q6 fl_X6_105 (by decide) (px_ltM (by decide)) (c48 _) rfl ?_
    refine o_istore_n (L' := [some (.ref 48), some (.int x0), some (.int (st 48 12)), none, none, none]) dX6_goOn_19 (Nat.le_of_ble_eq_true rfl) rfl rfl ?_
    refine o_aload_n dX6_goOn_20 rfl ?_
    refine h_get (v := .int (st 48 15)) dX6_goOn_21 q6 fl_X6_128 (by decide) (px_ltM (by decide)) (c48 _) rfl ?_
    refine o_istore_n (L' := [some (.ref 48), some (.int x0), some (.int (st 48 12)), some (.int (st 48 15)), none, none]) dX6_goOn_24 (Nat.le_of_ble_eq_true rfl) rfl rfl ?_
    refine o_iconst (v := 0) dX6_goOn_25 (by decide) ?_
    refine o_istore (L' := [some (.ref 48), some (.int x0), some (.int (st 48 12)), some (.int (st 48 15)), some (.int 0), none]) dX6_goOn_26 (Nat.le_of_ble_eq_true rfl) rfl rfl ?_
    refine o_aload_n dX6_goOn_28 rfl ?_
    refine o_aload_n dX6_goOn_29 rfl ?_
    refine h_get (v := .int (st 48 12)) dX6_goOn_30 q6 fl_X6_105 (by decide) (px_ltM (by decide)) (c48 _) rfl ?_
    refine h_cVv (as := [.int (st 48 12)]) (S1 := []) (d' := 44) dX6_goOn_33 mf_X6_looks ml_X6_396 mv_X6_looks q6 rfl (hp_at (px_ltM (by decide)) (c48 _)) rfl (Nat.le_of_ble_eq_true rfl) rfl (Nat.le_of_ble_eq_true rfl) (fun b hb => k_X6_looks hb) (fun b11 hb11 => ?_)
    exact (t_X6_goOn_36 T 1000 x0 (st 48 12) (st 48 15) 0 b11)
  · refine o_bipush (v := (-2)) dX6_goOn_12 (by decide) ?_
    exact o_iret (rt := .int) rfl rfl dX6_goOn_14 rfl (Nat.zero_le _) (Nat.zero_le _)
theorem k_X6_goOn {T : Nat} {st : px_S} {x0 : Int32} {b : Int32 × px_S} (hf : f_X6_goOn T x0 st = some b) : px_K (45) 0 0 m_X6_goOn [.ref 48, .int x0] (HP (T + 2) st) ((px_gi (T + 2)) b).1 ((px_gi (T + 2)) b).2 := px_KofH hf mf_X6_goOn (Nat.le_of_ble_eq_true rfl) rfl (t_X6_goOn T x0 st)
/-! ThreeOfThemModel.foreseen(IIII)Z: S, depth 43 -/
def f_X6_foreseen_75 (T : Nat) (y1 : Int32) (y3 : Int32) (y4 : Int32) (y6 : Int32) (z0 : Int32) (z1 : Int32) (st : px_S) : Option (Int32 × px_S) := (if px_in (((7 : Int32) * y3) + y1) 896 then ((f_X6_wants T st y1 y4 y6).bind fun b2 => (if (z1 - z0) < ((st 61 (((7 : Int32) * y3) + y1).toNatClampNeg) + b2) then (some (0, st)) else (some (1, st)))) else none)
set_option maxRecDepth 20000 in
theorem t_X6_foreseen_75 (T : Nat) (y1 : Int32) (y3 : Int32) (y4 : Int32) (y6 : Int32) (z0 : Int32) (z1 : Int32) (st : px_S) : px_O (43, 0, 0, px_n (T + 2), m_X6_foreseen) (px_gi (T + 2)) (f_X6_foreseen_75 T y1 y3 y4 y6 z0 z1 st) 75 [some (.ref 48), some (.int y1), none, some (.int y3), some (.int y4), none, some (.int y6)] [.int z0, .int z1] (HP (T + 2) st) 0 0 := by
  rw [f_X6_foreseen_75]
  refine o_isub dX6_foreseen_75 ?_
  refine o_aload_n dX6_foreseen_76 rfl ?_
  refine h_get (v := .ref 61) dX6_foreseen_77 q6 fl_X6_56 (by decide) (px_ltM (by decide)) (c48 _) rfl ?_
  refine o_bipush (v := 7) dX6_foreseen_80 (by decide) ?_
  refine o_iload_n dX6_foreseen_82 rfl ?_
  refine o_imul dX6_foreseen_83 ?_
  refine o_iload_n dX6_foreseen_84 rfl ?_
  refine o_iadd dX6_foreseen_85 ?_
  refine h_iald (n := 896) dX6_foreseen_86 (px_ltM (by decide)) (c61 _) (fun u1 => ?_)
  refine o_aload_n dX6_foreseen_87 rfl ?_
  refine o_iload_n dX6_foreseen_88 rfl ?_
  refine o_iload dX6_foreseen_89 rfl ?_
  refine o_iload dX6_foreseen_91 rfl ?_
  refine h_cV0 (as := [.int y1, .int y4, .int y6]) (S1 := [.int (st 61 (((7 : Int32) * y3) + y1).toNatClampNeg), .int (z1 - z0)]) (d' := 0) dX6_foreseen_93 mf_X6_wants ml_X6_361 mv_X6_wants q6 rfl (hp_at (px_ltM (by decide)) (c48 _)) rfl (Nat.le_of_ble_eq_true rfl) rfl (Nat.le_of_ble_eq_true rfl) ⟨Nat.zero_le _, Nat.zero_le _⟩ (fun b hb => k_X6_wants hb) (fun b2 hb2 => ?_)
  refine o_iadd dX6_foreseen_96 ?_
  refine o_icmplt (tgt := 104) dX6_foreseen_97 (by decide) (fun u3 => ?_) (fun u3 => ?_)
  · refine o_iconst (v := 0) dX6_foreseen_104 (by decide) ?_
    exact o_iret (rt := .boolean) rfl rfl dX6_foreseen_105 rfl (Nat.zero_le _) (Nat.zero_le _)
  · refine o_iconst (v := 1) dX6_foreseen_100 (by decide) ?_
    refine o_goto (tgt := 105) dX6_foreseen_101 (by decide) ?_
    exact o_iret (rt := .boolean) rfl rfl dX6_foreseen_105 rfl (Nat.zero_le _) (Nat.zero_le _)
def f_X6_foreseen (T : Nat) (x0 : Int32) (x1 : Int32) (x2 : Int32) (x3 : Int32) (st : px_S) : Option (Int32 × px_S) := (if px_in (x2 &&& (((1 : Int32) <<< (x1 &&& 31)) ^^^ (-1))) 128 then (if (((st 60 (x2 &&& (((1 : Int32) <<< (x1 &&& 31)) ^^^ (-1))).toNatClampNeg) >>> (x0 &&& 31)) &&& 1) = 0 then (some (0, st)) else ((f_X6_says T 2 x0 x1 x3 st).bind fun b6 => (if b6.1 = 0 then (some (0, b6.2)) else ((f_X6_areSworn T b6.2 x0 x1).bind fun b8 => (if px_in (((7 : Int32) * (st 60 (x2 &&& (((1 : Int32) <<< (x1 &&& 31)) ^^^ (-1))).toNatClampNeg)) + x0) 896 then (if b8 = 0 then (f_X6_foreseen_75 T x0 x2 x3 b8 0 (b6.2 61 (((7 : Int32) * (st 60 (x2 &&& (((1 : Int32) <<< (x1 &&& 31)) ^^^ (-1))).toNatClampNeg)) + x0).toNatClampNeg) b6.2) else ((f_X6_says T 1 x0 x1 x3 b6.2).bind fun b11 => (f_X6_foreseen_75 T x0 x2 x3 b8 b11.1 (b6.2 61 (((7 : Int32) * (st 60 (x2 &&& (((1 : Int32) <<< (x1 &&& 31)) ^^^ (-1))).toNatClampNeg)) + x0).toNatClampNeg) b11.2))) else none))))) else none)
set_option maxRecDepth 20000 in
theorem t_X6_foreseen (T : Nat) (x0 : Int32) (x1 : Int32) (x2 : Int32) (x3 : Int32) (st : px_S) : px_O (43, 0, 0, px_n (T + 2), m_X6_foreseen) (px_gi (T + 2)) (f_X6_foreseen T x0 x1 x2 x3 st) 0 [some (.ref 48), some (.int x0), some (.int x1), some (.int x2), some (.int x3), none, none] [] (HP (T + 2) st) 0 0 := by
  rw [f_X6_foreseen]
  refine o_aload_n dX6_foreseen_0 rfl ?_
  refine h_get (v := .ref 60) dX6_foreseen_1 q6 fl_X6_53 (by decide) (px_ltM (by decide)) (c48 _) rfl ?_
  refine o_iload_n dX6_foreseen_4 rfl ?_
  refine o_iconst (v := 1) dX6_foreseen_5 (by decide) ?_
  refine o_iload_n dX6_foreseen_6 rfl ?_
  refine o_ishl dX6_foreseen_7 ?_
  refine o_iconst (v := (-1)) dX6_foreseen_8 (by decide) ?_
  refine o_ixor dX6_foreseen_9 ?_
  refine o_iand dX6_foreseen_10 ?_
  refine h_iald (n := 128) dX6_foreseen_11 (px_ltM (by decide)) (c60 _) (fun u4 => ?_)
  refine o_istore (L' := [some (.ref 48), some (.int x0), some (.int x1), some (.int x2), some (.int x3), some (.int (st 60 (x2 &&& (((1 : Int32) <<< (x1 &&& 31)) ^^^ (-1))).toNatClampNeg)), none]) dX6_foreseen_12 (Nat.le_of_ble_eq_true rfl) rfl rfl ?_
  refine o_iload dX6_foreseen_14 rfl ?_
  refine o_iload_n dX6_foreseen_16 rfl ?_
  refine o_ishr dX6_foreseen_17 ?_
  refine o_iconst (v := 1) dX6_foreseen_18 (by decide) ?_
  refine o_iand dX6_foreseen_19 ?_
  refine o_ifeq (tgt := 35) dX6_foreseen_20 (by decide) (fun u5 => ?_) (fun u5 => ?_)
  · refine o_iconst (v := 0) dX6_foreseen_35 (by decide) ?_
    exact o_iret (rt := .boolean) rfl rfl dX6_foreseen_36 rfl (Nat.zero_le _) (Nat.zero_le _)
  · refine o_aload_n dX6_foreseen_23 rfl ?_
    refine o_iconst (v := 2) dX6_foreseen_24 (by decide) ?_
    refine o_iload_n dX6_foreseen_25 rfl ?_
    refine o_iload_n dX6_foreseen_26 rfl ?_
    refine o_iload dX6_foreseen_27 rfl ?_
    refine h_cVi (as := [.int 2, .int x0, .int x1, .int x3]) (S1 := []) (d' := 42) dX6_foreseen_29 mf_X6_says ml_X6_351 mv_X6_says q6 rfl (hp_at (px_ltM (by decide)) (c48 _)) rfl (Nat.le_of_ble_eq_true rfl) rfl (Nat.le_of_ble_eq_true rfl) (fun b hb => k_X6_says hb) (fun b6 hb6 => ?_)
    refine o_ifne (tgt := 37) dX6_foreseen_32 (by decide) (fun u7 => ?_) (fun u7 => ?_)
    · refine o_aload_n dX6_foreseen_37 rfl ?_
      refine o_iload_n dX6_foreseen_38 rfl ?_
      refine o_iload_n dX6_foreseen_39 rfl ?_
      refine h_cV0 (as := [.int x0, .int x1]) (S1 := []) (d' := 0) dX6_foreseen_40 mf_X6_areSworn ml_X6_112 mv_X6_areSworn q6 rfl (hp_at (px_ltM (by decide)) (c48 _)) rfl (Nat.le_of_ble_eq_true rfl) rfl (Nat.le_of_ble_eq_true rfl) ⟨Nat.zero_le _, Nat.zero_le _⟩ (fun b hb => k_X6_areSworn hb) (fun b8 hb8 => ?_)
      refine o_istore (L' := [some (.ref 48), some (.int x0), some (.int x1), some (.int x2), some (.int x3), some (.int (st 60 (x2 &&& (((1 : Int32) <<< (x1 &&& 31)) ^^^ (-1))).toNatClampNeg)), some (.int b8)]) dX6_foreseen_43 (Nat.le_of_ble_eq_true rfl) rfl rfl ?_
      refine o_aload_n dX6_foreseen_45 rfl ?_
      refine h_get (v := .ref 61) dX6_foreseen_46 q6 fl_X6_56 (by decide) (px_ltM (by decide)) (c48 _) rfl ?_
      refine o_bipush (v := 7) dX6_foreseen_49 (by decide) ?_
      refine o_iload dX6_foreseen_51 rfl ?_
      refine o_imul dX6_foreseen_53 ?_
      refine o_iload_n dX6_foreseen_54 rfl ?_
      refine o_iadd dX6_foreseen_55 ?_
      refine h_iald (n := 896) dX6_foreseen_56 (px_ltM (by decide)) (c61 _) (fun u9 => ?_)
      refine o_iload dX6_foreseen_57 rfl ?_
      refine o_ifeq (tgt := 74) dX6_foreseen_59 (by decide) (fun u10 => ?_) (fun u10 => ?_)
      · refine o_iconst (v := 0) dX6_foreseen_74 (by decide) ?_
        exact o_weak (L' := [some (.ref 48), some (.int x0), none, some (.int x2), some (.int x3), none, some (.int b8)]) ⟨rfl, ⟨rfl, ⟨rfl, ⟨rfl, ⟨rfl, trivial⟩⟩⟩⟩⟩ (t_X6_foreseen_75 T x0 x2 x3 b8 0 (b6.2 61 (((7 : Int32) * (st 60 (x2 &&& (((1 : Int32) <<< (x1 &&& 31)) ^^^ (-1))).toNatClampNeg)) + x0).toNatClampNeg) b6.2)
      · refine o_aload_n dX6_foreseen_62 rfl ?_
        refine o_iconst (v := 1) dX6_foreseen_63 (by decide) ?_
        refine o_iload_n dX6_foreseen_64 rfl ?_
        refine o_iload_n dX6_foreseen_65 rfl ?_
        refine o_iload dX6_foreseen_66 rfl ?_
        refine h_cVi (as := [.int 1, .int x0, .int x1, .int x3]) (S1 := [.int (b6.2 61 (((7 : Int32) * (st 60 (x2 &&& (((1 : Int32) <<< (x1 &&& 31)) ^^^ (-1))).toNatClampNeg)) + x0).toNatClampNeg)]) (d' := 42) dX6_foreseen_68 mf_X6_says ml_X6_351 mv_X6_says q6 rfl (hp_at (px_ltM (by decide)) (c48 _)) rfl (Nat.le_of_ble_eq_true rfl) rfl (Nat.le_of_ble_eq_true rfl) (fun b hb => k_X6_says hb) (fun b11 hb11 => ?_)
        refine o_goto (tgt := 75) dX6_foreseen_71 (by decide) ?_
        exact o_weak (L' := [some (.ref 48), some (.int x0), none, some (.int x2), some (.int x3), none, some (.int b8)]) ⟨rfl, ⟨rfl, ⟨rfl, ⟨rfl, ⟨rfl, trivial⟩⟩⟩⟩⟩ (t_X6_foreseen_75 T x0 x2 x3 b8 b11.1 (b6.2 61 (((7 : Int32) * (st 60 (x2 &&& (((1 : Int32) <<< (x1 &&& 31)) ^^^ (-1))).toNatClampNeg)) + x0).toNatClampNeg) b11.2)
    · refine o_iconst (v := 0) dX6_foreseen_35 (by decide) ?_
      exact o_iret (rt := .boolean) rfl rfl dX6_foreseen_36 rfl (Nat.zero_le _) (Nat.zero_le _)
theorem k_X6_foreseen {T : Nat} {st : px_S} {x0 : Int32} {x1 : Int32} {x2 : Int32} {x3 : Int32} {b : Int32 × px_S} (hf : f_X6_foreseen T x0 x1 x2 x3 st = some b) : px_K (43) 0 0 m_X6_foreseen [.ref 48, .int x0, .int x1, .int x2, .int x3] (HP (T + 2) st) ((px_gi (T + 2)) b).1 ((px_gi (T + 2)) b).2 := px_KofH hf mf_X6_foreseen (Nat.le_of_ble_eq_true rfl) rfl (t_X6_foreseen T x0 x1 x2 x3 st)
/-! ThreeOfThemModel.allJoin(II)Z: R, depth 0 -/
def f_X6_allJoin_2 (T : Nat) (st : px_S) : Nat → Int32 → Int32 → Int32 → Option (Int32)
  | 0, _, _, _ => none
  | n + 1, y1, y2, y3 => (if y3 < (st 48 11) then (if ((y1 >>> (y3 &&& 31)) &&& 1) = 1 then (if px_in (((7 : Int32) * y3) + y2) 49 then (if (st 58 (((7 : Int32) * y3) + y2).toNatClampNeg) = 0 then (some 0) else ((f_X6_allJoin_2 T st n) y1 y2 (y3 + 1))) else none) else ((f_X6_allJoin_2 T st n) y1 y2 (y3 + 1))) else (some 1))
set_option maxRecDepth 20000 in
theorem t_X6_allJoin_2 (T : Nat) (st : px_S) : ∀ (n : Nat) (y1 : Int32) (y2 : Int32) (y3 : Int32), px_O (0, 0, 0, px_n (T + 2), m_X6_allJoin) (px_g0 (HP (T + 2) st)) (f_X6_allJoin_2 T st n y1 y2 y3) 2 [some (.ref 48), some (.int y1), some (.int y2), some (.int y3)] [] (HP (T + 2) st) 0 0 := by
  intro n
  induction n with
  | zero => intro y1 y2 y3; rw [f_X6_allJoin_2]; exact o_none
  | succ n ih =>
    intro y1 y2 y3
    rw [f_X6_allJoin_2]
    refine o_iload_n dX6_allJoin_2 rfl ?_
    refine o_aload_n dX6_allJoin_3 rfl ?_
    refine h_get (v := .int (st 48 11)) dX6_allJoin_4 q6 fl_X6_94 (by decide) (px_ltM (by decide)) (c48 _) rfl ?_
    refine o_icmpge (tgt := 41) dX6_allJoin_7 (by decide) (fun u1 => ?_) (fun u1 => ?_)
    · refine o_iconst (v := 1) dX6_allJoin_41 (by decide) ?_
      exact o_iret (rt := .boolean) rfl rfl dX6_allJoin_42 rfl (Nat.zero_le _) (Nat.zero_le _)
    · refine o_iload_n dX6_allJoin_10 rfl ?_
      refine o_iload_n dX6_allJoin_11 rfl ?_
      refine o_ishr dX6_allJoin_12 ?_
      refine o_iconst (v := 1) dX6_allJoin_13 (by decide) ?_
      refine o_iand dX6_allJoin_14 ?_
      refine o_iconst (v := 1) dX6_allJoin_15 (by decide) ?_
      refine o_icmpne (tgt := 35) dX6_allJoin_16 (by decide) (fun u2 => ?_) (fun u2 => ?_)
      · refine o_iinc (v := (y3 + 1)) (L' := [some (.ref 48), some (.int y1), some (.int y2), some (.int (y3 + 1))]) dX6_allJoin_35 rfl rfl (Nat.le_of_ble_eq_true rfl) rfl rfl ?_
        refine o_goto (tgt := 2) dX6_allJoin_38 (by decide) ?_
        exact (ih y1 y2 (y3 + 1))
      · refine o_aload_n dX6_allJoin_19 rfl ?_
        refine h_get (v := .ref 58) dX6_allJoin_20 q6 fl_X6_47 (by decide) (px_ltM (by decide)) (c48 _) rfl ?_
        refine o_bipush (v := 7) dX6_allJoin_23 (by decide) ?_
        refine o_iload_n dX6_allJoin_25 rfl ?_
        refine o_imul dX6_allJoin_26 ?_
        refine o_iload_n dX6_allJoin_27 rfl ?_
        refine o_iadd dX6_allJoin_28 ?_
        refine h_iald (n := 49) dX6_allJoin_29 (px_ltM (by decide)) (c58 _) (fun u3 => ?_)
        refine o_ifne (tgt := 35) dX6_allJoin_30 (by decide) (fun u4 => ?_) (fun u4 => ?_)
        · refine o_iinc (v := (y3 + 1)) (L' := [some (.ref 48), some (.int y1), some (.int y2), some (.int (y3 + 1))]) dX6_allJoin_35 rfl rfl (Nat.le_of_ble_eq_true rfl) rfl rfl ?_
          refine o_goto (tgt := 2) dX6_allJoin_38 (by decide) ?_
          exact (ih y1 y2 (y3 + 1))
        · refine o_iconst (v := 0) dX6_allJoin_33 (by decide) ?_
          exact o_iret (rt := .boolean) rfl rfl dX6_allJoin_34 rfl (Nat.zero_le _) (Nat.zero_le _)
def f_X6_allJoin (T : Nat) (st : px_S) (x0 : Int32) (x1 : Int32) : Option (Int32) := (f_X6_allJoin_2 T st 1000 x0 x1 0)
set_option maxRecDepth 20000 in
theorem t_X6_allJoin (T : Nat) (st : px_S) (x0 : Int32) (x1 : Int32) : px_O (0, 0, 0, px_n (T + 2), m_X6_allJoin) (px_g0 (HP (T + 2) st)) (f_X6_allJoin T st x0 x1) 0 [some (.ref 48), some (.int x0), some (.int x1), none] [] (HP (T + 2) st) 0 0 := by
  rw [f_X6_allJoin]
  refine o_iconst (v := 0) dX6_allJoin_0 (by decide) ?_
  refine o_istore_n (L' := [some (.ref 48), some (.int x0), some (.int x1), some (.int 0)]) dX6_allJoin_1 (Nat.le_of_ble_eq_true rfl) rfl rfl ?_
  exact (t_X6_allJoin_2 T st 1000 x0 x1 0)
theorem k_X6_allJoin_o {T : Nat} {st : px_S} {x0 : Int32} {x1 : Int32} {b : Int32} (hf : f_X6_allJoin T st x0 x1 = some b) : px_K (0) 0 0 m_X6_allJoin [.ref 48, .int x0, .int x1] (HP (T + 2) st) (some (.int b)) (HP (T + 2) st) := px_KofH (g := px_g0 (HP (T + 2) st)) hf mf_X6_allJoin (Nat.le_of_ble_eq_true rfl) rfl (t_X6_allJoin T st x0 x1)
theorem k_X6_allJoin {T : Nat} {st : px_S} {x0 : Int32} {x1 : Int32} {b : Int32} (hf : f_X6_allJoin T st x0 x1 = some b) : px_K (0) 0 0 m_X6_allJoin [.ref 48, .int x0, .int x1] (HP (T + 2) st) (some (.int b)) (HP (T + 2) st) := k_X6_allJoin_o hf
/-! ThreeOfThemModel.endOf(I)V: S, depth 44 -/
def f_X6_endOf_151 (T : Nat) (k133 : Int32 → Int32 → px_S → Option (px_S)) : Nat → Int32 → Int32 → Int32 → px_S → Option (px_S)
  | 0, _, _, _, _ => none
  | n + 1, y1, y3, y4, st => (if y4 < (st 48 11) then (if px_in y1 128 then (if (st 62 y1.toNatClampNeg) = (-1) then ((f_X6_isBand T st y3 y4 y1).bind fun b4 => (if b4 = 0 then ((f_X6_endOf_151 T k133 n) y1 y3 (y4 + 1) st) else ((f_X6_allJoin T st y3 y4).bind fun b6 => (if b6 = 0 then ((f_X6_endOf_151 T k133 n) y1 y3 (y4 + 1) st) else (if px_in y1 128 then (if px_in (y1 &&& (((1 : Int32) <<< (y4 &&& 31)) ^^^ (-1))) 128 then (if px_in y1 128 then ((f_X6_endOf_151 T k133 n) y1 y3 (y4 + 1) (up (up st 62 y1.toNatClampNeg y4) 60 y1.toNatClampNeg ((up st 62 y1.toNatClampNeg y4) 60 (y1 &&& (((1 : Int32) <<< (y4 &&& 31)) ^^^ (-1))).toNatClampNeg))) else none) else none) else none))))) else (k133 y1 (y3 + 1) st)) else none) else (k133 y1 (y3 + 1) st))
set_option maxRecDepth 20000 in
theorem t_X6_endOf_151 (T : Nat) (k133 : Int32 → Int32 → px_S → Option (px_S)) (hk133 : ∀ (y1 : Int32) (y3 : Int32) (st : px_S), px_O (44, 0, 0, px_n (T + 2), m_X6_endOf) (px_gv (T + 2)) (k133 y1 y3 st) 133 [some (.ref 48), some (.int y1), none, some (.int y3), none, none] [] (HP (T + 2) st) 0 0) : ∀ (n : Nat) (y1 : Int32) (y3 : Int32) (y4 : Int32) (st : px_S), px_O (44, 0, 0, px_n (T + 2), m_X6_endOf) (px_gv (T + 2)) (f_X6_endOf_151 T k133 n y1 y3 y4 st) 151 [some (.ref 48), some (.int y1), none, some (.int y3), some (.int y4), none] [] (HP (T + 2) st) 0 0 := by
  intro n
  induction n with
  | zero => intro y1 y3 y4 st; rw [f_X6_endOf_151]; exact o_none
  | succ n ih =>
    intro y1 y3 y4 st
    rw [f_X6_endOf_151]
    refine o_iload dX6_endOf_151 rfl ?_
    refine o_aload_n dX6_endOf_153 rfl ?_
    refine h_get (v := .int (st 48 11)) dX6_endOf_154 q6 fl_X6_94 (by decide) (px_ltM (by decide)) (c48 _) rfl ?_
    refine o_icmpge (tgt := 224) dX6_endOf_157 (by decide) (fun u1 => ?_) (fun u1 => ?_)
    · refine o_iinc (v := (y3 + 1)) (L' := [some (.ref 48), some (.int y1), none, some (.int (y3 + 1)), some (.int y4), none]) dX6_endOf_224 rfl rfl (Nat.le_of_ble_eq_true rfl) rfl rfl ?_
      refine o_goto (tgt := 133) dX6_endOf_227 (by decide) ?_
      exact o_weak (L' := [some (.ref 48), some (.int y1), none, some (.int (y3 + 1)), none, none]) ⟨rfl, ⟨rfl, ⟨rfl, trivial⟩⟩⟩ (hk133 y1 (y3 + 1) st)
    · refine o_aload_n dX6_endOf_160 rfl ?_
      refine h_get (v := .ref 62) dX6_endOf_161 q6 fl_X6_59 (by decide) (px_ltM (by decide)) (c48 _) rfl ?_
      refine o_iload_n dX6_endOf_164 rfl ?_
      refine h_iald (n := 128) dX6_endOf_165 (px_ltM (by decide)) (c62 _) (fun u2 => ?_)
      refine o_iconst (v := (-1)) dX6_endOf_166 (by decide) ?_
      refine o_icmpne (tgt := 224) dX6_endOf_167 (by decide) (fun u3 => ?_) (fun u3 => ?_)
      · refine o_iinc (v := (y3 + 1)) (L' := [some (.ref 48), some (.int y1), none, some (.int (y3 + 1)), some (.int y4), none]) dX6_endOf_224 rfl rfl (Nat.le_of_ble_eq_true rfl) rfl rfl ?_
        refine o_goto (tgt := 133) dX6_endOf_227 (by decide) ?_
        exact o_weak (L' := [some (.ref 48), some (.int y1), none, some (.int (y3 + 1)), none, none]) ⟨rfl, ⟨rfl, ⟨rfl, trivial⟩⟩⟩ (hk133 y1 (y3 + 1) st)
      · refine o_aload_n dX6_endOf_170 rfl ?_
        refine o_iload_n dX6_endOf_171 rfl ?_
        refine o_iload dX6_endOf_172 rfl ?_
        refine o_iload_n dX6_endOf_174 rfl ?_
        refine h_cV0 (as := [.int y3, .int y4, .int y1]) (S1 := []) (d' := 1) dX6_endOf_175 mf_X6_isBand ml_X6_386 mv_X6_isBand q6 rfl (hp_at (px_ltM (by decide)) (c48 _)) rfl (Nat.le_of_ble_eq_true rfl) rfl (Nat.le_of_ble_eq_true rfl) ⟨Nat.zero_le _, Nat.zero_le _⟩ (fun b hb => k_X6_isBand hb) (fun b4 hb4 => ?_)
        refine o_ifeq (tgt := 218) dX6_endOf_178 (by decide) (fun u5 => ?_) (fun u5 => ?_)
        · refine o_iinc (v := (y4 + 1)) (L' := [some (.ref 48), some (.int y1), none, some (.int y3), some (.int (y4 + 1)), none]) dX6_endOf_218 rfl rfl (Nat.le_of_ble_eq_true rfl) rfl rfl ?_
          refine o_goto (tgt := 151) dX6_endOf_221 (by decide) ?_
          exact (ih y1 y3 (y4 + 1) st)
        · refine o_aload_n dX6_endOf_181 rfl ?_
          refine o_iload_n dX6_endOf_182 rfl ?_
          refine o_iload dX6_endOf_183 rfl ?_
          refine h_cV0 (as := [.int y3, .int y4]) (S1 := []) (d' := 0) dX6_endOf_185 mf_X6_allJoin ml_X6_418 mv_X6_allJoin q6 rfl (hp_at (px_ltM (by decide)) (c48 _)) rfl (Nat.le_of_ble_eq_true rfl) rfl (Nat.le_of_ble_eq_true rfl) ⟨Nat.zero_le _, Nat.zero_le _⟩ (fun b hb => k_X6_allJoin hb) (fun b6 hb6 => ?_)
          refine o_ifeq (tgt := 218) dX6_endOf_188 (by decide) (fun u7 => ?_) (fun u7 => ?_)
          · refine o_iinc (v := (y4 + 1)) (L' := [some (.ref 48), some (.int y1), none, some (.int y3), some (.int (y4 + 1)), none]) dX6_endOf_218 rfl rfl (Nat.le_of_ble_eq_true rfl) rfl rfl ?_
            refine o_goto (tgt := 151) dX6_endOf_221 (by decide) ?_
            exact (ih y1 y3 (y4 + 1) st)
          · refine o_aload_n dX6_endOf_191 rfl ?_
            refine h_get (v := .ref 62) dX6_endOf_192 q6 fl_X6_59 (by decide) (px_ltM (by decide)) (c48 _) rfl ?_
            refine o_iload_n dX6_endOf_195 rfl ?_
            refine o_iload dX6_endOf_196 rfl ?_
            refine h_iast (n := 128) dX6_endOf_198 (px_ltM (by decide)) c62 (fun u8 => ?_)
            refine o_aload_n dX6_endOf_199 rfl ?_
            refine h_get (v := .ref 60) dX6_endOf_200 q6 fl_X6_53 (by decide) (px_ltM (by decide)) (c48 _) rfl ?_
            refine o_iload_n dX6_endOf_203 rfl ?_
            refine o_aload_n dX6_endOf_204 rfl ?_
            refine h_get (v := .ref 60) dX6_endOf_205 q6 fl_X6_53 (by decide) (px_ltM (by decide)) (c48 _) rfl ?_
            refine o_iload_n dX6_endOf_208 rfl ?_
            refine o_iconst (v := 1) dX6_endOf_209 (by decide) ?_
            refine o_iload dX6_endOf_210 rfl ?_
            refine o_ishl dX6_endOf_212 ?_
            refine o_iconst (v := (-1)) dX6_endOf_213 (by decide) ?_
            refine o_ixor dX6_endOf_214 ?_
            refine o_iand dX6_endOf_215 ?_
            refine h_iald (n := 128) dX6_endOf_216 (px_ltM (by decide)) (c60 _) (fun u9 => ?_)
            refine h_iast (n := 128) dX6_endOf_217 (px_ltM (by decide)) c60 (fun u10 => ?_)
            refine o_iinc (v := (y4 + 1)) (L' := [some (.ref 48), some (.int y1), none, some (.int y3), some (.int (y4 + 1)), none]) dX6_endOf_218 rfl rfl (Nat.le_of_ble_eq_true rfl) rfl rfl ?_
            refine o_goto (tgt := 151) dX6_endOf_221 (by decide) ?_
            exact (ih y1 y3 (y4 + 1) (up (up st 62 y1.toNatClampNeg y4) 60 y1.toNatClampNeg ((up st 62 y1.toNatClampNeg y4) 60 (y1 &&& (((1 : Int32) <<< (y4 &&& 31)) ^^^ (-1))).toNatClampNeg)))
def f_X6_endOf_133 (T : Nat) : Nat → Int32 → Int32 → px_S → Option (px_S)
  | 0, _, _, _ => none
  | n + 1, y1, y3, st => (if y1 < y3 then (some st) else (if px_in y1 128 then (if (st 62 y1.toNatClampNeg) = (-1) then (f_X6_endOf_151 T (f_X6_endOf_133 T n) 1000 y1 y3 0 st) else (some st)) else none))
set_option maxRecDepth 20000 in
theorem t_X6_endOf_133 (T : Nat) : ∀ (n : Nat) (y1 : Int32) (y3 : Int32) (st : px_S), px_O (44, 0, 0, px_n (T + 2), m_X6_endOf) (px_gv (T + 2)) (f_X6_endOf_133 T n y1 y3 st) 133 [some (.ref 48), some (.int y1), none, some (.int y3), none, none] [] (HP (T + 2) st) 0 0 := by
  intro n
  induction n with
  | zero => intro y1 y3 st; rw [f_X6_endOf_133]; exact o_none
  | succ n ih =>
    intro y1 y3 st
    rw [f_X6_endOf_133]
    refine o_iload_n dX6_endOf_133 rfl ?_
    refine o_iload_n dX6_endOf_134 rfl ?_
    refine o_icmpgt (tgt := 230) dX6_endOf_135 (by decide) (fun u11 => ?_) (fun u11 => ?_)
    · exact o_vret rfl dX6_endOf_230 rfl (Nat.zero_le _) (Nat.zero_le _)
    · refine o_aload_n dX6_endOf_138 rfl ?_
      refine h_get (v := .ref 62) dX6_endOf_139 q6 fl_X6_59 (by decide) (px_ltM (by decide)) (c48 _) rfl ?_
      refine o_iload_n dX6_endOf_142 rfl ?_
      refine h_iald (n := 128) dX6_endOf_143 (px_ltM (by decide)) (c62 _) (fun u12 => ?_)
      refine o_iconst (v := (-1)) dX6_endOf_144 (by decide) ?_
      refine o_icmpne (tgt := 230) dX6_endOf_145 (by decide) (fun u13 => ?_) (fun u13 => ?_)
      · exact o_vret rfl dX6_endOf_230 rfl (Nat.zero_le _) (Nat.zero_le _)
      · refine o_iconst (v := 0) dX6_endOf_148 (by decide) ?_
        refine o_istore (L' := [some (.ref 48), some (.int y1), none, some (.int y3), some (.int 0), none]) dX6_endOf_149 (Nat.le_of_ble_eq_true rfl) rfl rfl ?_
        exact (t_X6_endOf_151 T (f_X6_endOf_133 T n) ih 1000 y1 y3 0 st)
def f_X6_endOf_83 (T : Nat) (k44 : Int32 → Int32 → Int32 → Int32 → px_S → Option (px_S)) (y1 : Int32) (y2 : Int32) (y3 : Int32) (y4 : Int32) (z0 : Int32) (st : px_S) : Option (px_S) := (if z0 = 0 then (if px_in (((7 : Int32) * y3) + y4) 49 then (k44 y1 y2 y3 (y4 + 1) (up st 58 (((7 : Int32) * y3) + y4).toNatClampNeg 0)) else none) else ((f_X6_foreseen T y3 y4 y1 y2 st).bind fun b16 => (if b16.1 = 0 then (if px_in (((7 : Int32) * y3) + y4) 49 then (k44 y1 y2 y3 (y4 + 1) (up b16.2 58 (((7 : Int32) * y3) + y4).toNatClampNeg 0)) else none) else (if px_in (((7 : Int32) * y3) + y4) 49 then (k44 y1 y2 y3 (y4 + 1) (up b16.2 58 (((7 : Int32) * y3) + y4).toNatClampNeg 1)) else none))))
set_option maxRecDepth 20000 in
theorem t_X6_endOf_83 (T : Nat) (k44 : Int32 → Int32 → Int32 → Int32 → px_S → Option (px_S)) (hk44 : ∀ (y1 : Int32) (y2 : Int32) (y3 : Int32) (y4 : Int32) (st : px_S), px_O (44, 0, 0, px_n (T + 2), m_X6_endOf) (px_gv (T + 2)) (k44 y1 y2 y3 y4 st) 44 [some (.ref 48), some (.int y1), some (.int y2), some (.int y3), some (.int y4), none] [] (HP (T + 2) st) 0 0) (y1 : Int32) (y2 : Int32) (y3 : Int32) (y4 : Int32) (z0 : Int32) (st : px_S) : px_O (44, 0, 0, px_n (T + 2), m_X6_endOf) (px_gv (T + 2)) (f_X6_endOf_83 T k44 y1 y2 y3 y4 z0 st) 83 [some (.ref 48), some (.int y1), some (.int y2), some (.int y3), some (.int y4), none] [.int z0] (HP (T + 2) st) 0 0 := by
  rw [f_X6_endOf_83]
  refine o_istore (L' := [some (.ref 48), some (.int y1), some (.int y2), some (.int y3), some (.int y4), some (.int z0)]) dX6_endOf_83 (Nat.le_of_ble_eq_true rfl) rfl rfl ?_
  refine o_aload_n dX6_endOf_85 rfl ?_
  refine h_get (v := .ref 58) dX6_endOf_86 q6 fl_X6_47 (by decide) (px_ltM (by decide)) (c48 _) rfl ?_
  refine o_bipush (v := 7) dX6_endOf_89 (by decide) ?_
  refine o_iload_n dX6_endOf_91 rfl ?_
  refine o_imul dX6_endOf_92 ?_
  refine o_iload dX6_endOf_93 rfl ?_
  refine o_iadd dX6_endOf_95 ?_
  refine o_iload dX6_endOf_96 rfl ?_
  refine o_ifeq (tgt := 117) dX6_endOf_98 (by decide) (fun u14 => ?_) (fun u14 => ?_)
  · refine o_iconst (v := 0) dX6_endOf_117 (by decide) ?_
    refine h_iast (n := 49) dX6_endOf_118 (px_ltM (by decide)) c58 (fun u15 => ?_)
    refine o_iinc (v := (y4 + 1)) (L' := [some (.ref 48), some (.int y1), some (.int y2), some (.int y3), some (.int (y4 + 1)), some (.int z0)]) dX6_endOf_119 rfl rfl (Nat.le_of_ble_eq_true rfl) rfl rfl ?_
    refine o_goto (tgt := 44) dX6_endOf_122 (by decide) ?_
    exact o_weak (L' := [some (.ref 48), some (.int y1), some (.int y2), some (.int y3), some (.int (y4 + 1)), none]) ⟨rfl, ⟨rfl, ⟨rfl, ⟨rfl, ⟨rfl, trivial⟩⟩⟩⟩⟩ (hk44 y1 y2 y3 (y4 + 1) (up st 58 (((7 : Int32) * y3) + y4).toNatClampNeg 0))
  · refine o_aload_n dX6_endOf_101 rfl ?_
    refine o_iload_n dX6_endOf_102 rfl ?_
    refine o_iload dX6_endOf_103 rfl ?_
    refine o_iload_n dX6_endOf_105 rfl ?_
    refine o_iload_n dX6_endOf_106 rfl ?_
    refine h_cVi (as := [.int y3, .int y4, .int y1, .int y2]) (S1 := [.int (((7 : Int32) * y3) + y4), .ref 58]) (d' := 43) dX6_endOf_107 mf_X6_foreseen ml_X6_414 mv_X6_foreseen q6 rfl (hp_at (px_ltM (by decide)) (c48 _)) rfl (Nat.le_of_ble_eq_true rfl) rfl (Nat.le_of_ble_eq_true rfl) (fun b hb => k_X6_foreseen hb) (fun b16 hb16 => ?_)
    refine o_ifeq (tgt := 117) dX6_endOf_110 (by decide) (fun u17 => ?_) (fun u17 => ?_)
    · refine o_iconst (v := 0) dX6_endOf_117 (by decide) ?_
      refine h_iast (n := 49) dX6_endOf_118 (px_ltM (by decide)) c58 (fun u18 => ?_)
      refine o_iinc (v := (y4 + 1)) (L' := [some (.ref 48), some (.int y1), some (.int y2), some (.int y3), some (.int (y4 + 1)), some (.int z0)]) dX6_endOf_119 rfl rfl (Nat.le_of_ble_eq_true rfl) rfl rfl ?_
      refine o_goto (tgt := 44) dX6_endOf_122 (by decide) ?_
      exact o_weak (L' := [some (.ref 48), some (.int y1), some (.int y2), some (.int y3), some (.int (y4 + 1)), none]) ⟨rfl, ⟨rfl, ⟨rfl, ⟨rfl, ⟨rfl, trivial⟩⟩⟩⟩⟩ (hk44 y1 y2 y3 (y4 + 1) (up b16.2 58 (((7 : Int32) * y3) + y4).toNatClampNeg 0))
    · refine o_iconst (v := 1) dX6_endOf_113 (by decide) ?_
      refine o_goto (tgt := 118) dX6_endOf_114 (by decide) ?_
      refine h_iast (n := 49) dX6_endOf_118 (px_ltM (by decide)) c58 (fun u19 => ?_)
      refine o_iinc (v := (y4 + 1)) (L' := [some (.ref 48), some (.int y1), some (.int y2), some (.int y3), some (.int (y4 + 1)), some (.int z0)]) dX6_endOf_119 rfl rfl (Nat.le_of_ble_eq_true rfl) rfl rfl ?_
      refine o_goto (tgt := 44) dX6_endOf_122 (by decide) ?_
      exact o_weak (L' := [some (.ref 48), some (.int y1), some (.int y2), some (.int y3), some (.int (y4 + 1)), none]) ⟨rfl, ⟨rfl, ⟨rfl, ⟨rfl, ⟨rfl, trivial⟩⟩⟩⟩⟩ (hk44 y1 y2 y3 (y4 + 1) (up b16.2 58 (((7 : Int32) * y3) + y4).toNatClampNeg 1))
def f_X6_endOf_82 (T : Nat) (k44 : Int32 → Int32 → Int32 → Int32 → px_S → Option (px_S)) (y1 : Int32) (y2 : Int32) (y3 : Int32) (y4 : Int32) (st : px_S) : Option (px_S) := (f_X6_endOf_83 T k44 y1 y2 y3 y4 0 st)
set_option maxRecDepth 20000 in
theorem t_X6_endOf_82 (T : Nat) (k44 : Int32 → Int32 → Int32 → Int32 → px_S → Option (px_S)) (hk44 : ∀ (y1 : Int32) (y2 : Int32) (y3 : Int32) (y4 : Int32) (st : px_S), px_O (44, 0, 0, px_n (T + 2), m_X6_endOf) (px_gv (T + 2)) (k44 y1 y2 y3 y4 st) 44 [some (.ref 48), some (.int y1), some (.int y2), some (.int y3), some (.int y4), none] [] (HP (T + 2) st) 0 0) (y1 : Int32) (y2 : Int32) (y3 : Int32) (y4 : Int32) (st : px_S) : px_O (44, 0, 0, px_n (T + 2), m_X6_endOf) (px_gv (T + 2)) (f_X6_endOf_82 T k44 y1 y2 y3 y4 st) 82 [some (.ref 48), some (.int y1), some (.int y2), some (.int y3), some (.int y4), none] [] (HP (T + 2) st) 0 0 := by
  rw [f_X6_endOf_82]
  refine o_iconst (v := 0) dX6_endOf_82 (by decide) ?_
  exact (t_X6_endOf_83 T k44 hk44 y1 y2 y3 y4 0 st)
def f_X6_endOf_44 (T : Nat) (k33 : Int32 → Int32 → Int32 → px_S → Option (px_S)) : Nat → Int32 → Int32 → Int32 → Int32 → px_S → Option (px_S)
  | 0, _, _, _, _, _ => none
  | n + 1, y1, y2, y3, y4, st => (if y4 < (st 48 11) then (if y3 = y4 then (f_X6_endOf_82 T (f_X6_endOf_44 T k33 n) y1 y2 y3 y4 st) else (if ((y1 >>> (y3 &&& 31)) &&& 1) = 1 then (if ((y1 >>> (y4 &&& 31)) &&& 1) = 1 then (f_X6_endOf_83 T (f_X6_endOf_44 T k33 n) y1 y2 y3 y4 1 st) else (f_X6_endOf_82 T (f_X6_endOf_44 T k33 n) y1 y2 y3 y4 st)) else (f_X6_endOf_82 T (f_X6_endOf_44 T k33 n) y1 y2 y3 y4 st))) else (k33 y1 y2 (y3 + 1) st))
set_option maxRecDepth 20000 in
theorem t_X6_endOf_44 (T : Nat) (k33 : Int32 → Int32 → Int32 → px_S → Option (px_S)) (hk33 : ∀ (y1 : Int32) (y2 : Int32) (y3 : Int32) (st : px_S), px_O (44, 0, 0, px_n (T + 2), m_X6_endOf) (px_gv (T + 2)) (k33 y1 y2 y3 st) 33 [some (.ref 48), some (.int y1), some (.int y2), some (.int y3), none, none] [] (HP (T + 2) st) 0 0) : ∀ (n : Nat) (y1 : Int32) (y2 : Int32) (y3 : Int32) (y4 : Int32) (st : px_S), px_O (44, 0, 0, px_n (T + 2), m_X6_endOf) (px_gv (T + 2)) (f_X6_endOf_44 T k33 n y1 y2 y3 y4 st) 44 [some (.ref 48), some (.int y1), some (.int y2), some (.int y3), some (.int y4), none] [] (HP (T + 2) st) 0 0 := by
  intro n
  induction n with
  | zero => intro y1 y2 y3 y4 st; rw [f_X6_endOf_44]; exact o_none
  | succ n ih =>
    intro y1 y2 y3 y4 st
    rw [f_X6_endOf_44]
    refine o_iload dX6_endOf_44 rfl ?_
    refine o_aload_n dX6_endOf_46 rfl ?_
    refine h_get (v := .int (st 48 11)) dX6_endOf_47 q6 fl_X6_94 (by decide) (px_ltM (by decide)) (c48 _) rfl ?_
    refine o_icmpge (tgt := 125) dX6_endOf_50 (by decide) (fun u20 => ?_) (fun u20 => ?_)
    · refine o_iinc (v := (y3 + 1)) (L' := [some (.ref 48), some (.int y1), some (.int y2), some (.int (y3 + 1)), some (.int y4), none]) dX6_endOf_125 rfl rfl (Nat.le_of_ble_eq_true rfl) rfl rfl ?_
      refine o_goto (tgt := 33) dX6_endOf_128 (by decide) ?_
      exact o_weak (L' := [some (.ref 48), some (.int y1), some (.int y2), some (.int (y3 + 1)), none, none]) ⟨rfl, ⟨rfl, ⟨rfl, ⟨rfl, trivial⟩⟩⟩⟩ (hk33 y1 y2 (y3 + 1) st)
    · refine o_iload_n dX6_endOf_53 rfl ?_
      refine o_iload dX6_endOf_54 rfl ?_
      refine o_icmpeq (tgt := 82) dX6_endOf_56 (by decide) (fun u21 => ?_) (fun u21 => ?_)
      · exact (t_X6_endOf_82 T (f_X6_endOf_44 T k33 n) ih y1 y2 y3 y4 st)
      · refine o_iload_n dX6_endOf_59 rfl ?_
        refine o_iload_n dX6_endOf_60 rfl ?_
        refine o_ishr dX6_endOf_61 ?_
        refine o_iconst (v := 1) dX6_endOf_62 (by decide) ?_
        refine o_iand dX6_endOf_63 ?_
        refine o_iconst (v := 1) dX6_endOf_64 (by decide) ?_
        refine o_icmpne (tgt := 82) dX6_endOf_65 (by decide) (fun u22 => ?_) (fun u22 => ?_)
        · exact (t_X6_endOf_82 T (f_X6_endOf_44 T k33 n) ih y1 y2 y3 y4 st)
        · refine o_iload_n dX6_endOf_68 rfl ?_
          refine o_iload dX6_endOf_69 rfl ?_
          refine o_ishr dX6_endOf_71 ?_
          refine o_iconst (v := 1) dX6_endOf_72 (by decide) ?_
          refine o_iand dX6_endOf_73 ?_
          refine o_iconst (v := 1) dX6_endOf_74 (by decide) ?_
          refine o_icmpne (tgt := 82) dX6_endOf_75 (by decide) (fun u23 => ?_) (fun u23 => ?_)
          · exact (t_X6_endOf_82 T (f_X6_endOf_44 T k33 n) ih y1 y2 y3 y4 st)
          · refine o_iconst (v := 1) dX6_endOf_78 (by decide) ?_
            refine o_goto (tgt := 83) dX6_endOf_79 (by decide) ?_
            exact (t_X6_endOf_83 T (f_X6_endOf_44 T k33 n) ih y1 y2 y3 y4 1 st)
def f_X6_endOf_33 (T : Nat) : Nat → Int32 → Int32 → Int32 → px_S → Option (px_S)
  | 0, _, _, _, _ => none
  | n + 1, y1, y2, y3, st => (if y3 < (st 48 11) then (f_X6_endOf_44 T (f_X6_endOf_33 T n) 1000 y1 y2 y3 0 st) else (f_X6_endOf_133 T 1000 y1 1 st))
set_option maxRecDepth 20000 in
theorem t_X6_endOf_33 (T : Nat) : ∀ (n : Nat) (y1 : Int32) (y2 : Int32) (y3 : Int32) (st : px_S), px_O (44, 0, 0, px_n (T + 2), m_X6_endOf) (px_gv (T + 2)) (f_X6_endOf_33 T n y1 y2 y3 st) 33 [some (.ref 48), some (.int y1), some (.int y2), some (.int y3), none, none] [] (HP (T + 2) st) 0 0 := by
  intro n
  induction n with
  | zero => intro y1 y2 y3 st; rw [f_X6_endOf_33]; exact o_none
  | succ n ih =>
    intro y1 y2 y3 st
    rw [f_X6_endOf_33]
    refine o_iload_n dX6_endOf_33 rfl ?_
    refine o_aload_n dX6_endOf_34 rfl ?_
    refine h_get (v := .int (st 48 11)) dX6_endOf_35 q6 fl_X6_94 (by decide) (px_ltM (by decide)) (c48 _) rfl ?_
    refine o_icmpge (tgt := 131) dX6_endOf_38 (by decide) (fun u24 => ?_) (fun u24 => ?_)
    · refine o_iconst (v := 1) dX6_endOf_131 (by decide) ?_
      refine o_istore_n (L' := [some (.ref 48), some (.int y1), some (.int y2), some (.int 1), none, none]) dX6_endOf_132 (Nat.le_of_ble_eq_true rfl) rfl rfl ?_
      exact o_weak (L' := [some (.ref 48), some (.int y1), none, some (.int 1), none, none]) ⟨rfl, ⟨rfl, ⟨rfl, trivial⟩⟩⟩ (t_X6_endOf_133 T 1000 y1 1 st)
    · refine o_iconst (v := 0) dX6_endOf_41 (by decide) ?_
      refine o_istore (L' := [some (.ref 48), some (.int y1), some (.int y2), some (.int y3), some (.int 0), none]) dX6_endOf_42 (Nat.le_of_ble_eq_true rfl) rfl rfl ?_
      exact (t_X6_endOf_44 T (f_X6_endOf_33 T n) ih 1000 y1 y2 y3 0 st)
def f_X6_endOf (T : Nat) (x0 : Int32) (st : px_S) : Option (px_S) := (if px_in x0 128 then (if px_in x0 128 then ((f_X6_bitsOf x0).bind fun b27 => (if (st 48 14) < b27 then ((f_X6_bitsOf x0).bind fun b29 => (f_X6_endOf_33 T 1000 x0 b29 0 (up (up st 60 x0.toNatClampNeg x0) 62 x0.toNatClampNeg (-1)))) else (some (up (up st 60 x0.toNatClampNeg x0) 62 x0.toNatClampNeg (-1))))) else none) else none)
set_option maxRecDepth 20000 in
theorem t_X6_endOf (T : Nat) (x0 : Int32) (st : px_S) : px_O (44, 0, 0, px_n (T + 2), m_X6_endOf) (px_gv (T + 2)) (f_X6_endOf T x0 st) 0 [some (.ref 48), some (.int x0), none, none, none, none] [] (HP (T + 2) st) 0 0 := by
  rw [f_X6_endOf]
  refine o_aload_n dX6_endOf_0 rfl ?_
  refine h_get (v := .ref 60) dX6_endOf_1 q6 fl_X6_53 (by decide) (px_ltM (by decide)) (c48 _) rfl ?_
  refine o_iload_n dX6_endOf_4 rfl ?_
  refine o_iload_n dX6_endOf_5 rfl ?_
  refine h_iast (n := 128) dX6_endOf_6 (px_ltM (by decide)) c60 (fun u25 => ?_)
  refine o_aload_n dX6_endOf_7 rfl ?_
  refine h_get (v := .ref 62) dX6_endOf_8 q6 fl_X6_59 (by decide) (px_ltM (by decide)) (c48 _) rfl ?_
  refine o_iload_n dX6_endOf_11 rfl ?_
  refine o_iconst (v := (-1)) dX6_endOf_12 (by decide) ?_
  refine h_iast (n := 128) dX6_endOf_13 (px_ltM (by decide)) c62 (fun u26 => ?_)
  refine o_iload_n dX6_endOf_14 rfl ?_
  refine h_cS0 (as := [.int x0]) (S1 := []) (d' := 0) dX6_endOf_15 mf_X6_bitsOf ml_X6_348 ms_X6_bitsOf rfl (Nat.le_of_ble_eq_true rfl) rfl (Nat.le_of_ble_eq_true rfl) ⟨Nat.zero_le _, Nat.zero_le _⟩ (fun b hb => k_X6_bitsOf hb) (fun b27 hb27 => ?_)
  refine o_aload_n dX6_endOf_18 rfl ?_
  refine h_get (v := .int (st 48 14)) dX6_endOf_19 q6 fl_X6_38 (by decide) (px_ltM (by decide)) (c48 _) rfl ?_
  refine o_icmpgt (tgt := 26) dX6_endOf_22 (by decide) (fun u28 => ?_) (fun u28 => ?_)
  · refine o_iload_n dX6_endOf_26 rfl ?_
    refine h_cS0 (as := [.int x0]) (S1 := []) (d' := 0) dX6_endOf_27 mf_X6_bitsOf ml_X6_348 ms_X6_bitsOf rfl (Nat.le_of_ble_eq_true rfl) rfl (Nat.le_of_ble_eq_true rfl) ⟨Nat.zero_le _, Nat.zero_le _⟩ (fun b hb => k_X6_bitsOf hb) (fun b29 hb29 => ?_)
    refine o_istore_n (L' := [some (.ref 48), some (.int x0), some (.int b29), none, none, none]) dX6_endOf_30 (Nat.le_of_ble_eq_true rfl) rfl rfl ?_
    refine o_iconst (v := 0) dX6_endOf_31 (by decide) ?_
    refine o_istore_n (L' := [some (.ref 48), some (.int x0), some (.int b29), some (.int 0), none, none]) dX6_endOf_32 (Nat.le_of_ble_eq_true rfl) rfl rfl ?_
    exact (t_X6_endOf_33 T 1000 x0 b29 0 (up (up st 60 x0.toNatClampNeg x0) 62 x0.toNatClampNeg (-1)))
  · exact o_vret rfl dX6_endOf_25 rfl (Nat.zero_le _) (Nat.zero_le _)
theorem k_X6_endOf {T : Nat} {st : px_S} {x0 : Int32} {b : px_S} (hf : f_X6_endOf T x0 st = some b) : px_K (44) 0 0 m_X6_endOf [.ref 48, .int x0] (HP (T + 2) st) ((px_gv (T + 2)) b).1 ((px_gv (T + 2)) b).2 := px_KofH hf mf_X6_endOf (Nat.le_of_ble_eq_true rfl) rfl (t_X6_endOf T x0 st)
/-! ThreeOfThemModel.foresees(I)V: S, depth 45 -/
def f_X6_foresees_22 (T : Nat) (k2 : Int32 → Int32 → px_S → Option (px_S)) : Nat → Int32 → Int32 → Int32 → px_S → Option (px_S)
  | 0, _, _, _, _ => none
  | n + 1, y1, y2, y3, st => (if y3 < (st 48 11) then (if ((y2 >>> (y3 &&& 31)) &&& 1) = 1 then ((f_X6_goodOf T y3 y2 st).bind fun b4 => (if px_in (((7 : Int32) * y2) + y3) 896 then ((f_X6_foresees_22 T k2 n) y1 y2 (y3 + 1) (up b4.2 61 (((7 : Int32) * y2) + y3).toNatClampNeg b4.1)) else none)) else ((f_X6_foresees_22 T k2 n) y1 y2 (y3 + 1) st)) else ((f_X6_endOf T y2 st).bind fun b2 => (k2 y1 (y2 + 1) b2)))
set_option maxRecDepth 20000 in
theorem t_X6_foresees_22 (T : Nat) (k2 : Int32 → Int32 → px_S → Option (px_S)) (hk2 : ∀ (y1 : Int32) (y2 : Int32) (st : px_S), px_O (45, 0, 0, px_n (T + 2), m_X6_foresees) (px_gv (T + 2)) (k2 y1 y2 st) 2 [some (.ref 48), some (.int y1), some (.int y2), none] [] (HP (T + 2) st) 0 0) : ∀ (n : Nat) (y1 : Int32) (y2 : Int32) (y3 : Int32) (st : px_S), px_O (45, 0, 0, px_n (T + 2), m_X6_foresees) (px_gv (T + 2)) (f_X6_foresees_22 T k2 n y1 y2 y3 st) 22 [some (.ref 48), some (.int y1), some (.int y2), some (.int y3)] [] (HP (T + 2) st) 0 0 := by
  intro n
  induction n with
  | zero => intro y1 y2 y3 st; rw [f_X6_foresees_22]; exact o_none
  | succ n ih =>
    intro y1 y2 y3 st
    rw [f_X6_foresees_22]
    refine o_iload_n dX6_foresees_22 rfl ?_
    refine o_aload_n dX6_foresees_23 rfl ?_
    refine h_get (v := .int (st 48 11)) dX6_foresees_24 q6 fl_X6_94 (by decide) (px_ltM (by decide)) (c48 _) rfl ?_
    refine o_icmpge (tgt := 62) dX6_foresees_27 (by decide) (fun u1 => ?_) (fun u1 => ?_)
    · refine o_aload_n dX6_foresees_62 rfl ?_
      refine o_iload_n dX6_foresees_63 rfl ?_
      refine h_cVv (as := [.int y2]) (S1 := []) (d' := 44) dX6_foresees_64 mf_X6_endOf ml_X6_411 mv_X6_endOf q6 rfl (hp_at (px_ltM (by decide)) (c48 _)) rfl (Nat.le_of_ble_eq_true rfl) rfl (Nat.le_of_ble_eq_true rfl) (fun b hb => k_X6_endOf hb) (fun b2 hb2 => ?_)
      refine o_iinc (v := (y2 + 1)) (L' := [some (.ref 48), some (.int y1), some (.int (y2 + 1)), some (.int y3)]) dX6_foresees_67 rfl rfl (Nat.le_of_ble_eq_true rfl) rfl rfl ?_
      refine o_goto (tgt := 2) dX6_foresees_70 (by decide) ?_
      exact o_weak (L' := [some (.ref 48), some (.int y1), some (.int (y2 + 1)), none]) ⟨rfl, ⟨rfl, ⟨rfl, trivial⟩⟩⟩ (hk2 y1 (y2 + 1) b2)
    · refine o_iload_n dX6_foresees_30 rfl ?_
      refine o_iload_n dX6_foresees_31 rfl ?_
      refine o_ishr dX6_foresees_32 ?_
      refine o_iconst (v := 1) dX6_foresees_33 (by decide) ?_
      refine o_iand dX6_foresees_34 ?_
      refine o_iconst (v := 1) dX6_foresees_35 (by decide) ?_
      refine o_icmpne (tgt := 56) dX6_foresees_36 (by decide) (fun u3 => ?_) (fun u3 => ?_)
      · refine o_iinc (v := (y3 + 1)) (L' := [some (.ref 48), some (.int y1), some (.int y2), some (.int (y3 + 1))]) dX6_foresees_56 rfl rfl (Nat.le_of_ble_eq_true rfl) rfl rfl ?_
        refine o_goto (tgt := 22) dX6_foresees_59 (by decide) ?_
        exact (ih y1 y2 (y3 + 1) st)
      · refine o_aload_n dX6_foresees_39 rfl ?_
        refine h_get (v := .ref 61) dX6_foresees_40 q6 fl_X6_56 (by decide) (px_ltM (by decide)) (c48 _) rfl ?_
        refine o_bipush (v := 7) dX6_foresees_43 (by decide) ?_
        refine o_iload_n dX6_foresees_45 rfl ?_
        refine o_imul dX6_foresees_46 ?_
        refine o_iload_n dX6_foresees_47 rfl ?_
        refine o_iadd dX6_foresees_48 ?_
        refine o_aload_n dX6_foresees_49 rfl ?_
        refine o_iload_n dX6_foresees_50 rfl ?_
        refine o_iload_n dX6_foresees_51 rfl ?_
        refine h_cVi (as := [.int y3, .int y2]) (S1 := [.int (((7 : Int32) * y2) + y3), .ref 61]) (d' := 43) dX6_foresees_52 mf_X6_goodOf ml_X6_368 mv_X6_goodOf q6 rfl (hp_at (px_ltM (by decide)) (c48 _)) rfl (Nat.le_of_ble_eq_true rfl) rfl (Nat.le_of_ble_eq_true rfl) (fun b hb => k_X6_goodOf hb) (fun b4 hb4 => ?_)
        refine h_iast (n := 896) dX6_foresees_55 (px_ltM (by decide)) c61 (fun u5 => ?_)
        refine o_iinc (v := (y3 + 1)) (L' := [some (.ref 48), some (.int y1), some (.int y2), some (.int (y3 + 1))]) dX6_foresees_56 rfl rfl (Nat.le_of_ble_eq_true rfl) rfl rfl ?_
        refine o_goto (tgt := 22) dX6_foresees_59 (by decide) ?_
        exact (ih y1 y2 (y3 + 1) (up b4.2 61 (((7 : Int32) * y2) + y3).toNatClampNeg b4.1))
def f_X6_foresees_2 (T : Nat) : Nat → Int32 → Int32 → px_S → Option (px_S)
  | 0, _, _, _ => none
  | n + 1, y1, y2, st => (if y2 < ((1 : Int32) <<< ((st 48 11) &&& 31)) then (if (y2 &&& (y1 ^^^ (-1))) = 0 then (f_X6_foresees_22 T (f_X6_foresees_2 T n) 1000 y1 y2 0 st) else ((f_X6_foresees_2 T n) y1 (y2 + 1) st)) else (some st))
set_option maxRecDepth 20000 in
theorem t_X6_foresees_2 (T : Nat) : ∀ (n : Nat) (y1 : Int32) (y2 : Int32) (st : px_S), px_O (45, 0, 0, px_n (T + 2), m_X6_foresees) (px_gv (T + 2)) (f_X6_foresees_2 T n y1 y2 st) 2 [some (.ref 48), some (.int y1), some (.int y2), none] [] (HP (T + 2) st) 0 0 := by
  intro n
  induction n with
  | zero => intro y1 y2 st; rw [f_X6_foresees_2]; exact o_none
  | succ n ih =>
    intro y1 y2 st
    rw [f_X6_foresees_2]
    refine o_iload_n dX6_foresees_2 rfl ?_
    refine o_iconst (v := 1) dX6_foresees_3 (by decide) ?_
    refine o_aload_n dX6_foresees_4 rfl ?_
    refine h_get (v := .int (st 48 11)) dX6_foresees_5 q6 fl_X6_94 (by decide) (px_ltM (by decide)) (c48 _) rfl ?_
    refine o_ishl dX6_foresees_8 ?_
    refine o_icmpge (tgt := 73) dX6_foresees_9 (by decide) (fun u6 => ?_) (fun u6 => ?_)
    · exact o_vret rfl dX6_foresees_73 rfl (Nat.zero_le _) (Nat.zero_le _)
    · refine o_iload_n dX6_foresees_12 rfl ?_
      refine o_iload_n dX6_foresees_13 rfl ?_
      refine o_iconst (v := (-1)) dX6_foresees_14 (by decide) ?_
      refine o_ixor dX6_foresees_15 ?_
      refine o_iand dX6_foresees_16 ?_
      refine o_ifne (tgt := 67) dX6_foresees_17 (by decide) (fun u7 => ?_) (fun u7 => ?_)
      · refine o_iinc (v := (y2 + 1)) (L' := [some (.ref 48), some (.int y1), some (.int (y2 + 1)), none]) dX6_foresees_67 rfl rfl (Nat.le_of_ble_eq_true rfl) rfl rfl ?_
        refine o_goto (tgt := 2) dX6_foresees_70 (by decide) ?_
        exact (ih y1 (y2 + 1) st)
      · refine o_iconst (v := 0) dX6_foresees_20 (by decide) ?_
        refine o_istore_n (L' := [some (.ref 48), some (.int y1), some (.int y2), some (.int 0)]) dX6_foresees_21 (Nat.le_of_ble_eq_true rfl) rfl rfl ?_
        exact (t_X6_foresees_22 T (f_X6_foresees_2 T n) ih 1000 y1 y2 0 st)
def f_X6_foresees (T : Nat) (x0 : Int32) (st : px_S) : Option (px_S) := (f_X6_foresees_2 T 1000 x0 0 st)
set_option maxRecDepth 20000 in
theorem t_X6_foresees (T : Nat) (x0 : Int32) (st : px_S) : px_O (45, 0, 0, px_n (T + 2), m_X6_foresees) (px_gv (T + 2)) (f_X6_foresees T x0 st) 0 [some (.ref 48), some (.int x0), none, none] [] (HP (T + 2) st) 0 0 := by
  rw [f_X6_foresees]
  refine o_iconst (v := 0) dX6_foresees_0 (by decide) ?_
  refine o_istore_n (L' := [some (.ref 48), some (.int x0), some (.int 0), none]) dX6_foresees_1 (Nat.le_of_ble_eq_true rfl) rfl rfl ?_
  exact (t_X6_foresees_2 T 1000 x0 0 st)
theorem k_X6_foresees {T : Nat} {st : px_S} {x0 : Int32} {b : px_S} (hf : f_X6_foresees T x0 st = some b) : px_K (45) 0 0 m_X6_foresees [.ref 48, .int x0] (HP (T + 2) st) ((px_gv (T + 2)) b).1 ((px_gv (T + 2)) b).2 := px_KofH hf mf_X6_foresees (Nat.le_of_ble_eq_true rfl) rfl (t_X6_foresees T x0 st)
/-! ThreeOfThemModel.end(II)I: S, depth 46 -/
def f_X6_end (T : Nat) (x0 : Int32) (x1 : Int32) (st : px_S) : Option (Int32 × px_S) := (if (p_X6_in x0.toInt64 0 (((1 : Int32) <<< ((st 48 11) &&& 31)) - 1).toInt64) = 0 then (some ((-2), st)) else (if (p_X6_in x1.toInt64 0 1) = 0 then (some ((-2), st)) else ((f_X6_foresees T x0 st).bind fun b3 => (if x1 = 0 then (if px_in x0 128 then (some ((b3 60 x0.toNatClampNeg), b3)) else none) else (if px_in x0 128 then (some ((b3 62 x0.toNatClampNeg), b3)) else none)))))
set_option maxRecDepth 20000 in
theorem t_X6_end (T : Nat) (x0 : Int32) (x1 : Int32) (st : px_S) : px_O (46, 0, 0, px_n (T + 2), m_X6_end) (px_gi (T + 2)) (f_X6_end T x0 x1 st) 0 [some (.ref 48), some (.int x0), some (.int x1)] [] (HP (T + 2) st) 0 0 := by
  rw [f_X6_end]
  refine o_iload_n dX6_end_0 rfl ?_
  refine o_i2l dX6_end_1 ?_
  refine o_lconst (v := 0) dX6_end_2 (by decide) ?_
  refine o_iconst (v := 1) dX6_end_3 (by decide) ?_
  refine o_aload_n dX6_end_4 rfl ?_
  refine h_get (v := .int (st 48 11)) dX6_end_5 q6 fl_X6_94 (by decide) (px_ltM (by decide)) (c48 _) rfl ?_
  refine o_ishl dX6_end_8 ?_
  refine o_iconst (v := 1) dX6_end_9 (by decide) ?_
  refine o_isub dX6_end_10 ?_
  refine o_i2l dX6_end_11 ?_
  refine h_cSP (as := [.long x0.toInt64, .long 0, .long (((1 : Int32) <<< ((st 48 11) &&& 31)) - 1).toInt64]) (S1 := []) (d' := 0) dX6_end_12 mf_X6_in ml_X6_97 ms_X6_in rfl (Nat.le_of_ble_eq_true rfl) rfl (Nat.le_of_ble_eq_true rfl) ⟨Nat.zero_le _, Nat.zero_le _⟩ (k_X6_in) ?_
  refine o_ifeq (tgt := 28) dX6_end_15 (by decide) (fun u1 => ?_) (fun u1 => ?_)
  · refine o_bipush (v := (-2)) dX6_end_28 (by decide) ?_
    exact o_iret (rt := .int) rfl rfl dX6_end_30 rfl (Nat.zero_le _) (Nat.zero_le _)
  · refine o_iload_n dX6_end_18 rfl ?_
    refine o_i2l dX6_end_19 ?_
    refine o_lconst (v := 0) dX6_end_20 (by decide) ?_
    refine o_lconst (v := 1) dX6_end_21 (by decide) ?_
    refine h_cSP (as := [.long x1.toInt64, .long 0, .long 1]) (S1 := []) (d' := 0) dX6_end_22 mf_X6_in ml_X6_97 ms_X6_in rfl (Nat.le_of_ble_eq_true rfl) rfl (Nat.le_of_ble_eq_true rfl) ⟨Nat.zero_le _, Nat.zero_le _⟩ (k_X6_in) ?_
    refine o_ifne (tgt := 31) dX6_end_25 (by decide) (fun u2 => ?_) (fun u2 => ?_)
    · refine o_aload_n dX6_end_31 rfl ?_
      refine o_iload_n dX6_end_32 rfl ?_
      refine h_cVv (as := [.int x0]) (S1 := []) (d' := 45) dX6_end_33 mf_X6_foresees ml_X6_421 mv_X6_foresees q6 rfl (hp_at (px_ltM (by decide)) (c48 _)) rfl (Nat.le_of_ble_eq_true rfl) rfl (Nat.le_of_ble_eq_true rfl) (fun b hb => k_X6_foresees hb) (fun b3 hb3 => ?_)
      refine o_iload_n dX6_end_36 rfl ?_
      refine o_ifne (tgt := 49) dX6_end_37 (by decide) (fun u4 => ?_) (fun u4 => ?_)
      · refine o_aload_n dX6_end_49 rfl ?_
        refine h_get (v := .ref 62) dX6_end_50 q6 fl_X6_59 (by decide) (px_ltM (by decide)) (c48 _) rfl ?_
        refine o_iload_n dX6_end_53 rfl ?_
        refine h_iald (n := 128) dX6_end_54 (px_ltM (by decide)) (c62 _) (fun u5 => ?_)
        exact o_iret (rt := .int) rfl rfl dX6_end_55 rfl (Nat.zero_le _) (Nat.zero_le _)
      · refine o_aload_n dX6_end_40 rfl ?_
        refine h_get (v := .ref 60) dX6_end_41 q6 fl_X6_53 (by decide) (px_ltM (by decide)) (c48 _) rfl ?_
        refine o_iload_n dX6_end_44 rfl ?_
        refine h_iald (n := 128) dX6_end_45 (px_ltM (by decide)) (c60 _) (fun u6 => ?_)
        refine o_goto (tgt := 55) dX6_end_46 (by decide) ?_
        exact o_iret (rt := .int) rfl rfl dX6_end_55 rfl (Nat.zero_le _) (Nat.zero_le _)
    · refine o_bipush (v := (-2)) dX6_end_28 (by decide) ?_
      exact o_iret (rt := .int) rfl rfl dX6_end_30 rfl (Nat.zero_le _) (Nat.zero_le _)
theorem k_X6_end {T : Nat} {st : px_S} {x0 : Int32} {x1 : Int32} {b : Int32 × px_S} (hf : f_X6_end T x0 x1 st = some b) : px_K (46) 0 0 m_X6_end [.ref 48, .int x0, .int x1] (HP (T + 2) st) ((px_gi (T + 2)) b).1 ((px_gi (T + 2)) b).2 := px_KofH hf mf_X6_end (Nat.le_of_ble_eq_true rfl) rfl (t_X6_end T x0 x1 st)
/-! ThreeOfThemModel.safe()I: S, depth 45 -/
def f_X6_safe_12 (T : Nat) : Nat → Int32 → Int32 → px_S → Option (Int32 × px_S)
  | 0, _, _, _ => none
  | n + 1, y1, y2, st => (if y2 < (st 48 11) then ((f_X6_isIn T st y2).bind fun b2 => (if b2 = 0 then ((f_X6_safe_12 T n) (y1 ||| ((0 : Int32) <<< (y2 &&& 31))) (y2 + 1) st) else ((f_X6_isSafe T st y2).bind fun b4 => (if b4 = 0 then ((f_X6_safe_12 T n) (y1 ||| ((0 : Int32) <<< (y2 &&& 31))) (y2 + 1) st) else ((f_X6_safe_12 T n) (y1 ||| ((1 : Int32) <<< (y2 &&& 31))) (y2 + 1) st))))) else (some (y1, st)))
set_option maxRecDepth 20000 in
theorem t_X6_safe_12 (T : Nat) : ∀ (n : Nat) (y1 : Int32) (y2 : Int32) (st : px_S), px_O (45, 0, 0, px_n (T + 2), m_X6_safe) (px_gi (T + 2)) (f_X6_safe_12 T n y1 y2 st) 12 [some (.ref 48), some (.int y1), some (.int y2)] [] (HP (T + 2) st) 0 0 := by
  intro n
  induction n with
  | zero => intro y1 y2 st; rw [f_X6_safe_12]; exact o_none
  | succ n ih =>
    intro y1 y2 st
    rw [f_X6_safe_12]
    refine o_iload_n dX6_safe_12 rfl ?_
    refine o_aload_n dX6_safe_13 rfl ?_
    refine h_get (v := .int (st 48 11)) dX6_safe_14 q6 fl_X6_94 (by decide) (px_ltM (by decide)) (c48 _) rfl ?_
    refine o_icmpge (tgt := 52) dX6_safe_17 (by decide) (fun u1 => ?_) (fun u1 => ?_)
    · refine o_iload_n dX6_safe_52 rfl ?_
      exact o_iret (rt := .int) rfl rfl dX6_safe_53 rfl (Nat.zero_le _) (Nat.zero_le _)
    · refine o_iload_n dX6_safe_20 rfl ?_
      refine o_aload_n dX6_safe_21 rfl ?_
      refine o_iload_n dX6_safe_22 rfl ?_
      refine h_cV0 (as := [.int y2]) (S1 := [.int y1]) (d' := 2) dX6_safe_23 mf_X6_isIn ml_X6_365 mv_X6_isIn q6 rfl (hp_at (px_ltM (by decide)) (c48 _)) rfl (Nat.le_of_ble_eq_true rfl) rfl (Nat.le_of_ble_eq_true rfl) ⟨Nat.zero_le _, Nat.zero_le _⟩ (fun b hb => k_X6_isIn hb) (fun b2 hb2 => ?_)
      refine o_ifeq (tgt := 41) dX6_safe_26 (by decide) (fun u3 => ?_) (fun u3 => ?_)
      · refine o_iconst (v := 0) dX6_safe_41 (by decide) ?_
        refine o_iload_n dX6_safe_42 rfl ?_
        refine o_ishl dX6_safe_43 ?_
        refine o_ior dX6_safe_44 ?_
        refine o_istore_n (L' := [some (.ref 48), some (.int (y1 ||| ((0 : Int32) <<< (y2 &&& 31)))), some (.int y2)]) dX6_safe_45 (Nat.le_of_ble_eq_true rfl) rfl rfl ?_
        refine o_iinc (v := (y2 + 1)) (L' := [some (.ref 48), some (.int (y1 ||| ((0 : Int32) <<< (y2 &&& 31)))), some (.int (y2 + 1))]) dX6_safe_46 rfl rfl (Nat.le_of_ble_eq_true rfl) rfl rfl ?_
        refine o_goto (tgt := 12) dX6_safe_49 (by decide) ?_
        exact (ih (y1 ||| ((0 : Int32) <<< (y2 &&& 31))) (y2 + 1) st)
      · refine o_aload_n dX6_safe_29 rfl ?_
        refine o_iload_n dX6_safe_30 rfl ?_
        refine h_cV0 (as := [.int y2]) (S1 := [.int y1]) (d' := 3) dX6_safe_31 mf_X6_isSafe ml_X6_424 mv_X6_isSafe q6 rfl (hp_at (px_ltM (by decide)) (c48 _)) rfl (Nat.le_of_ble_eq_true rfl) rfl (Nat.le_of_ble_eq_true rfl) ⟨Nat.zero_le _, Nat.zero_le _⟩ (fun b hb => k_X6_isSafe hb) (fun b4 hb4 => ?_)
        refine o_ifeq (tgt := 41) dX6_safe_34 (by decide) (fun u5 => ?_) (fun u5 => ?_)
        · refine o_iconst (v := 0) dX6_safe_41 (by decide) ?_
          refine o_iload_n dX6_safe_42 rfl ?_
          refine o_ishl dX6_safe_43 ?_
          refine o_ior dX6_safe_44 ?_
          refine o_istore_n (L' := [some (.ref 48), some (.int (y1 ||| ((0 : Int32) <<< (y2 &&& 31)))), some (.int y2)]) dX6_safe_45 (Nat.le_of_ble_eq_true rfl) rfl rfl ?_
          refine o_iinc (v := (y2 + 1)) (L' := [some (.ref 48), some (.int (y1 ||| ((0 : Int32) <<< (y2 &&& 31)))), some (.int (y2 + 1))]) dX6_safe_46 rfl rfl (Nat.le_of_ble_eq_true rfl) rfl rfl ?_
          refine o_goto (tgt := 12) dX6_safe_49 (by decide) ?_
          exact (ih (y1 ||| ((0 : Int32) <<< (y2 &&& 31))) (y2 + 1) st)
        · refine o_iconst (v := 1) dX6_safe_37 (by decide) ?_
          refine o_goto (tgt := 42) dX6_safe_38 (by decide) ?_
          refine o_iload_n dX6_safe_42 rfl ?_
          refine o_ishl dX6_safe_43 ?_
          refine o_ior dX6_safe_44 ?_
          refine o_istore_n (L' := [some (.ref 48), some (.int (y1 ||| ((1 : Int32) <<< (y2 &&& 31)))), some (.int y2)]) dX6_safe_45 (Nat.le_of_ble_eq_true rfl) rfl rfl ?_
          refine o_iinc (v := (y2 + 1)) (L' := [some (.ref 48), some (.int (y1 ||| ((1 : Int32) <<< (y2 &&& 31)))), some (.int (y2 + 1))]) dX6_safe_46 rfl rfl (Nat.le_of_ble_eq_true rfl) rfl rfl ?_
          refine o_goto (tgt := 12) dX6_safe_49 (by decide) ?_
          exact (ih (y1 ||| ((1 : Int32) <<< (y2 &&& 31))) (y2 + 1) st)
def f_X6_safe (T : Nat) (st : px_S) : Option (Int32 × px_S) := ((f_X6_looks T (st 48 12) st).bind fun b6 => (f_X6_safe_12 T 1000 0 0 b6))
set_option maxRecDepth 20000 in
theorem t_X6_safe (T : Nat) (st : px_S) : px_O (45, 0, 0, px_n (T + 2), m_X6_safe) (px_gi (T + 2)) (f_X6_safe T st) 0 [some (.ref 48), none, none] [] (HP (T + 2) st) 0 0 := by
  rw [f_X6_safe]
  refine o_aload_n dX6_safe_0 rfl ?_
  refine o_aload_n dX6_safe_1 rfl ?_
  refine h_get (v := .int (st 48 12)) dX6_safe_2 q6 fl_X6_105 (by decide) (px_ltM (by decide)) (c48 _) rfl ?_
  refine h_cVv (as := [.int (st 48 12)]) (S1 := []) (d' := 44) dX6_safe_5 mf_X6_looks ml_X6_396 mv_X6_looks q6 rfl (hp_at (px_ltM (by decide)) (c48 _)) rfl (Nat.le_of_ble_eq_true rfl) rfl (Nat.le_of_ble_eq_true rfl) (fun b hb => k_X6_looks hb) (fun b6 hb6 => ?_)
  refine o_iconst (v := 0) dX6_safe_8 (by decide) ?_
  refine o_istore_n (L' := [some (.ref 48), some (.int 0), none]) dX6_safe_9 (Nat.le_of_ble_eq_true rfl) rfl rfl ?_
  refine o_iconst (v := 0) dX6_safe_10 (by decide) ?_
  refine o_istore_n (L' := [some (.ref 48), some (.int 0), some (.int 0)]) dX6_safe_11 (Nat.le_of_ble_eq_true rfl) rfl rfl ?_
  exact (t_X6_safe_12 T 1000 0 0 b6)
theorem k_X6_safe {T : Nat} {st : px_S} {b : Int32 × px_S} (hf : f_X6_safe T st = some b) : px_K (45) 0 0 m_X6_safe [.ref 48] (HP (T + 2) st) ((px_gi (T + 2)) b).1 ((px_gi (T + 2)) b).2 := px_KofH hf mf_X6_safe (Nat.le_of_ble_eq_true rfl) rfl (t_X6_safe T st)
/-! ThreeOfThemModel.sworn(I)I: S, depth 45 -/
def f_X6_sworn_89 (T : Nat) (k34 : Int32 → Int32 → Int32 → px_S → Option (Int32 × px_S)) (y1 : Int32) (y3 : Int32) (z0 : Int32) (st : px_S) : Option (Int32 × px_S) := ((f_X6_swears T y1 y3 0 st).bind fun b1 => (k34 y1 z0 (y3 + 1) b1))
set_option maxRecDepth 20000 in
theorem t_X6_sworn_89 (T : Nat) (k34 : Int32 → Int32 → Int32 → px_S → Option (Int32 × px_S)) (hk34 : ∀ (y1 : Int32) (y2 : Int32) (y3 : Int32) (st : px_S), px_O (45, 0, 0, px_n (T + 2), m_X6_sworn) (px_gi (T + 2)) (k34 y1 y2 y3 st) 34 [some (.ref 48), some (.int y1), some (.int y2), some (.int y3)] [] (HP (T + 2) st) 0 0) (y1 : Int32) (y3 : Int32) (z0 : Int32) (st : px_S) : px_O (45, 0, 0, px_n (T + 2), m_X6_sworn) (px_gi (T + 2)) (f_X6_sworn_89 T k34 y1 y3 z0 st) 89 [some (.ref 48), some (.int y1), none, some (.int y3)] [.int z0] (HP (T + 2) st) 0 0 := by
  rw [f_X6_sworn_89]
  refine o_istore_n (L' := [some (.ref 48), some (.int y1), some (.int z0), some (.int y3)]) dX6_sworn_89 (Nat.le_of_ble_eq_true rfl) rfl rfl ?_
  refine o_aload_n dX6_sworn_90 rfl ?_
  refine o_iload_n dX6_sworn_91 rfl ?_
  refine o_iload_n dX6_sworn_92 rfl ?_
  refine o_iconst (v := 0) dX6_sworn_93 (by decide) ?_
  refine h_cVv (as := [.int y1, .int y3, .int 0]) (S1 := []) (d' := 0) dX6_sworn_94 mf_X6_swears ml_X6_116 mv_X6_swears q6 rfl (hp_at (px_ltM (by decide)) (c48 _)) rfl (Nat.le_of_ble_eq_true rfl) rfl (Nat.le_of_ble_eq_true rfl) (fun b hb => k_X6_swears hb) (fun b1 hb1 => ?_)
  refine o_iinc (v := (y3 + 1)) (L' := [some (.ref 48), some (.int y1), some (.int z0), some (.int (y3 + 1))]) dX6_sworn_97 rfl rfl (Nat.le_of_ble_eq_true rfl) rfl rfl ?_
  refine o_goto (tgt := 34) dX6_sworn_100 (by decide) ?_
  exact (hk34 y1 z0 (y3 + 1) b1)
def f_X6_sworn_34 (T : Nat) : Nat → Int32 → Int32 → Int32 → px_S → Option (Int32 × px_S)
  | 0, _, _, _, _ => none
  | n + 1, y1, y2, y3, st => (if y3 < (st 48 11) then (if y2 = (-1) then ((f_X6_isIn T st y3).bind fun b4 => (if b4 = 0 then ((f_X6_sworn_34 T n) y1 y2 (y3 + 1) st) else (if y3 = y1 then ((f_X6_sworn_34 T n) y1 y2 (y3 + 1) st) else ((f_X6_areSworn T st y1 y3).bind fun b7 => (if b7 = 0 then ((f_X6_swears T y1 y3 1 st).bind fun b9 => ((f_X6_isSafe T b9 y1).bind fun b10 => (if b10 = 0 then (f_X6_sworn_89 T (f_X6_sworn_34 T n) y1 y3 (-1) b9) else (f_X6_sworn_89 T (f_X6_sworn_34 T n) y1 y3 y3 b9)))) else ((f_X6_sworn_34 T n) y1 y2 (y3 + 1) st)))))) else (some (y2, st))) else (some (y2, st)))
set_option maxRecDepth 20000 in
theorem t_X6_sworn_34 (T : Nat) : ∀ (n : Nat) (y1 : Int32) (y2 : Int32) (y3 : Int32) (st : px_S), px_O (45, 0, 0, px_n (T + 2), m_X6_sworn) (px_gi (T + 2)) (f_X6_sworn_34 T n y1 y2 y3 st) 34 [some (.ref 48), some (.int y1), some (.int y2), some (.int y3)] [] (HP (T + 2) st) 0 0 := by
  intro n
  induction n with
  | zero => intro y1 y2 y3 st; rw [f_X6_sworn_34]; exact o_none
  | succ n ih =>
    intro y1 y2 y3 st
    rw [f_X6_sworn_34]
    refine o_iload_n dX6_sworn_34 rfl ?_
    refine o_aload_n dX6_sworn_35 rfl ?_
    refine h_get (v := .int (st 48 11)) dX6_sworn_36 q6 fl_X6_94 (by decide) (px_ltM (by decide)) (c48 _) rfl ?_
    refine o_icmpge (tgt := 103) dX6_sworn_39 (by decide) (fun u2 => ?_) (fun u2 => ?_)
    · refine o_iload_n dX6_sworn_103 rfl ?_
      exact o_iret (rt := .int) rfl rfl dX6_sworn_104 rfl (Nat.zero_le _) (Nat.zero_le _)
    · refine o_iload_n dX6_sworn_42 rfl ?_
      refine o_iconst (v := (-1)) dX6_sworn_43 (by decide) ?_
      refine o_icmpne (tgt := 103) dX6_sworn_44 (by decide) (fun u3 => ?_) (fun u3 => ?_)
      · refine o_iload_n dX6_sworn_103 rfl ?_
        exact o_iret (rt := .int) rfl rfl dX6_sworn_104 rfl (Nat.zero_le _) (Nat.zero_le _)
      · refine o_aload_n dX6_sworn_47 rfl ?_
        refine o_iload_n dX6_sworn_48 rfl ?_
        refine h_cV0 (as := [.int y3]) (S1 := []) (d' := 2) dX6_sworn_49 mf_X6_isIn ml_X6_365 mv_X6_isIn q6 rfl (hp_at (px_ltM (by decide)) (c48 _)) rfl (Nat.le_of_ble_eq_true rfl) rfl (Nat.le_of_ble_eq_true rfl) ⟨Nat.zero_le _, Nat.zero_le _⟩ (fun b hb => k_X6_isIn hb) (fun b4 hb4 => ?_)
        refine o_ifeq (tgt := 97) dX6_sworn_52 (by decide) (fun u5 => ?_) (fun u5 => ?_)
        · refine o_iinc (v := (y3 + 1)) (L' := [some (.ref 48), some (.int y1), some (.int y2), some (.int (y3 + 1))]) dX6_sworn_97 rfl rfl (Nat.le_of_ble_eq_true rfl) rfl rfl ?_
          refine o_goto (tgt := 34) dX6_sworn_100 (by decide) ?_
          exact (ih y1 y2 (y3 + 1) st)
        · refine o_iload_n dX6_sworn_55 rfl ?_
          refine o_iload_n dX6_sworn_56 rfl ?_
          refine o_icmpeq (tgt := 97) dX6_sworn_57 (by decide) (fun u6 => ?_) (fun u6 => ?_)
          · refine o_iinc (v := (y3 + 1)) (L' := [some (.ref 48), some (.int y1), some (.int y2), some (.int (y3 + 1))]) dX6_sworn_97 rfl rfl (Nat.le_of_ble_eq_true rfl) rfl rfl ?_
            refine o_goto (tgt := 34) dX6_sworn_100 (by decide) ?_
            exact (ih y1 y2 (y3 + 1) st)
          · refine o_aload_n dX6_sworn_60 rfl ?_
            refine o_iload_n dX6_sworn_61 rfl ?_
            refine o_iload_n dX6_sworn_62 rfl ?_
            refine h_cV0 (as := [.int y1, .int y3]) (S1 := []) (d' := 0) dX6_sworn_63 mf_X6_areSworn ml_X6_112 mv_X6_areSworn q6 rfl (hp_at (px_ltM (by decide)) (c48 _)) rfl (Nat.le_of_ble_eq_true rfl) rfl (Nat.le_of_ble_eq_true rfl) ⟨Nat.zero_le _, Nat.zero_le _⟩ (fun b hb => k_X6_areSworn hb) (fun b7 hb7 => ?_)
            refine o_ifne (tgt := 97) dX6_sworn_66 (by decide) (fun u8 => ?_) (fun u8 => ?_)
            · refine o_iinc (v := (y3 + 1)) (L' := [some (.ref 48), some (.int y1), some (.int y2), some (.int (y3 + 1))]) dX6_sworn_97 rfl rfl (Nat.le_of_ble_eq_true rfl) rfl rfl ?_
              refine o_goto (tgt := 34) dX6_sworn_100 (by decide) ?_
              exact (ih y1 y2 (y3 + 1) st)
            · refine o_aload_n dX6_sworn_69 rfl ?_
              refine o_iload_n dX6_sworn_70 rfl ?_
              refine o_iload_n dX6_sworn_71 rfl ?_
              refine o_iconst (v := 1) dX6_sworn_72 (by decide) ?_
              refine h_cVv (as := [.int y1, .int y3, .int 1]) (S1 := []) (d' := 0) dX6_sworn_73 mf_X6_swears ml_X6_116 mv_X6_swears q6 rfl (hp_at (px_ltM (by decide)) (c48 _)) rfl (Nat.le_of_ble_eq_true rfl) rfl (Nat.le_of_ble_eq_true rfl) (fun b hb => k_X6_swears hb) (fun b9 hb9 => ?_)
              refine o_aload_n dX6_sworn_76 rfl ?_
              refine o_iload_n dX6_sworn_77 rfl ?_
              refine h_cV0 (as := [.int y1]) (S1 := []) (d' := 3) dX6_sworn_78 mf_X6_isSafe ml_X6_424 mv_X6_isSafe q6 rfl (hp_at (px_ltM (by decide)) (c48 _)) rfl (Nat.le_of_ble_eq_true rfl) rfl (Nat.le_of_ble_eq_true rfl) ⟨Nat.zero_le _, Nat.zero_le _⟩ (fun b hb => k_X6_isSafe hb) (fun b10 hb10 => ?_)
              refine o_ifeq (tgt := 88) dX6_sworn_81 (by decide) (fun u11 => ?_) (fun u11 => ?_)
              · refine o_iconst (v := (-1)) dX6_sworn_88 (by decide) ?_
                exact o_weak (L' := [some (.ref 48), some (.int y1), none, some (.int y3)]) ⟨rfl, ⟨rfl, ⟨rfl, trivial⟩⟩⟩ (t_X6_sworn_89 T (f_X6_sworn_34 T n) ih y1 y3 (-1) b9)
              · refine o_iload_n dX6_sworn_84 rfl ?_
                refine o_goto (tgt := 89) dX6_sworn_85 (by decide) ?_
                exact o_weak (L' := [some (.ref 48), some (.int y1), none, some (.int y3)]) ⟨rfl, ⟨rfl, ⟨rfl, trivial⟩⟩⟩ (t_X6_sworn_89 T (f_X6_sworn_34 T n) ih y1 y3 y3 b9)
def f_X6_sworn (T : Nat) (x0 : Int32) (st : px_S) : Option (Int32 × px_S) := ((f_X6_isIn T st x0).bind fun b12 => (if b12 = 0 then (some ((-2), st)) else ((f_X6_looks T (st 48 12) st).bind fun b14 => ((f_X6_isSafe T b14 x0).bind fun b15 => (if b15 = 0 then (f_X6_sworn_34 T 1000 x0 (-1) 0 b14) else (some ((-2), b14)))))))
set_option maxRecDepth 20000 in
theorem t_X6_sworn (T : Nat) (x0 : Int32) (st : px_S) : px_O (45, 0, 0, px_n (T + 2), m_X6_sworn) (px_gi (T + 2)) (f_X6_sworn T x0 st) 0 [some (.ref 48), some (.int x0), none, none] [] (HP (T + 2) st) 0 0 := by
  rw [f_X6_sworn]
  refine o_aload_n dX6_sworn_0 rfl ?_
  refine o_iload_n dX6_sworn_1 rfl ?_
  refine h_cV0 (as := [.int x0]) (S1 := []) (d' := 2) dX6_sworn_2 mf_X6_isIn ml_X6_365 mv_X6_isIn q6 rfl (hp_at (px_ltM (by decide)) (c48 _)) rfl (Nat.le_of_ble_eq_true rfl) rfl (Nat.le_of_ble_eq_true rfl) ⟨Nat.zero_le _, Nat.zero_le _⟩ (fun b hb => k_X6_isIn hb) (fun b12 hb12 => ?_)
  refine o_ifne (tgt := 11) dX6_sworn_5 (by decide) (fun u13 => ?_) (fun u13 => ?_)
  · refine o_aload_n dX6_sworn_11 rfl ?_
    refine o_aload_n dX6_sworn_12 rfl ?_
    refine h_get (v := .int (st 48 12)) dX6_sworn_13 q6 fl_X6_105 (by decide) (px_ltM (by decide)) (c48 _) rfl ?_
    refine h_cVv (as := [.int (st 48 12)]) (S1 := []) (d' := 44) dX6_sworn_16 mf_X6_looks ml_X6_396 mv_X6_looks q6 rfl (hp_at (px_ltM (by decide)) (c48 _)) rfl (Nat.le_of_ble_eq_true rfl) rfl (Nat.le_of_ble_eq_true rfl) (fun b hb => k_X6_looks hb) (fun b14 hb14 => ?_)
    refine o_aload_n dX6_sworn_19 rfl ?_
    refine o_iload_n dX6_sworn_20 rfl ?_
    refine h_cV0 (as := [.int x0]) (S1 := []) (d' := 3) dX6_sworn_21 mf_X6_isSafe ml_X6_424 mv_X6_isSafe q6 rfl (hp_at (px_ltM (by decide)) (c48 _)) rfl (Nat.le_of_ble_eq_true rfl) rfl (Nat.le_of_ble_eq_true rfl) ⟨Nat.zero_le _, Nat.zero_le _⟩ (fun b hb => k_X6_isSafe hb) (fun b15 hb15 => ?_)
    refine o_ifeq (tgt := 30) dX6_sworn_24 (by decide) (fun u16 => ?_) (fun u16 => ?_)
    · refine o_iconst (v := (-1)) dX6_sworn_30 (by decide) ?_
      refine o_istore_n (L' := [some (.ref 48), some (.int x0), some (.int (-1)), none]) dX6_sworn_31 (Nat.le_of_ble_eq_true rfl) rfl rfl ?_
      refine o_iconst (v := 0) dX6_sworn_32 (by decide) ?_
      refine o_istore_n (L' := [some (.ref 48), some (.int x0), some (.int (-1)), some (.int 0)]) dX6_sworn_33 (Nat.le_of_ble_eq_true rfl) rfl rfl ?_
      exact (t_X6_sworn_34 T 1000 x0 (-1) 0 b14)
    · refine o_bipush (v := (-2)) dX6_sworn_27 (by decide) ?_
      exact o_iret (rt := .int) rfl rfl dX6_sworn_29 rfl (Nat.zero_le _) (Nat.zero_le _)
  · refine o_bipush (v := (-2)) dX6_sworn_8 (by decide) ?_
    exact o_iret (rt := .int) rfl rfl dX6_sworn_10 rfl (Nat.zero_le _) (Nat.zero_le _)
theorem k_X6_sworn {T : Nat} {st : px_S} {x0 : Int32} {b : Int32 × px_S} (hf : f_X6_sworn T x0 st = some b) : px_K (45) 0 0 m_X6_sworn [.ref 48, .int x0] (HP (T + 2) st) ((px_gi (T + 2)) b).1 ((px_gi (T + 2)) b).2 := px_KofH hf mf_X6_sworn (Nat.le_of_ble_eq_true rfl) rfl (t_X6_sworn T x0 st)
/-! ThreeOfThemModel.canSwear(I)Z: R, depth 3 -/
def f_X6_canSwear (T : Nat) (st : px_S) (x0 : Int32) : Option (Int32) := (if (x0 / 7) < (x0 - x0 / 7 * 7) then ((f_X6_isIn T st (x0 / 7)).bind fun b2 => (if b2 = 0 then (some 0) else ((f_X6_isIn T st (x0 - x0 / 7 * 7)).bind fun b4 => (if b4 = 0 then (some 0) else ((f_X6_areSworn T st (x0 / 7) (x0 - x0 / 7 * 7)).bind fun b6 => (if b6 = 0 then (some 1) else (some 0))))))) else (some 0))
set_option maxRecDepth 20000 in
theorem t_X6_canSwear (T : Nat) (st : px_S) (x0 : Int32) : px_O (3, 0, 0, px_n (T + 2), m_X6_canSwear) (px_g0 (HP (T + 2) st)) (f_X6_canSwear T st x0) 0 [some (.ref 48), some (.int x0)] [] (HP (T + 2) st) 0 0 := by
  rw [f_X6_canSwear]
  refine o_iload_n dX6_canSwear_0 rfl ?_
  refine o_bipush (v := 7) dX6_canSwear_1 (by decide) ?_
  refine o_idiv dX6_canSwear_3 (by decide) ?_
  refine o_iload_n dX6_canSwear_4 rfl ?_
  refine o_bipush (v := 7) dX6_canSwear_5 (by decide) ?_
  refine o_irem dX6_canSwear_7 (by decide) ?_
  refine o_icmpge (tgt := 52) dX6_canSwear_8 (by decide) (fun u1 => ?_) (fun u1 => ?_)
  · refine o_iconst (v := 0) dX6_canSwear_52 (by decide) ?_
    exact o_iret (rt := .boolean) rfl rfl dX6_canSwear_53 rfl (Nat.zero_le _) (Nat.zero_le _)
  · refine o_aload_n dX6_canSwear_11 rfl ?_
    refine o_iload_n dX6_canSwear_12 rfl ?_
    refine o_bipush (v := 7) dX6_canSwear_13 (by decide) ?_
    refine o_idiv dX6_canSwear_15 (by decide) ?_
    refine h_cV0 (as := [.int (x0 / 7)]) (S1 := []) (d' := 2) dX6_canSwear_16 mf_X6_isIn ml_X6_365 mv_X6_isIn q6 rfl (hp_at (px_ltM (by decide)) (c48 _)) rfl (Nat.le_of_ble_eq_true rfl) rfl (Nat.le_of_ble_eq_true rfl) ⟨Nat.zero_le _, Nat.zero_le _⟩ (fun b hb => k_X6_isIn hb) (fun b2 hb2 => ?_)
    refine o_ifeq (tgt := 52) dX6_canSwear_19 (by decide) (fun u3 => ?_) (fun u3 => ?_)
    · refine o_iconst (v := 0) dX6_canSwear_52 (by decide) ?_
      exact o_iret (rt := .boolean) rfl rfl dX6_canSwear_53 rfl (Nat.zero_le _) (Nat.zero_le _)
    · refine o_aload_n dX6_canSwear_22 rfl ?_
      refine o_iload_n dX6_canSwear_23 rfl ?_
      refine o_bipush (v := 7) dX6_canSwear_24 (by decide) ?_
      refine o_irem dX6_canSwear_26 (by decide) ?_
      refine h_cV0 (as := [.int (x0 - x0 / 7 * 7)]) (S1 := []) (d' := 2) dX6_canSwear_27 mf_X6_isIn ml_X6_365 mv_X6_isIn q6 rfl (hp_at (px_ltM (by decide)) (c48 _)) rfl (Nat.le_of_ble_eq_true rfl) rfl (Nat.le_of_ble_eq_true rfl) ⟨Nat.zero_le _, Nat.zero_le _⟩ (fun b hb => k_X6_isIn hb) (fun b4 hb4 => ?_)
      refine o_ifeq (tgt := 52) dX6_canSwear_30 (by decide) (fun u5 => ?_) (fun u5 => ?_)
      · refine o_iconst (v := 0) dX6_canSwear_52 (by decide) ?_
        exact o_iret (rt := .boolean) rfl rfl dX6_canSwear_53 rfl (Nat.zero_le _) (Nat.zero_le _)
      · refine o_aload_n dX6_canSwear_33 rfl ?_
        refine o_iload_n dX6_canSwear_34 rfl ?_
        refine o_bipush (v := 7) dX6_canSwear_35 (by decide) ?_
        refine o_idiv dX6_canSwear_37 (by decide) ?_
        refine o_iload_n dX6_canSwear_38 rfl ?_
        refine o_bipush (v := 7) dX6_canSwear_39 (by decide) ?_
        refine o_irem dX6_canSwear_41 (by decide) ?_
        refine h_cV0 (as := [.int (x0 / 7), .int (x0 - x0 / 7 * 7)]) (S1 := []) (d' := 0) dX6_canSwear_42 mf_X6_areSworn ml_X6_112 mv_X6_areSworn q6 rfl (hp_at (px_ltM (by decide)) (c48 _)) rfl (Nat.le_of_ble_eq_true rfl) rfl (Nat.le_of_ble_eq_true rfl) ⟨Nat.zero_le _, Nat.zero_le _⟩ (fun b hb => k_X6_areSworn hb) (fun b6 hb6 => ?_)
        refine o_ifne (tgt := 52) dX6_canSwear_45 (by decide) (fun u7 => ?_) (fun u7 => ?_)
        · refine o_iconst (v := 0) dX6_canSwear_52 (by decide) ?_
          exact o_iret (rt := .boolean) rfl rfl dX6_canSwear_53 rfl (Nat.zero_le _) (Nat.zero_le _)
        · refine o_iconst (v := 1) dX6_canSwear_48 (by decide) ?_
          refine o_goto (tgt := 53) dX6_canSwear_49 (by decide) ?_
          exact o_iret (rt := .boolean) rfl rfl dX6_canSwear_53 rfl (Nat.zero_le _) (Nat.zero_le _)
theorem k_X6_canSwear_o {T : Nat} {st : px_S} {x0 : Int32} {b : Int32} (hf : f_X6_canSwear T st x0 = some b) : px_K (3) 0 0 m_X6_canSwear [.ref 48, .int x0] (HP (T + 2) st) (some (.int b)) (HP (T + 2) st) := px_KofH (g := px_g0 (HP (T + 2) st)) hf mf_X6_canSwear (Nat.le_of_ble_eq_true rfl) rfl (t_X6_canSwear T st x0)
theorem k_X6_canSwear {T : Nat} {st : px_S} {x0 : Int32} {b : Int32} (hf : f_X6_canSwear T st x0 = some b) : px_K (3) 0 0 m_X6_canSwear [.ref 48, .int x0] (HP (T + 2) st) (some (.int b)) (HP (T + 2) st) := k_X6_canSwear_o hf
/-! ThreeOfThemModel.findsOaths()V: S, depth 45 -/
def f_X6_findsOaths_205 (T : Nat) (k127 : Int32 → Int32 → px_S → Option (px_S)) (y1 : Int32) (y2 : Int32) (st : px_S) : Option (px_S) := ((f_X6_swears T (y1 / 7) (y1 - y1 / 7 * 7) 0 st).bind fun b1 => ((f_X6_swears T (y2 / 7) (y2 - y2 / 7 * 7) 0 b1).bind fun b2 => (k127 y1 (y2 + 1) b2)))
set_option maxRecDepth 20000 in
theorem t_X6_findsOaths_205 (T : Nat) (k127 : Int32 → Int32 → px_S → Option (px_S)) (hk127 : ∀ (y1 : Int32) (y2 : Int32) (st : px_S), px_O (45, 0, 0, px_n (T + 2), m_X6_findsOaths) (px_gv (T + 2)) (k127 y1 y2 st) 127 [some (.ref 48), some (.int y1), some (.int y2)] [] (HP (T + 2) st) 0 0) (y1 : Int32) (y2 : Int32) (st : px_S) : px_O (45, 0, 0, px_n (T + 2), m_X6_findsOaths) (px_gv (T + 2)) (f_X6_findsOaths_205 T k127 y1 y2 st) 205 [some (.ref 48), some (.int y1), some (.int y2)] [] (HP (T + 2) st) 0 0 := by
  rw [f_X6_findsOaths_205]
  refine o_aload_n dX6_findsOaths_205 rfl ?_
  refine o_iload_n dX6_findsOaths_206 rfl ?_
  refine o_bipush (v := 7) dX6_findsOaths_207 (by decide) ?_
  refine o_idiv dX6_findsOaths_209 (by decide) ?_
  refine o_iload_n dX6_findsOaths_210 rfl ?_
  refine o_bipush (v := 7) dX6_findsOaths_211 (by decide) ?_
  refine o_irem dX6_findsOaths_213 (by decide) ?_
  refine o_iconst (v := 0) dX6_findsOaths_214 (by decide) ?_
  refine h_cVv (as := [.int (y1 / 7), .int (y1 - y1 / 7 * 7), .int 0]) (S1 := []) (d' := 0) dX6_findsOaths_215 mf_X6_swears ml_X6_116 mv_X6_swears q6 rfl (hp_at (px_ltM (by decide)) (c48 _)) rfl (Nat.le_of_ble_eq_true rfl) rfl (Nat.le_of_ble_eq_true rfl) (fun b hb => k_X6_swears hb) (fun b1 hb1 => ?_)
  refine o_aload_n dX6_findsOaths_218 rfl ?_
  refine o_iload_n dX6_findsOaths_219 rfl ?_
  refine o_bipush (v := 7) dX6_findsOaths_220 (by decide) ?_
  refine o_idiv dX6_findsOaths_222 (by decide) ?_
  refine o_iload_n dX6_findsOaths_223 rfl ?_
  refine o_bipush (v := 7) dX6_findsOaths_224 (by decide) ?_
  refine o_irem dX6_findsOaths_226 (by decide) ?_
  refine o_iconst (v := 0) dX6_findsOaths_227 (by decide) ?_
  refine h_cVv (as := [.int (y2 / 7), .int (y2 - y2 / 7 * 7), .int 0]) (S1 := []) (d' := 0) dX6_findsOaths_228 mf_X6_swears ml_X6_116 mv_X6_swears q6 rfl (hp_at (px_ltM (by decide)) (c48 _)) rfl (Nat.le_of_ble_eq_true rfl) rfl (Nat.le_of_ble_eq_true rfl) (fun b hb => k_X6_swears hb) (fun b2 hb2 => ?_)
  refine o_iinc (v := (y2 + 1)) (L' := [some (.ref 48), some (.int y1), some (.int (y2 + 1))]) dX6_findsOaths_231 rfl rfl (Nat.le_of_ble_eq_true rfl) rfl rfl ?_
  refine o_goto (tgt := 127) dX6_findsOaths_234 (by decide) ?_
  exact (hk127 y1 (y2 + 1) b2)
def f_X6_findsOaths_127 (T : Nat) (k109 : Int32 → px_S → Option (px_S)) : Nat → Int32 → Int32 → px_S → Option (px_S)
  | 0, _, _, _ => none
  | n + 1, y1, y2, st => (if y2 < 49 then (if (st 48 42) = (-1) then ((f_X6_canSwear T st y1).bind fun b5 => (if b5 = 0 then ((f_X6_findsOaths_127 T k109 n) y1 (y2 + 1) st) else ((f_X6_canSwear T st y2).bind fun b7 => (if b7 = 0 then ((f_X6_findsOaths_127 T k109 n) y1 (y2 + 1) st) else ((f_X6_swears T (y1 / 7) (y1 - y1 / 7 * 7) 1 st).bind fun b9 => ((f_X6_swears T (y2 / 7) (y2 - y2 / 7 * 7) 1 b9).bind fun b10 => ((f_X6_isRest T b10).bind fun b11 => (if b11.1 = 0 then (f_X6_findsOaths_205 T (f_X6_findsOaths_127 T k109 n) y1 y2 b11.2) else (f_X6_findsOaths_205 T (f_X6_findsOaths_127 T k109 n) y1 y2 (up (up (up b11.2 48 42 2) 48 43 y1) 48 44 y2)))))))))) else (k109 (y1 + 1) st)) else (k109 (y1 + 1) st))
set_option maxRecDepth 20000 in
theorem t_X6_findsOaths_127 (T : Nat) (k109 : Int32 → px_S → Option (px_S)) (hk109 : ∀ (y1 : Int32) (st : px_S), px_O (45, 0, 0, px_n (T + 2), m_X6_findsOaths) (px_gv (T + 2)) (k109 y1 st) 109 [some (.ref 48), some (.int y1), none] [] (HP (T + 2) st) 0 0) : ∀ (n : Nat) (y1 : Int32) (y2 : Int32) (st : px_S), px_O (45, 0, 0, px_n (T + 2), m_X6_findsOaths) (px_gv (T + 2)) (f_X6_findsOaths_127 T k109 n y1 y2 st) 127 [some (.ref 48), some (.int y1), some (.int y2)] [] (HP (T + 2) st) 0 0 := by
  intro n
  induction n with
  | zero => intro y1 y2 st; rw [f_X6_findsOaths_127]; exact o_none
  | succ n ih =>
    intro y1 y2 st
    rw [f_X6_findsOaths_127]
    refine o_iload_n dX6_findsOaths_127 rfl ?_
    refine o_bipush (v := 49) dX6_findsOaths_128 (by decide) ?_
    refine o_icmpge (tgt := 237) dX6_findsOaths_130 (by decide) (fun u3 => ?_) (fun u3 => ?_)
    · refine o_iinc (v := (y1 + 1)) (L' := [some (.ref 48), some (.int (y1 + 1)), some (.int y2)]) dX6_findsOaths_237 rfl rfl (Nat.le_of_ble_eq_true rfl) rfl rfl ?_
      refine o_goto (tgt := 109) dX6_findsOaths_240 (by decide) ?_
      exact o_weak (L' := [some (.ref 48), some (.int (y1 + 1)), none]) ⟨rfl, ⟨rfl, trivial⟩⟩ (hk109 (y1 + 1) st)
    · refine o_aload_n dX6_findsOaths_133 rfl ?_
      refine h_get (v := .int (st 48 42)) dX6_findsOaths_134 q6 fl_X6_427 (by decide) (px_ltM (by decide)) (c48 _) rfl ?_
      refine o_iconst (v := (-1)) dX6_findsOaths_137 (by decide) ?_
      refine o_icmpne (tgt := 237) dX6_findsOaths_138 (by decide) (fun u4 => ?_) (fun u4 => ?_)
      · refine o_iinc (v := (y1 + 1)) (L' := [some (.ref 48), some (.int (y1 + 1)), some (.int y2)]) dX6_findsOaths_237 rfl rfl (Nat.le_of_ble_eq_true rfl) rfl rfl ?_
        refine o_goto (tgt := 109) dX6_findsOaths_240 (by decide) ?_
        exact o_weak (L' := [some (.ref 48), some (.int (y1 + 1)), none]) ⟨rfl, ⟨rfl, trivial⟩⟩ (hk109 (y1 + 1) st)
      · refine o_aload_n dX6_findsOaths_141 rfl ?_
        refine o_iload_n dX6_findsOaths_142 rfl ?_
        refine h_cV0 (as := [.int y1]) (S1 := []) (d' := 3) dX6_findsOaths_143 mf_X6_canSwear ml_X6_436 mv_X6_canSwear q6 rfl (hp_at (px_ltM (by decide)) (c48 _)) rfl (Nat.le_of_ble_eq_true rfl) rfl (Nat.le_of_ble_eq_true rfl) ⟨Nat.zero_le _, Nat.zero_le _⟩ (fun b hb => k_X6_canSwear hb) (fun b5 hb5 => ?_)
        refine o_ifeq (tgt := 231) dX6_findsOaths_146 (by decide) (fun u6 => ?_) (fun u6 => ?_)
        · refine o_iinc (v := (y2 + 1)) (L' := [some (.ref 48), some (.int y1), some (.int (y2 + 1))]) dX6_findsOaths_231 rfl rfl (Nat.le_of_ble_eq_true rfl) rfl rfl ?_
          refine o_goto (tgt := 127) dX6_findsOaths_234 (by decide) ?_
          exact (ih y1 (y2 + 1) st)
        · refine o_aload_n dX6_findsOaths_149 rfl ?_
          refine o_iload_n dX6_findsOaths_150 rfl ?_
          refine h_cV0 (as := [.int y2]) (S1 := []) (d' := 3) dX6_findsOaths_151 mf_X6_canSwear ml_X6_436 mv_X6_canSwear q6 rfl (hp_at (px_ltM (by decide)) (c48 _)) rfl (Nat.le_of_ble_eq_true rfl) rfl (Nat.le_of_ble_eq_true rfl) ⟨Nat.zero_le _, Nat.zero_le _⟩ (fun b hb => k_X6_canSwear hb) (fun b7 hb7 => ?_)
          refine o_ifeq (tgt := 231) dX6_findsOaths_154 (by decide) (fun u8 => ?_) (fun u8 => ?_)
          · refine o_iinc (v := (y2 + 1)) (L' := [some (.ref 48), some (.int y1), some (.int (y2 + 1))]) dX6_findsOaths_231 rfl rfl (Nat.le_of_ble_eq_true rfl) rfl rfl ?_
            refine o_goto (tgt := 127) dX6_findsOaths_234 (by decide) ?_
            exact (ih y1 (y2 + 1) st)
          · refine o_aload_n dX6_findsOaths_157 rfl ?_
            refine o_iload_n dX6_findsOaths_158 rfl ?_
            refine o_bipush (v := 7) dX6_findsOaths_159 (by decide) ?_
            refine o_idiv dX6_findsOaths_161 (by decide) ?_
            refine o_iload_n dX6_findsOaths_162 rfl ?_
            refine o_bipush (v := 7) dX6_findsOaths_163 (by decide) ?_
            refine o_irem dX6_findsOaths_165 (by decide) ?_
            refine o_iconst (v := 1) dX6_findsOaths_166 (by decide) ?_
            refine h_cVv (as := [.int (y1 / 7), .int (y1 - y1 / 7 * 7), .int 1]) (S1 := []) (d' := 0) dX6_findsOaths_167 mf_X6_swears ml_X6_116 mv_X6_swears q6 rfl (hp_at (px_ltM (by decide)) (c48 _)) rfl (Nat.le_of_ble_eq_true rfl) rfl (Nat.le_of_ble_eq_true rfl) (fun b hb => k_X6_swears hb) (fun b9 hb9 => ?_)
            refine o_aload_n dX6_findsOaths_170 rfl ?_
            refine o_iload_n dX6_findsOaths_171 rfl ?_
            refine o_bipush (v := 7) dX6_findsOaths_172 (by decide) ?_
            refine o_idiv dX6_findsOaths_174 (by decide) ?_
            refine o_iload_n dX6_findsOaths_175 rfl ?_
            refine o_bipush (v := 7) dX6_findsOaths_176 (by decide) ?_
            refine o_irem dX6_findsOaths_178 (by decide) ?_
            refine o_iconst (v := 1) dX6_findsOaths_179 (by decide) ?_
            refine h_cVv (as := [.int (y2 / 7), .int (y2 - y2 / 7 * 7), .int 1]) (S1 := []) (d' := 0) dX6_findsOaths_180 mf_X6_swears ml_X6_116 mv_X6_swears q6 rfl (hp_at (px_ltM (by decide)) (c48 _)) rfl (Nat.le_of_ble_eq_true rfl) rfl (Nat.le_of_ble_eq_true rfl) (fun b hb => k_X6_swears hb) (fun b10 hb10 => ?_)
            refine o_aload_n dX6_findsOaths_183 rfl ?_
            refine h_cVi (as := []) (S1 := []) (d' := 4) dX6_findsOaths_184 mf_X6_isRest ml_X6_408 mv_X6_isRest q6 rfl (hp_at (px_ltM (by decide)) (c48 _)) rfl (Nat.le_of_ble_eq_true rfl) rfl (Nat.le_of_ble_eq_true rfl) (fun b hb => k_X6_isRest hb) (fun b11 hb11 => ?_)
            refine o_ifeq (tgt := 205) dX6_findsOaths_187 (by decide) (fun u12 => ?_) (fun u12 => ?_)
            · exact (t_X6_findsOaths_205 T (f_X6_findsOaths_127 T k109 n) ih y1 y2 b11.2)
            · refine o_aload_n dX6_findsOaths_190 rfl ?_
              refine o_iconst (v := 2) dX6_findsOaths_191 (by decide) ?_
              refine h_puti dX6_findsOaths_192 q6 fl_X6_427 pf_X6_42 (px_ltM (by decide)) (c48 _) (Nat.le_of_ble_eq_true rfl) (s48_42 _ _) ?_
              refine o_aload_n dX6_findsOaths_195 rfl ?_
              refine o_iload_n dX6_findsOaths_196 rfl ?_
              refine h_puti dX6_findsOaths_197 q6 fl_X6_430 pf_X6_43 (px_ltM (by decide)) (c48 _) (Nat.le_of_ble_eq_true rfl) (s48_43 _ _) ?_
              refine o_aload_n dX6_findsOaths_200 rfl ?_
              refine o_iload_n dX6_findsOaths_201 rfl ?_
              refine h_puti dX6_findsOaths_202 q6 fl_X6_433 pf_X6_44 (px_ltM (by decide)) (c48 _) (Nat.le_of_ble_eq_true rfl) (s48_44 _ _) ?_
              exact (t_X6_findsOaths_205 T (f_X6_findsOaths_127 T k109 n) ih y1 y2 (up (up (up b11.2 48 42 2) 48 43 y1) 48 44 y2))
def f_X6_findsOaths_109 (T : Nat) : Nat → Int32 → px_S → Option (px_S)
  | 0, _, _ => none
  | n + 1, y1, st => (if y1 < 49 then (if (st 48 42) = (-1) then (f_X6_findsOaths_127 T (f_X6_findsOaths_109 T n) 1000 y1 (y1 + 1) st) else (some st)) else (some st))
set_option maxRecDepth 20000 in
theorem t_X6_findsOaths_109 (T : Nat) : ∀ (n : Nat) (y1 : Int32) (st : px_S), px_O (45, 0, 0, px_n (T + 2), m_X6_findsOaths) (px_gv (T + 2)) (f_X6_findsOaths_109 T n y1 st) 109 [some (.ref 48), some (.int y1), none] [] (HP (T + 2) st) 0 0 := by
  intro n
  induction n with
  | zero => intro y1 st; rw [f_X6_findsOaths_109]; exact o_none
  | succ n ih =>
    intro y1 st
    rw [f_X6_findsOaths_109]
    refine o_iload_n dX6_findsOaths_109 rfl ?_
    refine o_bipush (v := 49) dX6_findsOaths_110 (by decide) ?_
    refine o_icmpge (tgt := 243) dX6_findsOaths_112 (by decide) (fun u13 => ?_) (fun u13 => ?_)
    · exact o_vret rfl dX6_findsOaths_243 rfl (Nat.zero_le _) (Nat.zero_le _)
    · refine o_aload_n dX6_findsOaths_115 rfl ?_
      refine h_get (v := .int (st 48 42)) dX6_findsOaths_116 q6 fl_X6_427 (by decide) (px_ltM (by decide)) (c48 _) rfl ?_
      refine o_iconst (v := (-1)) dX6_findsOaths_119 (by decide) ?_
      refine o_icmpne (tgt := 243) dX6_findsOaths_120 (by decide) (fun u14 => ?_) (fun u14 => ?_)
      · exact o_vret rfl dX6_findsOaths_243 rfl (Nat.zero_le _) (Nat.zero_le _)
      · refine o_iload_n dX6_findsOaths_123 rfl ?_
        refine o_iconst (v := 1) dX6_findsOaths_124 (by decide) ?_
        refine o_iadd dX6_findsOaths_125 ?_
        refine o_istore_n (L' := [some (.ref 48), some (.int y1), some (.int (y1 + 1))]) dX6_findsOaths_126 (Nat.le_of_ble_eq_true rfl) rfl rfl ?_
        exact (t_X6_findsOaths_127 T (f_X6_findsOaths_109 T n) ih 1000 y1 (y1 + 1) st)
def f_X6_findsOaths_88 (T : Nat) (k36 : Int32 → px_S → Option (px_S)) (y1 : Int32) (st : px_S) : Option (px_S) := ((f_X6_swears T (y1 / 7) (y1 - y1 / 7 * 7) 0 st).bind fun b15 => (k36 (y1 + 1) b15))
set_option maxRecDepth 20000 in
theorem t_X6_findsOaths_88 (T : Nat) (k36 : Int32 → px_S → Option (px_S)) (hk36 : ∀ (y1 : Int32) (st : px_S), px_O (45, 0, 0, px_n (T + 2), m_X6_findsOaths) (px_gv (T + 2)) (k36 y1 st) 36 [some (.ref 48), some (.int y1), none] [] (HP (T + 2) st) 0 0) (y1 : Int32) (st : px_S) : px_O (45, 0, 0, px_n (T + 2), m_X6_findsOaths) (px_gv (T + 2)) (f_X6_findsOaths_88 T k36 y1 st) 88 [some (.ref 48), some (.int y1), none] [] (HP (T + 2) st) 0 0 := by
  rw [f_X6_findsOaths_88]
  refine o_aload_n dX6_findsOaths_88 rfl ?_
  refine o_iload_n dX6_findsOaths_89 rfl ?_
  refine o_bipush (v := 7) dX6_findsOaths_90 (by decide) ?_
  refine o_idiv dX6_findsOaths_92 (by decide) ?_
  refine o_iload_n dX6_findsOaths_93 rfl ?_
  refine o_bipush (v := 7) dX6_findsOaths_94 (by decide) ?_
  refine o_irem dX6_findsOaths_96 (by decide) ?_
  refine o_iconst (v := 0) dX6_findsOaths_97 (by decide) ?_
  refine h_cVv (as := [.int (y1 / 7), .int (y1 - y1 / 7 * 7), .int 0]) (S1 := []) (d' := 0) dX6_findsOaths_98 mf_X6_swears ml_X6_116 mv_X6_swears q6 rfl (hp_at (px_ltM (by decide)) (c48 _)) rfl (Nat.le_of_ble_eq_true rfl) rfl (Nat.le_of_ble_eq_true rfl) (fun b hb => k_X6_swears hb) (fun b15 hb15 => ?_)
  refine o_iinc (v := (y1 + 1)) (L' := [some (.ref 48), some (.int (y1 + 1)), none]) dX6_findsOaths_101 rfl rfl (Nat.le_of_ble_eq_true rfl) rfl rfl ?_
  refine o_goto (tgt := 36) dX6_findsOaths_104 (by decide) ?_
  exact (hk36 (y1 + 1) b15)
def f_X6_findsOaths_36 (T : Nat) : Nat → Int32 → px_S → Option (px_S)
  | 0, _, _ => none
  | n + 1, y1, st => (if y1 < 49 then (if (st 48 42) = (-1) then ((f_X6_canSwear T st y1).bind fun b18 => (if b18 = 0 then ((f_X6_findsOaths_36 T n) (y1 + 1) st) else ((f_X6_swears T (y1 / 7) (y1 - y1 / 7 * 7) 1 st).bind fun b20 => ((f_X6_isRest T b20).bind fun b21 => (if b21.1 = 0 then (f_X6_findsOaths_88 T (f_X6_findsOaths_36 T n) y1 b21.2) else (f_X6_findsOaths_88 T (f_X6_findsOaths_36 T n) y1 (up (up b21.2 48 42 1) 48 43 y1))))))) else (f_X6_findsOaths_109 T 1000 0 st)) else (f_X6_findsOaths_109 T 1000 0 st))
set_option maxRecDepth 20000 in
theorem t_X6_findsOaths_36 (T : Nat) : ∀ (n : Nat) (y1 : Int32) (st : px_S), px_O (45, 0, 0, px_n (T + 2), m_X6_findsOaths) (px_gv (T + 2)) (f_X6_findsOaths_36 T n y1 st) 36 [some (.ref 48), some (.int y1), none] [] (HP (T + 2) st) 0 0 := by
  intro n
  induction n with
  | zero => intro y1 st; rw [f_X6_findsOaths_36]; exact o_none
  | succ n ih =>
    intro y1 st
    rw [f_X6_findsOaths_36]
    refine o_iload_n dX6_findsOaths_36 rfl ?_
    refine o_bipush (v := 49) dX6_findsOaths_37 (by decide) ?_
    refine o_icmpge (tgt := 107) dX6_findsOaths_39 (by decide) (fun u16 => ?_) (fun u16 => ?_)
    · refine o_iconst (v := 0) dX6_findsOaths_107 (by decide) ?_
      refine o_istore_n (L' := [some (.ref 48), some (.int 0), none]) dX6_findsOaths_108 (Nat.le_of_ble_eq_true rfl) rfl rfl ?_
      exact (t_X6_findsOaths_109 T 1000 0 st)
    · refine o_aload_n dX6_findsOaths_42 rfl ?_
      refine h_get (v := .int (st 48 42)) dX6_findsOaths_43 q6 fl_X6_427 (by decide) (px_ltM (by decide)) (c48 _) rfl ?_
      refine o_iconst (v := (-1)) dX6_findsOaths_46 (by decide) ?_
      refine o_icmpne (tgt := 107) dX6_findsOaths_47 (by decide) (fun u17 => ?_) (fun u17 => ?_)
      · refine o_iconst (v := 0) dX6_findsOaths_107 (by decide) ?_
        refine o_istore_n (L' := [some (.ref 48), some (.int 0), none]) dX6_findsOaths_108 (Nat.le_of_ble_eq_true rfl) rfl rfl ?_
        exact (t_X6_findsOaths_109 T 1000 0 st)
      · refine o_aload_n dX6_findsOaths_50 rfl ?_
        refine o_iload_n dX6_findsOaths_51 rfl ?_
        refine h_cV0 (as := [.int y1]) (S1 := []) (d' := 3) dX6_findsOaths_52 mf_X6_canSwear ml_X6_436 mv_X6_canSwear q6 rfl (hp_at (px_ltM (by decide)) (c48 _)) rfl (Nat.le_of_ble_eq_true rfl) rfl (Nat.le_of_ble_eq_true rfl) ⟨Nat.zero_le _, Nat.zero_le _⟩ (fun b hb => k_X6_canSwear hb) (fun b18 hb18 => ?_)
        refine o_ifeq (tgt := 101) dX6_findsOaths_55 (by decide) (fun u19 => ?_) (fun u19 => ?_)
        · refine o_iinc (v := (y1 + 1)) (L' := [some (.ref 48), some (.int (y1 + 1)), none]) dX6_findsOaths_101 rfl rfl (Nat.le_of_ble_eq_true rfl) rfl rfl ?_
          refine o_goto (tgt := 36) dX6_findsOaths_104 (by decide) ?_
          exact (ih (y1 + 1) st)
        · refine o_aload_n dX6_findsOaths_58 rfl ?_
          refine o_iload_n dX6_findsOaths_59 rfl ?_
          refine o_bipush (v := 7) dX6_findsOaths_60 (by decide) ?_
          refine o_idiv dX6_findsOaths_62 (by decide) ?_
          refine o_iload_n dX6_findsOaths_63 rfl ?_
          refine o_bipush (v := 7) dX6_findsOaths_64 (by decide) ?_
          refine o_irem dX6_findsOaths_66 (by decide) ?_
          refine o_iconst (v := 1) dX6_findsOaths_67 (by decide) ?_
          refine h_cVv (as := [.int (y1 / 7), .int (y1 - y1 / 7 * 7), .int 1]) (S1 := []) (d' := 0) dX6_findsOaths_68 mf_X6_swears ml_X6_116 mv_X6_swears q6 rfl (hp_at (px_ltM (by decide)) (c48 _)) rfl (Nat.le_of_ble_eq_true rfl) rfl (Nat.le_of_ble_eq_true rfl) (fun b hb => k_X6_swears hb) (fun b20 hb20 => ?_)
          refine o_aload_n dX6_findsOaths_71 rfl ?_
          refine h_cVi (as := []) (S1 := []) (d' := 4) dX6_findsOaths_72 mf_X6_isRest ml_X6_408 mv_X6_isRest q6 rfl (hp_at (px_ltM (by decide)) (c48 _)) rfl (Nat.le_of_ble_eq_true rfl) rfl (Nat.le_of_ble_eq_true rfl) (fun b hb => k_X6_isRest hb) (fun b21 hb21 => ?_)
          refine o_ifeq (tgt := 88) dX6_findsOaths_75 (by decide) (fun u22 => ?_) (fun u22 => ?_)
          · exact (t_X6_findsOaths_88 T (f_X6_findsOaths_36 T n) ih y1 b21.2)
          · refine o_aload_n dX6_findsOaths_78 rfl ?_
            refine o_iconst (v := 1) dX6_findsOaths_79 (by decide) ?_
            refine h_puti dX6_findsOaths_80 q6 fl_X6_427 pf_X6_42 (px_ltM (by decide)) (c48 _) (Nat.le_of_ble_eq_true rfl) (s48_42 _ _) ?_
            refine o_aload_n dX6_findsOaths_83 rfl ?_
            refine o_iload_n dX6_findsOaths_84 rfl ?_
            refine h_puti dX6_findsOaths_85 q6 fl_X6_430 pf_X6_43 (px_ltM (by decide)) (c48 _) (Nat.le_of_ble_eq_true rfl) (s48_43 _ _) ?_
            exact (t_X6_findsOaths_88 T (f_X6_findsOaths_36 T n) ih y1 (up (up b21.2 48 42 1) 48 43 y1))
def f_X6_findsOaths_21 (T : Nat) (z0 : Int32) (st : px_S) : Option (px_S) := (f_X6_findsOaths_36 T 1000 0 (up (up (up st 48 42 z0) 48 43 (-1)) 48 44 (-1)))
set_option maxRecDepth 20000 in
theorem t_X6_findsOaths_21 (T : Nat) (z0 : Int32) (st : px_S) : px_O (45, 0, 0, px_n (T + 2), m_X6_findsOaths) (px_gv (T + 2)) (f_X6_findsOaths_21 T z0 st) 21 [some (.ref 48), none, none] [.int z0, .ref 48] (HP (T + 2) st) 0 0 := by
  rw [f_X6_findsOaths_21]
  refine h_puti dX6_findsOaths_21 q6 fl_X6_427 pf_X6_42 (px_ltM (by decide)) (c48 _) (Nat.le_of_ble_eq_true rfl) (s48_42 _ _) ?_
  refine o_aload_n dX6_findsOaths_24 rfl ?_
  refine o_iconst (v := (-1)) dX6_findsOaths_25 (by decide) ?_
  refine h_puti dX6_findsOaths_26 q6 fl_X6_430 pf_X6_43 (px_ltM (by decide)) (c48 _) (Nat.le_of_ble_eq_true rfl) (s48_43 _ _) ?_
  refine o_aload_n dX6_findsOaths_29 rfl ?_
  refine o_iconst (v := (-1)) dX6_findsOaths_30 (by decide) ?_
  refine h_puti dX6_findsOaths_31 q6 fl_X6_433 pf_X6_44 (px_ltM (by decide)) (c48 _) (Nat.le_of_ble_eq_true rfl) (s48_44 _ _) ?_
  refine o_iconst (v := 0) dX6_findsOaths_34 (by decide) ?_
  refine o_istore_n (L' := [some (.ref 48), some (.int 0), none]) dX6_findsOaths_35 (Nat.le_of_ble_eq_true rfl) rfl rfl ?_
  exact (t_X6_findsOaths_36 T 1000 0 (up (up (up st 48 42 z0) 48 43 (-1)) 48 44 (-1)))
def f_X6_findsOaths (T : Nat) (st : px_S) : Option (px_S) := ((f_X6_looks T (st 48 12) st).bind fun b23 => ((f_X6_isRest T b23).bind fun b24 => (if b24.1 = 0 then (f_X6_findsOaths_21 T (-1) b24.2) else (f_X6_findsOaths_21 T 0 b24.2))))
set_option maxRecDepth 20000 in
theorem t_X6_findsOaths (T : Nat) (st : px_S) : px_O (45, 0, 0, px_n (T + 2), m_X6_findsOaths) (px_gv (T + 2)) (f_X6_findsOaths T st) 0 [some (.ref 48), none, none] [] (HP (T + 2) st) 0 0 := by
  rw [f_X6_findsOaths]
  refine o_aload_n dX6_findsOaths_0 rfl ?_
  refine o_aload_n dX6_findsOaths_1 rfl ?_
  refine h_get (v := .int (st 48 12)) dX6_findsOaths_2 q6 fl_X6_105 (by decide) (px_ltM (by decide)) (c48 _) rfl ?_
  refine h_cVv (as := [.int (st 48 12)]) (S1 := []) (d' := 44) dX6_findsOaths_5 mf_X6_looks ml_X6_396 mv_X6_looks q6 rfl (hp_at (px_ltM (by decide)) (c48 _)) rfl (Nat.le_of_ble_eq_true rfl) rfl (Nat.le_of_ble_eq_true rfl) (fun b hb => k_X6_looks hb) (fun b23 hb23 => ?_)
  refine o_aload_n dX6_findsOaths_8 rfl ?_
  refine o_aload_n dX6_findsOaths_9 rfl ?_
  refine h_cVi (as := []) (S1 := [.ref 48]) (d' := 4) dX6_findsOaths_10 mf_X6_isRest ml_X6_408 mv_X6_isRest q6 rfl (hp_at (px_ltM (by decide)) (c48 _)) rfl (Nat.le_of_ble_eq_true rfl) rfl (Nat.le_of_ble_eq_true rfl) (fun b hb => k_X6_isRest hb) (fun b24 hb24 => ?_)
  refine o_ifeq (tgt := 20) dX6_findsOaths_13 (by decide) (fun u25 => ?_) (fun u25 => ?_)
  · refine o_iconst (v := (-1)) dX6_findsOaths_20 (by decide) ?_
    exact (t_X6_findsOaths_21 T (-1) b24.2)
  · refine o_iconst (v := 0) dX6_findsOaths_16 (by decide) ?_
    refine o_goto (tgt := 21) dX6_findsOaths_17 (by decide) ?_
    exact (t_X6_findsOaths_21 T 0 b24.2)
theorem k_X6_findsOaths {T : Nat} {st : px_S} {b : px_S} (hf : f_X6_findsOaths T st = some b) : px_K (45) 0 0 m_X6_findsOaths [.ref 48] (HP (T + 2) st) ((px_gv (T + 2)) b).1 ((px_gv (T + 2)) b).2 := px_KofH hf mf_X6_findsOaths (Nat.le_of_ble_eq_true rfl) rfl (t_X6_findsOaths T st)
/-! ThreeOfThemModel.oaths(I)I: S, depth 46 -/
def f_X6_oaths_44 (T : Nat) (z0 : Int32) (st : px_S) : Option (Int32 × px_S) := (if z0 = (-1) then (some ((-1), st)) else (some ((((10 : Int32) * (z0 / 7)) + (z0 - z0 / 7 * 7)), st)))
set_option maxRecDepth 20000 in
theorem t_X6_oaths_44 (T : Nat) (z0 : Int32) (st : px_S) : px_O (46, 0, 0, px_n (T + 2), m_X6_oaths) (px_gi (T + 2)) (f_X6_oaths_44 T z0 st) 44 [none, none, none] [.int z0] (HP (T + 2) st) 0 0 := by
  rw [f_X6_oaths_44]
  refine o_istore_n (L' := [none, none, some (.int z0)]) dX6_oaths_44 (Nat.le_of_ble_eq_true rfl) rfl rfl ?_
  refine o_iload_n dX6_oaths_45 rfl ?_
  refine o_iconst (v := (-1)) dX6_oaths_46 (by decide) ?_
  refine o_icmpne (tgt := 54) dX6_oaths_47 (by decide) (fun u1 => ?_) (fun u1 => ?_)
  · refine o_bipush (v := 10) dX6_oaths_54 (by decide) ?_
    refine o_iload_n dX6_oaths_56 rfl ?_
    refine o_bipush (v := 7) dX6_oaths_57 (by decide) ?_
    refine o_idiv dX6_oaths_59 (by decide) ?_
    refine o_imul dX6_oaths_60 ?_
    refine o_iload_n dX6_oaths_61 rfl ?_
    refine o_bipush (v := 7) dX6_oaths_62 (by decide) ?_
    refine o_irem dX6_oaths_64 (by decide) ?_
    refine o_iadd dX6_oaths_65 ?_
    exact o_iret (rt := .int) rfl rfl dX6_oaths_66 rfl (Nat.zero_le _) (Nat.zero_le _)
  · refine o_iconst (v := (-1)) dX6_oaths_50 (by decide) ?_
    refine o_goto (tgt := 66) dX6_oaths_51 (by decide) ?_
    exact o_iret (rt := .int) rfl rfl dX6_oaths_66 rfl (Nat.zero_le _) (Nat.zero_le _)
def f_X6_oaths (T : Nat) (x0 : Int32) (st : px_S) : Option (Int32 × px_S) := (if (p_X6_in x0.toInt64 0 2) = 0 then (some ((-2), st)) else ((f_X6_findsOaths T st).bind fun b3 => (if x0 = 0 then (some ((b3 48 42), b3)) else (if x0 = 1 then (f_X6_oaths_44 T (b3 48 43) b3) else (f_X6_oaths_44 T (b3 48 44) b3)))))
set_option maxRecDepth 20000 in
theorem t_X6_oaths (T : Nat) (x0 : Int32) (st : px_S) : px_O (46, 0, 0, px_n (T + 2), m_X6_oaths) (px_gi (T + 2)) (f_X6_oaths T x0 st) 0 [some (.ref 48), some (.int x0), none] [] (HP (T + 2) st) 0 0 := by
  rw [f_X6_oaths]
  refine o_iload_n dX6_oaths_0 rfl ?_
  refine o_i2l dX6_oaths_1 ?_
  refine o_lconst (v := 0) dX6_oaths_2 (by decide) ?_
  refine o_ldc2 (v := 2) dX6_oaths_3 cst_X6_122 ?_
  refine h_cSP (as := [.long x0.toInt64, .long 0, .long 2]) (S1 := []) (d' := 0) dX6_oaths_6 mf_X6_in ml_X6_97 ms_X6_in rfl (Nat.le_of_ble_eq_true rfl) rfl (Nat.le_of_ble_eq_true rfl) ⟨Nat.zero_le _, Nat.zero_le _⟩ (k_X6_in) ?_
  refine o_ifne (tgt := 15) dX6_oaths_9 (by decide) (fun u2 => ?_) (fun u2 => ?_)
  · refine o_aload_n dX6_oaths_15 rfl ?_
    refine h_cVv (as := []) (S1 := []) (d' := 45) dX6_oaths_16 mf_X6_findsOaths ml_X6_439 mv_X6_findsOaths q6 rfl (hp_at (px_ltM (by decide)) (c48 _)) rfl (Nat.le_of_ble_eq_true rfl) rfl (Nat.le_of_ble_eq_true rfl) (fun b hb => k_X6_findsOaths hb) (fun b3 hb3 => ?_)
    refine o_iload_n dX6_oaths_19 rfl ?_
    refine o_ifne (tgt := 28) dX6_oaths_20 (by decide) (fun u4 => ?_) (fun u4 => ?_)
    · refine o_iload_n dX6_oaths_28 rfl ?_
      refine o_iconst (v := 1) dX6_oaths_29 (by decide) ?_
      refine o_icmpne (tgt := 40) dX6_oaths_30 (by decide) (fun u5 => ?_) (fun u5 => ?_)
      · refine o_aload_n dX6_oaths_40 rfl ?_
        refine h_get (v := .int (b3 48 44)) dX6_oaths_41 q6 fl_X6_433 (by decide) (px_ltM (by decide)) (c48 _) rfl ?_
        exact o_weak (L' := [none, none, none]) trivial (t_X6_oaths_44 T (b3 48 44) b3)
      · refine o_aload_n dX6_oaths_33 rfl ?_
        refine h_get (v := .int (b3 48 43)) dX6_oaths_34 q6 fl_X6_430 (by decide) (px_ltM (by decide)) (c48 _) rfl ?_
        refine o_goto (tgt := 44) dX6_oaths_37 (by decide) ?_
        exact o_weak (L' := [none, none, none]) trivial (t_X6_oaths_44 T (b3 48 43) b3)
    · refine o_aload_n dX6_oaths_23 rfl ?_
      refine h_get (v := .int (b3 48 42)) dX6_oaths_24 q6 fl_X6_427 (by decide) (px_ltM (by decide)) (c48 _) rfl ?_
      exact o_iret (rt := .int) rfl rfl dX6_oaths_27 rfl (Nat.zero_le _) (Nat.zero_le _)
  · refine o_bipush (v := (-2)) dX6_oaths_12 (by decide) ?_
    exact o_iret (rt := .int) rfl rfl dX6_oaths_14 rfl (Nat.zero_le _) (Nat.zero_le _)
theorem k_X6_oaths {T : Nat} {st : px_S} {x0 : Int32} {b : Int32 × px_S} (hf : f_X6_oaths T x0 st = some b) : px_K (46) 0 0 m_X6_oaths [.ref 48, .int x0] (HP (T + 2) st) ((px_gi (T + 2)) b).1 ((px_gi (T + 2)) b).2 := px_KofH hf mf_X6_oaths (Nat.le_of_ble_eq_true rfl) rfl (t_X6_oaths T x0 st)
/-! ThreeOfThemModel.shield(II)I: S, depth 45 -/
def f_X6_shield (T : Nat) (x0 : Int32) (x1 : Int32) (st : px_S) : Option (Int32 × px_S) := ((f_X6_isIn T st x0).bind fun b1 => (if b1 = 0 then (some ((-2), st)) else ((f_X6_isOne T st x1).bind fun b3 => (if b3 = 0 then (some ((-2), st)) else ((f_X6_isIn T st x1).bind fun b5 => (if b5 = 0 then ((f_X6_looks T ((st 48 12) ||| ((1 : Int32) <<< (x1 &&& 31))) st).bind fun b7 => ((f_X6_isSafe T b7 x0).bind fun b8 => (if b8 = 0 then (some (0, b7)) else (some (1, b7))))) else (some ((-2), st))))))))
set_option maxRecDepth 20000 in
theorem t_X6_shield (T : Nat) (x0 : Int32) (x1 : Int32) (st : px_S) : px_O (45, 0, 0, px_n (T + 2), m_X6_shield) (px_gi (T + 2)) (f_X6_shield T x0 x1 st) 0 [some (.ref 48), some (.int x0), some (.int x1)] [] (HP (T + 2) st) 0 0 := by
  rw [f_X6_shield]
  refine o_aload_n dX6_shield_0 rfl ?_
  refine o_iload_n dX6_shield_1 rfl ?_
  refine h_cV0 (as := [.int x0]) (S1 := []) (d' := 2) dX6_shield_2 mf_X6_isIn ml_X6_365 mv_X6_isIn q6 rfl (hp_at (px_ltM (by decide)) (c48 _)) rfl (Nat.le_of_ble_eq_true rfl) rfl (Nat.le_of_ble_eq_true rfl) ⟨Nat.zero_le _, Nat.zero_le _⟩ (fun b hb => k_X6_isIn hb) (fun b1 hb1 => ?_)
  refine o_ifeq (tgt := 24) dX6_shield_5 (by decide) (fun u2 => ?_) (fun u2 => ?_)
  · refine o_bipush (v := (-2)) dX6_shield_24 (by decide) ?_
    exact o_iret (rt := .int) rfl rfl dX6_shield_26 rfl (Nat.zero_le _) (Nat.zero_le _)
  · refine o_aload_n dX6_shield_8 rfl ?_
    refine o_iload_n dX6_shield_9 rfl ?_
    refine h_cV0 (as := [.int x1]) (S1 := []) (d' := 1) dX6_shield_10 mf_X6_isOne ml_X6_101 mv_X6_isOne q6 rfl (hp_at (px_ltM (by decide)) (c48 _)) rfl (Nat.le_of_ble_eq_true rfl) rfl (Nat.le_of_ble_eq_true rfl) ⟨Nat.zero_le _, Nat.zero_le _⟩ (fun b hb => k_X6_isOne hb) (fun b3 hb3 => ?_)
    refine o_ifeq (tgt := 24) dX6_shield_13 (by decide) (fun u4 => ?_) (fun u4 => ?_)
    · refine o_bipush (v := (-2)) dX6_shield_24 (by decide) ?_
      exact o_iret (rt := .int) rfl rfl dX6_shield_26 rfl (Nat.zero_le _) (Nat.zero_le _)
    · refine o_aload_n dX6_shield_16 rfl ?_
      refine o_iload_n dX6_shield_17 rfl ?_
      refine h_cV0 (as := [.int x1]) (S1 := []) (d' := 2) dX6_shield_18 mf_X6_isIn ml_X6_365 mv_X6_isIn q6 rfl (hp_at (px_ltM (by decide)) (c48 _)) rfl (Nat.le_of_ble_eq_true rfl) rfl (Nat.le_of_ble_eq_true rfl) ⟨Nat.zero_le _, Nat.zero_le _⟩ (fun b hb => k_X6_isIn hb) (fun b5 hb5 => ?_)
      refine o_ifeq (tgt := 27) dX6_shield_21 (by decide) (fun u6 => ?_) (fun u6 => ?_)
      · refine o_aload_n dX6_shield_27 rfl ?_
        refine o_aload_n dX6_shield_28 rfl ?_
        refine h_get (v := .int (st 48 12)) dX6_shield_29 q6 fl_X6_105 (by decide) (px_ltM (by decide)) (c48 _) rfl ?_
        refine o_iconst (v := 1) dX6_shield_32 (by decide) ?_
        refine o_iload_n dX6_shield_33 rfl ?_
        refine o_ishl dX6_shield_34 ?_
        refine o_ior dX6_shield_35 ?_
        refine h_cVv (as := [.int ((st 48 12) ||| ((1 : Int32) <<< (x1 &&& 31)))]) (S1 := []) (d' := 44) dX6_shield_36 mf_X6_looks ml_X6_396 mv_X6_looks q6 rfl (hp_at (px_ltM (by decide)) (c48 _)) rfl (Nat.le_of_ble_eq_true rfl) rfl (Nat.le_of_ble_eq_true rfl) (fun b hb => k_X6_looks hb) (fun b7 hb7 => ?_)
        refine o_aload_n dX6_shield_39 rfl ?_
        refine o_iload_n dX6_shield_40 rfl ?_
        refine h_cV0 (as := [.int x0]) (S1 := []) (d' := 3) dX6_shield_41 mf_X6_isSafe ml_X6_424 mv_X6_isSafe q6 rfl (hp_at (px_ltM (by decide)) (c48 _)) rfl (Nat.le_of_ble_eq_true rfl) rfl (Nat.le_of_ble_eq_true rfl) ⟨Nat.zero_le _, Nat.zero_le _⟩ (fun b hb => k_X6_isSafe hb) (fun b8 hb8 => ?_)
        refine o_ifeq (tgt := 51) dX6_shield_44 (by decide) (fun u9 => ?_) (fun u9 => ?_)
        · refine o_iconst (v := 0) dX6_shield_51 (by decide) ?_
          exact o_iret (rt := .int) rfl rfl dX6_shield_52 rfl (Nat.zero_le _) (Nat.zero_le _)
        · refine o_iconst (v := 1) dX6_shield_47 (by decide) ?_
          refine o_goto (tgt := 52) dX6_shield_48 (by decide) ?_
          exact o_iret (rt := .int) rfl rfl dX6_shield_52 rfl (Nat.zero_le _) (Nat.zero_le _)
      · refine o_bipush (v := (-2)) dX6_shield_24 (by decide) ?_
        exact o_iret (rt := .int) rfl rfl dX6_shield_26 rfl (Nat.zero_le _) (Nat.zero_le _)
theorem k_X6_shield {T : Nat} {st : px_S} {x0 : Int32} {x1 : Int32} {b : Int32 × px_S} (hf : f_X6_shield T x0 x1 st = some b) : px_K (45) 0 0 m_X6_shield [.ref 48, .int x0, .int x1] (HP (T + 2) st) ((px_gi (T + 2)) b).1 ((px_gi (T + 2)) b).2 := px_KofH hf mf_X6_shield (Nat.le_of_ble_eq_true rfl) rfl (t_X6_shield T x0 x1 st)
/-! ThreeOfThemModel.holds(I)I: S, depth 45 -/
def f_X6_holds_95 (T : Nat) : Nat → Int32 → Int32 → Int32 → px_S → Option (Int32 × px_S)
  | 0, _, _, _, _ => none
  | n + 1, y2, y3, y4, st => (if y4 < 100 then (if y2 = (-1) then ((f_X6_looks T (st 48 12) (up st 48 13 ((10 : Int32) * y4))).bind fun b3 => ((f_X6_isRest T b3).bind fun b4 => (if b4.1 = 0 then ((f_X6_holds_95 T n) (b4.2 48 13) y3 (y4 + 1) b4.2) else ((f_X6_holds_95 T n) (-1) y3 (y4 + 1) b4.2)))) else (some (y2, (up st 48 13 y3)))) else (some (y2, (up st 48 13 y3))))
set_option maxRecDepth 20000 in
theorem t_X6_holds_95 (T : Nat) : ∀ (n : Nat) (y2 : Int32) (y3 : Int32) (y4 : Int32) (st : px_S), px_O (45, 0, 0, px_n (T + 2), m_X6_holds) (px_gi (T + 2)) (f_X6_holds_95 T n y2 y3 y4 st) 95 [some (.ref 48), none, some (.int y2), some (.int y3), some (.int y4)] [] (HP (T + 2) st) 0 0 := by
  intro n
  induction n with
  | zero => intro y2 y3 y4 st; rw [f_X6_holds_95]; exact o_none
  | succ n ih =>
    intro y2 y3 y4 st
    rw [f_X6_holds_95]
    refine o_iload dX6_holds_95 rfl ?_
    refine o_bipush (v := 100) dX6_holds_97 (by decide) ?_
    refine o_icmpge (tgt := 146) dX6_holds_99 (by decide) (fun u1 => ?_) (fun u1 => ?_)
    · refine o_aload_n dX6_holds_146 rfl ?_
      refine o_iload_n dX6_holds_147 rfl ?_
      refine h_puti dX6_holds_148 q6 fl_X6_35 pf_X6_13 (px_ltM (by decide)) (c48 _) (Nat.le_of_ble_eq_true rfl) (s48_13 _ _) ?_
      refine o_iload_n dX6_holds_151 rfl ?_
      exact o_iret (rt := .int) rfl rfl dX6_holds_152 rfl (Nat.zero_le _) (Nat.zero_le _)
    · refine o_iload_n dX6_holds_102 rfl ?_
      refine o_iconst (v := (-1)) dX6_holds_103 (by decide) ?_
      refine o_icmpne (tgt := 146) dX6_holds_104 (by decide) (fun u2 => ?_) (fun u2 => ?_)
      · refine o_aload_n dX6_holds_146 rfl ?_
        refine o_iload_n dX6_holds_147 rfl ?_
        refine h_puti dX6_holds_148 q6 fl_X6_35 pf_X6_13 (px_ltM (by decide)) (c48 _) (Nat.le_of_ble_eq_true rfl) (s48_13 _ _) ?_
        refine o_iload_n dX6_holds_151 rfl ?_
        exact o_iret (rt := .int) rfl rfl dX6_holds_152 rfl (Nat.zero_le _) (Nat.zero_le _)
      · refine o_aload_n dX6_holds_107 rfl ?_
        refine o_bipush (v := 10) dX6_holds_108 (by decide) ?_
        refine o_iload dX6_holds_110 rfl ?_
        refine o_imul dX6_holds_112 ?_
        refine h_puti dX6_holds_113 q6 fl_X6_35 pf_X6_13 (px_ltM (by decide)) (c48 _) (Nat.le_of_ble_eq_true rfl) (s48_13 _ _) ?_
        refine o_aload_n dX6_holds_116 rfl ?_
        refine o_aload_n dX6_holds_117 rfl ?_
        refine h_get (v := .int (st 48 12)) dX6_holds_118 q6 fl_X6_105 (by decide) (px_ltM (by decide)) (c48 _) rfl ?_
        refine h_cVv (as := [.int (st 48 12)]) (S1 := []) (d' := 44) dX6_holds_121 mf_X6_looks ml_X6_396 mv_X6_looks q6 rfl (hp_at (px_ltM (by decide)) (c48 _)) rfl (Nat.le_of_ble_eq_true rfl) rfl (Nat.le_of_ble_eq_true rfl) (fun b hb => k_X6_looks hb) (fun b3 hb3 => ?_)
        refine o_aload_n dX6_holds_124 rfl ?_
        refine h_cVi (as := []) (S1 := []) (d' := 4) dX6_holds_125 mf_X6_isRest ml_X6_408 mv_X6_isRest q6 rfl (hp_at (px_ltM (by decide)) (c48 _)) rfl (Nat.le_of_ble_eq_true rfl) rfl (Nat.le_of_ble_eq_true rfl) (fun b hb => k_X6_isRest hb) (fun b4 hb4 => ?_)
        refine o_ifeq (tgt := 135) dX6_holds_128 (by decide) (fun u5 => ?_) (fun u5 => ?_)
        · refine o_aload_n dX6_holds_135 rfl ?_
          refine h_get (v := .int (b4.2 48 13)) dX6_holds_136 q6 fl_X6_35 (by decide) (px_ltM (by decide)) (c48 _) rfl ?_
          refine o_istore_n (L' := [some (.ref 48), none, some (.int (b4.2 48 13)), some (.int y3), some (.int y4)]) dX6_holds_139 (Nat.le_of_ble_eq_true rfl) rfl rfl ?_
          refine o_iinc (v := (y4 + 1)) (L' := [some (.ref 48), none, some (.int (b4.2 48 13)), some (.int y3), some (.int (y4 + 1))]) dX6_holds_140 rfl rfl (Nat.le_of_ble_eq_true rfl) rfl rfl ?_
          refine o_goto (tgt := 95) dX6_holds_143 (by decide) ?_
          exact (ih (b4.2 48 13) y3 (y4 + 1) b4.2)
        · refine o_iconst (v := (-1)) dX6_holds_131 (by decide) ?_
          refine o_goto (tgt := 139) dX6_holds_132 (by decide) ?_
          refine o_istore_n (L' := [some (.ref 48), none, some (.int (-1)), some (.int y3), some (.int y4)]) dX6_holds_139 (Nat.le_of_ble_eq_true rfl) rfl rfl ?_
          refine o_iinc (v := (y4 + 1)) (L' := [some (.ref 48), none, some (.int (-1)), some (.int y3), some (.int (y4 + 1))]) dX6_holds_140 rfl rfl (Nat.le_of_ble_eq_true rfl) rfl rfl ?_
          refine o_goto (tgt := 95) dX6_holds_143 (by decide) ?_
          exact (ih (-1) y3 (y4 + 1) b4.2)
def f_X6_holds_37 (T : Nat) : Nat → Int32 → Int32 → px_S → Option (Int32 × px_S)
  | 0, _, _, _ => none
  | n + 1, y2, y3, st => (if (st 48 14) < 6 then (if y2 = (-1) then ((f_X6_isRest T st).bind fun b8 => (if b8.1 = 0 then ((f_X6_holds_37 T n) (-1) y3 (up b8.2 48 14 ((b8.2 48 14) + 1))) else ((f_X6_holds_37 T n) (b8.2 48 14) y3 (up b8.2 48 14 ((b8.2 48 14) + 1))))) else (some (y2, (up st 48 14 y3)))) else (some (y2, (up st 48 14 y3))))
set_option maxRecDepth 20000 in
theorem t_X6_holds_37 (T : Nat) : ∀ (n : Nat) (y2 : Int32) (y3 : Int32) (st : px_S), px_O (45, 0, 0, px_n (T + 2), m_X6_holds) (px_gi (T + 2)) (f_X6_holds_37 T n y2 y3 st) 37 [some (.ref 48), none, some (.int y2), some (.int y3), none] [] (HP (T + 2) st) 0 0 := by
  intro n
  induction n with
  | zero => intro y2 y3 st; rw [f_X6_holds_37]; exact o_none
  | succ n ih =>
    intro y2 y3 st
    rw [f_X6_holds_37]
    refine o_aload_n dX6_holds_37 rfl ?_
    refine h_get (v := .int (st 48 14)) dX6_holds_38 q6 fl_X6_38 (by decide) (px_ltM (by decide)) (c48 _) rfl ?_
    refine o_bipush (v := 6) dX6_holds_41 (by decide) ?_
    refine o_icmpge (tgt := 80) dX6_holds_43 (by decide) (fun u6 => ?_) (fun u6 => ?_)
    · refine o_aload_n dX6_holds_80 rfl ?_
      refine o_iload_n dX6_holds_81 rfl ?_
      refine h_puti dX6_holds_82 q6 fl_X6_38 pf_X6_14 (px_ltM (by decide)) (c48 _) (Nat.le_of_ble_eq_true rfl) (s48_14 _ _) ?_
      refine o_iload_n dX6_holds_85 rfl ?_
      exact o_iret (rt := .int) rfl rfl dX6_holds_86 rfl (Nat.zero_le _) (Nat.zero_le _)
    · refine o_iload_n dX6_holds_46 rfl ?_
      refine o_iconst (v := (-1)) dX6_holds_47 (by decide) ?_
      refine o_icmpne (tgt := 80) dX6_holds_48 (by decide) (fun u7 => ?_) (fun u7 => ?_)
      · refine o_aload_n dX6_holds_80 rfl ?_
        refine o_iload_n dX6_holds_81 rfl ?_
        refine h_puti dX6_holds_82 q6 fl_X6_38 pf_X6_14 (px_ltM (by decide)) (c48 _) (Nat.le_of_ble_eq_true rfl) (s48_14 _ _) ?_
        refine o_iload_n dX6_holds_85 rfl ?_
        exact o_iret (rt := .int) rfl rfl dX6_holds_86 rfl (Nat.zero_le _) (Nat.zero_le _)
      · refine o_aload_n dX6_holds_51 rfl ?_
        refine h_cVi (as := []) (S1 := []) (d' := 4) dX6_holds_52 mf_X6_isRest ml_X6_408 mv_X6_isRest q6 rfl (hp_at (px_ltM (by decide)) (c48 _)) rfl (Nat.le_of_ble_eq_true rfl) rfl (Nat.le_of_ble_eq_true rfl) (fun b hb => k_X6_isRest hb) (fun b8 hb8 => ?_)
        refine o_ifeq (tgt := 65) dX6_holds_55 (by decide) (fun u9 => ?_) (fun u9 => ?_)
        · refine o_iconst (v := (-1)) dX6_holds_65 (by decide) ?_
          refine o_istore_n (L' := [some (.ref 48), none, some (.int (-1)), some (.int y3), none]) dX6_holds_66 (Nat.le_of_ble_eq_true rfl) rfl rfl ?_
          refine o_aload_n dX6_holds_67 rfl ?_
          refine o_dup dX6_holds_68 rfl ?_
          refine h_get (v := .int (b8.2 48 14)) dX6_holds_69 q6 fl_X6_38 (by decide) (px_ltM (by decide)) (c48 _) rfl ?_
          refine o_iconst (v := 1) dX6_holds_72 (by decide) ?_
          refine o_iadd dX6_holds_73 ?_
          refine h_puti dX6_holds_74 q6 fl_X6_38 pf_X6_14 (px_ltM (by decide)) (c48 _) (Nat.le_of_ble_eq_true rfl) (s48_14 _ _) ?_
          refine o_goto (tgt := 37) dX6_holds_77 (by decide) ?_
          exact (ih (-1) y3 (up b8.2 48 14 ((b8.2 48 14) + 1)))
        · refine o_aload_n dX6_holds_58 rfl ?_
          refine h_get (v := .int (b8.2 48 14)) dX6_holds_59 q6 fl_X6_38 (by decide) (px_ltM (by decide)) (c48 _) rfl ?_
          refine o_goto (tgt := 66) dX6_holds_62 (by decide) ?_
          refine o_istore_n (L' := [some (.ref 48), none, some (.int (b8.2 48 14)), some (.int y3), none]) dX6_holds_66 (Nat.le_of_ble_eq_true rfl) rfl rfl ?_
          refine o_aload_n dX6_holds_67 rfl ?_
          refine o_dup dX6_holds_68 rfl ?_
          refine h_get (v := .int (b8.2 48 14)) dX6_holds_69 q6 fl_X6_38 (by decide) (px_ltM (by decide)) (c48 _) rfl ?_
          refine o_iconst (v := 1) dX6_holds_72 (by decide) ?_
          refine o_iadd dX6_holds_73 ?_
          refine h_puti dX6_holds_74 q6 fl_X6_38 pf_X6_14 (px_ltM (by decide)) (c48 _) (Nat.le_of_ble_eq_true rfl) (s48_14 _ _) ?_
          refine o_goto (tgt := 37) dX6_holds_77 (by decide) ?_
          exact (ih (b8.2 48 14) y3 (up b8.2 48 14 ((b8.2 48 14) + 1)))
def f_X6_holds (T : Nat) (x0 : Int32) (st : px_S) : Option (Int32 × px_S) := (if (p_X6_in x0.toInt64 0 1) = 0 then (some ((-2), st)) else (if x0 = 0 then ((f_X6_looks T (st 48 12) st).bind fun b12 => (f_X6_holds_37 T 1000 (-1) (st 48 14) (up b12 48 14 2))) else (f_X6_holds_95 T 1000 (-1) (st 48 13) 0 st)))
set_option maxRecDepth 20000 in
theorem t_X6_holds (T : Nat) (x0 : Int32) (st : px_S) : px_O (45, 0, 0, px_n (T + 2), m_X6_holds) (px_gi (T + 2)) (f_X6_holds T x0 st) 0 [some (.ref 48), some (.int x0), none, none, none] [] (HP (T + 2) st) 0 0 := by
  rw [f_X6_holds]
  refine o_iload_n dX6_holds_0 rfl ?_
  refine o_i2l dX6_holds_1 ?_
  refine o_lconst (v := 0) dX6_holds_2 (by decide) ?_
  refine o_lconst (v := 1) dX6_holds_3 (by decide) ?_
  refine h_cSP (as := [.long x0.toInt64, .long 0, .long 1]) (S1 := []) (d' := 0) dX6_holds_4 mf_X6_in ml_X6_97 ms_X6_in rfl (Nat.le_of_ble_eq_true rfl) rfl (Nat.le_of_ble_eq_true rfl) ⟨Nat.zero_le _, Nat.zero_le _⟩ (k_X6_in) ?_
  refine o_ifne (tgt := 13) dX6_holds_7 (by decide) (fun u10 => ?_) (fun u10 => ?_)
  · refine o_iconst (v := (-1)) dX6_holds_13 (by decide) ?_
    refine o_istore_n (L' := [some (.ref 48), some (.int x0), some (.int (-1)), none, none]) dX6_holds_14 (Nat.le_of_ble_eq_true rfl) rfl rfl ?_
    refine o_iload_n dX6_holds_15 rfl ?_
    refine o_ifne (tgt := 87) dX6_holds_16 (by decide) (fun u11 => ?_) (fun u11 => ?_)
    · refine o_aload_n dX6_holds_87 rfl ?_
      refine h_get (v := .int (st 48 13)) dX6_holds_88 q6 fl_X6_35 (by decide) (px_ltM (by decide)) (c48 _) rfl ?_
      refine o_istore_n (L' := [some (.ref 48), some (.int x0), some (.int (-1)), some (.int (st 48 13)), none]) dX6_holds_91 (Nat.le_of_ble_eq_true rfl) rfl rfl ?_
      refine o_iconst (v := 0) dX6_holds_92 (by decide) ?_
      refine o_istore (L' := [some (.ref 48), some (.int x0), some (.int (-1)), some (.int (st 48 13)), some (.int 0)]) dX6_holds_93 (Nat.le_of_ble_eq_true rfl) rfl rfl ?_
      exact o_weak (L' := [some (.ref 48), none, some (.int (-1)), some (.int (st 48 13)), some (.int 0)]) ⟨rfl, ⟨rfl, ⟨rfl, ⟨rfl, trivial⟩⟩⟩⟩ (t_X6_holds_95 T 1000 (-1) (st 48 13) 0 st)
    · refine o_aload_n dX6_holds_19 rfl ?_
      refine h_get (v := .int (st 48 14)) dX6_holds_20 q6 fl_X6_38 (by decide) (px_ltM (by decide)) (c48 _) rfl ?_
      refine o_istore_n (L' := [some (.ref 48), some (.int x0), some (.int (-1)), some (.int (st 48 14)), none]) dX6_holds_23 (Nat.le_of_ble_eq_true rfl) rfl rfl ?_
      refine o_aload_n dX6_holds_24 rfl ?_
      refine o_aload_n dX6_holds_25 rfl ?_
      refine h_get (v := .int (st 48 12)) dX6_holds_26 q6 fl_X6_105 (by decide) (px_ltM (by decide)) (c48 _) rfl ?_
      refine h_cVv (as := [.int (st 48 12)]) (S1 := []) (d' := 44) dX6_holds_29 mf_X6_looks ml_X6_396 mv_X6_looks q6 rfl (hp_at (px_ltM (by decide)) (c48 _)) rfl (Nat.le_of_ble_eq_true rfl) rfl (Nat.le_of_ble_eq_true rfl) (fun b hb => k_X6_looks hb) (fun b12 hb12 => ?_)
      refine o_aload_n dX6_holds_32 rfl ?_
      refine o_iconst (v := 2) dX6_holds_33 (by decide) ?_
      refine h_puti dX6_holds_34 q6 fl_X6_38 pf_X6_14 (px_ltM (by decide)) (c48 _) (Nat.le_of_ble_eq_true rfl) (s48_14 _ _) ?_
      exact o_weak (L' := [some (.ref 48), none, some (.int (-1)), some (.int (st 48 14)), none]) ⟨rfl, ⟨rfl, ⟨rfl, trivial⟩⟩⟩ (t_X6_holds_37 T 1000 (-1) (st 48 14) (up b12 48 14 2))
  · refine o_bipush (v := (-2)) dX6_holds_10 (by decide) ?_
    exact o_iret (rt := .int) rfl rfl dX6_holds_12 rfl (Nat.zero_le _) (Nat.zero_le _)
theorem k_X6_holds {T : Nat} {st : px_S} {x0 : Int32} {b : Int32 × px_S} (hf : f_X6_holds T x0 st = some b) : px_K (45) 0 0 m_X6_holds [.ref 48, .int x0] (HP (T + 2) st) ((px_gi (T + 2)) b).1 ((px_gi (T + 2)) b).2 := px_KofH hf mf_X6_holds (Nat.le_of_ble_eq_true rfl) rfl (t_X6_holds T x0 st)
/-! ThreeOfThemModel.who(II)I: S, depth 45 -/
def f_X6_who_260 (T : Nat) (k139 : Int32 → Int32 → Int32 → Int32 → Int32 → Int32 → Int32 → Int32 → px_S → Option (Int32 × px_S)) (y1 : Int32) (y2 : Int32) (y4 : Int32) (y5 : Int32) (y6 : Int32) (y7 : Int32) (y9 : Int32) (y10 : Int32) (z0 : Int32) (st : px_S) : Option (Int32 × px_S) := ((f_X6_dayMore T (up st 48 12 ((st 48 12) &&& (((1 : Int32) <<< (y10 &&& 31)) ^^^ (-1))))).bind fun b1 => (k139 y1 y2 y4 y5 y6 y7 z0 (y9 + 1) b1))
set_option maxRecDepth 20000 in
theorem t_X6_who_260 (T : Nat) (k139 : Int32 → Int32 → Int32 → Int32 → Int32 → Int32 → Int32 → Int32 → px_S → Option (Int32 × px_S)) (hk139 : ∀ (y1 : Int32) (y2 : Int32) (y4 : Int32) (y5 : Int32) (y6 : Int32) (y7 : Int32) (y8 : Int32) (y9 : Int32) (st : px_S), px_O (45, 0, 0, px_n (T + 2), m_X6_who) (px_gi (T + 2)) (k139 y1 y2 y4 y5 y6 y7 y8 y9 st) 139 [some (.ref 48), some (.int y1), some (.int y2), none, some (.int y4), some (.int y5), some (.int y6), some (.int y7), some (.int y8), some (.int y9), none, none] [] (HP (T + 2) st) 0 0) (y1 : Int32) (y2 : Int32) (y4 : Int32) (y5 : Int32) (y6 : Int32) (y7 : Int32) (y9 : Int32) (y10 : Int32) (z0 : Int32) (st : px_S) : px_O (45, 0, 0, px_n (T + 2), m_X6_who) (px_gi (T + 2)) (f_X6_who_260 T k139 y1 y2 y4 y5 y6 y7 y9 y10 z0 st) 260 [some (.ref 48), some (.int y1), some (.int y2), none, some (.int y4), some (.int y5), some (.int y6), some (.int y7), none, some (.int y9), some (.int y10), none] [.int z0] (HP (T + 2) st) 0 0 := by
  rw [f_X6_who_260]
  refine o_istore (L' := [some (.ref 48), some (.int y1), some (.int y2), none, some (.int y4), some (.int y5), some (.int y6), some (.int y7), some (.int z0), some (.int y9), some (.int y10), none]) dX6_who_260 (Nat.le_of_ble_eq_true rfl) rfl rfl ?_
  refine o_aload_n dX6_who_262 rfl ?_
  refine o_dup dX6_who_263 rfl ?_
  refine h_get (v := .int (st 48 12)) dX6_who_264 q6 fl_X6_105 (by decide) (px_ltM (by decide)) (c48 _) rfl ?_
  refine o_iconst (v := 1) dX6_who_267 (by decide) ?_
  refine o_iload dX6_who_268 rfl ?_
  refine o_ishl dX6_who_270 ?_
  refine o_iconst (v := (-1)) dX6_who_271 (by decide) ?_
  refine o_ixor dX6_who_272 ?_
  refine o_iand dX6_who_273 ?_
  refine h_puti dX6_who_274 q6 fl_X6_105 pf_X6_12 (px_ltM (by decide)) (c48 _) (Nat.le_of_ble_eq_true rfl) (s48_12 _ _) ?_
  refine o_aload_n dX6_who_277 rfl ?_
  refine h_cVv (as := []) (S1 := []) (d' := 0) dX6_who_278 mf_X6_dayMore ml_X6_403 mv_X6_dayMore q6 rfl (hp_at (px_ltM (by decide)) (c48 _)) rfl (Nat.le_of_ble_eq_true rfl) rfl (Nat.le_of_ble_eq_true rfl) (fun b hb => k_X6_dayMore hb) (fun b1 hb1 => ?_)
  refine o_iinc (v := (y9 + 1)) (L' := [some (.ref 48), some (.int y1), some (.int y2), none, some (.int y4), some (.int y5), some (.int y6), some (.int y7), some (.int z0), some (.int (y9 + 1)), some (.int y10), none]) dX6_who_281 rfl rfl (Nat.le_of_ble_eq_true rfl) rfl rfl ?_
  refine o_goto (tgt := 139) dX6_who_284 (by decide) ?_
  exact o_weak (L' := [some (.ref 48), some (.int y1), some (.int y2), none, some (.int y4), some (.int y5), some (.int y6), some (.int y7), some (.int z0), some (.int (y9 + 1)), none, none]) ⟨rfl, ⟨rfl, ⟨rfl, ⟨rfl, ⟨rfl, ⟨rfl, ⟨rfl, ⟨rfl, ⟨rfl, trivial⟩⟩⟩⟩⟩⟩⟩⟩⟩ (hk139 y1 y2 y4 y5 y6 y7 z0 (y9 + 1) b1)
def f_X6_who_258 (T : Nat) (k139 : Int32 → Int32 → Int32 → Int32 → Int32 → Int32 → Int32 → Int32 → px_S → Option (Int32 × px_S)) (y1 : Int32) (y2 : Int32) (y4 : Int32) (y5 : Int32) (y6 : Int32) (y7 : Int32) (y8 : Int32) (y9 : Int32) (y10 : Int32) (st : px_S) : Option (Int32 × px_S) := (f_X6_who_260 T k139 y1 y2 y4 y5 y6 y7 y9 y10 y8 st)
set_option maxRecDepth 20000 in
theorem t_X6_who_258 (T : Nat) (k139 : Int32 → Int32 → Int32 → Int32 → Int32 → Int32 → Int32 → Int32 → px_S → Option (Int32 × px_S)) (hk139 : ∀ (y1 : Int32) (y2 : Int32) (y4 : Int32) (y5 : Int32) (y6 : Int32) (y7 : Int32) (y8 : Int32) (y9 : Int32) (st : px_S), px_O (45, 0, 0, px_n (T + 2), m_X6_who) (px_gi (T + 2)) (k139 y1 y2 y4 y5 y6 y7 y8 y9 st) 139 [some (.ref 48), some (.int y1), some (.int y2), none, some (.int y4), some (.int y5), some (.int y6), some (.int y7), some (.int y8), some (.int y9), none, none] [] (HP (T + 2) st) 0 0) (y1 : Int32) (y2 : Int32) (y4 : Int32) (y5 : Int32) (y6 : Int32) (y7 : Int32) (y8 : Int32) (y9 : Int32) (y10 : Int32) (st : px_S) : px_O (45, 0, 0, px_n (T + 2), m_X6_who) (px_gi (T + 2)) (f_X6_who_258 T k139 y1 y2 y4 y5 y6 y7 y8 y9 y10 st) 258 [some (.ref 48), some (.int y1), some (.int y2), none, some (.int y4), some (.int y5), some (.int y6), some (.int y7), some (.int y8), some (.int y9), some (.int y10), none] [] (HP (T + 2) st) 0 0 := by
  rw [f_X6_who_258]
  refine o_iload dX6_who_258 rfl ?_
  exact o_weak (L' := [some (.ref 48), some (.int y1), some (.int y2), none, some (.int y4), some (.int y5), some (.int y6), some (.int y7), none, some (.int y9), some (.int y10), none]) ⟨rfl, ⟨rfl, ⟨rfl, ⟨rfl, ⟨rfl, ⟨rfl, ⟨rfl, ⟨rfl, ⟨rfl, trivial⟩⟩⟩⟩⟩⟩⟩⟩⟩ (t_X6_who_260 T k139 hk139 y1 y2 y4 y5 y6 y7 y9 y10 y8 st)
def f_X6_who_181 (T : Nat) (k139 : Int32 → Int32 → Int32 → Int32 → Int32 → Int32 → Int32 → Int32 → px_S → Option (Int32 × px_S)) : Nat → Int32 → Int32 → Int32 → Int32 → Int32 → Int32 → Int32 → Int32 → Int32 → Int32 → px_S → Option (Int32 × px_S)
  | 0, _, _, _, _, _, _, _, _, _, _, _ => none
  | n + 1, y1, y2, y4, y5, y6, y7, y8, y9, y10, y11, st => (if y11 < ((1 : Int32) <<< ((st 48 11) &&& 31)) then ((f_X6_isBand T st y11 y10 (st 48 12)).bind fun b5 => (if b5 = 0 then ((f_X6_who_181 T k139 n) y1 y2 y4 y5 y6 y7 y8 y9 y10 (y11 + 1) st) else ((f_X6_allWould T st y11 y10).bind fun b7 => (if b7 = 0 then ((f_X6_who_181 T k139 n) y1 y2 y4 y5 y6 y7 y8 y9 y10 (y11 + 1) st) else (if y7 = (-1) then ((f_X6_who_181 T k139 n) y1 y2 y4 y5 (y6 + 1) y11 y8 y9 y10 (y11 + 1) st) else ((f_X6_who_181 T k139 n) y1 y2 y4 y5 (y6 + 1) y7 y8 y9 y10 (y11 + 1) st)))))) else (if y6 = 0 then (if y8 = (-1) then (f_X6_who_260 T k139 y1 y2 y4 y5 y6 y7 y9 y10 y9 st) else (f_X6_who_258 T k139 y1 y2 y4 y5 y6 y7 y8 y9 y10 st)) else (f_X6_who_258 T k139 y1 y2 y4 y5 y6 y7 y8 y9 y10 st)))
set_option maxRecDepth 20000 in
theorem t_X6_who_181 (T : Nat) (k139 : Int32 → Int32 → Int32 → Int32 → Int32 → Int32 → Int32 → Int32 → px_S → Option (Int32 × px_S)) (hk139 : ∀ (y1 : Int32) (y2 : Int32) (y4 : Int32) (y5 : Int32) (y6 : Int32) (y7 : Int32) (y8 : Int32) (y9 : Int32) (st : px_S), px_O (45, 0, 0, px_n (T + 2), m_X6_who) (px_gi (T + 2)) (k139 y1 y2 y4 y5 y6 y7 y8 y9 st) 139 [some (.ref 48), some (.int y1), some (.int y2), none, some (.int y4), some (.int y5), some (.int y6), some (.int y7), some (.int y8), some (.int y9), none, none] [] (HP (T + 2) st) 0 0) : ∀ (n : Nat) (y1 : Int32) (y2 : Int32) (y4 : Int32) (y5 : Int32) (y6 : Int32) (y7 : Int32) (y8 : Int32) (y9 : Int32) (y10 : Int32) (y11 : Int32) (st : px_S), px_O (45, 0, 0, px_n (T + 2), m_X6_who) (px_gi (T + 2)) (f_X6_who_181 T k139 n y1 y2 y4 y5 y6 y7 y8 y9 y10 y11 st) 181 [some (.ref 48), some (.int y1), some (.int y2), none, some (.int y4), some (.int y5), some (.int y6), some (.int y7), some (.int y8), some (.int y9), some (.int y10), some (.int y11)] [] (HP (T + 2) st) 0 0 := by
  intro n
  induction n with
  | zero => intro y1 y2 y4 y5 y6 y7 y8 y9 y10 y11 st; rw [f_X6_who_181]; exact o_none
  | succ n ih =>
    intro y1 y2 y4 y5 y6 y7 y8 y9 y10 y11 st
    rw [f_X6_who_181]
    refine o_iload dX6_who_181 rfl ?_
    refine o_iconst (v := 1) dX6_who_183 (by decide) ?_
    refine o_aload_n dX6_who_184 rfl ?_
    refine h_get (v := .int (st 48 11)) dX6_who_185 q6 fl_X6_94 (by decide) (px_ltM (by decide)) (c48 _) rfl ?_
    refine o_ishl dX6_who_188 ?_
    refine o_icmpge (tgt := 242) dX6_who_189 (by decide) (fun u2 => ?_) (fun u2 => ?_)
    · refine o_iload dX6_who_242 rfl ?_
      refine o_ifne (tgt := 258) dX6_who_244 (by decide) (fun u3 => ?_) (fun u3 => ?_)
      · exact o_weak (L' := [some (.ref 48), some (.int y1), some (.int y2), none, some (.int y4), some (.int y5), some (.int y6), some (.int y7), some (.int y8), some (.int y9), some (.int y10), none]) ⟨rfl, ⟨rfl, ⟨rfl, ⟨rfl, ⟨rfl, ⟨rfl, ⟨rfl, ⟨rfl, ⟨rfl, ⟨rfl, trivial⟩⟩⟩⟩⟩⟩⟩⟩⟩⟩ (t_X6_who_258 T k139 hk139 y1 y2 y4 y5 y6 y7 y8 y9 y10 st)
      · refine o_iload dX6_who_247 rfl ?_
        refine o_iconst (v := (-1)) dX6_who_249 (by decide) ?_
        refine o_icmpne (tgt := 258) dX6_who_250 (by decide) (fun u4 => ?_) (fun u4 => ?_)
        · exact o_weak (L' := [some (.ref 48), some (.int y1), some (.int y2), none, some (.int y4), some (.int y5), some (.int y6), some (.int y7), some (.int y8), some (.int y9), some (.int y10), none]) ⟨rfl, ⟨rfl, ⟨rfl, ⟨rfl, ⟨rfl, ⟨rfl, ⟨rfl, ⟨rfl, ⟨rfl, ⟨rfl, trivial⟩⟩⟩⟩⟩⟩⟩⟩⟩⟩ (t_X6_who_258 T k139 hk139 y1 y2 y4 y5 y6 y7 y8 y9 y10 st)
        · refine o_iload dX6_who_253 rfl ?_
          refine o_goto (tgt := 260) dX6_who_255 (by decide) ?_
          exact o_weak (L' := [some (.ref 48), some (.int y1), some (.int y2), none, some (.int y4), some (.int y5), some (.int y6), some (.int y7), none, some (.int y9), some (.int y10), none]) ⟨rfl, ⟨rfl, ⟨rfl, ⟨rfl, ⟨rfl, ⟨rfl, ⟨rfl, ⟨rfl, ⟨rfl, trivial⟩⟩⟩⟩⟩⟩⟩⟩⟩ (t_X6_who_260 T k139 hk139 y1 y2 y4 y5 y6 y7 y9 y10 y9 st)
    · refine o_aload_n dX6_who_192 rfl ?_
      refine o_iload dX6_who_193 rfl ?_
      refine o_iload dX6_who_195 rfl ?_
      refine o_aload_n dX6_who_197 rfl ?_
      refine h_get (v := .int (st 48 12)) dX6_who_198 q6 fl_X6_105 (by decide) (px_ltM (by decide)) (c48 _) rfl ?_
      refine h_cV0 (as := [.int y11, .int y10, .int (st 48 12)]) (S1 := []) (d' := 1) dX6_who_201 mf_X6_isBand ml_X6_386 mv_X6_isBand q6 rfl (hp_at (px_ltM (by decide)) (c48 _)) rfl (Nat.le_of_ble_eq_true rfl) rfl (Nat.le_of_ble_eq_true rfl) ⟨Nat.zero_le _, Nat.zero_le _⟩ (fun b hb => k_X6_isBand hb) (fun b5 hb5 => ?_)
      refine o_ifeq (tgt := 236) dX6_who_204 (by decide) (fun u6 => ?_) (fun u6 => ?_)
      · refine o_iinc (v := (y11 + 1)) (L' := [some (.ref 48), some (.int y1), some (.int y2), none, some (.int y4), some (.int y5), some (.int y6), some (.int y7), some (.int y8), some (.int y9), some (.int y10), some (.int (y11 + 1))]) dX6_who_236 rfl rfl (Nat.le_of_ble_eq_true rfl) rfl rfl ?_
        refine o_goto (tgt := 181) dX6_who_239 (by decide) ?_
        exact (ih y1 y2 y4 y5 y6 y7 y8 y9 y10 (y11 + 1) st)
      · refine o_aload_n dX6_who_207 rfl ?_
        refine o_iload dX6_who_208 rfl ?_
        refine o_iload dX6_who_210 rfl ?_
        refine h_cV0 (as := [.int y11, .int y10]) (S1 := []) (d' := 2) dX6_who_212 mf_X6_allWould ml_X6_390 mv_X6_allWould q6 rfl (hp_at (px_ltM (by decide)) (c48 _)) rfl (Nat.le_of_ble_eq_true rfl) rfl (Nat.le_of_ble_eq_true rfl) ⟨Nat.zero_le _, Nat.zero_le _⟩ (fun b hb => k_X6_allWould hb) (fun b7 hb7 => ?_)
        refine o_ifeq (tgt := 236) dX6_who_215 (by decide) (fun u8 => ?_) (fun u8 => ?_)
        · refine o_iinc (v := (y11 + 1)) (L' := [some (.ref 48), some (.int y1), some (.int y2), none, some (.int y4), some (.int y5), some (.int y6), some (.int y7), some (.int y8), some (.int y9), some (.int y10), some (.int (y11 + 1))]) dX6_who_236 rfl rfl (Nat.le_of_ble_eq_true rfl) rfl rfl ?_
          refine o_goto (tgt := 181) dX6_who_239 (by decide) ?_
          exact (ih y1 y2 y4 y5 y6 y7 y8 y9 y10 (y11 + 1) st)
        · refine o_iinc (v := (y6 + 1)) (L' := [some (.ref 48), some (.int y1), some (.int y2), none, some (.int y4), some (.int y5), some (.int (y6 + 1)), some (.int y7), some (.int y8), some (.int y9), some (.int y10), some (.int y11)]) dX6_who_218 rfl rfl (Nat.le_of_ble_eq_true rfl) rfl rfl ?_
          refine o_iload dX6_who_221 rfl ?_
          refine o_iconst (v := (-1)) dX6_who_223 (by decide) ?_
          refine o_icmpne (tgt := 232) dX6_who_224 (by decide) (fun u9 => ?_) (fun u9 => ?_)
          · refine o_iload dX6_who_232 rfl ?_
            refine o_istore (L' := [some (.ref 48), some (.int y1), some (.int y2), none, some (.int y4), some (.int y5), some (.int (y6 + 1)), some (.int y7), some (.int y8), some (.int y9), some (.int y10), some (.int y11)]) dX6_who_234 (Nat.le_of_ble_eq_true rfl) rfl rfl ?_
            refine o_iinc (v := (y11 + 1)) (L' := [some (.ref 48), some (.int y1), some (.int y2), none, some (.int y4), some (.int y5), some (.int (y6 + 1)), some (.int y7), some (.int y8), some (.int y9), some (.int y10), some (.int (y11 + 1))]) dX6_who_236 rfl rfl (Nat.le_of_ble_eq_true rfl) rfl rfl ?_
            refine o_goto (tgt := 181) dX6_who_239 (by decide) ?_
            exact (ih y1 y2 y4 y5 (y6 + 1) y7 y8 y9 y10 (y11 + 1) st)
          · refine o_iload dX6_who_227 rfl ?_
            refine o_goto (tgt := 234) dX6_who_229 (by decide) ?_
            refine o_istore (L' := [some (.ref 48), some (.int y1), some (.int y2), none, some (.int y4), some (.int y5), some (.int (y6 + 1)), some (.int y11), some (.int y8), some (.int y9), some (.int y10), some (.int y11)]) dX6_who_234 (Nat.le_of_ble_eq_true rfl) rfl rfl ?_
            refine o_iinc (v := (y11 + 1)) (L' := [some (.ref 48), some (.int y1), some (.int y2), none, some (.int y4), some (.int y5), some (.int (y6 + 1)), some (.int y11), some (.int y8), some (.int y9), some (.int y10), some (.int (y11 + 1))]) dX6_who_236 rfl rfl (Nat.le_of_ble_eq_true rfl) rfl rfl ?_
            refine o_goto (tgt := 181) dX6_who_239 (by decide) ?_
            exact (ih y1 y2 y4 y5 (y6 + 1) y11 y8 y9 y10 (y11 + 1) st)
def f_X6_who_139 (T : Nat) : Nat → Int32 → Int32 → Int32 → Int32 → Int32 → Int32 → Int32 → Int32 → px_S → Option (Int32 × px_S)
  | 0, _, _, _, _, _, _, _, _, _ => none
  | n + 1, y1, y2, y4, y5, y6, y7, y8, y9, st => (if px_in y1 4 then (if y9 < (st 68 y1.toNatClampNeg) then (if px_in (((40 : Int32) * y1) + y9) 160 then ((f_X6_looks T (st 48 12) st).bind fun b15 => (f_X6_who_181 T (f_X6_who_139 T n) 1000 y1 y2 y4 y5 0 (-1) y8 y9 (st 69 (((40 : Int32) * y1) + y9).toNatClampNeg) 1 b15)) else none) else (if y2 = 0 then (some (y6, (up (up st 48 12 y4) 48 15 y5))) else (if y2 = 1 then (some (y7, (up (up st 48 12 y4) 48 15 y5))) else (some (y8, (up (up st 48 12 y4) 48 15 y5)))))) else none)
set_option maxRecDepth 20000 in
theorem t_X6_who_139 (T : Nat) : ∀ (n : Nat) (y1 : Int32) (y2 : Int32) (y4 : Int32) (y5 : Int32) (y6 : Int32) (y7 : Int32) (y8 : Int32) (y9 : Int32) (st : px_S), px_O (45, 0, 0, px_n (T + 2), m_X6_who) (px_gi (T + 2)) (f_X6_who_139 T n y1 y2 y4 y5 y6 y7 y8 y9 st) 139 [some (.ref 48), some (.int y1), some (.int y2), none, some (.int y4), some (.int y5), some (.int y6), some (.int y7), some (.int y8), some (.int y9), none, none] [] (HP (T + 2) st) 0 0 := by
  intro n
  induction n with
  | zero => intro y1 y2 y4 y5 y6 y7 y8 y9 st; rw [f_X6_who_139]; exact o_none
  | succ n ih =>
    intro y1 y2 y4 y5 y6 y7 y8 y9 st
    rw [f_X6_who_139]
    refine o_iload dX6_who_139 rfl ?_
    refine o_aload_n dX6_who_141 rfl ?_
    refine h_get (v := .ref 68) dX6_who_142 q6 fl_X6_81 (by decide) (px_ltM (by decide)) (c48 _) rfl ?_
    refine o_iload_n dX6_who_145 rfl ?_
    refine h_iald (n := 4) dX6_who_146 (px_ltM (by decide)) (c68 _) (fun u10 => ?_)
    refine o_icmpge (tgt := 287) dX6_who_147 (by decide) (fun u11 => ?_) (fun u11 => ?_)
    · refine o_aload_n dX6_who_287 rfl ?_
      refine o_iload dX6_who_288 rfl ?_
      refine h_puti dX6_who_290 q6 fl_X6_105 pf_X6_12 (px_ltM (by decide)) (c48 _) (Nat.le_of_ble_eq_true rfl) (s48_12 _ _) ?_
      refine o_aload_n dX6_who_293 rfl ?_
      refine o_iload dX6_who_294 rfl ?_
      refine h_puti dX6_who_296 q6 fl_X6_128 pf_X6_15 (px_ltM (by decide)) (c48 _) (Nat.le_of_ble_eq_true rfl) (s48_15 _ _) ?_
      refine o_iload_n dX6_who_299 rfl ?_
      refine o_ifne (tgt := 308) dX6_who_300 (by decide) (fun u12 => ?_) (fun u12 => ?_)
      · refine o_iload_n dX6_who_308 rfl ?_
        refine o_iconst (v := 1) dX6_who_309 (by decide) ?_
        refine o_icmpne (tgt := 318) dX6_who_310 (by decide) (fun u13 => ?_) (fun u13 => ?_)
        · refine o_iload dX6_who_318 rfl ?_
          exact o_iret (rt := .int) rfl rfl dX6_who_320 rfl (Nat.zero_le _) (Nat.zero_le _)
        · refine o_iload dX6_who_313 rfl ?_
          refine o_goto (tgt := 320) dX6_who_315 (by decide) ?_
          exact o_iret (rt := .int) rfl rfl dX6_who_320 rfl (Nat.zero_le _) (Nat.zero_le _)
      · refine o_iload dX6_who_303 rfl ?_
        refine o_goto (tgt := 320) dX6_who_305 (by decide) ?_
        exact o_iret (rt := .int) rfl rfl dX6_who_320 rfl (Nat.zero_le _) (Nat.zero_le _)
    · refine o_aload_n dX6_who_150 rfl ?_
      refine h_get (v := .ref 69) dX6_who_151 q6 fl_X6_84 (by decide) (px_ltM (by decide)) (c48 _) rfl ?_
      refine o_bipush (v := 40) dX6_who_154 (by decide) ?_
      refine o_iload_n dX6_who_156 rfl ?_
      refine o_imul dX6_who_157 ?_
      refine o_iload dX6_who_158 rfl ?_
      refine o_iadd dX6_who_160 ?_
      refine h_iald (n := 160) dX6_who_161 (px_ltM (by decide)) (c69 _) (fun u14 => ?_)
      refine o_istore (L' := [some (.ref 48), some (.int y1), some (.int y2), none, some (.int y4), some (.int y5), some (.int y6), some (.int y7), some (.int y8), some (.int y9), some (.int (st 69 (((40 : Int32) * y1) + y9).toNatClampNeg)), none]) dX6_who_162 (Nat.le_of_ble_eq_true rfl) rfl rfl ?_
      refine o_aload_n dX6_who_164 rfl ?_
      refine o_aload_n dX6_who_165 rfl ?_
      refine h_get (v := .int (st 48 12)) dX6_who_166 q6 fl_X6_105 (by decide) (px_ltM (by decide)) (c48 _) rfl ?_
      refine h_cVv (as := [.int (st 48 12)]) (S1 := []) (d' := 44) dX6_who_169 mf_X6_looks ml_X6_396 mv_X6_looks q6 rfl (hp_at (px_ltM (by decide)) (c48 _)) rfl (Nat.le_of_ble_eq_true rfl) rfl (Nat.le_of_ble_eq_true rfl) (fun b hb => k_X6_looks hb) (fun b15 hb15 => ?_)
      refine o_iconst (v := 0) dX6_who_172 (by decide) ?_
      refine o_istore (L' := [some (.ref 48), some (.int y1), some (.int y2), none, some (.int y4), some (.int y5), some (.int 0), some (.int y7), some (.int y8), some (.int y9), some (.int (st 69 (((40 : Int32) * y1) + y9).toNatClampNeg)), none]) dX6_who_173 (Nat.le_of_ble_eq_true rfl) rfl rfl ?_
      refine o_iconst (v := (-1)) dX6_who_175 (by decide) ?_
      refine o_istore (L' := [some (.ref 48), some (.int y1), some (.int y2), none, some (.int y4), some (.int y5), some (.int 0), some (.int (-1)), some (.int y8), some (.int y9), some (.int (st 69 (((40 : Int32) * y1) + y9).toNatClampNeg)), none]) dX6_who_176 (Nat.le_of_ble_eq_true rfl) rfl rfl ?_
      refine o_iconst (v := 1) dX6_who_178 (by decide) ?_
      refine o_istore (L' := [some (.ref 48), some (.int y1), some (.int y2), none, some (.int y4), some (.int y5), some (.int 0), some (.int (-1)), some (.int y8), some (.int y9), some (.int (st 69 (((40 : Int32) * y1) + y9).toNatClampNeg)), some (.int 1)]) dX6_who_179 (Nat.le_of_ble_eq_true rfl) rfl rfl ?_
      exact (t_X6_who_181 T (f_X6_who_139 T n) ih 1000 y1 y2 y4 y5 0 (-1) y8 y9 (st 69 (((40 : Int32) * y1) + y9).toNatClampNeg) 1 b15)
def f_X6_who_42 (T : Nat) : Nat → Int32 → Int32 → Int32 → Int32 → px_S → Option (Int32 × px_S)
  | 0, _, _, _, _, _ => none
  | n + 1, y1, y2, y3, y4, st => (if px_in y1 4 then (if y4 < (st 68 y1.toNatClampNeg) then (if px_in (((40 : Int32) * y1) + y4) 160 then ((f_X6_isOne T st (st 69 (((40 : Int32) * y1) + y4).toNatClampNeg)).bind fun b21 => (if b21 = 0 then (some ((-2), st)) else (if ((y3 >>> ((st 69 (((40 : Int32) * y1) + y4).toNatClampNeg) &&& 31)) &&& 1) = 0 then (some ((-2), st)) else ((f_X6_who_42 T n) y1 y2 (y3 &&& (((1 : Int32) <<< ((st 69 (((40 : Int32) * y1) + y4).toNatClampNeg) &&& 31)) ^^^ (-1))) (y4 + 1) st)))) else none) else (if px_in y1 4 then (if (st 68 y1.toNatClampNeg) = 0 then (some ((-2), st)) else (f_X6_who_139 T 1000 y1 y2 (st 48 12) (st 48 15) 0 (-1) (-1) 0 st)) else none)) else none)
set_option maxRecDepth 20000 in
theorem t_X6_who_42 (T : Nat) : ∀ (n : Nat) (y1 : Int32) (y2 : Int32) (y3 : Int32) (y4 : Int32) (st : px_S), px_O (45, 0, 0, px_n (T + 2), m_X6_who) (px_gi (T + 2)) (f_X6_who_42 T n y1 y2 y3 y4 st) 42 [some (.ref 48), some (.int y1), some (.int y2), some (.int y3), some (.int y4), none, none, none, none, none, none, none] [] (HP (T + 2) st) 0 0 := by
  intro n
  induction n with
  | zero => intro y1 y2 y3 y4 st; rw [f_X6_who_42]; exact o_none
  | succ n ih =>
    intro y1 y2 y3 y4 st
    rw [f_X6_who_42]
    refine o_iload dX6_who_42 rfl ?_
    refine o_aload_n dX6_who_44 rfl ?_
    refine h_get (v := .ref 68) dX6_who_45 q6 fl_X6_81 (by decide) (px_ltM (by decide)) (c48 _) rfl ?_
    refine o_iload_n dX6_who_48 rfl ?_
    refine h_iald (n := 4) dX6_who_49 (px_ltM (by decide)) (c68 _) (fun u16 => ?_)
    refine o_icmpge (tgt := 103) dX6_who_50 (by decide) (fun u17 => ?_) (fun u17 => ?_)
    · refine o_aload_n dX6_who_103 rfl ?_
      refine h_get (v := .ref 68) dX6_who_104 q6 fl_X6_81 (by decide) (px_ltM (by decide)) (c48 _) rfl ?_
      refine o_iload_n dX6_who_107 rfl ?_
      refine h_iald (n := 4) dX6_who_108 (px_ltM (by decide)) (c68 _) (fun u18 => ?_)
      refine o_ifne (tgt := 115) dX6_who_109 (by decide) (fun u19 => ?_) (fun u19 => ?_)
      · refine o_aload_n dX6_who_115 rfl ?_
        refine h_get (v := .int (st 48 12)) dX6_who_116 q6 fl_X6_105 (by decide) (px_ltM (by decide)) (c48 _) rfl ?_
        refine o_istore (L' := [some (.ref 48), some (.int y1), some (.int y2), some (.int y3), some (.int (st 48 12)), none, none, none, none, none, none, none]) dX6_who_119 (Nat.le_of_ble_eq_true rfl) rfl rfl ?_
        refine o_aload_n dX6_who_121 rfl ?_
        refine h_get (v := .int (st 48 15)) dX6_who_122 q6 fl_X6_128 (by decide) (px_ltM (by decide)) (c48 _) rfl ?_
        refine o_istore (L' := [some (.ref 48), some (.int y1), some (.int y2), some (.int y3), some (.int (st 48 12)), some (.int (st 48 15)), none, none, none, none, none, none]) dX6_who_125 (Nat.le_of_ble_eq_true rfl) rfl rfl ?_
        refine o_iconst (v := 0) dX6_who_127 (by decide) ?_
        refine o_istore (L' := [some (.ref 48), some (.int y1), some (.int y2), some (.int y3), some (.int (st 48 12)), some (.int (st 48 15)), some (.int 0), none, none, none, none, none]) dX6_who_128 (Nat.le_of_ble_eq_true rfl) rfl rfl ?_
        refine o_iconst (v := (-1)) dX6_who_130 (by decide) ?_
        refine o_istore (L' := [some (.ref 48), some (.int y1), some (.int y2), some (.int y3), some (.int (st 48 12)), some (.int (st 48 15)), some (.int 0), some (.int (-1)), none, none, none, none]) dX6_who_131 (Nat.le_of_ble_eq_true rfl) rfl rfl ?_
        refine o_iconst (v := (-1)) dX6_who_133 (by decide) ?_
        refine o_istore (L' := [some (.ref 48), some (.int y1), some (.int y2), some (.int y3), some (.int (st 48 12)), some (.int (st 48 15)), some (.int 0), some (.int (-1)), some (.int (-1)), none, none, none]) dX6_who_134 (Nat.le_of_ble_eq_true rfl) rfl rfl ?_
        refine o_iconst (v := 0) dX6_who_136 (by decide) ?_
        refine o_istore (L' := [some (.ref 48), some (.int y1), some (.int y2), some (.int y3), some (.int (st 48 12)), some (.int (st 48 15)), some (.int 0), some (.int (-1)), some (.int (-1)), some (.int 0), none, none]) dX6_who_137 (Nat.le_of_ble_eq_true rfl) rfl rfl ?_
        exact o_weak (L' := [some (.ref 48), some (.int y1), some (.int y2), none, some (.int (st 48 12)), some (.int (st 48 15)), some (.int 0), some (.int (-1)), some (.int (-1)), some (.int 0), none, none]) ⟨rfl, ⟨rfl, ⟨rfl, ⟨rfl, ⟨rfl, ⟨rfl, ⟨rfl, ⟨rfl, ⟨rfl, trivial⟩⟩⟩⟩⟩⟩⟩⟩⟩ (t_X6_who_139 T 1000 y1 y2 (st 48 12) (st 48 15) 0 (-1) (-1) 0 st)
      · refine o_bipush (v := (-2)) dX6_who_112 (by decide) ?_
        exact o_iret (rt := .int) rfl rfl dX6_who_114 rfl (Nat.zero_le _) (Nat.zero_le _)
    · refine o_aload_n dX6_who_53 rfl ?_
      refine h_get (v := .ref 69) dX6_who_54 q6 fl_X6_84 (by decide) (px_ltM (by decide)) (c48 _) rfl ?_
      refine o_bipush (v := 40) dX6_who_57 (by decide) ?_
      refine o_iload_n dX6_who_59 rfl ?_
      refine o_imul dX6_who_60 ?_
      refine o_iload dX6_who_61 rfl ?_
      refine o_iadd dX6_who_63 ?_
      refine h_iald (n := 160) dX6_who_64 (px_ltM (by decide)) (c69 _) (fun u20 => ?_)
      refine o_istore (L' := [some (.ref 48), some (.int y1), some (.int y2), some (.int y3), some (.int y4), some (.int (st 69 (((40 : Int32) * y1) + y4).toNatClampNeg)), none, none, none, none, none, none]) dX6_who_65 (Nat.le_of_ble_eq_true rfl) rfl rfl ?_
      refine o_aload_n dX6_who_67 rfl ?_
      refine o_iload dX6_who_68 rfl ?_
      refine h_cV0 (as := [.int (st 69 (((40 : Int32) * y1) + y4).toNatClampNeg)]) (S1 := []) (d' := 1) dX6_who_70 mf_X6_isOne ml_X6_101 mv_X6_isOne q6 rfl (hp_at (px_ltM (by decide)) (c48 _)) rfl (Nat.le_of_ble_eq_true rfl) rfl (Nat.le_of_ble_eq_true rfl) ⟨Nat.zero_le _, Nat.zero_le _⟩ (fun b hb => k_X6_isOne hb) (fun b21 hb21 => ?_)
      refine o_ifeq (tgt := 85) dX6_who_73 (by decide) (fun u22 => ?_) (fun u22 => ?_)
      · refine o_bipush (v := (-2)) dX6_who_85 (by decide) ?_
        exact o_iret (rt := .int) rfl rfl dX6_who_87 rfl (Nat.zero_le _) (Nat.zero_le _)
      · refine o_iload_n dX6_who_76 rfl ?_
        refine o_iload dX6_who_77 rfl ?_
        refine o_ishr dX6_who_79 ?_
        refine o_iconst (v := 1) dX6_who_80 (by decide) ?_
        refine o_iand dX6_who_81 ?_
        refine o_ifne (tgt := 88) dX6_who_82 (by decide) (fun u23 => ?_) (fun u23 => ?_)
        · refine o_iload_n dX6_who_88 rfl ?_
          refine o_iconst (v := 1) dX6_who_89 (by decide) ?_
          refine o_iload dX6_who_90 rfl ?_
          refine o_ishl dX6_who_92 ?_
          refine o_iconst (v := (-1)) dX6_who_93 (by decide) ?_
          refine o_ixor dX6_who_94 ?_
          refine o_iand dX6_who_95 ?_
          refine o_istore_n (L' := [some (.ref 48), some (.int y1), some (.int y2), some (.int (y3 &&& (((1 : Int32) <<< ((st 69 (((40 : Int32) * y1) + y4).toNatClampNeg) &&& 31)) ^^^ (-1)))), some (.int y4), some (.int (st 69 (((40 : Int32) * y1) + y4).toNatClampNeg)), none, none, none, none, none, none]) dX6_who_96 (Nat.le_of_ble_eq_true rfl) rfl rfl ?_
          refine o_iinc (v := (y4 + 1)) (L' := [some (.ref 48), some (.int y1), some (.int y2), some (.int (y3 &&& (((1 : Int32) <<< ((st 69 (((40 : Int32) * y1) + y4).toNatClampNeg) &&& 31)) ^^^ (-1)))), some (.int (y4 + 1)), some (.int (st 69 (((40 : Int32) * y1) + y4).toNatClampNeg)), none, none, none, none, none, none]) dX6_who_97 rfl rfl (Nat.le_of_ble_eq_true rfl) rfl rfl ?_
          refine o_goto (tgt := 42) dX6_who_100 (by decide) ?_
          exact o_weak (L' := [some (.ref 48), some (.int y1), some (.int y2), some (.int (y3 &&& (((1 : Int32) <<< ((st 69 (((40 : Int32) * y1) + y4).toNatClampNeg) &&& 31)) ^^^ (-1)))), some (.int (y4 + 1)), none, none, none, none, none, none, none]) ⟨rfl, ⟨rfl, ⟨rfl, ⟨rfl, ⟨rfl, trivial⟩⟩⟩⟩⟩ (ih y1 y2 (y3 &&& (((1 : Int32) <<< ((st 69 (((40 : Int32) * y1) + y4).toNatClampNeg) &&& 31)) ^^^ (-1))) (y4 + 1) st)
        · refine o_bipush (v := (-2)) dX6_who_85 (by decide) ?_
          exact o_iret (rt := .int) rfl rfl dX6_who_87 rfl (Nat.zero_le _) (Nat.zero_le _)
def f_X6_who (T : Nat) (x0 : Int32) (x1 : Int32) (st : px_S) : Option (Int32 × px_S) := ((f_X6_isSheet x0).bind fun b24 => (if b24 = 0 then (some ((-2), st)) else (if (p_X6_in x1.toInt64 0 2) = 0 then (some ((-2), st)) else (if px_in x0 4 then (if (st 66 x0.toNatClampNeg) = 0 then (some ((-11), st)) else (f_X6_who_42 T 1000 x0 x1 (st 48 12) 0 st)) else none))))
set_option maxRecDepth 20000 in
theorem t_X6_who (T : Nat) (x0 : Int32) (x1 : Int32) (st : px_S) : px_O (45, 0, 0, px_n (T + 2), m_X6_who) (px_gi (T + 2)) (f_X6_who T x0 x1 st) 0 [some (.ref 48), some (.int x0), some (.int x1), none, none, none, none, none, none, none, none, none] [] (HP (T + 2) st) 0 0 := by
  rw [f_X6_who]
  refine o_iload_n dX6_who_0 rfl ?_
  refine h_cS0 (as := [.int x0]) (S1 := []) (d' := 1) dX6_who_1 mf_X6_isSheet ml_X6_442 ms_X6_isSheet rfl (Nat.le_of_ble_eq_true rfl) rfl (Nat.le_of_ble_eq_true rfl) ⟨Nat.zero_le _, Nat.zero_le _⟩ (fun b hb => k_X6_isSheet hb) (fun b24 hb24 => ?_)
  refine o_ifeq (tgt := 19) dX6_who_4 (by decide) (fun u25 => ?_) (fun u25 => ?_)
  · refine o_bipush (v := (-2)) dX6_who_19 (by decide) ?_
    exact o_iret (rt := .int) rfl rfl dX6_who_21 rfl (Nat.zero_le _) (Nat.zero_le _)
  · refine o_iload_n dX6_who_7 rfl ?_
    refine o_i2l dX6_who_8 ?_
    refine o_lconst (v := 0) dX6_who_9 (by decide) ?_
    refine o_ldc2 (v := 2) dX6_who_10 cst_X6_122 ?_
    refine h_cSP (as := [.long x1.toInt64, .long 0, .long 2]) (S1 := []) (d' := 0) dX6_who_13 mf_X6_in ml_X6_97 ms_X6_in rfl (Nat.le_of_ble_eq_true rfl) rfl (Nat.le_of_ble_eq_true rfl) ⟨Nat.zero_le _, Nat.zero_le _⟩ (k_X6_in) ?_
    refine o_ifne (tgt := 22) dX6_who_16 (by decide) (fun u26 => ?_) (fun u26 => ?_)
    · refine o_aload_n dX6_who_22 rfl ?_
      refine h_get (v := .ref 66) dX6_who_23 q6 fl_X6_74 (by decide) (px_ltM (by decide)) (c48 _) rfl ?_
      refine o_iload_n dX6_who_26 rfl ?_
      refine h_zald (n := 4) dX6_who_27 (px_ltM (by decide)) (c66 _) (fun u27 => ?_)
      refine o_ifne (tgt := 34) dX6_who_28 (by decide) (fun u28 => ?_) (fun u28 => ?_)
      · refine o_aload_n dX6_who_34 rfl ?_
        refine h_get (v := .int (st 48 12)) dX6_who_35 q6 fl_X6_105 (by decide) (px_ltM (by decide)) (c48 _) rfl ?_
        refine o_istore_n (L' := [some (.ref 48), some (.int x0), some (.int x1), some (.int (st 48 12)), none, none, none, none, none, none, none, none]) dX6_who_38 (Nat.le_of_ble_eq_true rfl) rfl rfl ?_
        refine o_iconst (v := 0) dX6_who_39 (by decide) ?_
        refine o_istore (L' := [some (.ref 48), some (.int x0), some (.int x1), some (.int (st 48 12)), some (.int 0), none, none, none, none, none, none, none]) dX6_who_40 (Nat.le_of_ble_eq_true rfl) rfl rfl ?_
        exact (t_X6_who_42 T 1000 x0 x1 (st 48 12) 0 st)
      · refine o_bipush (v := (-11)) dX6_who_31 (by decide) ?_
        exact o_iret (rt := .int) rfl rfl dX6_who_33 rfl (Nat.zero_le _) (Nat.zero_le _)
    · refine o_bipush (v := (-2)) dX6_who_19 (by decide) ?_
      exact o_iret (rt := .int) rfl rfl dX6_who_21 rfl (Nat.zero_le _) (Nat.zero_le _)
theorem k_X6_who {T : Nat} {st : px_S} {x0 : Int32} {x1 : Int32} {b : Int32 × px_S} (hf : f_X6_who T x0 x1 st = some b) : px_K (45) 0 0 m_X6_who [.ref 48, .int x0, .int x1] (HP (T + 2) st) ((px_gi (T + 2)) b).1 ((px_gi (T + 2)) b).2 := px_KofH hf mf_X6_who (Nat.le_of_ble_eq_true rfl) rfl (t_X6_who T x0 x1 st)
/-! ThreeOfThemModel.meets(I)V: S, depth 45 -/
def f_X6_meets_109 (T : Nat) (k74 : Int32 → Int32 → Int32 → px_S → Option (px_S)) : Nat → Int32 → Int32 → Int32 → px_S → Option (px_S)
  | 0, _, _, _, _ => none
  | n + 1, y2, y5, y6, st => (if ((y2 &&& (y5 ^^^ (-1))) >>> (y6 &&& 31)) = 1 then ((f_X6_allWould T st y5 y6).bind fun b2 => (if b2 = 0 then (k74 y2 b2 (y5 + 1) st) else (k74 y2 b2 (y5 + 1) (up st 48 12 ((st 48 12) &&& (((1 : Int32) <<< (y6 &&& 31)) ^^^ (-1))))))) else ((f_X6_meets_109 T k74 n) y2 y5 (y6 + 1) st))
set_option maxRecDepth 20000 in
theorem t_X6_meets_109 (T : Nat) (k74 : Int32 → Int32 → Int32 → px_S → Option (px_S)) (hk74 : ∀ (y2 : Int32) (y4 : Int32) (y5 : Int32) (st : px_S), px_O (45, 0, 0, px_n (T + 2), m_X6_meets) (px_gv (T + 2)) (k74 y2 y4 y5 st) 74 [some (.ref 48), none, some (.int y2), none, some (.int y4), some (.int y5), none] [] (HP (T + 2) st) 0 0) : ∀ (n : Nat) (y2 : Int32) (y5 : Int32) (y6 : Int32) (st : px_S), px_O (45, 0, 0, px_n (T + 2), m_X6_meets) (px_gv (T + 2)) (f_X6_meets_109 T k74 n y2 y5 y6 st) 109 [some (.ref 48), none, some (.int y2), none, none, some (.int y5), some (.int y6)] [] (HP (T + 2) st) 0 0 := by
  intro n
  induction n with
  | zero => intro y2 y5 y6 st; rw [f_X6_meets_109]; exact o_none
  | succ n ih =>
    intro y2 y5 y6 st
    rw [f_X6_meets_109]
    refine o_iload_n dX6_meets_109 rfl ?_
    refine o_iload dX6_meets_110 rfl ?_
    refine o_iconst (v := (-1)) dX6_meets_112 (by decide) ?_
    refine o_ixor dX6_meets_113 ?_
    refine o_iand dX6_meets_114 ?_
    refine o_iload dX6_meets_115 rfl ?_
    refine o_ishr dX6_meets_117 ?_
    refine o_iconst (v := 1) dX6_meets_118 (by decide) ?_
    refine o_icmpeq (tgt := 128) dX6_meets_119 (by decide) (fun u1 => ?_) (fun u1 => ?_)
    · refine o_aload_n dX6_meets_128 rfl ?_
      refine o_iload dX6_meets_129 rfl ?_
      refine o_iload dX6_meets_131 rfl ?_
      refine h_cV0 (as := [.int y5, .int y6]) (S1 := []) (d' := 2) dX6_meets_133 mf_X6_allWould ml_X6_390 mv_X6_allWould q6 rfl (hp_at (px_ltM (by decide)) (c48 _)) rfl (Nat.le_of_ble_eq_true rfl) rfl (Nat.le_of_ble_eq_true rfl) ⟨Nat.zero_le _, Nat.zero_le _⟩ (fun b hb => k_X6_allWould hb) (fun b2 hb2 => ?_)
      refine o_istore (L' := [some (.ref 48), none, some (.int y2), none, some (.int b2), some (.int y5), some (.int y6)]) dX6_meets_136 (Nat.le_of_ble_eq_true rfl) rfl rfl ?_
      refine o_iload dX6_meets_138 rfl ?_
      refine o_ifeq (tgt := 158) dX6_meets_140 (by decide) (fun u3 => ?_) (fun u3 => ?_)
      · refine o_iinc (v := (y5 + 1)) (L' := [some (.ref 48), none, some (.int y2), none, some (.int b2), some (.int (y5 + 1)), some (.int y6)]) dX6_meets_158 rfl rfl (Nat.le_of_ble_eq_true rfl) rfl rfl ?_
        refine o_goto (tgt := 74) dX6_meets_161 (by decide) ?_
        exact o_weak (L' := [some (.ref 48), none, some (.int y2), none, some (.int b2), some (.int (y5 + 1)), none]) ⟨rfl, ⟨rfl, ⟨rfl, ⟨rfl, trivial⟩⟩⟩⟩ (hk74 y2 b2 (y5 + 1) st)
      · refine o_aload_n dX6_meets_143 rfl ?_
        refine o_dup dX6_meets_144 rfl ?_
        refine h_get (v := .int (st 48 12)) dX6_meets_145 q6 fl_X6_105 (by decide) (px_ltM (by decide)) (c48 _) rfl ?_
        refine o_iconst (v := 1) dX6_meets_148 (by decide) ?_
        refine o_iload dX6_meets_149 rfl ?_
        refine o_ishl dX6_meets_151 ?_
        refine o_iconst (v := (-1)) dX6_meets_152 (by decide) ?_
        refine o_ixor dX6_meets_153 ?_
        refine o_iand dX6_meets_154 ?_
        refine h_puti dX6_meets_155 q6 fl_X6_105 pf_X6_12 (px_ltM (by decide)) (c48 _) (Nat.le_of_ble_eq_true rfl) (s48_12 _ _) ?_
        refine o_iinc (v := (y5 + 1)) (L' := [some (.ref 48), none, some (.int y2), none, some (.int b2), some (.int (y5 + 1)), some (.int y6)]) dX6_meets_158 rfl rfl (Nat.le_of_ble_eq_true rfl) rfl rfl ?_
        refine o_goto (tgt := 74) dX6_meets_161 (by decide) ?_
        exact o_weak (L' := [some (.ref 48), none, some (.int y2), none, some (.int b2), some (.int (y5 + 1)), none]) ⟨rfl, ⟨rfl, ⟨rfl, ⟨rfl, trivial⟩⟩⟩⟩ (hk74 y2 b2 (y5 + 1) (up st 48 12 ((st 48 12) &&& (((1 : Int32) <<< (y6 &&& 31)) ^^^ (-1)))))
    · refine o_iinc (v := (y6 + 1)) (L' := [some (.ref 48), none, some (.int y2), none, none, some (.int y5), some (.int (y6 + 1))]) dX6_meets_122 rfl rfl (Nat.le_of_ble_eq_true rfl) rfl rfl ?_
      refine o_goto (tgt := 109) dX6_meets_125 (by decide) ?_
      exact (ih y2 y5 (y6 + 1) st)
def f_X6_meets_74 (T : Nat) : Nat → Int32 → Int32 → Int32 → px_S → Option (px_S)
  | 0, _, _, _, _ => none
  | n + 1, y2, y4, y5, st => (if y5 < y2 then (if y4 = 0 then (if (y5 &&& (y2 ^^^ (-1))) = 0 then ((f_X6_bitsOf y5).bind fun b7 => (if b7 = (st 48 14) then (f_X6_meets_109 T (f_X6_meets_74 T n) 1000 y2 y5 0 st) else ((f_X6_meets_74 T n) y2 y4 (y5 + 1) st))) else ((f_X6_meets_74 T n) y2 y4 (y5 + 1) st)) else (some st)) else (some st))
set_option maxRecDepth 20000 in
theorem t_X6_meets_74 (T : Nat) : ∀ (n : Nat) (y2 : Int32) (y4 : Int32) (y5 : Int32) (st : px_S), px_O (45, 0, 0, px_n (T + 2), m_X6_meets) (px_gv (T + 2)) (f_X6_meets_74 T n y2 y4 y5 st) 74 [some (.ref 48), none, some (.int y2), none, some (.int y4), some (.int y5), none] [] (HP (T + 2) st) 0 0 := by
  intro n
  induction n with
  | zero => intro y2 y4 y5 st; rw [f_X6_meets_74]; exact o_none
  | succ n ih =>
    intro y2 y4 y5 st
    rw [f_X6_meets_74]
    refine o_iload dX6_meets_74 rfl ?_
    refine o_iload_n dX6_meets_76 rfl ?_
    refine o_icmpge (tgt := 164) dX6_meets_77 (by decide) (fun u4 => ?_) (fun u4 => ?_)
    · exact o_vret rfl dX6_meets_164 rfl (Nat.zero_le _) (Nat.zero_le _)
    · refine o_iload dX6_meets_80 rfl ?_
      refine o_ifne (tgt := 164) dX6_meets_82 (by decide) (fun u5 => ?_) (fun u5 => ?_)
      · exact o_vret rfl dX6_meets_164 rfl (Nat.zero_le _) (Nat.zero_le _)
      · refine o_iload dX6_meets_85 rfl ?_
        refine o_iload_n dX6_meets_87 rfl ?_
        refine o_iconst (v := (-1)) dX6_meets_88 (by decide) ?_
        refine o_ixor dX6_meets_89 ?_
        refine o_iand dX6_meets_90 ?_
        refine o_ifne (tgt := 158) dX6_meets_91 (by decide) (fun u6 => ?_) (fun u6 => ?_)
        · refine o_iinc (v := (y5 + 1)) (L' := [some (.ref 48), none, some (.int y2), none, some (.int y4), some (.int (y5 + 1)), none]) dX6_meets_158 rfl rfl (Nat.le_of_ble_eq_true rfl) rfl rfl ?_
          refine o_goto (tgt := 74) dX6_meets_161 (by decide) ?_
          exact (ih y2 y4 (y5 + 1) st)
        · refine o_iload dX6_meets_94 rfl ?_
          refine h_cS0 (as := [.int y5]) (S1 := []) (d' := 0) dX6_meets_96 mf_X6_bitsOf ml_X6_348 ms_X6_bitsOf rfl (Nat.le_of_ble_eq_true rfl) rfl (Nat.le_of_ble_eq_true rfl) ⟨Nat.zero_le _, Nat.zero_le _⟩ (fun b hb => k_X6_bitsOf hb) (fun b7 hb7 => ?_)
          refine o_aload_n dX6_meets_99 rfl ?_
          refine h_get (v := .int (st 48 14)) dX6_meets_100 q6 fl_X6_38 (by decide) (px_ltM (by decide)) (c48 _) rfl ?_
          refine o_icmpne (tgt := 158) dX6_meets_103 (by decide) (fun u8 => ?_) (fun u8 => ?_)
          · refine o_iinc (v := (y5 + 1)) (L' := [some (.ref 48), none, some (.int y2), none, some (.int y4), some (.int (y5 + 1)), none]) dX6_meets_158 rfl rfl (Nat.le_of_ble_eq_true rfl) rfl rfl ?_
            refine o_goto (tgt := 74) dX6_meets_161 (by decide) ?_
            exact (ih y2 y4 (y5 + 1) st)
          · refine o_iconst (v := 0) dX6_meets_106 (by decide) ?_
            refine o_istore (L' := [some (.ref 48), none, some (.int y2), none, some (.int y4), some (.int y5), some (.int 0)]) dX6_meets_107 (Nat.le_of_ble_eq_true rfl) rfl rfl ?_
            exact o_weak (L' := [some (.ref 48), none, some (.int y2), none, none, some (.int y5), some (.int 0)]) ⟨rfl, ⟨rfl, ⟨rfl, ⟨rfl, trivial⟩⟩⟩⟩ (t_X6_meets_109 T (f_X6_meets_74 T n) ih 1000 y2 y5 0 st)
def f_X6_meets_60 (T : Nat) (y2 : Int32) (st : px_S) : Option (px_S) := ((f_X6_looks T (st 48 12) st).bind fun b9 => (f_X6_meets_74 T 1000 y2 0 1 b9))
set_option maxRecDepth 20000 in
theorem t_X6_meets_60 (T : Nat) (y2 : Int32) (st : px_S) : px_O (45, 0, 0, px_n (T + 2), m_X6_meets) (px_gv (T + 2)) (f_X6_meets_60 T y2 st) 60 [some (.ref 48), none, some (.int y2), none, none, none, none] [] (HP (T + 2) st) 0 0 := by
  rw [f_X6_meets_60]
  refine o_aload_n dX6_meets_60 rfl ?_
  refine o_aload_n dX6_meets_61 rfl ?_
  refine h_get (v := .int (st 48 12)) dX6_meets_62 q6 fl_X6_105 (by decide) (px_ltM (by decide)) (c48 _) rfl ?_
  refine h_cVv (as := [.int (st 48 12)]) (S1 := []) (d' := 44) dX6_meets_65 mf_X6_looks ml_X6_396 mv_X6_looks q6 rfl (hp_at (px_ltM (by decide)) (c48 _)) rfl (Nat.le_of_ble_eq_true rfl) rfl (Nat.le_of_ble_eq_true rfl) (fun b hb => k_X6_looks hb) (fun b9 hb9 => ?_)
  refine o_iconst (v := 0) dX6_meets_68 (by decide) ?_
  refine o_istore (L' := [some (.ref 48), none, some (.int y2), none, some (.int 0), none, none]) dX6_meets_69 (Nat.le_of_ble_eq_true rfl) rfl rfl ?_
  refine o_iconst (v := 1) dX6_meets_71 (by decide) ?_
  refine o_istore (L' := [some (.ref 48), none, some (.int y2), none, some (.int 0), some (.int 1), none]) dX6_meets_72 (Nat.le_of_ble_eq_true rfl) rfl rfl ?_
  exact (t_X6_meets_74 T 1000 y2 0 1 b9)
def f_X6_meets_7 (T : Nat) : Nat → Int32 → Int32 → Int32 → px_S → Option (px_S)
  | 0, _, _, _, _ => none
  | n + 1, y2, y3, y4, st => (if y4 < ((1 : Int32) <<< ((st 48 11) &&& 31)) then (if y3 < 0 then (f_X6_meets_60 T y2 st) else (if (y4 &&& ((st 48 12) ^^^ (-1))) = 0 then ((f_X6_bitsOf y4).bind fun b13 => (if b13 = ((st 48 14) + 1) then ((f_X6_meets_7 T n) y4 (y3 + (-1)) (y4 + 1) st) else ((f_X6_meets_7 T n) y2 y3 (y4 + 1) st))) else ((f_X6_meets_7 T n) y2 y3 (y4 + 1) st))) else (f_X6_meets_60 T y2 st))
set_option maxRecDepth 20000 in
theorem t_X6_meets_7 (T : Nat) : ∀ (n : Nat) (y2 : Int32) (y3 : Int32) (y4 : Int32) (st : px_S), px_O (45, 0, 0, px_n (T + 2), m_X6_meets) (px_gv (T + 2)) (f_X6_meets_7 T n y2 y3 y4 st) 7 [some (.ref 48), none, some (.int y2), some (.int y3), some (.int y4), none, none] [] (HP (T + 2) st) 0 0 := by
  intro n
  induction n with
  | zero => intro y2 y3 y4 st; rw [f_X6_meets_7]; exact o_none
  | succ n ih =>
    intro y2 y3 y4 st
    rw [f_X6_meets_7]
    refine o_iload dX6_meets_7 rfl ?_
    refine o_iconst (v := 1) dX6_meets_9 (by decide) ?_
    refine o_aload_n dX6_meets_10 rfl ?_
    refine h_get (v := .int (st 48 11)) dX6_meets_11 q6 fl_X6_94 (by decide) (px_ltM (by decide)) (c48 _) rfl ?_
    refine o_ishl dX6_meets_14 ?_
    refine o_icmpge (tgt := 60) dX6_meets_15 (by decide) (fun u10 => ?_) (fun u10 => ?_)
    · exact o_weak (L' := [some (.ref 48), none, some (.int y2), none, none, none, none]) ⟨rfl, ⟨rfl, trivial⟩⟩ (t_X6_meets_60 T y2 st)
    · refine o_iload_n dX6_meets_18 rfl ?_
      refine o_iflt (tgt := 60) dX6_meets_19 (by decide) (fun u11 => ?_) (fun u11 => ?_)
      · exact o_weak (L' := [some (.ref 48), none, some (.int y2), none, none, none, none]) ⟨rfl, ⟨rfl, trivial⟩⟩ (t_X6_meets_60 T y2 st)
      · refine o_iload dX6_meets_22 rfl ?_
        refine o_aload_n dX6_meets_24 rfl ?_
        refine h_get (v := .int (st 48 12)) dX6_meets_25 q6 fl_X6_105 (by decide) (px_ltM (by decide)) (c48 _) rfl ?_
        refine o_iconst (v := (-1)) dX6_meets_28 (by decide) ?_
        refine o_ixor dX6_meets_29 ?_
        refine o_iand dX6_meets_30 ?_
        refine o_ifne (tgt := 54) dX6_meets_31 (by decide) (fun u12 => ?_) (fun u12 => ?_)
        · refine o_iinc (v := (y4 + 1)) (L' := [some (.ref 48), none, some (.int y2), some (.int y3), some (.int (y4 + 1)), none, none]) dX6_meets_54 rfl rfl (Nat.le_of_ble_eq_true rfl) rfl rfl ?_
          refine o_goto (tgt := 7) dX6_meets_57 (by decide) ?_
          exact (ih y2 y3 (y4 + 1) st)
        · refine o_iload dX6_meets_34 rfl ?_
          refine h_cS0 (as := [.int y4]) (S1 := []) (d' := 0) dX6_meets_36 mf_X6_bitsOf ml_X6_348 ms_X6_bitsOf rfl (Nat.le_of_ble_eq_true rfl) rfl (Nat.le_of_ble_eq_true rfl) ⟨Nat.zero_le _, Nat.zero_le _⟩ (fun b hb => k_X6_bitsOf hb) (fun b13 hb13 => ?_)
          refine o_aload_n dX6_meets_39 rfl ?_
          refine h_get (v := .int (st 48 14)) dX6_meets_40 q6 fl_X6_38 (by decide) (px_ltM (by decide)) (c48 _) rfl ?_
          refine o_iconst (v := 1) dX6_meets_43 (by decide) ?_
          refine o_iadd dX6_meets_44 ?_
          refine o_icmpne (tgt := 54) dX6_meets_45 (by decide) (fun u14 => ?_) (fun u14 => ?_)
          · refine o_iinc (v := (y4 + 1)) (L' := [some (.ref 48), none, some (.int y2), some (.int y3), some (.int (y4 + 1)), none, none]) dX6_meets_54 rfl rfl (Nat.le_of_ble_eq_true rfl) rfl rfl ?_
            refine o_goto (tgt := 7) dX6_meets_57 (by decide) ?_
            exact (ih y2 y3 (y4 + 1) st)
          · refine o_iload dX6_meets_48 rfl ?_
            refine o_istore_n (L' := [some (.ref 48), none, some (.int y4), some (.int y3), some (.int y4), none, none]) dX6_meets_50 (Nat.le_of_ble_eq_true rfl) rfl rfl ?_
            refine o_iinc (v := (y3 + (-1))) (L' := [some (.ref 48), none, some (.int y4), some (.int (y3 + (-1))), some (.int y4), none, none]) dX6_meets_51 rfl rfl (Nat.le_of_ble_eq_true rfl) rfl rfl ?_
            refine o_iinc (v := (y4 + 1)) (L' := [some (.ref 48), none, some (.int y4), some (.int (y3 + (-1))), some (.int (y4 + 1)), none, none]) dX6_meets_54 rfl rfl (Nat.le_of_ble_eq_true rfl) rfl rfl ?_
            refine o_goto (tgt := 7) dX6_meets_57 (by decide) ?_
            exact (ih y4 (y3 + (-1)) (y4 + 1) st)
def f_X6_meets (T : Nat) (x0 : Int32) (st : px_S) : Option (px_S) := (f_X6_meets_7 T 1000 0 x0 1 st)
set_option maxRecDepth 20000 in
theorem t_X6_meets (T : Nat) (x0 : Int32) (st : px_S) : px_O (45, 0, 0, px_n (T + 2), m_X6_meets) (px_gv (T + 2)) (f_X6_meets T x0 st) 0 [some (.ref 48), some (.int x0), none, none, none, none, none] [] (HP (T + 2) st) 0 0 := by
  rw [f_X6_meets]
  refine o_iconst (v := 0) dX6_meets_0 (by decide) ?_
  refine o_istore_n (L' := [some (.ref 48), some (.int x0), some (.int 0), none, none, none, none]) dX6_meets_1 (Nat.le_of_ble_eq_true rfl) rfl rfl ?_
  refine o_iload_n dX6_meets_2 rfl ?_
  refine o_istore_n (L' := [some (.ref 48), some (.int x0), some (.int 0), some (.int x0), none, none, none]) dX6_meets_3 (Nat.le_of_ble_eq_true rfl) rfl rfl ?_
  refine o_iconst (v := 1) dX6_meets_4 (by decide) ?_
  refine o_istore (L' := [some (.ref 48), some (.int x0), some (.int 0), some (.int x0), some (.int 1), none, none]) dX6_meets_5 (Nat.le_of_ble_eq_true rfl) rfl rfl ?_
  exact o_weak (L' := [some (.ref 48), none, some (.int 0), some (.int x0), some (.int 1), none, none]) ⟨rfl, ⟨rfl, ⟨rfl, ⟨rfl, trivial⟩⟩⟩⟩ (t_X6_meets_7 T 1000 0 x0 1 st)
theorem k_X6_meets {T : Nat} {st : px_S} {x0 : Int32} {b : px_S} (hf : f_X6_meets T x0 st = some b) : px_K (45) 0 0 m_X6_meets [.ref 48, .int x0] (HP (T + 2) st) ((px_gv (T + 2)) b).1 ((px_gv (T + 2)) b).2 := px_KofH hf mf_X6_meets (Nat.le_of_ble_eq_true rfl) rfl (t_X6_meets T x0 st)
/-! ThreeOfThemModel.draws(II)I: S, depth 46 -/
def f_X6_draws_111 (T : Nat) (k17 : Int32 → Int32 → Int32 → Int32 → Int32 → px_S → Option (Int32 × px_S)) (y2 : Int32) (y3 : Int32) (y4 : Int32) (y5 : Int32) (y6 : Int32) (st : px_S) : Option (Int32 × px_S) := ((f_X6_dayMore T st).bind fun b1 => (k17 y2 y3 y4 y5 (y6 + 1) b1))
set_option maxRecDepth 20000 in
theorem t_X6_draws_111 (T : Nat) (k17 : Int32 → Int32 → Int32 → Int32 → Int32 → px_S → Option (Int32 × px_S)) (hk17 : ∀ (y2 : Int32) (y3 : Int32) (y4 : Int32) (y5 : Int32) (y6 : Int32) (st : px_S), px_O (46, 0, 0, px_n (T + 2), m_X6_draws) (px_gi (T + 2)) (k17 y2 y3 y4 y5 y6 st) 17 [some (.ref 48), none, some (.int y2), some (.int y3), some (.int y4), some (.int y5), some (.int y6), none, none] [] (HP (T + 2) st) 0 0) (y2 : Int32) (y3 : Int32) (y4 : Int32) (y5 : Int32) (y6 : Int32) (st : px_S) : px_O (46, 0, 0, px_n (T + 2), m_X6_draws) (px_gi (T + 2)) (f_X6_draws_111 T k17 y2 y3 y4 y5 y6 st) 111 [some (.ref 48), none, some (.int y2), some (.int y3), some (.int y4), some (.int y5), some (.int y6), none, none] [] (HP (T + 2) st) 0 0 := by
  rw [f_X6_draws_111]
  refine o_aload_n dX6_draws_111 rfl ?_
  refine h_cVv (as := []) (S1 := []) (d' := 0) dX6_draws_112 mf_X6_dayMore ml_X6_403 mv_X6_dayMore q6 rfl (hp_at (px_ltM (by decide)) (c48 _)) rfl (Nat.le_of_ble_eq_true rfl) rfl (Nat.le_of_ble_eq_true rfl) (fun b hb => k_X6_dayMore hb) (fun b1 hb1 => ?_)
  refine o_iinc (v := (y6 + 1)) (L' := [some (.ref 48), none, some (.int y2), some (.int y3), some (.int y4), some (.int y5), some (.int (y6 + 1)), none, none]) dX6_draws_115 rfl rfl (Nat.le_of_ble_eq_true rfl) rfl rfl ?_
  refine o_goto (tgt := 17) dX6_draws_118 (by decide) ?_
  exact (hk17 y2 y3 y4 y5 (y6 + 1) b1)
def f_X6_draws_41 (T : Nat) (k17 : Int32 → Int32 → Int32 → Int32 → Int32 → px_S → Option (Int32 × px_S)) : Nat → Int32 → Int32 → Int32 → Int32 → Int32 → Int32 → Int32 → px_S → Option (Int32 × px_S)
  | 0, _, _, _, _, _, _, _, _ => none
  | n + 1, y2, y3, y4, y5, y6, y7, y8, st => (if y8 < ((1 : Int32) <<< ((st 48 11) &&& 31)) then (if (y8 &&& ((st 48 12) ^^^ (-1))) = 0 then ((f_X6_bitsOf y8).bind fun b7 => (if b7 = ((st 48 14) + 1) then ((f_X6_draws_41 T k17 n) y2 y3 y4 y5 y6 (y7 + 1) (y8 + 1) st) else ((f_X6_draws_41 T k17 n) y2 y3 y4 y5 y6 (y7 + 0) (y8 + 1) st))) else ((f_X6_draws_41 T k17 n) y2 y3 y4 y5 y6 (y7 + 0) (y8 + 1) st)) else (if 0 < y7 then (if y7 = 0 then none else ((f_X6_meets T ((y5.toUInt32 >>> ((9 : Int32).toUInt32 &&& Int32.toUInt32 31)).toInt32 - (y5.toUInt32 >>> ((9 : Int32).toUInt32 &&& Int32.toUInt32 31)).toInt32 / y7 * y7) st).bind fun b5 => (f_X6_draws_111 T k17 y2 y3 y4 y5 y6 b5))) else (f_X6_draws_111 T k17 y2 y3 y4 y5 y6 st)))
set_option maxRecDepth 20000 in
theorem t_X6_draws_41 (T : Nat) (k17 : Int32 → Int32 → Int32 → Int32 → Int32 → px_S → Option (Int32 × px_S)) (hk17 : ∀ (y2 : Int32) (y3 : Int32) (y4 : Int32) (y5 : Int32) (y6 : Int32) (st : px_S), px_O (46, 0, 0, px_n (T + 2), m_X6_draws) (px_gi (T + 2)) (k17 y2 y3 y4 y5 y6 st) 17 [some (.ref 48), none, some (.int y2), some (.int y3), some (.int y4), some (.int y5), some (.int y6), none, none] [] (HP (T + 2) st) 0 0) : ∀ (n : Nat) (y2 : Int32) (y3 : Int32) (y4 : Int32) (y5 : Int32) (y6 : Int32) (y7 : Int32) (y8 : Int32) (st : px_S), px_O (46, 0, 0, px_n (T + 2), m_X6_draws) (px_gi (T + 2)) (f_X6_draws_41 T k17 n y2 y3 y4 y5 y6 y7 y8 st) 41 [some (.ref 48), none, some (.int y2), some (.int y3), some (.int y4), some (.int y5), some (.int y6), some (.int y7), some (.int y8)] [] (HP (T + 2) st) 0 0 := by
  intro n
  induction n with
  | zero => intro y2 y3 y4 y5 y6 y7 y8 st; rw [f_X6_draws_41]; exact o_none
  | succ n ih =>
    intro y2 y3 y4 y5 y6 y7 y8 st
    rw [f_X6_draws_41]
    refine o_iload dX6_draws_41 rfl ?_
    refine o_iconst (v := 1) dX6_draws_43 (by decide) ?_
    refine o_aload_n dX6_draws_44 rfl ?_
    refine h_get (v := .int (st 48 11)) dX6_draws_45 q6 fl_X6_94 (by decide) (px_ltM (by decide)) (c48 _) rfl ?_
    refine o_ishl dX6_draws_48 ?_
    refine o_icmpge (tgt := 94) dX6_draws_49 (by decide) (fun u2 => ?_) (fun u2 => ?_)
    · refine o_iload dX6_draws_94 rfl ?_
      refine o_ifle (tgt := 111) dX6_draws_96 (by decide) (fun u3 => ?_) (fun u3 => ?_)
      · exact o_weak (L' := [some (.ref 48), none, some (.int y2), some (.int y3), some (.int y4), some (.int y5), some (.int y6), none, none]) ⟨rfl, ⟨rfl, ⟨rfl, ⟨rfl, ⟨rfl, ⟨rfl, trivial⟩⟩⟩⟩⟩⟩ (t_X6_draws_111 T k17 hk17 y2 y3 y4 y5 y6 st)
      · refine o_aload_n dX6_draws_99 rfl ?_
        refine o_iload dX6_draws_100 rfl ?_
        refine o_bipush (v := 9) dX6_draws_102 (by decide) ?_
        refine o_iushr dX6_draws_104 ?_
        refine o_iload dX6_draws_105 rfl ?_
        refine o_ite (fun _ => o_none) (fun u4 => ?_)
        refine o_irem dX6_draws_107 u4 ?_
        refine h_cVv (as := [.int ((y5.toUInt32 >>> ((9 : Int32).toUInt32 &&& Int32.toUInt32 31)).toInt32 - (y5.toUInt32 >>> ((9 : Int32).toUInt32 &&& Int32.toUInt32 31)).toInt32 / y7 * y7)]) (S1 := []) (d' := 45) dX6_draws_108 mf_X6_meets ml_X6_446 mv_X6_meets q6 rfl (hp_at (px_ltM (by decide)) (c48 _)) rfl (Nat.le_of_ble_eq_true rfl) rfl (Nat.le_of_ble_eq_true rfl) (fun b hb => k_X6_meets hb) (fun b5 hb5 => ?_)
        exact o_weak (L' := [some (.ref 48), none, some (.int y2), some (.int y3), some (.int y4), some (.int y5), some (.int y6), none, none]) ⟨rfl, ⟨rfl, ⟨rfl, ⟨rfl, ⟨rfl, ⟨rfl, trivial⟩⟩⟩⟩⟩⟩ (t_X6_draws_111 T k17 hk17 y2 y3 y4 y5 y6 b5)
    · refine o_iload dX6_draws_52 rfl ?_
      refine o_iload dX6_draws_54 rfl ?_
      refine o_aload_n dX6_draws_56 rfl ?_
      refine h_get (v := .int (st 48 12)) dX6_draws_57 q6 fl_X6_105 (by decide) (px_ltM (by decide)) (c48 _) rfl ?_
      refine o_iconst (v := (-1)) dX6_draws_60 (by decide) ?_
      refine o_ixor dX6_draws_61 ?_
      refine o_iand dX6_draws_62 ?_
      refine o_ifne (tgt := 84) dX6_draws_63 (by decide) (fun u6 => ?_) (fun u6 => ?_)
      · refine o_iconst (v := 0) dX6_draws_84 (by decide) ?_
        refine o_iadd dX6_draws_85 ?_
        refine o_istore (L' := [some (.ref 48), none, some (.int y2), some (.int y3), some (.int y4), some (.int y5), some (.int y6), some (.int (y7 + 0)), some (.int y8)]) dX6_draws_86 (Nat.le_of_ble_eq_true rfl) rfl rfl ?_
        refine o_iinc (v := (y8 + 1)) (L' := [some (.ref 48), none, some (.int y2), some (.int y3), some (.int y4), some (.int y5), some (.int y6), some (.int (y7 + 0)), some (.int (y8 + 1))]) dX6_draws_88 rfl rfl (Nat.le_of_ble_eq_true rfl) rfl rfl ?_
        refine o_goto (tgt := 41) dX6_draws_91 (by decide) ?_
        exact (ih y2 y3 y4 y5 y6 (y7 + 0) (y8 + 1) st)
      · refine o_iload dX6_draws_66 rfl ?_
        refine h_cS0 (as := [.int y8]) (S1 := [.int y7]) (d' := 0) dX6_draws_68 mf_X6_bitsOf ml_X6_348 ms_X6_bitsOf rfl (Nat.le_of_ble_eq_true rfl) rfl (Nat.le_of_ble_eq_true rfl) ⟨Nat.zero_le _, Nat.zero_le _⟩ (fun b hb => k_X6_bitsOf hb) (fun b7 hb7 => ?_)
        refine o_aload_n dX6_draws_71 rfl ?_
        refine h_get (v := .int (st 48 14)) dX6_draws_72 q6 fl_X6_38 (by decide) (px_ltM (by decide)) (c48 _) rfl ?_
        refine o_iconst (v := 1) dX6_draws_75 (by decide) ?_
        refine o_iadd dX6_draws_76 ?_
        refine o_icmpne (tgt := 84) dX6_draws_77 (by decide) (fun u8 => ?_) (fun u8 => ?_)
        · refine o_iconst (v := 0) dX6_draws_84 (by decide) ?_
          refine o_iadd dX6_draws_85 ?_
          refine o_istore (L' := [some (.ref 48), none, some (.int y2), some (.int y3), some (.int y4), some (.int y5), some (.int y6), some (.int (y7 + 0)), some (.int y8)]) dX6_draws_86 (Nat.le_of_ble_eq_true rfl) rfl rfl ?_
          refine o_iinc (v := (y8 + 1)) (L' := [some (.ref 48), none, some (.int y2), some (.int y3), some (.int y4), some (.int y5), some (.int y6), some (.int (y7 + 0)), some (.int (y8 + 1))]) dX6_draws_88 rfl rfl (Nat.le_of_ble_eq_true rfl) rfl rfl ?_
          refine o_goto (tgt := 41) dX6_draws_91 (by decide) ?_
          exact (ih y2 y3 y4 y5 y6 (y7 + 0) (y8 + 1) st)
        · refine o_iconst (v := 1) dX6_draws_80 (by decide) ?_
          refine o_goto (tgt := 85) dX6_draws_81 (by decide) ?_
          refine o_iadd dX6_draws_85 ?_
          refine o_istore (L' := [some (.ref 48), none, some (.int y2), some (.int y3), some (.int y4), some (.int y5), some (.int y6), some (.int (y7 + 1)), some (.int y8)]) dX6_draws_86 (Nat.le_of_ble_eq_true rfl) rfl rfl ?_
          refine o_iinc (v := (y8 + 1)) (L' := [some (.ref 48), none, some (.int y2), some (.int y3), some (.int y4), some (.int y5), some (.int y6), some (.int (y7 + 1)), some (.int (y8 + 1))]) dX6_draws_88 rfl rfl (Nat.le_of_ble_eq_true rfl) rfl rfl ?_
          refine o_goto (tgt := 41) dX6_draws_91 (by decide) ?_
          exact (ih y2 y3 y4 y5 y6 (y7 + 1) (y8 + 1) st)
def f_X6_draws_17 (T : Nat) : Nat → Int32 → Int32 → Int32 → Int32 → Int32 → px_S → Option (Int32 × px_S)
  | 0, _, _, _, _, _, _ => none
  | n + 1, y2, y3, y4, y5, y6, st => (if y6 < y2 then (f_X6_draws_41 T (f_X6_draws_17 T n) 1000 y2 y3 y4 ((y5 * 1103515245) + 12345) y6 0 1 st) else (some ((st 48 12), (up (up st 48 12 y3) 48 15 y4))))
set_option maxRecDepth 20000 in
theorem t_X6_draws_17 (T : Nat) : ∀ (n : Nat) (y2 : Int32) (y3 : Int32) (y4 : Int32) (y5 : Int32) (y6 : Int32) (st : px_S), px_O (46, 0, 0, px_n (T + 2), m_X6_draws) (px_gi (T + 2)) (f_X6_draws_17 T n y2 y3 y4 y5 y6 st) 17 [some (.ref 48), none, some (.int y2), some (.int y3), some (.int y4), some (.int y5), some (.int y6), none, none] [] (HP (T + 2) st) 0 0 := by
  intro n
  induction n with
  | zero => intro y2 y3 y4 y5 y6 st; rw [f_X6_draws_17]; exact o_none
  | succ n ih =>
    intro y2 y3 y4 y5 y6 st
    rw [f_X6_draws_17]
    refine o_iload dX6_draws_17 rfl ?_
    refine o_iload_n dX6_draws_19 rfl ?_
    refine o_icmpge (tgt := 121) dX6_draws_20 (by decide) (fun u9 => ?_) (fun u9 => ?_)
    · refine o_aload_n dX6_draws_121 rfl ?_
      refine h_get (v := .int (st 48 12)) dX6_draws_122 q6 fl_X6_105 (by decide) (px_ltM (by decide)) (c48 _) rfl ?_
      refine o_istore (L' := [some (.ref 48), none, some (.int y2), some (.int y3), some (.int y4), some (.int y5), some (.int (st 48 12)), none, none]) dX6_draws_125 (Nat.le_of_ble_eq_true rfl) rfl rfl ?_
      refine o_aload_n dX6_draws_127 rfl ?_
      refine o_iload_n dX6_draws_128 rfl ?_
      refine h_puti dX6_draws_129 q6 fl_X6_105 pf_X6_12 (px_ltM (by decide)) (c48 _) (Nat.le_of_ble_eq_true rfl) (s48_12 _ _) ?_
      refine o_aload_n dX6_draws_132 rfl ?_
      refine o_iload dX6_draws_133 rfl ?_
      refine h_puti dX6_draws_135 q6 fl_X6_128 pf_X6_15 (px_ltM (by decide)) (c48 _) (Nat.le_of_ble_eq_true rfl) (s48_15 _ _) ?_
      refine o_iload dX6_draws_138 rfl ?_
      exact o_iret (rt := .int) rfl rfl dX6_draws_140 rfl (Nat.zero_le _) (Nat.zero_le _)
    · refine o_iload dX6_draws_23 rfl ?_
      refine o_ldcw (v := 1103515245) dX6_draws_25 cst_X6_445 ?_
      refine o_imul dX6_draws_28 ?_
      refine o_sipush (v := 12345) dX6_draws_29 (by decide) ?_
      refine o_iadd dX6_draws_32 ?_
      refine o_istore (L' := [some (.ref 48), none, some (.int y2), some (.int y3), some (.int y4), some (.int ((y5 * 1103515245) + 12345)), some (.int y6), none, none]) dX6_draws_33 (Nat.le_of_ble_eq_true rfl) rfl rfl ?_
      refine o_iconst (v := 0) dX6_draws_35 (by decide) ?_
      refine o_istore (L' := [some (.ref 48), none, some (.int y2), some (.int y3), some (.int y4), some (.int ((y5 * 1103515245) + 12345)), some (.int y6), some (.int 0), none]) dX6_draws_36 (Nat.le_of_ble_eq_true rfl) rfl rfl ?_
      refine o_iconst (v := 1) dX6_draws_38 (by decide) ?_
      refine o_istore (L' := [some (.ref 48), none, some (.int y2), some (.int y3), some (.int y4), some (.int ((y5 * 1103515245) + 12345)), some (.int y6), some (.int 0), some (.int 1)]) dX6_draws_39 (Nat.le_of_ble_eq_true rfl) rfl rfl ?_
      exact (t_X6_draws_41 T (f_X6_draws_17 T n) ih 1000 y2 y3 y4 ((y5 * 1103515245) + 12345) y6 0 1 st)
def f_X6_draws (T : Nat) (x0 : Int32) (x1 : Int32) (st : px_S) : Option (Int32 × px_S) := (f_X6_draws_17 T 1000 x1 (st 48 12) (st 48 15) x0 0 st)
set_option maxRecDepth 20000 in
theorem t_X6_draws (T : Nat) (x0 : Int32) (x1 : Int32) (st : px_S) : px_O (46, 0, 0, px_n (T + 2), m_X6_draws) (px_gi (T + 2)) (f_X6_draws T x0 x1 st) 0 [some (.ref 48), some (.int x0), some (.int x1), none, none, none, none, none, none] [] (HP (T + 2) st) 0 0 := by
  rw [f_X6_draws]
  refine o_aload_n dX6_draws_0 rfl ?_
  refine h_get (v := .int (st 48 12)) dX6_draws_1 q6 fl_X6_105 (by decide) (px_ltM (by decide)) (c48 _) rfl ?_
  refine o_istore_n (L' := [some (.ref 48), some (.int x0), some (.int x1), some (.int (st 48 12)), none, none, none, none, none]) dX6_draws_4 (Nat.le_of_ble_eq_true rfl) rfl rfl ?_
  refine o_aload_n dX6_draws_5 rfl ?_
  refine h_get (v := .int (st 48 15)) dX6_draws_6 q6 fl_X6_128 (by decide) (px_ltM (by decide)) (c48 _) rfl ?_
  refine o_istore (L' := [some (.ref 48), some (.int x0), some (.int x1), some (.int (st 48 12)), some (.int (st 48 15)), none, none, none, none]) dX6_draws_9 (Nat.le_of_ble_eq_true rfl) rfl rfl ?_
  refine o_iload_n dX6_draws_11 rfl ?_
  refine o_istore (L' := [some (.ref 48), some (.int x0), some (.int x1), some (.int (st 48 12)), some (.int (st 48 15)), some (.int x0), none, none, none]) dX6_draws_12 (Nat.le_of_ble_eq_true rfl) rfl rfl ?_
  refine o_iconst (v := 0) dX6_draws_14 (by decide) ?_
  refine o_istore (L' := [some (.ref 48), some (.int x0), some (.int x1), some (.int (st 48 12)), some (.int (st 48 15)), some (.int x0), some (.int 0), none, none]) dX6_draws_15 (Nat.le_of_ble_eq_true rfl) rfl rfl ?_
  exact o_weak (L' := [some (.ref 48), none, some (.int x1), some (.int (st 48 12)), some (.int (st 48 15)), some (.int x0), some (.int 0), none, none]) ⟨rfl, ⟨rfl, ⟨rfl, ⟨rfl, ⟨rfl, ⟨rfl, trivial⟩⟩⟩⟩⟩⟩ (t_X6_draws_17 T 1000 x1 (st 48 12) (st 48 15) x0 0 st)
theorem k_X6_draws {T : Nat} {st : px_S} {x0 : Int32} {x1 : Int32} {b : Int32 × px_S} (hf : f_X6_draws T x0 x1 st = some b) : px_K (46) 0 0 m_X6_draws [.ref 48, .int x0, .int x1] (HP (T + 2) st) ((px_gi (T + 2)) b).1 ((px_gi (T + 2)) b).2 := px_KofH hf mf_X6_draws (Nat.le_of_ble_eq_true rfl) rfl (t_X6_draws T x0 x1 st)
