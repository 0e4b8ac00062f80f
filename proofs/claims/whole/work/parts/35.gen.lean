/-! ThreeOfThemModel.drawn(II)I: S, depth 47 -/
def f_X6_drawn (T : Nat) (x0 : Int32) (x1 : Int32) (st : px_S) : Option (Int32 × px_S) := (if (p_X6_in x1.toInt64 0 30) = 0 then (some ((-2), st)) else ((f_X6_draws T x0 x1 st).bind fun b2 => (some (b2.1, b2.2))))
set_option maxRecDepth 20000 in
theorem t_X6_drawn (T : Nat) (x0 : Int32) (x1 : Int32) (st : px_S) : px_O (47, 0, 0, px_n (T + 2), m_X6_drawn) (px_gi (T + 2)) (f_X6_drawn T x0 x1 st) 0 [some (.ref 48), some (.int x0), some (.int x1)] [] (HP (T + 2) st) 0 0 := by
  rw [f_X6_drawn]
  refine o_iload_n dX6_drawn_0 rfl ?_
  refine o_i2l dX6_drawn_1 ?_
  refine o_lconst (v := 0) dX6_drawn_2 (by decide) ?_
  refine o_ldc2 (v := 30) dX6_drawn_3 cst_X6_449 ?_
  refine h_cSP (as := [.long x1.toInt64, .long 0, .long 30]) (S1 := []) (d' := 0) dX6_drawn_6 mf_X6_in ml_X6_97 ms_X6_in rfl (Nat.le_of_ble_eq_true rfl) rfl (Nat.le_of_ble_eq_true rfl) ⟨Nat.zero_le _, Nat.zero_le _⟩ (k_X6_in) ?_
  refine o_ifeq (tgt := 21) dX6_drawn_9 (by decide) (fun u1 => ?_) (fun u1 => ?_)
  · refine o_bipush (v := (-2)) dX6_drawn_21 (by decide) ?_
    exact o_iret (rt := .int) rfl rfl dX6_drawn_23 rfl (Nat.zero_le _) (Nat.zero_le _)
  · refine o_aload_n dX6_drawn_12 rfl ?_
    refine o_iload_n dX6_drawn_13 rfl ?_
    refine o_iload_n dX6_drawn_14 rfl ?_
    refine h_cVi (as := [.int x0, .int x1]) (S1 := []) (d' := 46) dX6_drawn_15 mf_X6_draws ml_X6_451 mv_X6_draws q6 rfl (hp_at (px_ltM (by decide)) (c48 _)) rfl (Nat.le_of_ble_eq_true rfl) rfl (Nat.le_of_ble_eq_true rfl) (fun b hb => k_X6_draws hb) (fun b2 hb2 => ?_)
    refine o_goto (tgt := 23) dX6_drawn_18 (by decide) ?_
    exact o_iret (rt := .int) rfl rfl dX6_drawn_23 rfl (Nat.zero_le _) (Nat.zero_le _)
theorem k_X6_drawn {T : Nat} {st : px_S} {x0 : Int32} {x1 : Int32} {b : Int32 × px_S} (hf : f_X6_drawn T x0 x1 st = some b) : px_K (47) 0 0 m_X6_drawn [.ref 48, .int x0, .int x1] (HP (T + 2) st) ((px_gi (T + 2)) b).1 ((px_gi (T + 2)) b).2 := px_KofH hf mf_X6_drawn (Nat.le_of_ble_eq_true rfl) rfl (t_X6_drawn T x0 x1 st)
/-! ThreeOfThemModel.chance(IIIII)J: S, depth 47 -/
def f_X6_chance_94 (T : Nat) : Nat → Int32 → Int32 → Int64 → Int64 → Int64 → px_S → Option (Int64 × px_S)
  | 0, _, _, _, _, _, _ => none
  | n + 1, y2, y5, y6, y8, y10, st => (if (lg_cmp y10 0) = 0 then (if y5 = 0 then (if y8 = 0 then none else (some ((y6 / y8), st))) else (if y8 = 0 then none else (some ((y2.toInt64 / y8), st)))) else (if y10 = 0 then none else ((f_X6_chance_94 T n) y2 y5 y6 y10 (y8 - y8 / y10 * y10) st)))
set_option maxRecDepth 20000 in
theorem t_X6_chance_94 (T : Nat) : ∀ (n : Nat) (y2 : Int32) (y5 : Int32) (y6 : Int64) (y8 : Int64) (y10 : Int64) (st : px_S), px_O (47, 0, 0, px_n (T + 2), m_X6_chance) (px_gl (T + 2)) (f_X6_chance_94 T n y2 y5 y6 y8 y10 st) 94 [none, none, some (.int y2), none, none, some (.int y5), some (.long y6), none, some (.long y8), none, some (.long y10), none, none, none] [] (HP (T + 2) st) 0 0 := by
  intro n
  induction n with
  | zero => intro y2 y5 y6 y8 y10 st; rw [f_X6_chance_94]; exact o_none
  | succ n ih =>
    intro y2 y5 y6 y8 y10 st
    rw [f_X6_chance_94]
    refine o_lload dX6_chance_94 rfl ?_
    refine o_lconst (v := 0) dX6_chance_96 (by decide) ?_
    refine o_lcmp dX6_chance_97 ?_
    refine o_ifeq (tgt := 119) dX6_chance_98 (by decide) (fun u1 => ?_) (fun u1 => ?_)
    · refine o_iload dX6_chance_119 rfl ?_
      refine o_ifne (tgt := 132) dX6_chance_121 (by decide) (fun u2 => ?_) (fun u2 => ?_)
      · refine o_iload_n dX6_chance_132 rfl ?_
        refine o_i2l dX6_chance_133 ?_
        refine o_lload dX6_chance_134 rfl ?_
        refine o_ite (fun _ => o_none) (fun u3 => ?_)
        refine o_ldiv dX6_chance_136 u3 ?_
        exact o_lret rfl dX6_chance_137 rfl (Nat.zero_le _) (Nat.zero_le _)
      · refine o_lload dX6_chance_124 rfl ?_
        refine o_lload dX6_chance_126 rfl ?_
        refine o_ite (fun _ => o_none) (fun u4 => ?_)
        refine o_ldiv dX6_chance_128 u4 ?_
        refine o_goto (tgt := 137) dX6_chance_129 (by decide) ?_
        exact o_lret rfl dX6_chance_137 rfl (Nat.zero_le _) (Nat.zero_le _)
    · refine o_lload dX6_chance_101 rfl ?_
      refine o_lload dX6_chance_103 rfl ?_
      refine o_ite (fun _ => o_none) (fun u5 => ?_)
      refine o_lrem dX6_chance_105 u5 ?_
      refine o_lstore (L' := [none, none, some (.int y2), none, none, some (.int y5), some (.long y6), none, some (.long y8), none, some (.long y10), none, some (.long (y8 - y8 / y10 * y10)), none]) dX6_chance_106 (Nat.le_of_ble_eq_true rfl) rfl rfl ?_
      refine o_lload dX6_chance_108 rfl ?_
      refine o_lstore (L' := [none, none, some (.int y2), none, none, some (.int y5), some (.long y6), none, some (.long y10), none, some (.long y10), none, some (.long (y8 - y8 / y10 * y10)), none]) dX6_chance_110 (Nat.le_of_ble_eq_true rfl) rfl rfl ?_
      refine o_lload dX6_chance_112 rfl ?_
      refine o_lstore (L' := [none, none, some (.int y2), none, none, some (.int y5), some (.long y6), none, some (.long y10), none, some (.long (y8 - y8 / y10 * y10)), none, some (.long (y8 - y8 / y10 * y10)), none]) dX6_chance_114 (Nat.le_of_ble_eq_true rfl) rfl rfl ?_
      refine o_goto (tgt := 94) dX6_chance_116 (by decide) ?_
      exact o_weak (L' := [none, none, some (.int y2), none, none, some (.int y5), some (.long y6), none, some (.long y10), none, some (.long (y8 - y8 / y10 * y10)), none, none, none]) ⟨rfl, ⟨rfl, ⟨rfl, ⟨rfl, ⟨rfl, trivial⟩⟩⟩⟩⟩ (ih y2 y5 y6 y10 (y8 - y8 / y10 * y10) st)
def f_X6_chance_54 (T : Nat) : Nat → Int32 → Int32 → Int32 → Int32 → Int32 → Int64 → Int32 → px_S → Option (Int64 × px_S)
  | 0, _, _, _, _, _, _, _, _ => none
  | n + 1, y1, y2, y3, y4, y5, y6, y8, st => (if y8 < y2 then ((f_X6_draws T (y1 + y8) y3 st).bind fun b7 => ((f_X6_chance_54 T n) y1 y2 y3 y4 y5 (y6 + ((b7.1 >>> (y4 &&& 31)) &&& 1).toInt64) (y8 + 1) b7.2)) else (f_X6_chance_94 T 1000 y2 y5 y6 y6 y2.toInt64 st))
set_option maxRecDepth 20000 in
theorem t_X6_chance_54 (T : Nat) : ∀ (n : Nat) (y1 : Int32) (y2 : Int32) (y3 : Int32) (y4 : Int32) (y5 : Int32) (y6 : Int64) (y8 : Int32) (st : px_S), px_O (47, 0, 0, px_n (T + 2), m_X6_chance) (px_gl (T + 2)) (f_X6_chance_54 T n y1 y2 y3 y4 y5 y6 y8 st) 54 [some (.ref 48), some (.int y1), some (.int y2), some (.int y3), some (.int y4), some (.int y5), some (.long y6), none, some (.int y8), none, none, none, none, none] [] (HP (T + 2) st) 0 0 := by
  intro n
  induction n with
  | zero => intro y1 y2 y3 y4 y5 y6 y8 st; rw [f_X6_chance_54]; exact o_none
  | succ n ih =>
    intro y1 y2 y3 y4 y5 y6 y8 st
    rw [f_X6_chance_54]
    refine o_iload dX6_chance_54 rfl ?_
    refine o_iload_n dX6_chance_56 rfl ?_
    refine o_icmpge (tgt := 86) dX6_chance_57 (by decide) (fun u6 => ?_) (fun u6 => ?_)
    · refine o_lload dX6_chance_86 rfl ?_
      refine o_lstore (L' := [some (.ref 48), some (.int y1), some (.int y2), some (.int y3), some (.int y4), some (.int y5), some (.long y6), none, some (.long y6), none, none, none, none, none]) dX6_chance_88 (Nat.le_of_ble_eq_true rfl) rfl rfl ?_
      refine o_iload_n dX6_chance_90 rfl ?_
      refine o_i2l dX6_chance_91 ?_
      refine o_lstore (L' := [some (.ref 48), some (.int y1), some (.int y2), some (.int y3), some (.int y4), some (.int y5), some (.long y6), none, some (.long y6), none, some (.long y2.toInt64), none, none, none]) dX6_chance_92 (Nat.le_of_ble_eq_true rfl) rfl rfl ?_
      exact o_weak (L' := [none, none, some (.int y2), none, none, some (.int y5), some (.long y6), none, some (.long y6), none, some (.long y2.toInt64), none, none, none]) ⟨rfl, ⟨rfl, ⟨rfl, ⟨rfl, ⟨rfl, trivial⟩⟩⟩⟩⟩ (t_X6_chance_94 T 1000 y2 y5 y6 y6 y2.toInt64 st)
    · refine o_lload dX6_chance_60 rfl ?_
      refine o_aload_n dX6_chance_62 rfl ?_
      refine o_iload_n dX6_chance_63 rfl ?_
      refine o_iload dX6_chance_64 rfl ?_
      refine o_iadd dX6_chance_66 ?_
      refine o_iload_n dX6_chance_67 rfl ?_
      refine h_cVi (as := [.int (y1 + y8), .int y3]) (S1 := [.long y6]) (d' := 46) dX6_chance_68 mf_X6_draws ml_X6_451 mv_X6_draws q6 rfl (hp_at (px_ltM (by decide)) (c48 _)) rfl (Nat.le_of_ble_eq_true rfl) rfl (Nat.le_of_ble_eq_true rfl) (fun b hb => k_X6_draws hb) (fun b7 hb7 => ?_)
      refine o_iload dX6_chance_71 rfl ?_
      refine o_ishr dX6_chance_73 ?_
      refine o_iconst (v := 1) dX6_chance_74 (by decide) ?_
      refine o_iand dX6_chance_75 ?_
      refine o_i2l dX6_chance_76 ?_
      refine o_ladd dX6_chance_77 ?_
      refine o_lstore (L' := [some (.ref 48), some (.int y1), some (.int y2), some (.int y3), some (.int y4), some (.int y5), some (.long (y6 + ((b7.1 >>> (y4 &&& 31)) &&& 1).toInt64)), none, some (.int y8), none, none, none, none, none]) dX6_chance_78 (Nat.le_of_ble_eq_true rfl) rfl rfl ?_
      refine o_iinc (v := (y8 + 1)) (L' := [some (.ref 48), some (.int y1), some (.int y2), some (.int y3), some (.int y4), some (.int y5), some (.long (y6 + ((b7.1 >>> (y4 &&& 31)) &&& 1).toInt64)), none, some (.int (y8 + 1)), none, none, none, none, none]) dX6_chance_80 rfl rfl (Nat.le_of_ble_eq_true rfl) rfl rfl ?_
      refine o_goto (tgt := 54) dX6_chance_83 (by decide) ?_
      exact (ih y1 y2 y3 y4 y5 (y6 + ((b7.1 >>> (y4 &&& 31)) &&& 1).toInt64) (y8 + 1) b7.2)
def f_X6_chance (T : Nat) (x0 : Int32) (x1 : Int32) (x2 : Int32) (x3 : Int32) (x4 : Int32) (st : px_S) : Option (Int64 × px_S) := (if (p_X6_in x1.toInt64 1 10) = 0 then (some ((-4611686018427387904), st)) else (if (p_X6_in x2.toInt64 0 30) = 0 then (some ((-4611686018427387904), st)) else ((f_X6_isOne T st x3).bind fun b10 => (if b10 = 0 then (some ((-4611686018427387904), st)) else (if (p_X6_in x4.toInt64 0 1) = 0 then (some ((-4611686018427387904), st)) else (f_X6_chance_54 T 1000 x0 x1 x2 x3 x4 0 0 st))))))
set_option maxRecDepth 20000 in
theorem t_X6_chance (T : Nat) (x0 : Int32) (x1 : Int32) (x2 : Int32) (x3 : Int32) (x4 : Int32) (st : px_S) : px_O (47, 0, 0, px_n (T + 2), m_X6_chance) (px_gl (T + 2)) (f_X6_chance T x0 x1 x2 x3 x4 st) 0 [some (.ref 48), some (.int x0), some (.int x1), some (.int x2), some (.int x3), some (.int x4), none, none, none, none, none, none, none, none] [] (HP (T + 2) st) 0 0 := by
  rw [f_X6_chance]
  refine o_iload_n dX6_chance_0 rfl ?_
  refine o_i2l dX6_chance_1 ?_
  refine o_lconst (v := 1) dX6_chance_2 (by decide) ?_
  refine o_ldc2 (v := 10) dX6_chance_3 cst_X6_167 ?_
  refine h_cSP (as := [.long x1.toInt64, .long 1, .long 10]) (S1 := []) (d' := 0) dX6_chance_6 mf_X6_in ml_X6_97 ms_X6_in rfl (Nat.le_of_ble_eq_true rfl) rfl (Nat.le_of_ble_eq_true rfl) ⟨Nat.zero_le _, Nat.zero_le _⟩ (k_X6_in) ?_
  refine o_ifeq (tgt := 44) dX6_chance_9 (by decide) (fun u8 => ?_) (fun u8 => ?_)
  · refine o_ldc2 (v := (-4611686018427387904)) dX6_chance_44 cst_X6_454 ?_
    exact o_lret rfl dX6_chance_47 rfl (Nat.zero_le _) (Nat.zero_le _)
  · refine o_iload_n dX6_chance_12 rfl ?_
    refine o_i2l dX6_chance_13 ?_
    refine o_lconst (v := 0) dX6_chance_14 (by decide) ?_
    refine o_ldc2 (v := 30) dX6_chance_15 cst_X6_449 ?_
    refine h_cSP (as := [.long x2.toInt64, .long 0, .long 30]) (S1 := []) (d' := 0) dX6_chance_18 mf_X6_in ml_X6_97 ms_X6_in rfl (Nat.le_of_ble_eq_true rfl) rfl (Nat.le_of_ble_eq_true rfl) ⟨Nat.zero_le _, Nat.zero_le _⟩ (k_X6_in) ?_
    refine o_ifeq (tgt := 44) dX6_chance_21 (by decide) (fun u9 => ?_) (fun u9 => ?_)
    · refine o_ldc2 (v := (-4611686018427387904)) dX6_chance_44 cst_X6_454 ?_
      exact o_lret rfl dX6_chance_47 rfl (Nat.zero_le _) (Nat.zero_le _)
    · refine o_aload_n dX6_chance_24 rfl ?_
      refine o_iload dX6_chance_25 rfl ?_
      refine h_cV0 (as := [.int x3]) (S1 := []) (d' := 1) dX6_chance_27 mf_X6_isOne ml_X6_101 mv_X6_isOne q6 rfl (hp_at (px_ltM (by decide)) (c48 _)) rfl (Nat.le_of_ble_eq_true rfl) rfl (Nat.le_of_ble_eq_true rfl) ⟨Nat.zero_le _, Nat.zero_le _⟩ (fun b hb => k_X6_isOne hb) (fun b10 hb10 => ?_)
      refine o_ifeq (tgt := 44) dX6_chance_30 (by decide) (fun u11 => ?_) (fun u11 => ?_)
      · refine o_ldc2 (v := (-4611686018427387904)) dX6_chance_44 cst_X6_454 ?_
        exact o_lret rfl dX6_chance_47 rfl (Nat.zero_le _) (Nat.zero_le _)
      · refine o_iload dX6_chance_33 rfl ?_
        refine o_i2l dX6_chance_35 ?_
        refine o_lconst (v := 0) dX6_chance_36 (by decide) ?_
        refine o_lconst (v := 1) dX6_chance_37 (by decide) ?_
        refine h_cSP (as := [.long x4.toInt64, .long 0, .long 1]) (S1 := []) (d' := 0) dX6_chance_38 mf_X6_in ml_X6_97 ms_X6_in rfl (Nat.le_of_ble_eq_true rfl) rfl (Nat.le_of_ble_eq_true rfl) ⟨Nat.zero_le _, Nat.zero_le _⟩ (k_X6_in) ?_
        refine o_ifne (tgt := 48) dX6_chance_41 (by decide) (fun u12 => ?_) (fun u12 => ?_)
        · refine o_lconst (v := 0) dX6_chance_48 (by decide) ?_
          refine o_lstore (L' := [some (.ref 48), some (.int x0), some (.int x1), some (.int x2), some (.int x3), some (.int x4), some (.long 0), none, none, none, none, none, none, none]) dX6_chance_49 (Nat.le_of_ble_eq_true rfl) rfl rfl ?_
          refine o_iconst (v := 0) dX6_chance_51 (by decide) ?_
          refine o_istore (L' := [some (.ref 48), some (.int x0), some (.int x1), some (.int x2), some (.int x3), some (.int x4), some (.long 0), none, some (.int 0), none, none, none, none, none]) dX6_chance_52 (Nat.le_of_ble_eq_true rfl) rfl rfl ?_
          exact (t_X6_chance_54 T 1000 x0 x1 x2 x3 x4 0 0 st)
        · refine o_ldc2 (v := (-4611686018427387904)) dX6_chance_44 cst_X6_454 ?_
          exact o_lret rfl dX6_chance_47 rfl (Nat.zero_le _) (Nat.zero_le _)
theorem k_X6_chance {T : Nat} {st : px_S} {x0 : Int32} {x1 : Int32} {x2 : Int32} {x3 : Int32} {x4 : Int32} {b : Int64 × px_S} (hf : f_X6_chance T x0 x1 x2 x3 x4 st = some b) : px_K (47) 0 0 m_X6_chance [.ref 48, .int x0, .int x1, .int x2, .int x3, .int x4] (HP (T + 2) st) ((px_gl (T + 2)) b).1 ((px_gl (T + 2)) b).2 := px_KofH hf mf_X6_chance (Nat.le_of_ble_eq_true rfl) rfl (t_X6_chance T x0 x1 x2 x3 x4 st)
/-! ThreeOfThemModel.image()I: S, depth 0 -/
def f_X6_image_28 (T : Nat) : Nat → Int32 → px_S → Option (Int32 × px_S)
  | 0, _, _ => none
  | n + 1, y1, st => (if y1 < 7 then (if px_in y1 7 then (if px_in y1 7 then (if px_in y1 7 then (if px_in y1 7 then ((f_X6_image_28 T n) (y1 + 1) (up (up st 64 y1.toNatClampNeg (st 55 y1.toNatClampNeg)) 65 y1.toNatClampNeg ((up st 64 y1.toNatClampNeg (st 55 y1.toNatClampNeg)) 53 y1.toNatClampNeg))) else none) else none) else none) else none) else (some ((st 48 11), (up (up (up (up (up (up st 48 48 (st 48 11)) 48 49 (st 48 12)) 48 50 (st 48 13)) 48 51 (st 48 14)) 48 52 (st 48 15)) 48 53 (st 48 4)))))
set_option maxRecDepth 20000 in
theorem t_X6_image_28 (T : Nat) : ∀ (n : Nat) (y1 : Int32) (st : px_S), px_O (0, 0, 0, px_n (T + 2), m_X6_image) (px_gi (T + 2)) (f_X6_image_28 T n y1 st) 28 [some (.ref 48), some (.int y1)] [] (HP (T + 2) st) 0 0 := by
  intro n
  induction n with
  | zero => intro y1 st; rw [f_X6_image_28]; exact o_none
  | succ n ih =>
    intro y1 st
    rw [f_X6_image_28]
    refine o_iload_n dX6_image_28 rfl ?_
    refine o_bipush (v := 7) dX6_image_29 (by decide) ?_
    refine o_icmpge (tgt := 64) dX6_image_31 (by decide) (fun u1 => ?_) (fun u1 => ?_)
    · refine o_aload_n dX6_image_64 rfl ?_
      refine o_aload_n dX6_image_65 rfl ?_
      refine h_get (v := .int (st 48 11)) dX6_image_66 q6 fl_X6_94 (by decide) (px_ltM (by decide)) (c48 _) rfl ?_
      refine h_puti dX6_image_69 q6 fl_X6_71 pf_X6_48 (px_ltM (by decide)) (c48 _) (Nat.le_of_ble_eq_true rfl) (s48_48 _ _) ?_
      refine o_aload_n dX6_image_72 rfl ?_
      refine o_aload_n dX6_image_73 rfl ?_
      refine h_get (v := .int (st 48 12)) dX6_image_74 q6 fl_X6_105 (by decide) (px_ltM (by decide)) (c48 _) rfl ?_
      refine h_puti dX6_image_77 q6 fl_X6_456 pf_X6_49 (px_ltM (by decide)) (c48 _) (Nat.le_of_ble_eq_true rfl) (s48_49 _ _) ?_
      refine o_aload_n dX6_image_80 rfl ?_
      refine o_aload_n dX6_image_81 rfl ?_
      refine h_get (v := .int (st 48 13)) dX6_image_82 q6 fl_X6_35 (by decide) (px_ltM (by decide)) (c48 _) rfl ?_
      refine h_puti dX6_image_85 q6 fl_X6_459 pf_X6_50 (px_ltM (by decide)) (c48 _) (Nat.le_of_ble_eq_true rfl) (s48_50 _ _) ?_
      refine o_aload_n dX6_image_88 rfl ?_
      refine o_aload_n dX6_image_89 rfl ?_
      refine h_get (v := .int (st 48 14)) dX6_image_90 q6 fl_X6_38 (by decide) (px_ltM (by decide)) (c48 _) rfl ?_
      refine h_puti dX6_image_93 q6 fl_X6_462 pf_X6_51 (px_ltM (by decide)) (c48 _) (Nat.le_of_ble_eq_true rfl) (s48_51 _ _) ?_
      refine o_aload_n dX6_image_96 rfl ?_
      refine o_aload_n dX6_image_97 rfl ?_
      refine h_get (v := .int (st 48 15)) dX6_image_98 q6 fl_X6_128 (by decide) (px_ltM (by decide)) (c48 _) rfl ?_
      refine h_puti dX6_image_101 q6 fl_X6_465 pf_X6_52 (px_ltM (by decide)) (c48 _) (Nat.le_of_ble_eq_true rfl) (s48_52 _ _) ?_
      refine o_aload_n dX6_image_104 rfl ?_
      refine o_aload_n dX6_image_105 rfl ?_
      refine h_get (v := .int (st 48 4)) dX6_image_106 q6 fl_X6_341 (by decide) (px_ltM (by decide)) (c48 _) rfl ?_
      refine h_puti dX6_image_109 q6 fl_X6_468 pf_X6_53 (px_ltM (by decide)) (c48 _) (Nat.le_of_ble_eq_true rfl) (s48_53 _ _) ?_
      refine o_aload_n dX6_image_112 rfl ?_
      refine h_get (v := .int (st 48 11)) dX6_image_113 q6 fl_X6_94 (by decide) (px_ltM (by decide)) (c48 _) rfl ?_
      exact o_iret (rt := .int) rfl rfl dX6_image_116 rfl (Nat.zero_le _) (Nat.zero_le _)
    · refine o_aload_n dX6_image_34 rfl ?_
      refine h_get (v := .ref 64) dX6_image_35 q6 fl_X6_65 (by decide) (px_ltM (by decide)) (c48 _) rfl ?_
      refine o_iload_n dX6_image_38 rfl ?_
      refine o_aload_n dX6_image_39 rfl ?_
      refine h_get (v := .ref 55) dX6_image_40 q6 fl_X6_32 (by decide) (px_ltM (by decide)) (c48 _) rfl ?_
      refine o_iload_n dX6_image_43 rfl ?_
      refine h_iald (n := 7) dX6_image_44 (px_ltM (by decide)) (c55 _) (fun u2 => ?_)
      refine h_iast (n := 7) dX6_image_45 (px_ltM (by decide)) c64 (fun u3 => ?_)
      refine o_aload_n dX6_image_46 rfl ?_
      refine h_get (v := .ref 65) dX6_image_47 q6 fl_X6_68 (by decide) (px_ltM (by decide)) (c48 _) rfl ?_
      refine o_iload_n dX6_image_50 rfl ?_
      refine o_aload_n dX6_image_51 rfl ?_
      refine h_get (v := .ref 53) dX6_image_52 q6 fl_X6_26 (by decide) (px_ltM (by decide)) (c48 _) rfl ?_
      refine o_iload_n dX6_image_55 rfl ?_
      refine h_iald (n := 7) dX6_image_56 (px_ltM (by decide)) (c53 _) (fun u4 => ?_)
      refine h_iast (n := 7) dX6_image_57 (px_ltM (by decide)) c65 (fun u5 => ?_)
      refine o_iinc (v := (y1 + 1)) (L' := [some (.ref 48), some (.int (y1 + 1))]) dX6_image_58 rfl rfl (Nat.le_of_ble_eq_true rfl) rfl rfl ?_
      refine o_goto (tgt := 28) dX6_image_61 (by decide) ?_
      exact (ih (y1 + 1) (up (up st 64 y1.toNatClampNeg (st 55 y1.toNatClampNeg)) 65 y1.toNatClampNeg ((up st 64 y1.toNatClampNeg (st 55 y1.toNatClampNeg)) 53 y1.toNatClampNeg)))
def f_X6_image_2 (T : Nat) : Nat → Int32 → px_S → Option (Int32 × px_S)
  | 0, _, _ => none
  | n + 1, y1, st => (if y1 < 49 then (if px_in y1 49 then (if px_in y1 49 then ((f_X6_image_2 T n) (y1 + 1) (up st 63 y1.toNatClampNeg (st 54 y1.toNatClampNeg))) else none) else none) else (f_X6_image_28 T 1000 0 st))
set_option maxRecDepth 20000 in
theorem t_X6_image_2 (T : Nat) : ∀ (n : Nat) (y1 : Int32) (st : px_S), px_O (0, 0, 0, px_n (T + 2), m_X6_image) (px_gi (T + 2)) (f_X6_image_2 T n y1 st) 2 [some (.ref 48), some (.int y1)] [] (HP (T + 2) st) 0 0 := by
  intro n
  induction n with
  | zero => intro y1 st; rw [f_X6_image_2]; exact o_none
  | succ n ih =>
    intro y1 st
    rw [f_X6_image_2]
    refine o_iload_n dX6_image_2 rfl ?_
    refine o_bipush (v := 49) dX6_image_3 (by decide) ?_
    refine o_icmpge (tgt := 26) dX6_image_5 (by decide) (fun u6 => ?_) (fun u6 => ?_)
    · refine o_iconst (v := 0) dX6_image_26 (by decide) ?_
      refine o_istore_n (L' := [some (.ref 48), some (.int 0)]) dX6_image_27 (Nat.le_of_ble_eq_true rfl) rfl rfl ?_
      exact (t_X6_image_28 T 1000 0 st)
    · refine o_aload_n dX6_image_8 rfl ?_
      refine h_get (v := .ref 63) dX6_image_9 q6 fl_X6_62 (by decide) (px_ltM (by decide)) (c48 _) rfl ?_
      refine o_iload_n dX6_image_12 rfl ?_
      refine o_aload_n dX6_image_13 rfl ?_
      refine h_get (v := .ref 54) dX6_image_14 q6 fl_X6_29 (by decide) (px_ltM (by decide)) (c48 _) rfl ?_
      refine o_iload_n dX6_image_17 rfl ?_
      refine h_iald (n := 49) dX6_image_18 (px_ltM (by decide)) (c54 _) (fun u7 => ?_)
      refine h_iast (n := 49) dX6_image_19 (px_ltM (by decide)) c63 (fun u8 => ?_)
      refine o_iinc (v := (y1 + 1)) (L' := [some (.ref 48), some (.int (y1 + 1))]) dX6_image_20 rfl rfl (Nat.le_of_ble_eq_true rfl) rfl rfl ?_
      refine o_goto (tgt := 2) dX6_image_23 (by decide) ?_
      exact (ih (y1 + 1) (up st 63 y1.toNatClampNeg (st 54 y1.toNatClampNeg)))
def f_X6_image (T : Nat) (st : px_S) : Option (Int32 × px_S) := (f_X6_image_2 T 1000 0 st)
set_option maxRecDepth 20000 in
theorem t_X6_image (T : Nat) (st : px_S) : px_O (0, 0, 0, px_n (T + 2), m_X6_image) (px_gi (T + 2)) (f_X6_image T st) 0 [some (.ref 48), none] [] (HP (T + 2) st) 0 0 := by
  rw [f_X6_image]
  refine o_iconst (v := 0) dX6_image_0 (by decide) ?_
  refine o_istore_n (L' := [some (.ref 48), some (.int 0)]) dX6_image_1 (Nat.le_of_ble_eq_true rfl) rfl rfl ?_
  exact (t_X6_image_2 T 1000 0 st)
theorem k_X6_image {T : Nat} {st : px_S} {b : Int32 × px_S} (hf : f_X6_image T st = some b) : px_K (0) 0 0 m_X6_image [.ref 48] (HP (T + 2) st) ((px_gi (T + 2)) b).1 ((px_gi (T + 2)) b).2 := px_KofH hf mf_X6_image (Nat.le_of_ble_eq_true rfl) rfl (t_X6_image T st)
/-! ThreeOfThemModel.back()I: S, depth 0 -/
def f_X6_back_39 (T : Nat) : Nat → Int32 → px_S → Option (Int32 × px_S)
  | 0, _, _ => none
  | n + 1, y1, st => (if y1 < 7 then (if px_in y1 7 then (if px_in y1 7 then (if px_in y1 7 then (if px_in y1 7 then ((f_X6_back_39 T n) (y1 + 1) (up (up st 55 y1.toNatClampNeg (st 64 y1.toNatClampNeg)) 53 y1.toNatClampNeg ((up st 55 y1.toNatClampNeg (st 64 y1.toNatClampNeg)) 65 y1.toNatClampNeg))) else none) else none) else none) else none) else (some ((st 48 48), (up (up (up (up (up (up st 48 11 (st 48 48)) 48 12 (st 48 49)) 48 13 (st 48 50)) 48 14 (st 48 51)) 48 15 (st 48 52)) 48 4 (st 48 53)))))
set_option maxRecDepth 20000 in
theorem t_X6_back_39 (T : Nat) : ∀ (n : Nat) (y1 : Int32) (st : px_S), px_O (0, 0, 0, px_n (T + 2), m_X6_back) (px_gi (T + 2)) (f_X6_back_39 T n y1 st) 39 [some (.ref 48), some (.int y1)] [] (HP (T + 2) st) 0 0 := by
  intro n
  induction n with
  | zero => intro y1 st; rw [f_X6_back_39]; exact o_none
  | succ n ih =>
    intro y1 st
    rw [f_X6_back_39]
    refine o_iload_n dX6_back_39 rfl ?_
    refine o_bipush (v := 7) dX6_back_40 (by decide) ?_
    refine o_icmpge (tgt := 75) dX6_back_42 (by decide) (fun u1 => ?_) (fun u1 => ?_)
    · refine o_aload_n dX6_back_75 rfl ?_
      refine o_aload_n dX6_back_76 rfl ?_
      refine h_get (v := .int (st 48 48)) dX6_back_77 q6 fl_X6_71 (by decide) (px_ltM (by decide)) (c48 _) rfl ?_
      refine h_puti dX6_back_80 q6 fl_X6_94 pf_X6_11 (px_ltM (by decide)) (c48 _) (Nat.le_of_ble_eq_true rfl) (s48_11 _ _) ?_
      refine o_aload_n dX6_back_83 rfl ?_
      refine o_aload_n dX6_back_84 rfl ?_
      refine h_get (v := .int (st 48 49)) dX6_back_85 q6 fl_X6_456 (by decide) (px_ltM (by decide)) (c48 _) rfl ?_
      refine h_puti dX6_back_88 q6 fl_X6_105 pf_X6_12 (px_ltM (by decide)) (c48 _) (Nat.le_of_ble_eq_true rfl) (s48_12 _ _) ?_
      refine o_aload_n dX6_back_91 rfl ?_
      refine o_aload_n dX6_back_92 rfl ?_
      refine h_get (v := .int (st 48 50)) dX6_back_93 q6 fl_X6_459 (by decide) (px_ltM (by decide)) (c48 _) rfl ?_
      refine h_puti dX6_back_96 q6 fl_X6_35 pf_X6_13 (px_ltM (by decide)) (c48 _) (Nat.le_of_ble_eq_true rfl) (s48_13 _ _) ?_
      refine o_aload_n dX6_back_99 rfl ?_
      refine o_aload_n dX6_back_100 rfl ?_
      refine h_get (v := .int (st 48 51)) dX6_back_101 q6 fl_X6_462 (by decide) (px_ltM (by decide)) (c48 _) rfl ?_
      refine h_puti dX6_back_104 q6 fl_X6_38 pf_X6_14 (px_ltM (by decide)) (c48 _) (Nat.le_of_ble_eq_true rfl) (s48_14 _ _) ?_
      refine o_aload_n dX6_back_107 rfl ?_
      refine o_aload_n dX6_back_108 rfl ?_
      refine h_get (v := .int (st 48 52)) dX6_back_109 q6 fl_X6_465 (by decide) (px_ltM (by decide)) (c48 _) rfl ?_
      refine h_puti dX6_back_112 q6 fl_X6_128 pf_X6_15 (px_ltM (by decide)) (c48 _) (Nat.le_of_ble_eq_true rfl) (s48_15 _ _) ?_
      refine o_aload_n dX6_back_115 rfl ?_
      refine o_aload_n dX6_back_116 rfl ?_
      refine h_get (v := .int (st 48 53)) dX6_back_117 q6 fl_X6_468 (by decide) (px_ltM (by decide)) (c48 _) rfl ?_
      refine h_puti dX6_back_120 q6 fl_X6_341 pf_X6_4 (px_ltM (by decide)) (c48 _) (Nat.le_of_ble_eq_true rfl) (s48_4 _ _) ?_
      refine o_aload_n dX6_back_123 rfl ?_
      refine h_get (v := .int (st 48 48)) dX6_back_124 q6 fl_X6_94 (by decide) (px_ltM (by decide)) (c48 _) rfl ?_
      exact o_iret (rt := .int) rfl rfl dX6_back_127 rfl (Nat.zero_le _) (Nat.zero_le _)
    · refine o_aload_n dX6_back_45 rfl ?_
      refine h_get (v := .ref 55) dX6_back_46 q6 fl_X6_32 (by decide) (px_ltM (by decide)) (c48 _) rfl ?_
      refine o_iload_n dX6_back_49 rfl ?_
      refine o_aload_n dX6_back_50 rfl ?_
      refine h_get (v := .ref 64) dX6_back_51 q6 fl_X6_65 (by decide) (px_ltM (by decide)) (c48 _) rfl ?_
      refine o_iload_n dX6_back_54 rfl ?_
      refine h_iald (n := 7) dX6_back_55 (px_ltM (by decide)) (c64 _) (fun u2 => ?_)
      refine h_iast (n := 7) dX6_back_56 (px_ltM (by decide)) c55 (fun u3 => ?_)
      refine o_aload_n dX6_back_57 rfl ?_
      refine h_get (v := .ref 53) dX6_back_58 q6 fl_X6_26 (by decide) (px_ltM (by decide)) (c48 _) rfl ?_
      refine o_iload_n dX6_back_61 rfl ?_
      refine o_aload_n dX6_back_62 rfl ?_
      refine h_get (v := .ref 65) dX6_back_63 q6 fl_X6_68 (by decide) (px_ltM (by decide)) (c48 _) rfl ?_
      refine o_iload_n dX6_back_66 rfl ?_
      refine h_iald (n := 7) dX6_back_67 (px_ltM (by decide)) (c65 _) (fun u4 => ?_)
      refine h_iast (n := 7) dX6_back_68 (px_ltM (by decide)) c53 (fun u5 => ?_)
      refine o_iinc (v := (y1 + 1)) (L' := [some (.ref 48), some (.int (y1 + 1))]) dX6_back_69 rfl rfl (Nat.le_of_ble_eq_true rfl) rfl rfl ?_
      refine o_goto (tgt := 39) dX6_back_72 (by decide) ?_
      exact (ih (y1 + 1) (up (up st 55 y1.toNatClampNeg (st 64 y1.toNatClampNeg)) 53 y1.toNatClampNeg ((up st 55 y1.toNatClampNeg (st 64 y1.toNatClampNeg)) 65 y1.toNatClampNeg)))
def f_X6_back_13 (T : Nat) : Nat → Int32 → px_S → Option (Int32 × px_S)
  | 0, _, _ => none
  | n + 1, y1, st => (if y1 < 49 then (if px_in y1 49 then (if px_in y1 49 then ((f_X6_back_13 T n) (y1 + 1) (up st 54 y1.toNatClampNeg (st 63 y1.toNatClampNeg))) else none) else none) else (f_X6_back_39 T 1000 0 st))
set_option maxRecDepth 20000 in
theorem t_X6_back_13 (T : Nat) : ∀ (n : Nat) (y1 : Int32) (st : px_S), px_O (0, 0, 0, px_n (T + 2), m_X6_back) (px_gi (T + 2)) (f_X6_back_13 T n y1 st) 13 [some (.ref 48), some (.int y1)] [] (HP (T + 2) st) 0 0 := by
  intro n
  induction n with
  | zero => intro y1 st; rw [f_X6_back_13]; exact o_none
  | succ n ih =>
    intro y1 st
    rw [f_X6_back_13]
    refine o_iload_n dX6_back_13 rfl ?_
    refine o_bipush (v := 49) dX6_back_14 (by decide) ?_
    refine o_icmpge (tgt := 37) dX6_back_16 (by decide) (fun u6 => ?_) (fun u6 => ?_)
    · refine o_iconst (v := 0) dX6_back_37 (by decide) ?_
      refine o_istore_n (L' := [some (.ref 48), some (.int 0)]) dX6_back_38 (Nat.le_of_ble_eq_true rfl) rfl rfl ?_
      exact (t_X6_back_39 T 1000 0 st)
    · refine o_aload_n dX6_back_19 rfl ?_
      refine h_get (v := .ref 54) dX6_back_20 q6 fl_X6_29 (by decide) (px_ltM (by decide)) (c48 _) rfl ?_
      refine o_iload_n dX6_back_23 rfl ?_
      refine o_aload_n dX6_back_24 rfl ?_
      refine h_get (v := .ref 63) dX6_back_25 q6 fl_X6_62 (by decide) (px_ltM (by decide)) (c48 _) rfl ?_
      refine o_iload_n dX6_back_28 rfl ?_
      refine h_iald (n := 49) dX6_back_29 (px_ltM (by decide)) (c63 _) (fun u7 => ?_)
      refine h_iast (n := 49) dX6_back_30 (px_ltM (by decide)) c54 (fun u8 => ?_)
      refine o_iinc (v := (y1 + 1)) (L' := [some (.ref 48), some (.int (y1 + 1))]) dX6_back_31 rfl rfl (Nat.le_of_ble_eq_true rfl) rfl rfl ?_
      refine o_goto (tgt := 13) dX6_back_34 (by decide) ?_
      exact (ih (y1 + 1) (up st 54 y1.toNatClampNeg (st 63 y1.toNatClampNeg)))
def f_X6_back (T : Nat) (st : px_S) : Option (Int32 × px_S) := (if (st 48 48) = (-1) then (some ((-3), st)) else (f_X6_back_13 T 1000 0 st))
set_option maxRecDepth 20000 in
theorem t_X6_back (T : Nat) (st : px_S) : px_O (0, 0, 0, px_n (T + 2), m_X6_back) (px_gi (T + 2)) (f_X6_back T st) 0 [some (.ref 48), none] [] (HP (T + 2) st) 0 0 := by
  rw [f_X6_back]
  refine o_aload_n dX6_back_0 rfl ?_
  refine h_get (v := .int (st 48 48)) dX6_back_1 q6 fl_X6_71 (by decide) (px_ltM (by decide)) (c48 _) rfl ?_
  refine o_iconst (v := (-1)) dX6_back_4 (by decide) ?_
  refine o_icmpne (tgt := 11) dX6_back_5 (by decide) (fun u9 => ?_) (fun u9 => ?_)
  · refine o_iconst (v := 0) dX6_back_11 (by decide) ?_
    refine o_istore_n (L' := [some (.ref 48), some (.int 0)]) dX6_back_12 (Nat.le_of_ble_eq_true rfl) rfl rfl ?_
    exact (t_X6_back_13 T 1000 0 st)
  · refine o_bipush (v := (-3)) dX6_back_8 (by decide) ?_
    exact o_iret (rt := .int) rfl rfl dX6_back_10 rfl (Nat.zero_le _) (Nat.zero_le _)
theorem k_X6_back {T : Nat} {st : px_S} {b : Int32 × px_S} (hf : f_X6_back T st = some b) : px_K (0) 0 0 m_X6_back [.ref 48] (HP (T + 2) st) ((px_gi (T + 2)) b).1 ((px_gi (T + 2)) b).2 := px_KofH hf mf_X6_back (Nat.le_of_ble_eq_true rfl) rfl (t_X6_back T st)
/-! ThreeOfThemModel.count(I)I: R, depth 1 -/
def f_X6_count_24 (T : Nat) (st : px_S) : Nat → Int32 → Int32 → Option (Int32)
  | 0, _, _ => none
  | n + 1, y2, y3 => (if y3 < (st 48 11) then (if px_in y3 7 then ((f_X6_bitsOf (st 55 y3.toNatClampNeg)).bind fun b3 => ((f_X6_count_24 T st n) (y2 + b3) (y3 + 1))) else none) else (some (y2 / 2)))
set_option maxRecDepth 20000 in
theorem t_X6_count_24 (T : Nat) (st : px_S) : ∀ (n : Nat) (y2 : Int32) (y3 : Int32), px_O (1, 0, 0, px_n (T + 2), m_X6_count) (px_g0 (HP (T + 2) st)) (f_X6_count_24 T st n y2 y3) 24 [some (.ref 48), none, some (.int y2), some (.int y3)] [] (HP (T + 2) st) 0 0 := by
  intro n
  induction n with
  | zero => intro y2 y3; rw [f_X6_count_24]; exact o_none
  | succ n ih =>
    intro y2 y3
    rw [f_X6_count_24]
    refine o_iload_n dX6_count_24 rfl ?_
    refine o_aload_n dX6_count_25 rfl ?_
    refine h_get (v := .int (st 48 11)) dX6_count_26 q6 fl_X6_94 (by decide) (px_ltM (by decide)) (c48 _) rfl ?_
    refine o_icmpge (tgt := 50) dX6_count_29 (by decide) (fun u1 => ?_) (fun u1 => ?_)
    · refine o_iload_n dX6_count_50 rfl ?_
      refine o_iconst (v := 2) dX6_count_51 (by decide) ?_
      refine o_idiv dX6_count_52 (by decide) ?_
      exact o_iret (rt := .int) rfl rfl dX6_count_53 rfl (Nat.zero_le _) (Nat.zero_le _)
    · refine o_iload_n dX6_count_32 rfl ?_
      refine o_aload_n dX6_count_33 rfl ?_
      refine h_get (v := .ref 55) dX6_count_34 q6 fl_X6_32 (by decide) (px_ltM (by decide)) (c48 _) rfl ?_
      refine o_iload_n dX6_count_37 rfl ?_
      refine h_iald (n := 7) dX6_count_38 (px_ltM (by decide)) (c55 _) (fun u2 => ?_)
      refine h_cS0 (as := [.int (st 55 y3.toNatClampNeg)]) (S1 := [.int y2]) (d' := 0) dX6_count_39 mf_X6_bitsOf ml_X6_348 ms_X6_bitsOf rfl (Nat.le_of_ble_eq_true rfl) rfl (Nat.le_of_ble_eq_true rfl) ⟨Nat.zero_le _, Nat.zero_le _⟩ (fun b hb => k_X6_bitsOf hb) (fun b3 hb3 => ?_)
      refine o_iadd dX6_count_42 ?_
      refine o_istore_n (L' := [some (.ref 48), none, some (.int (y2 + b3)), some (.int y3)]) dX6_count_43 (Nat.le_of_ble_eq_true rfl) rfl rfl ?_
      refine o_iinc (v := (y3 + 1)) (L' := [some (.ref 48), none, some (.int (y2 + b3)), some (.int (y3 + 1))]) dX6_count_44 rfl rfl (Nat.le_of_ble_eq_true rfl) rfl rfl ?_
      refine o_goto (tgt := 24) dX6_count_47 (by decide) ?_
      exact (ih (y2 + b3) (y3 + 1))
def f_X6_count (T : Nat) (st : px_S) (x0 : Int32) : Option (Int32) := (if (p_X6_in x0.toInt64 0 8) = 0 then (some (-2)) else (if x0 = 2 then (f_X6_count_24 T st 1000 0 0) else (if x0 < 4 then (if x0 = 0 then (some (st 48 11)) else (if x0 = 1 then ((f_X6_bitsOf (st 48 12)).bind fun b13 => (some b13)) else (some (st 48 13)))) else (if x0 < 6 then (if x0 = 4 then (some (st 48 14)) else (some (st 48 15))) else (if x0 = 6 then (some (st 48 3)) else (if x0 = 7 then (some (st 48 6)) else (some (st 48 4))))))))
set_option maxRecDepth 20000 in
theorem t_X6_count (T : Nat) (st : px_S) (x0 : Int32) : px_O (1, 0, 0, px_n (T + 2), m_X6_count) (px_g0 (HP (T + 2) st)) (f_X6_count T st x0) 0 [some (.ref 48), some (.int x0), none, none] [] (HP (T + 2) st) 0 0 := by
  rw [f_X6_count]
  refine o_iload_n dX6_count_0 rfl ?_
  refine o_i2l dX6_count_1 ?_
  refine o_lconst (v := 0) dX6_count_2 (by decide) ?_
  refine o_ldc2 (v := 8) dX6_count_3 cst_X6_471 ?_
  refine h_cSP (as := [.long x0.toInt64, .long 0, .long 8]) (S1 := []) (d' := 0) dX6_count_6 mf_X6_in ml_X6_97 ms_X6_in rfl (Nat.le_of_ble_eq_true rfl) rfl (Nat.le_of_ble_eq_true rfl) ⟨Nat.zero_le _, Nat.zero_le _⟩ (k_X6_in) ?_
  refine o_ifne (tgt := 15) dX6_count_9 (by decide) (fun u4 => ?_) (fun u4 => ?_)
  · refine o_iload_n dX6_count_15 rfl ?_
    refine o_iconst (v := 2) dX6_count_16 (by decide) ?_
    refine o_icmpne (tgt := 54) dX6_count_17 (by decide) (fun u5 => ?_) (fun u5 => ?_)
    · refine o_iload_n dX6_count_54 rfl ?_
      refine o_iconst (v := 4) dX6_count_55 (by decide) ?_
      refine o_icmpge (tgt := 90) dX6_count_56 (by decide) (fun u6 => ?_) (fun u6 => ?_)
      · refine o_iload_n dX6_count_90 rfl ?_
        refine o_bipush (v := 6) dX6_count_91 (by decide) ?_
        refine o_icmpge (tgt := 113) dX6_count_93 (by decide) (fun u7 => ?_) (fun u7 => ?_)
        · refine o_iload_n dX6_count_113 rfl ?_
          refine o_bipush (v := 6) dX6_count_114 (by decide) ?_
          refine o_icmpne (tgt := 126) dX6_count_116 (by decide) (fun u8 => ?_) (fun u8 => ?_)
          · refine o_iload_n dX6_count_126 rfl ?_
            refine o_bipush (v := 7) dX6_count_127 (by decide) ?_
            refine o_icmpne (tgt := 139) dX6_count_129 (by decide) (fun u9 => ?_) (fun u9 => ?_)
            · refine o_aload_n dX6_count_139 rfl ?_
              refine h_get (v := .int (st 48 4)) dX6_count_140 q6 fl_X6_341 (by decide) (px_ltM (by decide)) (c48 _) rfl ?_
              exact o_iret (rt := .int) rfl rfl dX6_count_143 rfl (Nat.zero_le _) (Nat.zero_le _)
            · refine o_aload_n dX6_count_132 rfl ?_
              refine h_get (v := .int (st 48 6)) dX6_count_133 q6 fl_X6_133 (by decide) (px_ltM (by decide)) (c48 _) rfl ?_
              refine o_goto (tgt := 143) dX6_count_136 (by decide) ?_
              exact o_iret (rt := .int) rfl rfl dX6_count_143 rfl (Nat.zero_le _) (Nat.zero_le _)
          · refine o_aload_n dX6_count_119 rfl ?_
            refine h_get (v := .int (st 48 3)) dX6_count_120 q6 fl_X6_91 (by decide) (px_ltM (by decide)) (c48 _) rfl ?_
            refine o_goto (tgt := 143) dX6_count_123 (by decide) ?_
            exact o_iret (rt := .int) rfl rfl dX6_count_143 rfl (Nat.zero_le _) (Nat.zero_le _)
        · refine o_iload_n dX6_count_96 rfl ?_
          refine o_iconst (v := 4) dX6_count_97 (by decide) ?_
          refine o_icmpne (tgt := 108) dX6_count_98 (by decide) (fun u10 => ?_) (fun u10 => ?_)
          · refine o_aload_n dX6_count_108 rfl ?_
            refine h_get (v := .int (st 48 15)) dX6_count_109 q6 fl_X6_128 (by decide) (px_ltM (by decide)) (c48 _) rfl ?_
            exact o_iret (rt := .int) rfl rfl dX6_count_112 rfl (Nat.zero_le _) (Nat.zero_le _)
          · refine o_aload_n dX6_count_101 rfl ?_
            refine h_get (v := .int (st 48 14)) dX6_count_102 q6 fl_X6_38 (by decide) (px_ltM (by decide)) (c48 _) rfl ?_
            refine o_goto (tgt := 112) dX6_count_105 (by decide) ?_
            exact o_iret (rt := .int) rfl rfl dX6_count_112 rfl (Nat.zero_le _) (Nat.zero_le _)
      · refine o_iload_n dX6_count_59 rfl ?_
        refine o_ifne (tgt := 70) dX6_count_60 (by decide) (fun u11 => ?_) (fun u11 => ?_)
        · refine o_iload_n dX6_count_70 rfl ?_
          refine o_iconst (v := 1) dX6_count_71 (by decide) ?_
          refine o_icmpne (tgt := 85) dX6_count_72 (by decide) (fun u12 => ?_) (fun u12 => ?_)
          · refine o_aload_n dX6_count_85 rfl ?_
            refine h_get (v := .int (st 48 13)) dX6_count_86 q6 fl_X6_35 (by decide) (px_ltM (by decide)) (c48 _) rfl ?_
            exact o_iret (rt := .int) rfl rfl dX6_count_89 rfl (Nat.zero_le _) (Nat.zero_le _)
          · refine o_aload_n dX6_count_75 rfl ?_
            refine h_get (v := .int (st 48 12)) dX6_count_76 q6 fl_X6_105 (by decide) (px_ltM (by decide)) (c48 _) rfl ?_
            refine h_cS0 (as := [.int (st 48 12)]) (S1 := []) (d' := 0) dX6_count_79 mf_X6_bitsOf ml_X6_348 ms_X6_bitsOf rfl (Nat.le_of_ble_eq_true rfl) rfl (Nat.le_of_ble_eq_true rfl) ⟨Nat.zero_le _, Nat.zero_le _⟩ (fun b hb => k_X6_bitsOf hb) (fun b13 hb13 => ?_)
            refine o_goto (tgt := 89) dX6_count_82 (by decide) ?_
            exact o_iret (rt := .int) rfl rfl dX6_count_89 rfl (Nat.zero_le _) (Nat.zero_le _)
        · refine o_aload_n dX6_count_63 rfl ?_
          refine h_get (v := .int (st 48 11)) dX6_count_64 q6 fl_X6_94 (by decide) (px_ltM (by decide)) (c48 _) rfl ?_
          refine o_goto (tgt := 89) dX6_count_67 (by decide) ?_
          exact o_iret (rt := .int) rfl rfl dX6_count_89 rfl (Nat.zero_le _) (Nat.zero_le _)
    · refine o_iconst (v := 0) dX6_count_20 (by decide) ?_
      refine o_istore_n (L' := [some (.ref 48), some (.int x0), some (.int 0), none]) dX6_count_21 (Nat.le_of_ble_eq_true rfl) rfl rfl ?_
      refine o_iconst (v := 0) dX6_count_22 (by decide) ?_
      refine o_istore_n (L' := [some (.ref 48), some (.int x0), some (.int 0), some (.int 0)]) dX6_count_23 (Nat.le_of_ble_eq_true rfl) rfl rfl ?_
      exact o_weak (L' := [some (.ref 48), none, some (.int 0), some (.int 0)]) ⟨rfl, ⟨rfl, ⟨rfl, trivial⟩⟩⟩ (t_X6_count_24 T st 1000 0 0)
  · refine o_bipush (v := (-2)) dX6_count_12 (by decide) ?_
    exact o_iret (rt := .int) rfl rfl dX6_count_14 rfl (Nat.zero_le _) (Nat.zero_le _)
theorem k_X6_count_o {T : Nat} {st : px_S} {x0 : Int32} {b : Int32} (hf : f_X6_count T st x0 = some b) : px_K (1) 0 0 m_X6_count [.ref 48, .int x0] (HP (T + 2) st) (some (.int b)) (HP (T + 2) st) := px_KofH (g := px_g0 (HP (T + 2) st)) hf mf_X6_count (Nat.le_of_ble_eq_true rfl) rfl (t_X6_count T st x0)
theorem k_X6_count {T : Nat} {st : px_S} {x0 : Int32} {b : Int32} (hf : f_X6_count T st x0 = some b) : px_K (1) 0 0 m_X6_count [.ref 48, .int x0] (HP (T + 2) st) (some (.int b)) (HP (T + 2) st) := k_X6_count_o hf
/-! ThreeOfThemModel.sheet(III)I: S, depth 2 -/
def f_X6_sheet_77 (T : Nat) : Nat → Int32 → Int32 → Int32 → Int32 → px_S → Option (Int32 × px_S)
  | 0, _, _, _, _, _ => none
  | n + 1, y1, y2, y3, y4, st => (if y4 < y3 then (if y2 < 0 then (some (1, st)) else (if px_in (((40 : Int32) * y1) + y4) 160 then ((f_X6_sheet_77 T n) y1 y2 y3 (y4 + 1) (up st 69 (((40 : Int32) * y1) + y4).toNatClampNeg 0)) else none)) else (some (1, st)))
set_option maxRecDepth 20000 in
theorem t_X6_sheet_77 (T : Nat) : ∀ (n : Nat) (y1 : Int32) (y2 : Int32) (y3 : Int32) (y4 : Int32) (st : px_S), px_O (2, 0, 0, px_n (T + 2), m_X6_sheet) (px_gi (T + 2)) (f_X6_sheet_77 T n y1 y2 y3 y4 st) 77 [some (.ref 48), some (.int y1), some (.int y2), some (.int y3), some (.int y4)] [] (HP (T + 2) st) 0 0 := by
  intro n
  induction n with
  | zero => intro y1 y2 y3 y4 st; rw [f_X6_sheet_77]; exact o_none
  | succ n ih =>
    intro y1 y2 y3 y4 st
    rw [f_X6_sheet_77]
    refine o_iload dX6_sheet_77 rfl ?_
    refine o_iload_n dX6_sheet_79 rfl ?_
    refine o_icmpge (tgt := 106) dX6_sheet_80 (by decide) (fun u1 => ?_) (fun u1 => ?_)
    · refine o_iconst (v := 1) dX6_sheet_106 (by decide) ?_
      exact o_iret (rt := .int) rfl rfl dX6_sheet_107 rfl (Nat.zero_le _) (Nat.zero_le _)
    · refine o_iload_n dX6_sheet_83 rfl ?_
      refine o_iflt (tgt := 106) dX6_sheet_84 (by decide) (fun u2 => ?_) (fun u2 => ?_)
      · refine o_iconst (v := 1) dX6_sheet_106 (by decide) ?_
        exact o_iret (rt := .int) rfl rfl dX6_sheet_107 rfl (Nat.zero_le _) (Nat.zero_le _)
      · refine o_aload_n dX6_sheet_87 rfl ?_
        refine h_get (v := .ref 69) dX6_sheet_88 q6 fl_X6_84 (by decide) (px_ltM (by decide)) (c48 _) rfl ?_
        refine o_bipush (v := 40) dX6_sheet_91 (by decide) ?_
        refine o_iload_n dX6_sheet_93 rfl ?_
        refine o_imul dX6_sheet_94 ?_
        refine o_iload dX6_sheet_95 rfl ?_
        refine o_iadd dX6_sheet_97 ?_
        refine o_iconst (v := 0) dX6_sheet_98 (by decide) ?_
        refine h_iast (n := 160) dX6_sheet_99 (px_ltM (by decide)) c69 (fun u3 => ?_)
        refine o_iinc (v := (y4 + 1)) (L' := [some (.ref 48), some (.int y1), some (.int y2), some (.int y3), some (.int (y4 + 1))]) dX6_sheet_100 rfl rfl (Nat.le_of_ble_eq_true rfl) rfl rfl ?_
        refine o_goto (tgt := 77) dX6_sheet_103 (by decide) ?_
        exact (ih y1 y2 y3 (y4 + 1) (up st 69 (((40 : Int32) * y1) + y4).toNatClampNeg 0))
def f_X6_sheet_59 (T : Nat) (y1 : Int32) (y2 : Int32) (y3 : Int32) (z0 : Int32) (z1 : Int32) (st : px_S) : Option (Int32 × px_S) := (if z0 = 0 ∨ z0 = 1 then (if px_in z1 4 then (if px_in y1 4 then (if px_in y1 4 then (f_X6_sheet_77 T 1000 y1 y2 y3 0 (up (up (up st 66 z1.toNatClampNeg z0) 67 y1.toNatClampNeg y2) 68 y1.toNatClampNeg y3)) else none) else none) else none) else none)
set_option maxRecDepth 20000 in
theorem t_X6_sheet_59 (T : Nat) (y1 : Int32) (y2 : Int32) (y3 : Int32) (z0 : Int32) (z1 : Int32) (st : px_S) : px_O (2, 0, 0, px_n (T + 2), m_X6_sheet) (px_gi (T + 2)) (f_X6_sheet_59 T y1 y2 y3 z0 z1 st) 59 [some (.ref 48), some (.int y1), some (.int y2), some (.int y3), none] [.int z0, .int z1, .ref 66] (HP (T + 2) st) 0 0 := by
  rw [f_X6_sheet_59]
  refine o_ite (fun u5 => ?_) (fun _ => o_none)
  refine h_zast (n := 4) dX6_sheet_59 (px_ltM (by decide)) c66 (by rcases u5 with u5 | u5 <;> rw [u5] <;> rfl) (fun u4 => ?_)
  refine o_aload_n dX6_sheet_60 rfl ?_
  refine h_get (v := .ref 67) dX6_sheet_61 q6 fl_X6_78 (by decide) (px_ltM (by decide)) (c48 _) rfl ?_
  refine o_iload_n dX6_sheet_64 rfl ?_
  refine o_iload_n dX6_sheet_65 rfl ?_
  refine h_iast (n := 4) dX6_sheet_66 (px_ltM (by decide)) c67 (fun u6 => ?_)
  refine o_aload_n dX6_sheet_67 rfl ?_
  refine h_get (v := .ref 68) dX6_sheet_68 q6 fl_X6_81 (by decide) (px_ltM (by decide)) (c48 _) rfl ?_
  refine o_iload_n dX6_sheet_71 rfl ?_
  refine o_iload_n dX6_sheet_72 rfl ?_
  refine h_iast (n := 4) dX6_sheet_73 (px_ltM (by decide)) c68 (fun u7 => ?_)
  refine o_iconst (v := 0) dX6_sheet_74 (by decide) ?_
  refine o_istore (L' := [some (.ref 48), some (.int y1), some (.int y2), some (.int y3), some (.int 0)]) dX6_sheet_75 (Nat.le_of_ble_eq_true rfl) rfl rfl ?_
  exact (t_X6_sheet_77 T 1000 y1 y2 y3 0 (up (up (up st 66 z1.toNatClampNeg z0) 67 y1.toNatClampNeg y2) 68 y1.toNatClampNeg y3))
def f_X6_sheet_45 (T : Nat) (y1 : Int32) (y2 : Int32) (y3 : Int32) (st : px_S) : Option (Int32 × px_S) := (if y2 < 0 then (f_X6_sheet_59 T y1 y2 y3 0 y1 st) else (f_X6_sheet_59 T y1 y2 y3 1 y1 st))
set_option maxRecDepth 20000 in
theorem t_X6_sheet_45 (T : Nat) (y1 : Int32) (y2 : Int32) (y3 : Int32) (st : px_S) : px_O (2, 0, 0, px_n (T + 2), m_X6_sheet) (px_gi (T + 2)) (f_X6_sheet_45 T y1 y2 y3 st) 45 [some (.ref 48), some (.int y1), some (.int y2), some (.int y3), none] [] (HP (T + 2) st) 0 0 := by
  rw [f_X6_sheet_45]
  refine o_aload_n dX6_sheet_45 rfl ?_
  refine h_get (v := .ref 66) dX6_sheet_46 q6 fl_X6_74 (by decide) (px_ltM (by decide)) (c48 _) rfl ?_
  refine o_iload_n dX6_sheet_49 rfl ?_
  refine o_iload_n dX6_sheet_50 rfl ?_
  refine o_iflt (tgt := 58) dX6_sheet_51 (by decide) (fun u8 => ?_) (fun u8 => ?_)
  · refine o_iconst (v := 0) dX6_sheet_58 (by decide) ?_
    exact (t_X6_sheet_59 T y1 y2 y3 0 y1 st)
  · refine o_iconst (v := 1) dX6_sheet_54 (by decide) ?_
    refine o_goto (tgt := 59) dX6_sheet_55 (by decide) ?_
    exact (t_X6_sheet_59 T y1 y2 y3 1 y1 st)
def f_X6_sheet_34 (T : Nat) (y1 : Int32) (y2 : Int32) (y3 : Int32) (st : px_S) : Option (Int32 × px_S) := (if y2 < 0 then (f_X6_sheet_45 T y1 y2 y3 st) else (if y3 < 0 then (some ((-14), st)) else (f_X6_sheet_45 T y1 y2 y3 st)))
set_option maxRecDepth 20000 in
theorem t_X6_sheet_34 (T : Nat) (y1 : Int32) (y2 : Int32) (y3 : Int32) (st : px_S) : px_O (2, 0, 0, px_n (T + 2), m_X6_sheet) (px_gi (T + 2)) (f_X6_sheet_34 T y1 y2 y3 st) 34 [some (.ref 48), some (.int y1), some (.int y2), some (.int y3), none] [] (HP (T + 2) st) 0 0 := by
  rw [f_X6_sheet_34]
  refine o_iload_n dX6_sheet_34 rfl ?_
  refine o_iflt (tgt := 45) dX6_sheet_35 (by decide) (fun u9 => ?_) (fun u9 => ?_)
  · exact (t_X6_sheet_45 T y1 y2 y3 st)
  · refine o_iload_n dX6_sheet_38 rfl ?_
    refine o_ifge (tgt := 45) dX6_sheet_39 (by decide) (fun u10 => ?_) (fun u10 => ?_)
    · exact (t_X6_sheet_45 T y1 y2 y3 st)
    · refine o_bipush (v := (-14)) dX6_sheet_42 (by decide) ?_
      exact o_iret (rt := .int) rfl rfl dX6_sheet_44 rfl (Nat.zero_le _) (Nat.zero_le _)
def f_X6_sheet (T : Nat) (x0 : Int32) (x1 : Int32) (x2 : Int32) (st : px_S) : Option (Int32 × px_S) := ((f_X6_isSheet x0).bind fun b11 => (if b11 = 0 then (some ((-2), st)) else (if (p_X6_in x1.toInt64 (-1) 2) = 0 then (some ((-2), st)) else (if x1 < 0 then (f_X6_sheet_34 T x0 x1 x2 st) else (if 40 < x2 then (some ((-2), st)) else (f_X6_sheet_34 T x0 x1 x2 st))))))
set_option maxRecDepth 20000 in
theorem t_X6_sheet (T : Nat) (x0 : Int32) (x1 : Int32) (x2 : Int32) (st : px_S) : px_O (2, 0, 0, px_n (T + 2), m_X6_sheet) (px_gi (T + 2)) (f_X6_sheet T x0 x1 x2 st) 0 [some (.ref 48), some (.int x0), some (.int x1), some (.int x2), none] [] (HP (T + 2) st) 0 0 := by
  rw [f_X6_sheet]
  refine o_iload_n dX6_sheet_0 rfl ?_
  refine h_cS0 (as := [.int x0]) (S1 := []) (d' := 1) dX6_sheet_1 mf_X6_isSheet ml_X6_442 ms_X6_isSheet rfl (Nat.le_of_ble_eq_true rfl) rfl (Nat.le_of_ble_eq_true rfl) ⟨Nat.zero_le _, Nat.zero_le _⟩ (fun b hb => k_X6_isSheet hb) (fun b11 hb11 => ?_)
  refine o_ifeq (tgt := 31) dX6_sheet_4 (by decide) (fun u12 => ?_) (fun u12 => ?_)
  · refine o_bipush (v := (-2)) dX6_sheet_31 (by decide) ?_
    exact o_iret (rt := .int) rfl rfl dX6_sheet_33 rfl (Nat.zero_le _) (Nat.zero_le _)
  · refine o_iload_n dX6_sheet_7 rfl ?_
    refine o_i2l dX6_sheet_8 ?_
    refine o_ldc2 (v := (-1)) dX6_sheet_9 cst_X6_475 ?_
    refine o_ldc2 (v := 2) dX6_sheet_12 cst_X6_122 ?_
    refine h_cSP (as := [.long x1.toInt64, .long (-1), .long 2]) (S1 := []) (d' := 0) dX6_sheet_15 mf_X6_in ml_X6_97 ms_X6_in rfl (Nat.le_of_ble_eq_true rfl) rfl (Nat.le_of_ble_eq_true rfl) ⟨Nat.zero_le _, Nat.zero_le _⟩ (k_X6_in) ?_
    refine o_ifeq (tgt := 31) dX6_sheet_18 (by decide) (fun u13 => ?_) (fun u13 => ?_)
    · refine o_bipush (v := (-2)) dX6_sheet_31 (by decide) ?_
      exact o_iret (rt := .int) rfl rfl dX6_sheet_33 rfl (Nat.zero_le _) (Nat.zero_le _)
    · refine o_iload_n dX6_sheet_21 rfl ?_
      refine o_iflt (tgt := 34) dX6_sheet_22 (by decide) (fun u14 => ?_) (fun u14 => ?_)
      · exact (t_X6_sheet_34 T x0 x1 x2 st)
      · refine o_iload_n dX6_sheet_25 rfl ?_
        refine o_bipush (v := 40) dX6_sheet_26 (by decide) ?_
        refine o_icmple (tgt := 34) dX6_sheet_28 (by decide) (fun u15 => ?_) (fun u15 => ?_)
        · exact (t_X6_sheet_34 T x0 x1 x2 st)
        · refine o_bipush (v := (-2)) dX6_sheet_31 (by decide) ?_
          exact o_iret (rt := .int) rfl rfl dX6_sheet_33 rfl (Nat.zero_le _) (Nat.zero_le _)
theorem k_X6_sheet {T : Nat} {st : px_S} {x0 : Int32} {x1 : Int32} {x2 : Int32} {b : Int32 × px_S} (hf : f_X6_sheet T x0 x1 x2 st = some b) : px_K (2) 0 0 m_X6_sheet [.ref 48, .int x0, .int x1, .int x2] (HP (T + 2) st) ((px_gi (T + 2)) b).1 ((px_gi (T + 2)) b).2 := px_KofH hf mf_X6_sheet (Nat.le_of_ble_eq_true rfl) rfl (t_X6_sheet T x0 x1 x2 st)
/-! ThreeOfThemModel.cell(III)I: S, depth 2 -/
def f_X6_cell (T : Nat) (x0 : Int32) (x1 : Int32) (x2 : Int32) (st : px_S) : Option (Int32 × px_S) := ((f_X6_isSheet x0).bind fun b1 => (if b1 = 0 then (some ((-2), st)) else (if px_in x0 4 then (if (st 66 x0.toNatClampNeg) = 0 then (some ((-11), st)) else (if px_in x0 4 then (if (p_X6_in x1.toInt64 0 ((st 68 x0.toNatClampNeg) - 1).toInt64) = 0 then (some ((-12), st)) else (if px_in x0 4 then (if (st 67 x0.toNatClampNeg) = 0 then (if px_in (((40 : Int32) * x0) + x1) 160 then (some (1, (up st 69 (((40 : Int32) * x0) + x1).toNatClampNeg x2.toInt8.toInt32))) else none) else (if px_in x0 4 then (if (st 67 x0.toNatClampNeg) = 1 then (if px_in (((40 : Int32) * x0) + x1) 160 then (some (1, (up st 69 (((40 : Int32) * x0) + x1).toNatClampNeg x2.toInt16.toInt32))) else none) else (if px_in (((40 : Int32) * x0) + x1) 160 then (some (1, (up st 69 (((40 : Int32) * x0) + x1).toNatClampNeg x2))) else none)) else none)) else none)) else none)) else none)))
set_option maxRecDepth 20000 in
theorem t_X6_cell (T : Nat) (x0 : Int32) (x1 : Int32) (x2 : Int32) (st : px_S) : px_O (2, 0, 0, px_n (T + 2), m_X6_cell) (px_gi (T + 2)) (f_X6_cell T x0 x1 x2 st) 0 [some (.ref 48), some (.int x0), some (.int x1), some (.int x2)] [] (HP (T + 2) st) 0 0 := by
  rw [f_X6_cell]
  refine o_iload_n dX6_cell_0 rfl ?_
  refine h_cS0 (as := [.int x0]) (S1 := []) (d' := 1) dX6_cell_1 mf_X6_isSheet ml_X6_442 ms_X6_isSheet rfl (Nat.le_of_ble_eq_true rfl) rfl (Nat.le_of_ble_eq_true rfl) ⟨Nat.zero_le _, Nat.zero_le _⟩ (fun b hb => k_X6_isSheet hb) (fun b1 hb1 => ?_)
  refine o_ifne (tgt := 10) dX6_cell_4 (by decide) (fun u2 => ?_) (fun u2 => ?_)
  · refine o_aload_n dX6_cell_10 rfl ?_
    refine h_get (v := .ref 66) dX6_cell_11 q6 fl_X6_74 (by decide) (px_ltM (by decide)) (c48 _) rfl ?_
    refine o_iload_n dX6_cell_14 rfl ?_
    refine h_zald (n := 4) dX6_cell_15 (px_ltM (by decide)) (c66 _) (fun u3 => ?_)
    refine o_ifne (tgt := 22) dX6_cell_16 (by decide) (fun u4 => ?_) (fun u4 => ?_)
    · refine o_iload_n dX6_cell_22 rfl ?_
      refine o_i2l dX6_cell_23 ?_
      refine o_lconst (v := 0) dX6_cell_24 (by decide) ?_
      refine o_aload_n dX6_cell_25 rfl ?_
      refine h_get (v := .ref 68) dX6_cell_26 q6 fl_X6_81 (by decide) (px_ltM (by decide)) (c48 _) rfl ?_
      refine o_iload_n dX6_cell_29 rfl ?_
      refine h_iald (n := 4) dX6_cell_30 (px_ltM (by decide)) (c68 _) (fun u5 => ?_)
      refine o_iconst (v := 1) dX6_cell_31 (by decide) ?_
      refine o_isub dX6_cell_32 ?_
      refine o_i2l dX6_cell_33 ?_
      refine h_cSP (as := [.long x1.toInt64, .long 0, .long ((st 68 x0.toNatClampNeg) - 1).toInt64]) (S1 := []) (d' := 0) dX6_cell_34 mf_X6_in ml_X6_97 ms_X6_in rfl (Nat.le_of_ble_eq_true rfl) rfl (Nat.le_of_ble_eq_true rfl) ⟨Nat.zero_le _, Nat.zero_le _⟩ (k_X6_in) ?_
      refine o_ifne (tgt := 43) dX6_cell_37 (by decide) (fun u6 => ?_) (fun u6 => ?_)
      · refine o_aload_n dX6_cell_43 rfl ?_
        refine h_get (v := .ref 69) dX6_cell_44 q6 fl_X6_84 (by decide) (px_ltM (by decide)) (c48 _) rfl ?_
        refine o_bipush (v := 40) dX6_cell_47 (by decide) ?_
        refine o_iload_n dX6_cell_49 rfl ?_
        refine o_imul dX6_cell_50 ?_
        refine o_iload_n dX6_cell_51 rfl ?_
        refine o_iadd dX6_cell_52 ?_
        refine o_aload_n dX6_cell_53 rfl ?_
        refine h_get (v := .ref 67) dX6_cell_54 q6 fl_X6_78 (by decide) (px_ltM (by decide)) (c48 _) rfl ?_
        refine o_iload_n dX6_cell_57 rfl ?_
        refine h_iald (n := 4) dX6_cell_58 (px_ltM (by decide)) (c67 _) (fun u7 => ?_)
        refine o_ifne (tgt := 67) dX6_cell_59 (by decide) (fun u8 => ?_) (fun u8 => ?_)
        · refine o_aload_n dX6_cell_67 rfl ?_
          refine h_get (v := .ref 67) dX6_cell_68 q6 fl_X6_78 (by decide) (px_ltM (by decide)) (c48 _) rfl ?_
          refine o_iload_n dX6_cell_71 rfl ?_
          refine h_iald (n := 4) dX6_cell_72 (px_ltM (by decide)) (c67 _) (fun u9 => ?_)
          refine o_iconst (v := 1) dX6_cell_73 (by decide) ?_
          refine o_icmpne (tgt := 82) dX6_cell_74 (by decide) (fun u10 => ?_) (fun u10 => ?_)
          · refine o_iload_n dX6_cell_82 rfl ?_
            refine h_iast (n := 160) dX6_cell_83 (px_ltM (by decide)) c69 (fun u11 => ?_)
            refine o_iconst (v := 1) dX6_cell_84 (by decide) ?_
            exact o_iret (rt := .int) rfl rfl dX6_cell_85 rfl (Nat.zero_le _) (Nat.zero_le _)
          · refine o_iload_n dX6_cell_77 rfl ?_
            refine o_i2s dX6_cell_78 ?_
            refine o_goto (tgt := 83) dX6_cell_79 (by decide) ?_
            refine h_iast (n := 160) dX6_cell_83 (px_ltM (by decide)) c69 (fun u12 => ?_)
            refine o_iconst (v := 1) dX6_cell_84 (by decide) ?_
            exact o_iret (rt := .int) rfl rfl dX6_cell_85 rfl (Nat.zero_le _) (Nat.zero_le _)
        · refine o_iload_n dX6_cell_62 rfl ?_
          refine o_i2b dX6_cell_63 ?_
          refine o_goto (tgt := 83) dX6_cell_64 (by decide) ?_
          refine h_iast (n := 160) dX6_cell_83 (px_ltM (by decide)) c69 (fun u13 => ?_)
          refine o_iconst (v := 1) dX6_cell_84 (by decide) ?_
          exact o_iret (rt := .int) rfl rfl dX6_cell_85 rfl (Nat.zero_le _) (Nat.zero_le _)
      · refine o_bipush (v := (-12)) dX6_cell_40 (by decide) ?_
        exact o_iret (rt := .int) rfl rfl dX6_cell_42 rfl (Nat.zero_le _) (Nat.zero_le _)
    · refine o_bipush (v := (-11)) dX6_cell_19 (by decide) ?_
      exact o_iret (rt := .int) rfl rfl dX6_cell_21 rfl (Nat.zero_le _) (Nat.zero_le _)
  · refine o_bipush (v := (-2)) dX6_cell_7 (by decide) ?_
    exact o_iret (rt := .int) rfl rfl dX6_cell_9 rfl (Nat.zero_le _) (Nat.zero_le _)
theorem k_X6_cell {T : Nat} {st : px_S} {x0 : Int32} {x1 : Int32} {x2 : Int32} {b : Int32 × px_S} (hf : f_X6_cell T x0 x1 x2 st = some b) : px_K (2) 0 0 m_X6_cell [.ref 48, .int x0, .int x1, .int x2] (HP (T + 2) st) ((px_gi (T + 2)) b).1 ((px_gi (T + 2)) b).2 := px_KofH hf mf_X6_cell (Nat.le_of_ble_eq_true rfl) rfl (t_X6_cell T x0 x1 x2 st)
/-! ThreeOfThemModel.copy(IIIII)I: S, depth 2 -/
def f_X6_copy_145 (T : Nat) (k121 : Int32 → Int32 → Int32 → Int32 → Int32 → Int32 → Int32 → px_S → Option (Int32 × px_S)) (y1 : Int32) (y2 : Int32) (y3 : Int32) (y4 : Int32) (y5 : Int32) (y6 : Int32) (y7 : Int32) (z0 : Int32) (st : px_S) : Option (Int32 × px_S) := (if px_in ((((40 : Int32) * y1) + y2) + z0) 160 then (if px_in ((((40 : Int32) * y3) + y4) + z0) 160 then (k121 y1 y2 y3 y4 y5 y6 (y7 + 1) (up st 69 ((((40 : Int32) * y3) + y4) + z0).toNatClampNeg (st 69 ((((40 : Int32) * y1) + y2) + z0).toNatClampNeg))) else none) else none)
set_option maxRecDepth 20000 in
theorem t_X6_copy_145 (T : Nat) (k121 : Int32 → Int32 → Int32 → Int32 → Int32 → Int32 → Int32 → px_S → Option (Int32 × px_S)) (hk121 : ∀ (y1 : Int32) (y2 : Int32) (y3 : Int32) (y4 : Int32) (y5 : Int32) (y6 : Int32) (y7 : Int32) (st : px_S), px_O (2, 0, 0, px_n (T + 2), m_X6_copy) (px_gi (T + 2)) (k121 y1 y2 y3 y4 y5 y6 y7 st) 121 [some (.ref 48), some (.int y1), some (.int y2), some (.int y3), some (.int y4), some (.int y5), some (.int y6), some (.int y7), none] [] (HP (T + 2) st) 0 0) (y1 : Int32) (y2 : Int32) (y3 : Int32) (y4 : Int32) (y5 : Int32) (y6 : Int32) (y7 : Int32) (z0 : Int32) (st : px_S) : px_O (2, 0, 0, px_n (T + 2), m_X6_copy) (px_gi (T + 2)) (f_X6_copy_145 T k121 y1 y2 y3 y4 y5 y6 y7 z0 st) 145 [some (.ref 48), some (.int y1), some (.int y2), some (.int y3), some (.int y4), some (.int y5), some (.int y6), some (.int y7), none] [.int z0] (HP (T + 2) st) 0 0 := by
  rw [f_X6_copy_145]
  refine o_istore (L' := [some (.ref 48), some (.int y1), some (.int y2), some (.int y3), some (.int y4), some (.int y5), some (.int y6), some (.int y7), some (.int z0)]) dX6_copy_145 (Nat.le_of_ble_eq_true rfl) rfl rfl ?_
  refine o_aload_n dX6_copy_147 rfl ?_
  refine h_get (v := .ref 69) dX6_copy_148 q6 fl_X6_84 (by decide) (px_ltM (by decide)) (c48 _) rfl ?_
  refine o_bipush (v := 40) dX6_copy_151 (by decide) ?_
  refine o_iload_n dX6_copy_153 rfl ?_
  refine o_imul dX6_copy_154 ?_
  refine o_iload dX6_copy_155 rfl ?_
  refine o_iadd dX6_copy_157 ?_
  refine o_iload dX6_copy_158 rfl ?_
  refine o_iadd dX6_copy_160 ?_
  refine o_aload_n dX6_copy_161 rfl ?_
  refine h_get (v := .ref 69) dX6_copy_162 q6 fl_X6_84 (by decide) (px_ltM (by decide)) (c48 _) rfl ?_
  refine o_bipush (v := 40) dX6_copy_165 (by decide) ?_
  refine o_iload_n dX6_copy_167 rfl ?_
  refine o_imul dX6_copy_168 ?_
  refine o_iload_n dX6_copy_169 rfl ?_
  refine o_iadd dX6_copy_170 ?_
  refine o_iload dX6_copy_171 rfl ?_
  refine o_iadd dX6_copy_173 ?_
  refine h_iald (n := 160) dX6_copy_174 (px_ltM (by decide)) (c69 _) (fun u1 => ?_)
  refine h_iast (n := 160) dX6_copy_175 (px_ltM (by decide)) c69 (fun u2 => ?_)
  refine o_iinc (v := (y7 + 1)) (L' := [some (.ref 48), some (.int y1), some (.int y2), some (.int y3), some (.int y4), some (.int y5), some (.int y6), some (.int (y7 + 1)), some (.int z0)]) dX6_copy_176 rfl rfl (Nat.le_of_ble_eq_true rfl) rfl rfl ?_
  refine o_goto (tgt := 121) dX6_copy_179 (by decide) ?_
  exact o_weak (L' := [some (.ref 48), some (.int y1), some (.int y2), some (.int y3), some (.int y4), some (.int y5), some (.int y6), some (.int (y7 + 1)), none]) ⟨rfl, ⟨rfl, ⟨rfl, ⟨rfl, ⟨rfl, ⟨rfl, ⟨rfl, ⟨rfl, trivial⟩⟩⟩⟩⟩⟩⟩⟩ (hk121 y1 y2 y3 y4 y5 y6 (y7 + 1) (up st 69 ((((40 : Int32) * y3) + y4) + z0).toNatClampNeg (st 69 ((((40 : Int32) * y1) + y2) + z0).toNatClampNeg)))
def f_X6_copy_121 (T : Nat) : Nat → Int32 → Int32 → Int32 → Int32 → Int32 → Int32 → Int32 → px_S → Option (Int32 × px_S)
  | 0, _, _, _, _, _, _, _, _ => none
  | n + 1, y1, y2, y3, y4, y5, y6, y7, st => (if y7 < y5 then (if y6 = 0 then (f_X6_copy_145 T (f_X6_copy_121 T n) y1 y2 y3 y4 y5 y6 y7 y7 st) else (f_X6_copy_145 T (f_X6_copy_121 T n) y1 y2 y3 y4 y5 y6 y7 ((y5 - 1) - y7) st)) else (some (y5, st)))
set_option maxRecDepth 20000 in
theorem t_X6_copy_121 (T : Nat) : ∀ (n : Nat) (y1 : Int32) (y2 : Int32) (y3 : Int32) (y4 : Int32) (y5 : Int32) (y6 : Int32) (y7 : Int32) (st : px_S), px_O (2, 0, 0, px_n (T + 2), m_X6_copy) (px_gi (T + 2)) (f_X6_copy_121 T n y1 y2 y3 y4 y5 y6 y7 st) 121 [some (.ref 48), some (.int y1), some (.int y2), some (.int y3), some (.int y4), some (.int y5), some (.int y6), some (.int y7), none] [] (HP (T + 2) st) 0 0 := by
  intro n
  induction n with
  | zero => intro y1 y2 y3 y4 y5 y6 y7 st; rw [f_X6_copy_121]; exact o_none
  | succ n ih =>
    intro y1 y2 y3 y4 y5 y6 y7 st
    rw [f_X6_copy_121]
    refine o_iload dX6_copy_121 rfl ?_
    refine o_iload dX6_copy_123 rfl ?_
    refine o_icmpge (tgt := 182) dX6_copy_125 (by decide) (fun u3 => ?_) (fun u3 => ?_)
    · refine o_iload dX6_copy_182 rfl ?_
      exact o_iret (rt := .int) rfl rfl dX6_copy_184 rfl (Nat.zero_le _) (Nat.zero_le _)
    · refine o_iload dX6_copy_128 rfl ?_
      refine o_ifeq (tgt := 143) dX6_copy_130 (by decide) (fun u4 => ?_) (fun u4 => ?_)
      · refine o_iload dX6_copy_143 rfl ?_
        exact (t_X6_copy_145 T (f_X6_copy_121 T n) ih y1 y2 y3 y4 y5 y6 y7 y7 st)
      · refine o_iload dX6_copy_133 rfl ?_
        refine o_iconst (v := 1) dX6_copy_135 (by decide) ?_
        refine o_isub dX6_copy_136 ?_
        refine o_iload dX6_copy_137 rfl ?_
        refine o_isub dX6_copy_139 ?_
        refine o_goto (tgt := 145) dX6_copy_140 (by decide) ?_
        exact (t_X6_copy_145 T (f_X6_copy_121 T n) ih y1 y2 y3 y4 y5 y6 y7 ((y5 - 1) - y7) st)
def f_X6_copy (T : Nat) (x0 : Int32) (x1 : Int32) (x2 : Int32) (x3 : Int32) (x4 : Int32) (st : px_S) : Option (Int32 × px_S) := ((f_X6_isSheet x0).bind fun b5 => (if b5 = 0 then (some ((-2), st)) else ((f_X6_isSheet x2).bind fun b7 => (if b7 = 0 then (some ((-2), st)) else (if px_in x0 4 then (if (st 66 x0.toNatClampNeg) = 0 then (some ((-11), st)) else (if px_in x2 4 then (if (st 66 x2.toNatClampNeg) = 0 then (some ((-11), st)) else (if px_in x0 4 then (if px_in x2 4 then (if (st 67 x0.toNatClampNeg) = (st 67 x2.toNatClampNeg) then (if x4 < 0 then (some ((-12), st)) else (if x1 < 0 then (some ((-12), st)) else (if x3 < 0 then (some ((-12), st)) else (if px_in x0 4 then (if ((st 68 x0.toNatClampNeg) - x4) < x1 then (some ((-12), st)) else (if px_in x2 4 then (if ((st 68 x2.toNatClampNeg) - x4) < x3 then (some ((-12), st)) else (if x0 = x2 then (if x1 < x3 then (f_X6_copy_121 T 1000 x0 x1 x2 x3 x4 1 0 st) else (f_X6_copy_121 T 1000 x0 x1 x2 x3 x4 0 0 st)) else (f_X6_copy_121 T 1000 x0 x1 x2 x3 x4 0 0 st))) else none)) else none)))) else (some ((-13), st))) else none) else none)) else none)) else none)))))
set_option maxRecDepth 20000 in
theorem t_X6_copy (T : Nat) (x0 : Int32) (x1 : Int32) (x2 : Int32) (x3 : Int32) (x4 : Int32) (st : px_S) : px_O (2, 0, 0, px_n (T + 2), m_X6_copy) (px_gi (T + 2)) (f_X6_copy T x0 x1 x2 x3 x4 st) 0 [some (.ref 48), some (.int x0), some (.int x1), some (.int x2), some (.int x3), some (.int x4), none, none, none] [] (HP (T + 2) st) 0 0 := by
  rw [f_X6_copy]
  refine o_iload_n dX6_copy_0 rfl ?_
  refine h_cS0 (as := [.int x0]) (S1 := []) (d' := 1) dX6_copy_1 mf_X6_isSheet ml_X6_442 ms_X6_isSheet rfl (Nat.le_of_ble_eq_true rfl) rfl (Nat.le_of_ble_eq_true rfl) ⟨Nat.zero_le _, Nat.zero_le _⟩ (fun b hb => k_X6_isSheet hb) (fun b5 hb5 => ?_)
  refine o_ifeq (tgt := 14) dX6_copy_4 (by decide) (fun u6 => ?_) (fun u6 => ?_)
  · refine o_bipush (v := (-2)) dX6_copy_14 (by decide) ?_
    exact o_iret (rt := .int) rfl rfl dX6_copy_16 rfl (Nat.zero_le _) (Nat.zero_le _)
  · refine o_iload_n dX6_copy_7 rfl ?_
    refine h_cS0 (as := [.int x2]) (S1 := []) (d' := 1) dX6_copy_8 mf_X6_isSheet ml_X6_442 ms_X6_isSheet rfl (Nat.le_of_ble_eq_true rfl) rfl (Nat.le_of_ble_eq_true rfl) ⟨Nat.zero_le _, Nat.zero_le _⟩ (fun b hb => k_X6_isSheet hb) (fun b7 hb7 => ?_)
    refine o_ifne (tgt := 17) dX6_copy_11 (by decide) (fun u8 => ?_) (fun u8 => ?_)
    · refine o_aload_n dX6_copy_17 rfl ?_
      refine h_get (v := .ref 66) dX6_copy_18 q6 fl_X6_74 (by decide) (px_ltM (by decide)) (c48 _) rfl ?_
      refine o_iload_n dX6_copy_21 rfl ?_
      refine h_zald (n := 4) dX6_copy_22 (px_ltM (by decide)) (c66 _) (fun u9 => ?_)
      refine o_ifeq (tgt := 35) dX6_copy_23 (by decide) (fun u10 => ?_) (fun u10 => ?_)
      · refine o_bipush (v := (-11)) dX6_copy_35 (by decide) ?_
        exact o_iret (rt := .int) rfl rfl dX6_copy_37 rfl (Nat.zero_le _) (Nat.zero_le _)
      · refine o_aload_n dX6_copy_26 rfl ?_
        refine h_get (v := .ref 66) dX6_copy_27 q6 fl_X6_74 (by decide) (px_ltM (by decide)) (c48 _) rfl ?_
        refine o_iload_n dX6_copy_30 rfl ?_
        refine h_zald (n := 4) dX6_copy_31 (px_ltM (by decide)) (c66 _) (fun u11 => ?_)
        refine o_ifne (tgt := 38) dX6_copy_32 (by decide) (fun u12 => ?_) (fun u12 => ?_)
        · refine o_aload_n dX6_copy_38 rfl ?_
          refine h_get (v := .ref 67) dX6_copy_39 q6 fl_X6_78 (by decide) (px_ltM (by decide)) (c48 _) rfl ?_
          refine o_iload_n dX6_copy_42 rfl ?_
          refine h_iald (n := 4) dX6_copy_43 (px_ltM (by decide)) (c67 _) (fun u13 => ?_)
          refine o_aload_n dX6_copy_44 rfl ?_
          refine h_get (v := .ref 67) dX6_copy_45 q6 fl_X6_78 (by decide) (px_ltM (by decide)) (c48 _) rfl ?_
          refine o_iload_n dX6_copy_48 rfl ?_
          refine h_iald (n := 4) dX6_copy_49 (px_ltM (by decide)) (c67 _) (fun u14 => ?_)
          refine o_icmpeq (tgt := 56) dX6_copy_50 (by decide) (fun u15 => ?_) (fun u15 => ?_)
          · refine o_iload dX6_copy_56 rfl ?_
            refine o_iflt (tgt := 97) dX6_copy_58 (by decide) (fun u16 => ?_) (fun u16 => ?_)
            · refine o_bipush (v := (-12)) dX6_copy_97 (by decide) ?_
              exact o_iret (rt := .int) rfl rfl dX6_copy_99 rfl (Nat.zero_le _) (Nat.zero_le _)
            · refine o_iload_n dX6_copy_61 rfl ?_
              refine o_iflt (tgt := 97) dX6_copy_62 (by decide) (fun u17 => ?_) (fun u17 => ?_)
              · refine o_bipush (v := (-12)) dX6_copy_97 (by decide) ?_
                exact o_iret (rt := .int) rfl rfl dX6_copy_99 rfl (Nat.zero_le _) (Nat.zero_le _)
              · refine o_iload dX6_copy_65 rfl ?_
                refine o_iflt (tgt := 97) dX6_copy_67 (by decide) (fun u18 => ?_) (fun u18 => ?_)
                · refine o_bipush (v := (-12)) dX6_copy_97 (by decide) ?_
                  exact o_iret (rt := .int) rfl rfl dX6_copy_99 rfl (Nat.zero_le _) (Nat.zero_le _)
                · refine o_iload_n dX6_copy_70 rfl ?_
                  refine o_aload_n dX6_copy_71 rfl ?_
                  refine h_get (v := .ref 68) dX6_copy_72 q6 fl_X6_81 (by decide) (px_ltM (by decide)) (c48 _) rfl ?_
                  refine o_iload_n dX6_copy_75 rfl ?_
                  refine h_iald (n := 4) dX6_copy_76 (px_ltM (by decide)) (c68 _) (fun u19 => ?_)
                  refine o_iload dX6_copy_77 rfl ?_
                  refine o_isub dX6_copy_79 ?_
                  refine o_icmpgt (tgt := 97) dX6_copy_80 (by decide) (fun u20 => ?_) (fun u20 => ?_)
                  · refine o_bipush (v := (-12)) dX6_copy_97 (by decide) ?_
                    exact o_iret (rt := .int) rfl rfl dX6_copy_99 rfl (Nat.zero_le _) (Nat.zero_le _)
                  · refine o_iload dX6_copy_83 rfl ?_
                    refine o_aload_n dX6_copy_85 rfl ?_
                    refine h_get (v := .ref 68) dX6_copy_86 q6 fl_X6_81 (by decide) (px_ltM (by decide)) (c48 _) rfl ?_
                    refine o_iload_n dX6_copy_89 rfl ?_
                    refine h_iald (n := 4) dX6_copy_90 (px_ltM (by decide)) (c68 _) (fun u21 => ?_)
                    refine o_iload dX6_copy_91 rfl ?_
                    refine o_isub dX6_copy_93 ?_
                    refine o_icmple (tgt := 100) dX6_copy_94 (by decide) (fun u22 => ?_) (fun u22 => ?_)
                    · refine o_iload_n dX6_copy_100 rfl ?_
                      refine o_iload_n dX6_copy_101 rfl ?_
                      refine o_icmpne (tgt := 115) dX6_copy_102 (by decide) (fun u23 => ?_) (fun u23 => ?_)
                      · refine o_iconst (v := 0) dX6_copy_115 (by decide) ?_
                        refine o_istore (L' := [some (.ref 48), some (.int x0), some (.int x1), some (.int x2), some (.int x3), some (.int x4), some (.int 0), none, none]) dX6_copy_116 (Nat.le_of_ble_eq_true rfl) rfl rfl ?_
                        refine o_iconst (v := 0) dX6_copy_118 (by decide) ?_
                        refine o_istore (L' := [some (.ref 48), some (.int x0), some (.int x1), some (.int x2), some (.int x3), some (.int x4), some (.int 0), some (.int 0), none]) dX6_copy_119 (Nat.le_of_ble_eq_true rfl) rfl rfl ?_
                        exact (t_X6_copy_121 T 1000 x0 x1 x2 x3 x4 0 0 st)
                      · refine o_iload_n dX6_copy_105 rfl ?_
                        refine o_iload dX6_copy_106 rfl ?_
                        refine o_icmpge (tgt := 115) dX6_copy_108 (by decide) (fun u24 => ?_) (fun u24 => ?_)
                        · refine o_iconst (v := 0) dX6_copy_115 (by decide) ?_
                          refine o_istore (L' := [some (.ref 48), some (.int x0), some (.int x1), some (.int x2), some (.int x3), some (.int x4), some (.int 0), none, none]) dX6_copy_116 (Nat.le_of_ble_eq_true rfl) rfl rfl ?_
                          refine o_iconst (v := 0) dX6_copy_118 (by decide) ?_
                          refine o_istore (L' := [some (.ref 48), some (.int x0), some (.int x1), some (.int x2), some (.int x3), some (.int x4), some (.int 0), some (.int 0), none]) dX6_copy_119 (Nat.le_of_ble_eq_true rfl) rfl rfl ?_
                          exact (t_X6_copy_121 T 1000 x0 x1 x2 x3 x4 0 0 st)
                        · refine o_iconst (v := 1) dX6_copy_111 (by decide) ?_
                          refine o_goto (tgt := 116) dX6_copy_112 (by decide) ?_
                          refine o_istore (L' := [some (.ref 48), some (.int x0), some (.int x1), some (.int x2), some (.int x3), some (.int x4), some (.int 1), none, none]) dX6_copy_116 (Nat.le_of_ble_eq_true rfl) rfl rfl ?_
                          refine o_iconst (v := 0) dX6_copy_118 (by decide) ?_
                          refine o_istore (L' := [some (.ref 48), some (.int x0), some (.int x1), some (.int x2), some (.int x3), some (.int x4), some (.int 1), some (.int 0), none]) dX6_copy_119 (Nat.le_of_ble_eq_true rfl) rfl rfl ?_
                          exact (t_X6_copy_121 T 1000 x0 x1 x2 x3 x4 1 0 st)
                    · refine o_bipush (v := (-12)) dX6_copy_97 (by decide) ?_
                      exact o_iret (rt := .int) rfl rfl dX6_copy_99 rfl (Nat.zero_le _) (Nat.zero_le _)
          · refine o_bipush (v := (-13)) dX6_copy_53 (by decide) ?_
            exact o_iret (rt := .int) rfl rfl dX6_copy_55 rfl (Nat.zero_le _) (Nat.zero_le _)
        · refine o_bipush (v := (-11)) dX6_copy_35 (by decide) ?_
          exact o_iret (rt := .int) rfl rfl dX6_copy_37 rfl (Nat.zero_le _) (Nat.zero_le _)
    · refine o_bipush (v := (-2)) dX6_copy_14 (by decide) ?_
      exact o_iret (rt := .int) rfl rfl dX6_copy_16 rfl (Nat.zero_le _) (Nat.zero_le _)
theorem k_X6_copy {T : Nat} {st : px_S} {x0 : Int32} {x1 : Int32} {x2 : Int32} {x3 : Int32} {x4 : Int32} {b : Int32 × px_S} (hf : f_X6_copy T x0 x1 x2 x3 x4 st = some b) : px_K (2) 0 0 m_X6_copy [.ref 48, .int x0, .int x1, .int x2, .int x3, .int x4] (HP (T + 2) st) ((px_gi (T + 2)) b).1 ((px_gi (T + 2)) b).2 := px_KofH hf mf_X6_copy (Nat.le_of_ble_eq_true rfl) rfl (t_X6_copy T x0 x1 x2 x3 x4 st)
/-! ThreeOfThemModel.likes(IIII)I: S, depth 3 -/
def f_X6_likes_75 (T : Nat) : Nat → Int32 → Int32 → Int32 → Int32 → Int32 → px_S → Option (Int32 × px_S)
  | 0, _, _, _, _, _, _ => none
  | n + 1, y1, y3, y4, y5, y6, st => (if y6 < y4 then (if y3 < 0 then (some ((-12), st)) else (if px_in y1 4 then (if (((st 68 y1.toNatClampNeg) - ((3 : Int32) * y6)) - 3) < y3 then (some ((-12), st)) else (if px_in ((((40 : Int32) * y1) + y3) + ((3 : Int32) * y6)) 160 then (if px_in (((((40 : Int32) * y1) + y3) + ((3 : Int32) * y6)) + 1) 160 then (if px_in (((((40 : Int32) * y1) + y3) + ((3 : Int32) * y6)) + 2) 160 then ((f_X6_like T (st 69 ((((40 : Int32) * y1) + y3) + ((3 : Int32) * y6)).toNatClampNeg) (st 69 (((((40 : Int32) * y1) + y3) + ((3 : Int32) * y6)) + 1).toNatClampNeg) (st 69 (((((40 : Int32) * y1) + y3) + ((3 : Int32) * y6)) + 2).toNatClampNeg) st).bind fun b8 => (if b8.1 < 0 then ((f_X6_likes_75 T n) y1 y3 y4 (y5 + 0) (y6 + 1) b8.2) else ((f_X6_likes_75 T n) y1 y3 y4 (y5 + 1) (y6 + 1) b8.2))) else none) else none) else none)) else none)) else (some (y5, st)))
set_option maxRecDepth 20000 in
theorem t_X6_likes_75 (T : Nat) : ∀ (n : Nat) (y1 : Int32) (y3 : Int32) (y4 : Int32) (y5 : Int32) (y6 : Int32) (st : px_S), px_O (3, 0, 0, px_n (T + 2), m_X6_likes) (px_gi (T + 2)) (f_X6_likes_75 T n y1 y3 y4 y5 y6 st) 75 [some (.ref 48), some (.int y1), none, some (.int y3), some (.int y4), some (.int y5), some (.int y6), none] [] (HP (T + 2) st) 0 0 := by
  intro n
  induction n with
  | zero => intro y1 y3 y4 y5 y6 st; rw [f_X6_likes_75]; exact o_none
  | succ n ih =>
    intro y1 y3 y4 y5 y6 st
    rw [f_X6_likes_75]
    refine o_iload dX6_likes_75 rfl ?_
    refine o_iload dX6_likes_77 rfl ?_
    refine o_icmpge (tgt := 167) dX6_likes_79 (by decide) (fun u1 => ?_) (fun u1 => ?_)
    · refine o_iload dX6_likes_167 rfl ?_
      exact o_iret (rt := .int) rfl rfl dX6_likes_169 rfl (Nat.zero_le _) (Nat.zero_le _)
    · refine o_iload_n dX6_likes_82 rfl ?_
      refine o_iflt (tgt := 103) dX6_likes_83 (by decide) (fun u2 => ?_) (fun u2 => ?_)
      · refine o_bipush (v := (-12)) dX6_likes_103 (by decide) ?_
        exact o_iret (rt := .int) rfl rfl dX6_likes_105 rfl (Nat.zero_le _) (Nat.zero_le _)
      · refine o_iload_n dX6_likes_86 rfl ?_
        refine o_aload_n dX6_likes_87 rfl ?_
        refine h_get (v := .ref 68) dX6_likes_88 q6 fl_X6_81 (by decide) (px_ltM (by decide)) (c48 _) rfl ?_
        refine o_iload_n dX6_likes_91 rfl ?_
        refine h_iald (n := 4) dX6_likes_92 (px_ltM (by decide)) (c68 _) (fun u3 => ?_)
        refine o_iconst (v := 3) dX6_likes_93 (by decide) ?_
        refine o_iload dX6_likes_94 rfl ?_
        refine o_imul dX6_likes_96 ?_
        refine o_isub dX6_likes_97 ?_
        refine o_iconst (v := 3) dX6_likes_98 (by decide) ?_
        refine o_isub dX6_likes_99 ?_
        refine o_icmple (tgt := 106) dX6_likes_100 (by decide) (fun u4 => ?_) (fun u4 => ?_)
        · refine o_bipush (v := 40) dX6_likes_106 (by decide) ?_
          refine o_iload_n dX6_likes_108 rfl ?_
          refine o_imul dX6_likes_109 ?_
          refine o_iload_n dX6_likes_110 rfl ?_
          refine o_iadd dX6_likes_111 ?_
          refine o_iconst (v := 3) dX6_likes_112 (by decide) ?_
          refine o_iload dX6_likes_113 rfl ?_
          refine o_imul dX6_likes_115 ?_
          refine o_iadd dX6_likes_116 ?_
          refine o_istore (L' := [some (.ref 48), some (.int y1), none, some (.int y3), some (.int y4), some (.int y5), some (.int y6), some (.int ((((40 : Int32) * y1) + y3) + ((3 : Int32) * y6)))]) dX6_likes_117 (Nat.le_of_ble_eq_true rfl) rfl rfl ?_
          refine o_iload dX6_likes_119 rfl ?_
          refine o_aload_n dX6_likes_121 rfl ?_
          refine o_aload_n dX6_likes_122 rfl ?_
          refine h_get (v := .ref 69) dX6_likes_123 q6 fl_X6_84 (by decide) (px_ltM (by decide)) (c48 _) rfl ?_
          refine o_iload dX6_likes_126 rfl ?_
          refine h_iald (n := 160) dX6_likes_128 (px_ltM (by decide)) (c69 _) (fun u5 => ?_)
          refine o_aload_n dX6_likes_129 rfl ?_
          refine h_get (v := .ref 69) dX6_likes_130 q6 fl_X6_84 (by decide) (px_ltM (by decide)) (c48 _) rfl ?_
          refine o_iload dX6_likes_133 rfl ?_
          refine o_iconst (v := 1) dX6_likes_135 (by decide) ?_
          refine o_iadd dX6_likes_136 ?_
          refine h_iald (n := 160) dX6_likes_137 (px_ltM (by decide)) (c69 _) (fun u6 => ?_)
          refine o_aload_n dX6_likes_138 rfl ?_
          refine h_get (v := .ref 69) dX6_likes_139 q6 fl_X6_84 (by decide) (px_ltM (by decide)) (c48 _) rfl ?_
          refine o_iload dX6_likes_142 rfl ?_
          refine o_iconst (v := 2) dX6_likes_144 (by decide) ?_
          refine o_iadd dX6_likes_145 ?_
          refine h_iald (n := 160) dX6_likes_146 (px_ltM (by decide)) (c69 _) (fun u7 => ?_)
          refine h_cVi (as := [.int (st 69 ((((40 : Int32) * y1) + y3) + ((3 : Int32) * y6)).toNatClampNeg), .int (st 69 (((((40 : Int32) * y1) + y3) + ((3 : Int32) * y6)) + 1).toNatClampNeg), .int (st 69 (((((40 : Int32) * y1) + y3) + ((3 : Int32) * y6)) + 2).toNatClampNeg)]) (S1 := [.int y5]) (d' := 2) dX6_likes_147 mf_X6_like ml_X6_479 mv_X6_like q6 rfl (hp_at (px_ltM (by decide)) (c48 _)) rfl (Nat.le_of_ble_eq_true rfl) rfl (Nat.le_of_ble_eq_true rfl) (fun b hb => k_X6_like hb) (fun b8 hb8 => ?_)
          refine o_iflt (tgt := 157) dX6_likes_150 (by decide) (fun u9 => ?_) (fun u9 => ?_)
          · refine o_iconst (v := 0) dX6_likes_157 (by decide) ?_
            refine o_iadd dX6_likes_158 ?_
            refine o_istore (L' := [some (.ref 48), some (.int y1), none, some (.int y3), some (.int y4), some (.int (y5 + 0)), some (.int y6), some (.int ((((40 : Int32) * y1) + y3) + ((3 : Int32) * y6)))]) dX6_likes_159 (Nat.le_of_ble_eq_true rfl) rfl rfl ?_
            refine o_iinc (v := (y6 + 1)) (L' := [some (.ref 48), some (.int y1), none, some (.int y3), some (.int y4), some (.int (y5 + 0)), some (.int (y6 + 1)), some (.int ((((40 : Int32) * y1) + y3) + ((3 : Int32) * y6)))]) dX6_likes_161 rfl rfl (Nat.le_of_ble_eq_true rfl) rfl rfl ?_
            refine o_goto (tgt := 75) dX6_likes_164 (by decide) ?_
            exact o_weak (L' := [some (.ref 48), some (.int y1), none, some (.int y3), some (.int y4), some (.int (y5 + 0)), some (.int (y6 + 1)), none]) ⟨rfl, ⟨rfl, ⟨rfl, ⟨rfl, ⟨rfl, ⟨rfl, trivial⟩⟩⟩⟩⟩⟩ (ih y1 y3 y4 (y5 + 0) (y6 + 1) b8.2)
          · refine o_iconst (v := 1) dX6_likes_153 (by decide) ?_
            refine o_goto (tgt := 158) dX6_likes_154 (by decide) ?_
            refine o_iadd dX6_likes_158 ?_
            refine o_istore (L' := [some (.ref 48), some (.int y1), none, some (.int y3), some (.int y4), some (.int (y5 + 1)), some (.int y6), some (.int ((((40 : Int32) * y1) + y3) + ((3 : Int32) * y6)))]) dX6_likes_159 (Nat.le_of_ble_eq_true rfl) rfl rfl ?_
            refine o_iinc (v := (y6 + 1)) (L' := [some (.ref 48), some (.int y1), none, some (.int y3), some (.int y4), some (.int (y5 + 1)), some (.int (y6 + 1)), some (.int ((((40 : Int32) * y1) + y3) + ((3 : Int32) * y6)))]) dX6_likes_161 rfl rfl (Nat.le_of_ble_eq_true rfl) rfl rfl ?_
            refine o_goto (tgt := 75) dX6_likes_164 (by decide) ?_
            exact o_weak (L' := [some (.ref 48), some (.int y1), none, some (.int y3), some (.int y4), some (.int (y5 + 1)), some (.int (y6 + 1)), none]) ⟨rfl, ⟨rfl, ⟨rfl, ⟨rfl, ⟨rfl, ⟨rfl, trivial⟩⟩⟩⟩⟩⟩ (ih y1 y3 y4 (y5 + 1) (y6 + 1) b8.2)
        · refine o_bipush (v := (-12)) dX6_likes_103 (by decide) ?_
          exact o_iret (rt := .int) rfl rfl dX6_likes_105 rfl (Nat.zero_le _) (Nat.zero_le _)
def f_X6_likes_57 (T : Nat) (y1 : Int32) (y3 : Int32) (y4 : Int32) (st : px_S) : Option (Int32 × px_S) := (if px_in y1 4 then (if (st 66 y1.toNatClampNeg) = 0 then (some ((-11), st)) else (f_X6_likes_75 T 1000 y1 y3 y4 0 0 st)) else none)
set_option maxRecDepth 20000 in
theorem t_X6_likes_57 (T : Nat) (y1 : Int32) (y3 : Int32) (y4 : Int32) (st : px_S) : px_O (3, 0, 0, px_n (T + 2), m_X6_likes) (px_gi (T + 2)) (f_X6_likes_57 T y1 y3 y4 st) 57 [some (.ref 48), some (.int y1), none, some (.int y3), some (.int y4), none, none, none] [] (HP (T + 2) st) 0 0 := by
  rw [f_X6_likes_57]
  refine o_aload_n dX6_likes_57 rfl ?_
  refine h_get (v := .ref 66) dX6_likes_58 q6 fl_X6_74 (by decide) (px_ltM (by decide)) (c48 _) rfl ?_
  refine o_iload_n dX6_likes_61 rfl ?_
  refine h_zald (n := 4) dX6_likes_62 (px_ltM (by decide)) (c66 _) (fun u10 => ?_)
  refine o_ifne (tgt := 69) dX6_likes_63 (by decide) (fun u11 => ?_) (fun u11 => ?_)
  · refine o_iconst (v := 0) dX6_likes_69 (by decide) ?_
    refine o_istore (L' := [some (.ref 48), some (.int y1), none, some (.int y3), some (.int y4), some (.int 0), none, none]) dX6_likes_70 (Nat.le_of_ble_eq_true rfl) rfl rfl ?_
    refine o_iconst (v := 0) dX6_likes_72 (by decide) ?_
    refine o_istore (L' := [some (.ref 48), some (.int y1), none, some (.int y3), some (.int y4), some (.int 0), some (.int 0), none]) dX6_likes_73 (Nat.le_of_ble_eq_true rfl) rfl rfl ?_
    exact (t_X6_likes_75 T 1000 y1 y3 y4 0 0 st)
  · refine o_bipush (v := (-11)) dX6_likes_66 (by decide) ?_
    exact o_iret (rt := .int) rfl rfl dX6_likes_68 rfl (Nat.zero_le _) (Nat.zero_le _)
def f_X6_likes (T : Nat) (x0 : Int32) (x1 : Int32) (x2 : Int32) (x3 : Int32) (st : px_S) : Option (Int32 × px_S) := ((f_X6_isSheet x0).bind fun b12 => (if b12 = 0 then (some ((-2), st)) else (if (p_X6_in x1.toInt64 0 2) = 0 then (some ((-2), st)) else (if (p_X6_in x3.toInt64 0 13) = 0 then (some ((-2), st)) else (if px_in x0 4 then (if (st 66 x0.toNatClampNeg) = 0 then (f_X6_likes_57 T x0 x2 x3 st) else (if px_in x0 4 then (if (st 67 x0.toNatClampNeg) = x1 then (f_X6_likes_57 T x0 x2 x3 st) else (some ((-13), st))) else none)) else none)))))
set_option maxRecDepth 20000 in
theorem t_X6_likes (T : Nat) (x0 : Int32) (x1 : Int32) (x2 : Int32) (x3 : Int32) (st : px_S) : px_O (3, 0, 0, px_n (T + 2), m_X6_likes) (px_gi (T + 2)) (f_X6_likes T x0 x1 x2 x3 st) 0 [some (.ref 48), some (.int x0), some (.int x1), some (.int x2), some (.int x3), none, none, none] [] (HP (T + 2) st) 0 0 := by
  rw [f_X6_likes]
  refine o_iload_n dX6_likes_0 rfl ?_
  refine h_cS0 (as := [.int x0]) (S1 := []) (d' := 1) dX6_likes_1 mf_X6_isSheet ml_X6_442 ms_X6_isSheet rfl (Nat.le_of_ble_eq_true rfl) rfl (Nat.le_of_ble_eq_true rfl) ⟨Nat.zero_le _, Nat.zero_le _⟩ (fun b hb => k_X6_isSheet hb) (fun b12 hb12 => ?_)
  refine o_ifeq (tgt := 32) dX6_likes_4 (by decide) (fun u13 => ?_) (fun u13 => ?_)
  · refine o_bipush (v := (-2)) dX6_likes_32 (by decide) ?_
    exact o_iret (rt := .int) rfl rfl dX6_likes_34 rfl (Nat.zero_le _) (Nat.zero_le _)
  · refine o_iload_n dX6_likes_7 rfl ?_
    refine o_i2l dX6_likes_8 ?_
    refine o_lconst (v := 0) dX6_likes_9 (by decide) ?_
    refine o_ldc2 (v := 2) dX6_likes_10 cst_X6_122 ?_
    refine h_cSP (as := [.long x1.toInt64, .long 0, .long 2]) (S1 := []) (d' := 0) dX6_likes_13 mf_X6_in ml_X6_97 ms_X6_in rfl (Nat.le_of_ble_eq_true rfl) rfl (Nat.le_of_ble_eq_true rfl) ⟨Nat.zero_le _, Nat.zero_le _⟩ (k_X6_in) ?_
    refine o_ifeq (tgt := 32) dX6_likes_16 (by decide) (fun u14 => ?_) (fun u14 => ?_)
    · refine o_bipush (v := (-2)) dX6_likes_32 (by decide) ?_
      exact o_iret (rt := .int) rfl rfl dX6_likes_34 rfl (Nat.zero_le _) (Nat.zero_le _)
    · refine o_iload dX6_likes_19 rfl ?_
      refine o_i2l dX6_likes_21 ?_
      refine o_lconst (v := 0) dX6_likes_22 (by decide) ?_
      refine o_ldc2 (v := 13) dX6_likes_23 cst_X6_477 ?_
      refine h_cSP (as := [.long x3.toInt64, .long 0, .long 13]) (S1 := []) (d' := 0) dX6_likes_26 mf_X6_in ml_X6_97 ms_X6_in rfl (Nat.le_of_ble_eq_true rfl) rfl (Nat.le_of_ble_eq_true rfl) ⟨Nat.zero_le _, Nat.zero_le _⟩ (k_X6_in) ?_
      refine o_ifne (tgt := 35) dX6_likes_29 (by decide) (fun u15 => ?_) (fun u15 => ?_)
      · refine o_aload_n dX6_likes_35 rfl ?_
        refine h_get (v := .ref 66) dX6_likes_36 q6 fl_X6_74 (by decide) (px_ltM (by decide)) (c48 _) rfl ?_
        refine o_iload_n dX6_likes_39 rfl ?_
        refine h_zald (n := 4) dX6_likes_40 (px_ltM (by decide)) (c66 _) (fun u16 => ?_)
        refine o_ifeq (tgt := 57) dX6_likes_41 (by decide) (fun u17 => ?_) (fun u17 => ?_)
        · exact o_weak (L' := [some (.ref 48), some (.int x0), none, some (.int x2), some (.int x3), none, none, none]) ⟨rfl, ⟨rfl, ⟨rfl, ⟨rfl, trivial⟩⟩⟩⟩ (t_X6_likes_57 T x0 x2 x3 st)
        · refine o_aload_n dX6_likes_44 rfl ?_
          refine h_get (v := .ref 67) dX6_likes_45 q6 fl_X6_78 (by decide) (px_ltM (by decide)) (c48 _) rfl ?_
          refine o_iload_n dX6_likes_48 rfl ?_
          refine h_iald (n := 4) dX6_likes_49 (px_ltM (by decide)) (c67 _) (fun u18 => ?_)
          refine o_iload_n dX6_likes_50 rfl ?_
          refine o_icmpeq (tgt := 57) dX6_likes_51 (by decide) (fun u19 => ?_) (fun u19 => ?_)
          · exact o_weak (L' := [some (.ref 48), some (.int x0), none, some (.int x2), some (.int x3), none, none, none]) ⟨rfl, ⟨rfl, ⟨rfl, ⟨rfl, trivial⟩⟩⟩⟩ (t_X6_likes_57 T x0 x2 x3 st)
          · refine o_bipush (v := (-13)) dX6_likes_54 (by decide) ?_
            exact o_iret (rt := .int) rfl rfl dX6_likes_56 rfl (Nat.zero_le _) (Nat.zero_le _)
      · refine o_bipush (v := (-2)) dX6_likes_32 (by decide) ?_
        exact o_iret (rt := .int) rfl rfl dX6_likes_34 rfl (Nat.zero_le _) (Nat.zero_le _)
theorem k_X6_likes {T : Nat} {st : px_S} {x0 : Int32} {x1 : Int32} {x2 : Int32} {x3 : Int32} {b : Int32 × px_S} (hf : f_X6_likes T x0 x1 x2 x3 st = some b) : px_K (3) 0 0 m_X6_likes [.ref 48, .int x0, .int x1, .int x2, .int x3] (HP (T + 2) st) ((px_gi (T + 2)) b).1 ((px_gi (T + 2)) b).2 := px_KofH hf mf_X6_likes (Nat.le_of_ble_eq_true rfl) rfl (t_X6_likes T x0 x1 x2 x3 st)
/-! ThreeOfThemModel.taken(II)I: R, depth 2 -/
def f_X6_taken_51 (T : Nat) (st : px_S) (y1 : Int32) (y2 : Int32) (y3 : Int32) : Option (Int32) := (if y3 = y2 then (if px_in y1 7 then (some (st 53 y1.toNatClampNeg)) else none) else (some (-13)))
set_option maxRecDepth 20000 in
theorem t_X6_taken_51 (T : Nat) (st : px_S) (y1 : Int32) (y2 : Int32) (y3 : Int32) : px_O (2, 0, 0, px_n (T + 2), m_X6_taken) (px_g0 (HP (T + 2) st)) (f_X6_taken_51 T st y1 y2 y3) 51 [some (.ref 48), some (.int y1), some (.int y2), some (.int y3)] [] (HP (T + 2) st) 0 0 := by
  rw [f_X6_taken_51]
  refine o_iload_n dX6_taken_51 rfl ?_
  refine o_iload_n dX6_taken_52 rfl ?_
  refine o_icmpne (tgt := 65) dX6_taken_53 (by decide) (fun u1 => ?_) (fun u1 => ?_)
  · refine o_bipush (v := (-13)) dX6_taken_65 (by decide) ?_
    exact o_iret (rt := .int) rfl rfl dX6_taken_67 rfl (Nat.zero_le _) (Nat.zero_le _)
  · refine o_aload_n dX6_taken_56 rfl ?_
    refine h_get (v := .ref 53) dX6_taken_57 q6 fl_X6_26 (by decide) (px_ltM (by decide)) (c48 _) rfl ?_
    refine o_iload_n dX6_taken_60 rfl ?_
    refine h_iald (n := 7) dX6_taken_61 (px_ltM (by decide)) (c53 _) (fun u2 => ?_)
    refine o_goto (tgt := 67) dX6_taken_62 (by decide) ?_
    exact o_iret (rt := .int) rfl rfl dX6_taken_67 rfl (Nat.zero_le _) (Nat.zero_le _)
def f_X6_taken_33 (T : Nat) (st : px_S) : Nat → Int32 → Int32 → Int32 → Option (Int32)
  | 0, _, _, _ => none
  | n + 1, y1, y2, y3 => (if y3 = (-1) then (f_X6_taken_51 T st y1 y2 y3) else (if y3 = y2 then (f_X6_taken_51 T st y1 y2 y3) else ((f_X6_taken_33 T st n) y1 y2 (p_X6_over y3))))
set_option maxRecDepth 20000 in
theorem t_X6_taken_33 (T : Nat) (st : px_S) : ∀ (n : Nat) (y1 : Int32) (y2 : Int32) (y3 : Int32), px_O (2, 0, 0, px_n (T + 2), m_X6_taken) (px_g0 (HP (T + 2) st)) (f_X6_taken_33 T st n y1 y2 y3) 33 [some (.ref 48), some (.int y1), some (.int y2), some (.int y3)] [] (HP (T + 2) st) 0 0 := by
  intro n
  induction n with
  | zero => intro y1 y2 y3; rw [f_X6_taken_33]; exact o_none
  | succ n ih =>
    intro y1 y2 y3
    rw [f_X6_taken_33]
    refine o_iload_n dX6_taken_33 rfl ?_
    refine o_iconst (v := (-1)) dX6_taken_34 (by decide) ?_
    refine o_icmpeq (tgt := 51) dX6_taken_35 (by decide) (fun u3 => ?_) (fun u3 => ?_)
    · exact (t_X6_taken_51 T st y1 y2 y3)
    · refine o_iload_n dX6_taken_38 rfl ?_
      refine o_iload_n dX6_taken_39 rfl ?_
      refine o_icmpeq (tgt := 51) dX6_taken_40 (by decide) (fun u4 => ?_) (fun u4 => ?_)
      · exact (t_X6_taken_51 T st y1 y2 y3)
      · refine o_iload_n dX6_taken_43 rfl ?_
        refine h_cSP (as := [.int y3]) (S1 := []) (d' := 0) dX6_taken_44 mf_X6_over ml_X6_482 ms_X6_over rfl (Nat.le_of_ble_eq_true rfl) rfl (Nat.le_of_ble_eq_true rfl) ⟨Nat.zero_le _, Nat.zero_le _⟩ (k_X6_over) ?_
        refine o_istore_n (L' := [some (.ref 48), some (.int y1), some (.int y2), some (.int (p_X6_over y3))]) dX6_taken_47 (Nat.le_of_ble_eq_true rfl) rfl rfl ?_
        refine o_goto (tgt := 33) dX6_taken_48 (by decide) ?_
        exact (ih y1 y2 (p_X6_over y3))
def f_X6_taken (T : Nat) (st : px_S) (x0 : Int32) (x1 : Int32) : Option (Int32) := (if (p_X6_in x1.toInt64 0 5) = 0 then (some (-2)) else ((f_X6_isOne T st x0).bind fun b6 => (if b6 = 0 then (some (-11)) else (if px_in x0 7 then (f_X6_taken_33 T st 1000 x0 x1 (st 52 x0.toNatClampNeg)) else none))))
set_option maxRecDepth 20000 in
theorem t_X6_taken (T : Nat) (st : px_S) (x0 : Int32) (x1 : Int32) : px_O (2, 0, 0, px_n (T + 2), m_X6_taken) (px_g0 (HP (T + 2) st)) (f_X6_taken T st x0 x1) 0 [some (.ref 48), some (.int x0), some (.int x1), none] [] (HP (T + 2) st) 0 0 := by
  rw [f_X6_taken]
  refine o_iload_n dX6_taken_0 rfl ?_
  refine o_i2l dX6_taken_1 ?_
  refine o_lconst (v := 0) dX6_taken_2 (by decide) ?_
  refine o_ldc2 (v := 5) dX6_taken_3 cst_X6_108 ?_
  refine h_cSP (as := [.long x1.toInt64, .long 0, .long 5]) (S1 := []) (d' := 0) dX6_taken_6 mf_X6_in ml_X6_97 ms_X6_in rfl (Nat.le_of_ble_eq_true rfl) rfl (Nat.le_of_ble_eq_true rfl) ⟨Nat.zero_le _, Nat.zero_le _⟩ (k_X6_in) ?_
  refine o_ifne (tgt := 15) dX6_taken_9 (by decide) (fun u5 => ?_) (fun u5 => ?_)
  · refine o_aload_n dX6_taken_15 rfl ?_
    refine o_iload_n dX6_taken_16 rfl ?_
    refine h_cV0 (as := [.int x0]) (S1 := []) (d' := 1) dX6_taken_17 mf_X6_isOne ml_X6_101 mv_X6_isOne q6 rfl (hp_at (px_ltM (by decide)) (c48 _)) rfl (Nat.le_of_ble_eq_true rfl) rfl (Nat.le_of_ble_eq_true rfl) ⟨Nat.zero_le _, Nat.zero_le _⟩ (fun b hb => k_X6_isOne hb) (fun b6 hb6 => ?_)
    refine o_ifne (tgt := 26) dX6_taken_20 (by decide) (fun u7 => ?_) (fun u7 => ?_)
    · refine o_aload_n dX6_taken_26 rfl ?_
      refine h_get (v := .ref 52) dX6_taken_27 q6 fl_X6_23 (by decide) (px_ltM (by decide)) (c48 _) rfl ?_
      refine o_iload_n dX6_taken_30 rfl ?_
      refine h_iald (n := 7) dX6_taken_31 (px_ltM (by decide)) (c52 _) (fun u8 => ?_)
      refine o_istore_n (L' := [some (.ref 48), some (.int x0), some (.int x1), some (.int (st 52 x0.toNatClampNeg))]) dX6_taken_32 (Nat.le_of_ble_eq_true rfl) rfl rfl ?_
      exact (t_X6_taken_33 T st 1000 x0 x1 (st 52 x0.toNatClampNeg))
    · refine o_bipush (v := (-11)) dX6_taken_23 (by decide) ?_
      exact o_iret (rt := .int) rfl rfl dX6_taken_25 rfl (Nat.zero_le _) (Nat.zero_le _)
  · refine o_bipush (v := (-2)) dX6_taken_12 (by decide) ?_
    exact o_iret (rt := .int) rfl rfl dX6_taken_14 rfl (Nat.zero_le _) (Nat.zero_le _)
theorem k_X6_taken_o {T : Nat} {st : px_S} {x0 : Int32} {x1 : Int32} {b : Int32} (hf : f_X6_taken T st x0 x1 = some b) : px_K (2) 0 0 m_X6_taken [.ref 48, .int x0, .int x1] (HP (T + 2) st) (some (.int b)) (HP (T + 2) st) := px_KofH (g := px_g0 (HP (T + 2) st)) hf mf_X6_taken (Nat.le_of_ble_eq_true rfl) rfl (t_X6_taken T st x0 x1)
theorem k_X6_taken {T : Nat} {st : px_S} {x0 : Int32} {x1 : Int32} {b : Int32} (hf : f_X6_taken T st x0 x1 = some b) : px_K (2) 0 0 m_X6_taken [.ref 48, .int x0, .int x1] (HP (T + 2) st) (some (.int b)) (HP (T + 2) st) := k_X6_taken_o hf
