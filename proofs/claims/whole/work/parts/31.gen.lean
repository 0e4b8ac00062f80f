/-! ThreeOfThemModel.opens()Z: S, depth 2 -/
def f_X6_opens (T : Nat) (st : px_S) : Option (Int32 × px_S) := (if (st 48 28) = 5 then ((f_X6_fail T st).bind fun b3 => (some (0, b3))) else ((f_X6_next T (up st 48 28 ((st 48 28) + 1))).bind fun b2 => (some (1, b2))))
set_option maxRecDepth 20000 in
theorem t_X6_opens (T : Nat) (st : px_S) : px_O (2, 0, 0, px_n (T + 2), m_X6_opens) (px_gi (T + 2)) (f_X6_opens T st) 0 [some (.ref 48)] [] (HP (T + 2) st) 0 0 := by
  rw [f_X6_opens]
  refine o_aload_n dX6_opens_0 rfl ?_
  refine h_get (v := .int (st 48 28)) dX6_opens_1 q6 fl_X6_179 (by decide) (px_ltM (by decide)) (c48 _) rfl ?_
  refine o_iconst (v := 5) dX6_opens_4 (by decide) ?_
  refine o_icmpne (tgt := 14) dX6_opens_5 (by decide) (fun u1 => ?_) (fun u1 => ?_)
  · refine o_aload_n dX6_opens_14 rfl ?_
    refine o_dup dX6_opens_15 rfl ?_
    refine h_get (v := .int (st 48 28)) dX6_opens_16 q6 fl_X6_179 (by decide) (px_ltM (by decide)) (c48 _) rfl ?_
    refine o_iconst (v := 1) dX6_opens_19 (by decide) ?_
    refine o_iadd dX6_opens_20 ?_
    refine h_puti dX6_opens_21 q6 fl_X6_179 pf_X6_28 (px_ltM (by decide)) (c48 _) (Nat.le_of_ble_eq_true rfl) (s48_28 _ _) ?_
    refine o_aload_n dX6_opens_24 rfl ?_
    refine h_cVv (as := []) (S1 := []) (d' := 1) dX6_opens_25 mf_X6_next ml_X6_185 mv_X6_next q6 rfl (hp_at (px_ltM (by decide)) (c48 _)) rfl (Nat.le_of_ble_eq_true rfl) rfl (Nat.le_of_ble_eq_true rfl) (fun b hb => k_X6_next hb) (fun b2 hb2 => ?_)
    refine o_iconst (v := 1) dX6_opens_28 (by decide) ?_
    exact o_iret (rt := .boolean) rfl rfl dX6_opens_29 rfl (Nat.zero_le _) (Nat.zero_le _)
  · refine o_aload_n dX6_opens_8 rfl ?_
    refine h_cVv (as := []) (S1 := []) (d' := 0) dX6_opens_9 mf_X6_fail ml_X6_182 mv_X6_fail q6 rfl (hp_at (px_ltM (by decide)) (c48 _)) rfl (Nat.le_of_ble_eq_true rfl) rfl (Nat.le_of_ble_eq_true rfl) (fun b hb => k_X6_fail hb) (fun b3 hb3 => ?_)
    refine o_iconst (v := 0) dX6_opens_12 (by decide) ?_
    exact o_iret (rt := .boolean) rfl rfl dX6_opens_13 rfl (Nat.zero_le _) (Nat.zero_le _)
theorem k_X6_opens {T : Nat} {st : px_S} {b : Int32 × px_S} (hf : f_X6_opens T st = some b) : px_K (2) 0 0 m_X6_opens [.ref 48] (HP (T + 2) st) ((px_gi (T + 2)) b).1 ((px_gi (T + 2)) b).2 := px_KofH hf mf_X6_opens (Nat.le_of_ble_eq_true rfl) rfl (t_X6_opens T st)
/-! ThreeOfThemModel.name()I: S, depth 3 -/
def f_X6_name (T : Nat) (st : px_S) : Option (Int32 × px_S) := ((f_X6_isWord T st 108 105 107 101 0 0 0 0).bind fun b1 => (if b1 = 0 then ((f_X6_isWord T st 109 97 110 121 0 0 0 0).bind fun b3 => (if b3 = 0 then ((f_X6_isWord T st 115 104 97 114 101 0 0 0).bind fun b5 => (if b5 = 0 then ((f_X6_isWord T st 100 97 121 115 0 0 0 0).bind fun b7 => (if b7 = 0 then ((f_X6_isWord T st 111 110 101 0 0 0 0 0).bind fun b9 => (if b9 = 0 then ((f_X6_isWord T st 111 116 104 101 114 0 0 0).bind fun b11 => (if b11 = 0 then ((f_X6_fail T st).bind fun b13 => (some (0, b13))) else (some ((st 48 21), st)))) else (some ((st 48 20), st)))) else (some ((st 48 19), st)))) else (some ((st 48 18), st)))) else (some ((st 48 17), st)))) else (some ((st 48 16), st))))
set_option maxRecDepth 20000 in
theorem t_X6_name (T : Nat) (st : px_S) : px_O (3, 0, 0, px_n (T + 2), m_X6_name) (px_gi (T + 2)) (f_X6_name T st) 0 [some (.ref 48)] [] (HP (T + 2) st) 0 0 := by
  rw [f_X6_name]
  refine o_aload_n dX6_name_0 rfl ?_
  refine o_bipush (v := 108) dX6_name_1 (by decide) ?_
  refine o_bipush (v := 105) dX6_name_3 (by decide) ?_
  refine o_bipush (v := 107) dX6_name_5 (by decide) ?_
  refine o_bipush (v := 101) dX6_name_7 (by decide) ?_
  refine o_iconst (v := 0) dX6_name_9 (by decide) ?_
  refine o_iconst (v := 0) dX6_name_10 (by decide) ?_
  refine o_iconst (v := 0) dX6_name_11 (by decide) ?_
  refine o_iconst (v := 0) dX6_name_12 (by decide) ?_
  refine h_cV0 (as := [.int 108, .int 105, .int 107, .int 101, .int 0, .int 0, .int 0, .int 0]) (S1 := []) (d' := 2) dX6_name_13 mf_X6_isWord ml_X6_188 mv_X6_isWord q6 rfl (hp_at (px_ltM (by decide)) (c48 _)) rfl (Nat.le_of_ble_eq_true rfl) rfl (Nat.le_of_ble_eq_true rfl) ⟨Nat.zero_le _, Nat.zero_le _⟩ (fun b hb => k_X6_isWord hb) (fun b1 hb1 => ?_)
  refine o_ifeq (tgt := 24) dX6_name_16 (by decide) (fun u2 => ?_) (fun u2 => ?_)
  · refine o_aload_n dX6_name_24 rfl ?_
    refine o_bipush (v := 109) dX6_name_25 (by decide) ?_
    refine o_bipush (v := 97) dX6_name_27 (by decide) ?_
    refine o_bipush (v := 110) dX6_name_29 (by decide) ?_
    refine o_bipush (v := 121) dX6_name_31 (by decide) ?_
    refine o_iconst (v := 0) dX6_name_33 (by decide) ?_
    refine o_iconst (v := 0) dX6_name_34 (by decide) ?_
    refine o_iconst (v := 0) dX6_name_35 (by decide) ?_
    refine o_iconst (v := 0) dX6_name_36 (by decide) ?_
    refine h_cV0 (as := [.int 109, .int 97, .int 110, .int 121, .int 0, .int 0, .int 0, .int 0]) (S1 := []) (d' := 2) dX6_name_37 mf_X6_isWord ml_X6_188 mv_X6_isWord q6 rfl (hp_at (px_ltM (by decide)) (c48 _)) rfl (Nat.le_of_ble_eq_true rfl) rfl (Nat.le_of_ble_eq_true rfl) ⟨Nat.zero_le _, Nat.zero_le _⟩ (fun b hb => k_X6_isWord hb) (fun b3 hb3 => ?_)
    refine o_ifeq (tgt := 48) dX6_name_40 (by decide) (fun u4 => ?_) (fun u4 => ?_)
    · refine o_aload_n dX6_name_48 rfl ?_
      refine o_bipush (v := 115) dX6_name_49 (by decide) ?_
      refine o_bipush (v := 104) dX6_name_51 (by decide) ?_
      refine o_bipush (v := 97) dX6_name_53 (by decide) ?_
      refine o_bipush (v := 114) dX6_name_55 (by decide) ?_
      refine o_bipush (v := 101) dX6_name_57 (by decide) ?_
      refine o_iconst (v := 0) dX6_name_59 (by decide) ?_
      refine o_iconst (v := 0) dX6_name_60 (by decide) ?_
      refine o_iconst (v := 0) dX6_name_61 (by decide) ?_
      refine h_cV0 (as := [.int 115, .int 104, .int 97, .int 114, .int 101, .int 0, .int 0, .int 0]) (S1 := []) (d' := 2) dX6_name_62 mf_X6_isWord ml_X6_188 mv_X6_isWord q6 rfl (hp_at (px_ltM (by decide)) (c48 _)) rfl (Nat.le_of_ble_eq_true rfl) rfl (Nat.le_of_ble_eq_true rfl) ⟨Nat.zero_le _, Nat.zero_le _⟩ (fun b hb => k_X6_isWord hb) (fun b5 hb5 => ?_)
      refine o_ifeq (tgt := 73) dX6_name_65 (by decide) (fun u6 => ?_) (fun u6 => ?_)
      · refine o_aload_n dX6_name_73 rfl ?_
        refine o_bipush (v := 100) dX6_name_74 (by decide) ?_
        refine o_bipush (v := 97) dX6_name_76 (by decide) ?_
        refine o_bipush (v := 121) dX6_name_78 (by decide) ?_
        refine o_bipush (v := 115) dX6_name_80 (by decide) ?_
        refine o_iconst (v := 0) dX6_name_82 (by decide) ?_
        refine o_iconst (v := 0) dX6_name_83 (by decide) ?_
        refine o_iconst (v := 0) dX6_name_84 (by decide) ?_
        refine o_iconst (v := 0) dX6_name_85 (by decide) ?_
        refine h_cV0 (as := [.int 100, .int 97, .int 121, .int 115, .int 0, .int 0, .int 0, .int 0]) (S1 := []) (d' := 2) dX6_name_86 mf_X6_isWord ml_X6_188 mv_X6_isWord q6 rfl (hp_at (px_ltM (by decide)) (c48 _)) rfl (Nat.le_of_ble_eq_true rfl) rfl (Nat.le_of_ble_eq_true rfl) ⟨Nat.zero_le _, Nat.zero_le _⟩ (fun b hb => k_X6_isWord hb) (fun b7 hb7 => ?_)
        refine o_ifeq (tgt := 97) dX6_name_89 (by decide) (fun u8 => ?_) (fun u8 => ?_)
        · refine o_aload_n dX6_name_97 rfl ?_
          refine o_bipush (v := 111) dX6_name_98 (by decide) ?_
          refine o_bipush (v := 110) dX6_name_100 (by decide) ?_
          refine o_bipush (v := 101) dX6_name_102 (by decide) ?_
          refine o_iconst (v := 0) dX6_name_104 (by decide) ?_
          refine o_iconst (v := 0) dX6_name_105 (by decide) ?_
          refine o_iconst (v := 0) dX6_name_106 (by decide) ?_
          refine o_iconst (v := 0) dX6_name_107 (by decide) ?_
          refine o_iconst (v := 0) dX6_name_108 (by decide) ?_
          refine h_cV0 (as := [.int 111, .int 110, .int 101, .int 0, .int 0, .int 0, .int 0, .int 0]) (S1 := []) (d' := 2) dX6_name_109 mf_X6_isWord ml_X6_188 mv_X6_isWord q6 rfl (hp_at (px_ltM (by decide)) (c48 _)) rfl (Nat.le_of_ble_eq_true rfl) rfl (Nat.le_of_ble_eq_true rfl) ⟨Nat.zero_le _, Nat.zero_le _⟩ (fun b hb => k_X6_isWord hb) (fun b9 hb9 => ?_)
          refine o_ifeq (tgt := 120) dX6_name_112 (by decide) (fun u10 => ?_) (fun u10 => ?_)
          · refine o_aload_n dX6_name_120 rfl ?_
            refine o_bipush (v := 111) dX6_name_121 (by decide) ?_
            refine o_bipush (v := 116) dX6_name_123 (by decide) ?_
            refine o_bipush (v := 104) dX6_name_125 (by decide) ?_
            refine o_bipush (v := 101) dX6_name_127 (by decide) ?_
            refine o_bipush (v := 114) dX6_name_129 (by decide) ?_
            refine o_iconst (v := 0) dX6_name_131 (by decide) ?_
            refine o_iconst (v := 0) dX6_name_132 (by decide) ?_
            refine o_iconst (v := 0) dX6_name_133 (by decide) ?_
            refine h_cV0 (as := [.int 111, .int 116, .int 104, .int 101, .int 114, .int 0, .int 0, .int 0]) (S1 := []) (d' := 2) dX6_name_134 mf_X6_isWord ml_X6_188 mv_X6_isWord q6 rfl (hp_at (px_ltM (by decide)) (c48 _)) rfl (Nat.le_of_ble_eq_true rfl) rfl (Nat.le_of_ble_eq_true rfl) ⟨Nat.zero_le _, Nat.zero_le _⟩ (fun b hb => k_X6_isWord hb) (fun b11 hb11 => ?_)
            refine o_ifeq (tgt := 145) dX6_name_137 (by decide) (fun u12 => ?_) (fun u12 => ?_)
            · refine o_aload_n dX6_name_145 rfl ?_
              refine h_cVv (as := []) (S1 := []) (d' := 0) dX6_name_146 mf_X6_fail ml_X6_182 mv_X6_fail q6 rfl (hp_at (px_ltM (by decide)) (c48 _)) rfl (Nat.le_of_ble_eq_true rfl) rfl (Nat.le_of_ble_eq_true rfl) (fun b hb => k_X6_fail hb) (fun b13 hb13 => ?_)
              refine o_iconst (v := 0) dX6_name_149 (by decide) ?_
              exact o_iret (rt := .int) rfl rfl dX6_name_150 rfl (Nat.zero_le _) (Nat.zero_le _)
            · refine o_aload_n dX6_name_140 rfl ?_
              refine h_get (v := .int (st 48 21)) dX6_name_141 q6 fl_X6_207 (by decide) (px_ltM (by decide)) (c48 _) rfl ?_
              exact o_iret (rt := .int) rfl rfl dX6_name_144 rfl (Nat.zero_le _) (Nat.zero_le _)
          · refine o_aload_n dX6_name_115 rfl ?_
            refine h_get (v := .int (st 48 20)) dX6_name_116 q6 fl_X6_204 (by decide) (px_ltM (by decide)) (c48 _) rfl ?_
            exact o_iret (rt := .int) rfl rfl dX6_name_119 rfl (Nat.zero_le _) (Nat.zero_le _)
        · refine o_aload_n dX6_name_92 rfl ?_
          refine h_get (v := .int (st 48 19)) dX6_name_93 q6 fl_X6_201 (by decide) (px_ltM (by decide)) (c48 _) rfl ?_
          exact o_iret (rt := .int) rfl rfl dX6_name_96 rfl (Nat.zero_le _) (Nat.zero_le _)
      · refine o_aload_n dX6_name_68 rfl ?_
        refine h_get (v := .int (st 48 18)) dX6_name_69 q6 fl_X6_198 (by decide) (px_ltM (by decide)) (c48 _) rfl ?_
        exact o_iret (rt := .int) rfl rfl dX6_name_72 rfl (Nat.zero_le _) (Nat.zero_le _)
    · refine o_aload_n dX6_name_43 rfl ?_
      refine h_get (v := .int (st 48 17)) dX6_name_44 q6 fl_X6_195 (by decide) (px_ltM (by decide)) (c48 _) rfl ?_
      exact o_iret (rt := .int) rfl rfl dX6_name_47 rfl (Nat.zero_le _) (Nat.zero_le _)
  · refine o_aload_n dX6_name_19 rfl ?_
    refine h_get (v := .int (st 48 16)) dX6_name_20 q6 fl_X6_192 (by decide) (px_ltM (by decide)) (c48 _) rfl ?_
    exact o_iret (rt := .int) rfl rfl dX6_name_23 rfl (Nat.zero_le _) (Nat.zero_le _)
theorem k_X6_name {T : Nat} {st : px_S} {b : Int32 × px_S} (hf : f_X6_name T st = some b) : px_K (3) 0 0 m_X6_name [.ref 48] (HP (T + 2) st) ((px_gi (T + 2)) b).1 ((px_gi (T + 2)) b).2 := px_KofH hf mf_X6_name (Nat.le_of_ble_eq_true rfl) rfl (t_X6_name T st)
/-! ThreeOfThemModel.atom5()I: S, depth 4 -/
def f_X6_atom5_98 (T : Nat) (y1 : Int32) (st : px_S) : Option (Int32 × px_S) := ((f_X6_fail T st).bind fun b1 => (some (y1, b1)))
set_option maxRecDepth 20000 in
theorem t_X6_atom5_98 (T : Nat) (y1 : Int32) (st : px_S) : px_O (4, 0, 0, px_n (T + 2), m_X6_atom5) (px_gi (T + 2)) (f_X6_atom5_98 T y1 st) 98 [some (.ref 48), some (.int y1)] [] (HP (T + 2) st) 0 0 := by
  rw [f_X6_atom5_98]
  refine o_aload_n dX6_atom5_98 rfl ?_
  refine h_cVv (as := []) (S1 := []) (d' := 0) dX6_atom5_99 mf_X6_fail ml_X6_182 mv_X6_fail q6 rfl (hp_at (px_ltM (by decide)) (c48 _)) rfl (Nat.le_of_ble_eq_true rfl) rfl (Nat.le_of_ble_eq_true rfl) (fun b hb => k_X6_fail hb) (fun b1 hb1 => ?_)
  refine o_iload_n dX6_atom5_102 rfl ?_
  exact o_iret (rt := .int) rfl rfl dX6_atom5_103 rfl (Nat.zero_le _) (Nat.zero_le _)
def f_X6_atom5_64 (T : Nat) (y1 : Int32) (st : px_S) : Option (Int32 × px_S) := (if (st 48 29) = 0 then (if (st 48 25) = 1 then ((f_X6_name T st).bind fun b4 => (if (b4.2 48 29) = 0 then ((f_X6_next T b4.2).bind fun b6 => (some (b4.1, b6))) else (some (b4.1, b4.2)))) else (f_X6_atom5_98 T y1 st)) else (f_X6_atom5_98 T y1 st))
set_option maxRecDepth 20000 in
theorem t_X6_atom5_64 (T : Nat) (y1 : Int32) (st : px_S) : px_O (4, 0, 0, px_n (T + 2), m_X6_atom5) (px_gi (T + 2)) (f_X6_atom5_64 T y1 st) 64 [some (.ref 48), some (.int y1)] [] (HP (T + 2) st) 0 0 := by
  rw [f_X6_atom5_64]
  refine o_aload_n dX6_atom5_64 rfl ?_
  refine h_get (v := .int (st 48 29)) dX6_atom5_65 q6 fl_X6_169 (by decide) (px_ltM (by decide)) (c48 _) rfl ?_
  refine o_ifne (tgt := 98) dX6_atom5_68 (by decide) (fun u2 => ?_) (fun u2 => ?_)
  · exact (t_X6_atom5_98 T y1 st)
  · refine o_aload_n dX6_atom5_71 rfl ?_
    refine h_get (v := .int (st 48 25)) dX6_atom5_72 q6 fl_X6_152 (by decide) (px_ltM (by decide)) (c48 _) rfl ?_
    refine o_iconst (v := 1) dX6_atom5_75 (by decide) ?_
    refine o_icmpne (tgt := 98) dX6_atom5_76 (by decide) (fun u3 => ?_) (fun u3 => ?_)
    · exact (t_X6_atom5_98 T y1 st)
    · refine o_aload_n dX6_atom5_79 rfl ?_
      refine h_cVi (as := []) (S1 := []) (d' := 3) dX6_atom5_80 mf_X6_name ml_X6_217 mv_X6_name q6 rfl (hp_at (px_ltM (by decide)) (c48 _)) rfl (Nat.le_of_ble_eq_true rfl) rfl (Nat.le_of_ble_eq_true rfl) (fun b hb => k_X6_name hb) (fun b4 hb4 => ?_)
      refine o_istore_n (L' := [some (.ref 48), some (.int b4.1)]) dX6_atom5_83 (Nat.le_of_ble_eq_true rfl) rfl rfl ?_
      refine o_aload_n dX6_atom5_84 rfl ?_
      refine h_get (v := .int (b4.2 48 29)) dX6_atom5_85 q6 fl_X6_169 (by decide) (px_ltM (by decide)) (c48 _) rfl ?_
      refine o_ifne (tgt := 102) dX6_atom5_88 (by decide) (fun u5 => ?_) (fun u5 => ?_)
      · refine o_iload_n dX6_atom5_102 rfl ?_
        exact o_iret (rt := .int) rfl rfl dX6_atom5_103 rfl (Nat.zero_le _) (Nat.zero_le _)
      · refine o_aload_n dX6_atom5_91 rfl ?_
        refine h_cVv (as := []) (S1 := []) (d' := 1) dX6_atom5_92 mf_X6_next ml_X6_185 mv_X6_next q6 rfl (hp_at (px_ltM (by decide)) (c48 _)) rfl (Nat.le_of_ble_eq_true rfl) rfl (Nat.le_of_ble_eq_true rfl) (fun b hb => k_X6_next hb) (fun b6 hb6 => ?_)
        refine o_goto (tgt := 102) dX6_atom5_95 (by decide) ?_
        refine o_iload_n dX6_atom5_102 rfl ?_
        exact o_iret (rt := .int) rfl rfl dX6_atom5_103 rfl (Nat.zero_le _) (Nat.zero_le _)
def f_X6_atom5 (T : Nat) (st : px_S) : Option (Int32 × px_S) := ((f_X6_isSign T st 45).bind fun b7 => (if b7 = 0 then ((f_X6_isSign T st 40).bind fun b9 => (if b9 = 0 then (if (st 48 29) = 0 then (if (st 48 25) = 2 then ((f_X6_next T st).bind fun b13 => (some ((st 48 27).toInt64.toInt32, b13))) else (f_X6_atom5_64 T 0 st)) else (f_X6_atom5_64 T 0 st)) else ((f_X6_opens T st).bind fun b14 => (some (0, b14.2))))) else ((f_X6_opens T st).bind fun b15 => (some (0, b15.2)))))
set_option maxRecDepth 20000 in
theorem t_X6_atom5 (T : Nat) (st : px_S) : px_O (4, 0, 0, px_n (T + 2), m_X6_atom5) (px_gi (T + 2)) (f_X6_atom5 T st) 0 [some (.ref 48), none] [] (HP (T + 2) st) 0 0 := by
  rw [f_X6_atom5]
  refine o_iconst (v := 0) dX6_atom5_0 (by decide) ?_
  refine o_istore_n (L' := [some (.ref 48), some (.int 0)]) dX6_atom5_1 (Nat.le_of_ble_eq_true rfl) rfl rfl ?_
  refine o_aload_n dX6_atom5_2 rfl ?_
  refine o_bipush (v := 45) dX6_atom5_3 (by decide) ?_
  refine h_cV0 (as := [.int 45]) (S1 := []) (d' := 0) dX6_atom5_5 mf_X6_isSign ml_X6_210 mv_X6_isSign q6 rfl (hp_at (px_ltM (by decide)) (c48 _)) rfl (Nat.le_of_ble_eq_true rfl) rfl (Nat.le_of_ble_eq_true rfl) ⟨Nat.zero_le _, Nat.zero_le _⟩ (fun b hb => k_X6_isSign hb) (fun b7 hb7 => ?_)
  refine o_ifeq (tgt := 19) dX6_atom5_8 (by decide) (fun u8 => ?_) (fun u8 => ?_)
  · refine o_aload_n dX6_atom5_19 rfl ?_
    refine o_bipush (v := 40) dX6_atom5_20 (by decide) ?_
    refine h_cV0 (as := [.int 40]) (S1 := []) (d' := 0) dX6_atom5_22 mf_X6_isSign ml_X6_210 mv_X6_isSign q6 rfl (hp_at (px_ltM (by decide)) (c48 _)) rfl (Nat.le_of_ble_eq_true rfl) rfl (Nat.le_of_ble_eq_true rfl) ⟨Nat.zero_le _, Nat.zero_le _⟩ (fun b hb => k_X6_isSign hb) (fun b9 hb9 => ?_)
    refine o_ifeq (tgt := 36) dX6_atom5_25 (by decide) (fun u10 => ?_) (fun u10 => ?_)
    · refine o_aload_n dX6_atom5_36 rfl ?_
      refine h_get (v := .int (st 48 29)) dX6_atom5_37 q6 fl_X6_169 (by decide) (px_ltM (by decide)) (c48 _) rfl ?_
      refine o_ifne (tgt := 64) dX6_atom5_40 (by decide) (fun u11 => ?_) (fun u11 => ?_)
      · exact (t_X6_atom5_64 T 0 st)
      · refine o_aload_n dX6_atom5_43 rfl ?_
        refine h_get (v := .int (st 48 25)) dX6_atom5_44 q6 fl_X6_152 (by decide) (px_ltM (by decide)) (c48 _) rfl ?_
        refine o_iconst (v := 2) dX6_atom5_47 (by decide) ?_
        refine o_icmpne (tgt := 64) dX6_atom5_48 (by decide) (fun u12 => ?_) (fun u12 => ?_)
        · exact (t_X6_atom5_64 T 0 st)
        · refine o_aload_n dX6_atom5_51 rfl ?_
          refine h_get (v := .long (st 48 27).toInt64) dX6_atom5_52 q6 fl_X6_163 (by decide) (px_ltM (by decide)) (c48 _) rfl ?_
          refine o_l2i dX6_atom5_55 ?_
          refine o_istore_n (L' := [some (.ref 48), some (.int (st 48 27).toInt64.toInt32)]) dX6_atom5_56 (Nat.le_of_ble_eq_true rfl) rfl rfl ?_
          refine o_aload_n dX6_atom5_57 rfl ?_
          refine h_cVv (as := []) (S1 := []) (d' := 1) dX6_atom5_58 mf_X6_next ml_X6_185 mv_X6_next q6 rfl (hp_at (px_ltM (by decide)) (c48 _)) rfl (Nat.le_of_ble_eq_true rfl) rfl (Nat.le_of_ble_eq_true rfl) (fun b hb => k_X6_next hb) (fun b13 hb13 => ?_)
          refine o_goto (tgt := 102) dX6_atom5_61 (by decide) ?_
          refine o_iload_n dX6_atom5_102 rfl ?_
          exact o_iret (rt := .int) rfl rfl dX6_atom5_103 rfl (Nat.zero_le _) (Nat.zero_le _)
    · refine o_aload_n dX6_atom5_28 rfl ?_
      refine h_cVi (as := []) (S1 := []) (d' := 2) dX6_atom5_29 mf_X6_opens ml_X6_213 mv_X6_opens q6 rfl (hp_at (px_ltM (by decide)) (c48 _)) rfl (Nat.le_of_ble_eq_true rfl) rfl (Nat.le_of_ble_eq_true rfl) (fun b hb => k_X6_opens hb) (fun b14 hb14 => ?_)
      refine o_pop dX6_atom5_32 rfl ?_
      refine o_goto (tgt := 102) dX6_atom5_33 (by decide) ?_
      refine o_iload_n dX6_atom5_102 rfl ?_
      exact o_iret (rt := .int) rfl rfl dX6_atom5_103 rfl (Nat.zero_le _) (Nat.zero_le _)
  · refine o_aload_n dX6_atom5_11 rfl ?_
    refine h_cVi (as := []) (S1 := []) (d' := 2) dX6_atom5_12 mf_X6_opens ml_X6_213 mv_X6_opens q6 rfl (hp_at (px_ltM (by decide)) (c48 _)) rfl (Nat.le_of_ble_eq_true rfl) rfl (Nat.le_of_ble_eq_true rfl) (fun b hb => k_X6_opens hb) (fun b15 hb15 => ?_)
    refine o_pop dX6_atom5_15 rfl ?_
    refine o_goto (tgt := 102) dX6_atom5_16 (by decide) ?_
    refine o_iload_n dX6_atom5_102 rfl ?_
    exact o_iret (rt := .int) rfl rfl dX6_atom5_103 rfl (Nat.zero_le _) (Nat.zero_le _)
theorem k_X6_atom5 {T : Nat} {st : px_S} {b : Int32 × px_S} (hf : f_X6_atom5 T st = some b) : px_K (4) 0 0 m_X6_atom5 [.ref 48] (HP (T + 2) st) ((px_gi (T + 2)) b).1 ((px_gi (T + 2)) b).2 := px_KofH hf mf_X6_atom5 (Nat.le_of_ble_eq_true rfl) rfl (t_X6_atom5 T st)
/-! ThreeOfThemModel.term5()I: S, depth 5 -/
def f_X6_term5_5 (T : Nat) : Nat → Int32 → px_S → Option (Int32 × px_S)
  | 0, _, _ => none
  | n + 1, y1, st => ((f_X6_isSign T st 42).bind fun b1 => (if b1 = 0 then (some (y1, st)) else ((f_X6_next T st).bind fun b3 => ((f_X6_atom5 T b3).bind fun b4 => ((f_X6_term5_5 T n) (y1 * b4.1) b4.2)))))
set_option maxRecDepth 20000 in
theorem t_X6_term5_5 (T : Nat) : ∀ (n : Nat) (y1 : Int32) (st : px_S), px_O (5, 0, 0, px_n (T + 2), m_X6_term5) (px_gi (T + 2)) (f_X6_term5_5 T n y1 st) 5 [some (.ref 48), some (.int y1)] [] (HP (T + 2) st) 0 0 := by
  intro n
  induction n with
  | zero => intro y1 st; rw [f_X6_term5_5]; exact o_none
  | succ n ih =>
    intro y1 st
    rw [f_X6_term5_5]
    refine o_aload_n dX6_term5_5 rfl ?_
    refine o_bipush (v := 42) dX6_term5_6 (by decide) ?_
    refine h_cV0 (as := [.int 42]) (S1 := []) (d' := 0) dX6_term5_8 mf_X6_isSign ml_X6_210 mv_X6_isSign q6 rfl (hp_at (px_ltM (by decide)) (c48 _)) rfl (Nat.le_of_ble_eq_true rfl) rfl (Nat.le_of_ble_eq_true rfl) ⟨Nat.zero_le _, Nat.zero_le _⟩ (fun b hb => k_X6_isSign hb) (fun b1 hb1 => ?_)
    refine o_ifeq (tgt := 28) dX6_term5_11 (by decide) (fun u2 => ?_) (fun u2 => ?_)
    · refine o_iload_n dX6_term5_28 rfl ?_
      exact o_iret (rt := .int) rfl rfl dX6_term5_29 rfl (Nat.zero_le _) (Nat.zero_le _)
    · refine o_aload_n dX6_term5_14 rfl ?_
      refine h_cVv (as := []) (S1 := []) (d' := 1) dX6_term5_15 mf_X6_next ml_X6_185 mv_X6_next q6 rfl (hp_at (px_ltM (by decide)) (c48 _)) rfl (Nat.le_of_ble_eq_true rfl) rfl (Nat.le_of_ble_eq_true rfl) (fun b hb => k_X6_next hb) (fun b3 hb3 => ?_)
      refine o_iload_n dX6_term5_18 rfl ?_
      refine o_aload_n dX6_term5_19 rfl ?_
      refine h_cVi (as := []) (S1 := [.int y1]) (d' := 4) dX6_term5_20 mf_X6_atom5 ml_X6_221 mv_X6_atom5 q6 rfl (hp_at (px_ltM (by decide)) (c48 _)) rfl (Nat.le_of_ble_eq_true rfl) rfl (Nat.le_of_ble_eq_true rfl) (fun b hb => k_X6_atom5 hb) (fun b4 hb4 => ?_)
      refine o_imul dX6_term5_23 ?_
      refine o_istore_n (L' := [some (.ref 48), some (.int (y1 * b4.1))]) dX6_term5_24 (Nat.le_of_ble_eq_true rfl) rfl rfl ?_
      refine o_goto (tgt := 5) dX6_term5_25 (by decide) ?_
      exact (ih (y1 * b4.1) b4.2)
def f_X6_term5 (T : Nat) (st : px_S) : Option (Int32 × px_S) := ((f_X6_atom5 T st).bind fun b5 => (f_X6_term5_5 T 1000 b5.1 b5.2))
set_option maxRecDepth 20000 in
theorem t_X6_term5 (T : Nat) (st : px_S) : px_O (5, 0, 0, px_n (T + 2), m_X6_term5) (px_gi (T + 2)) (f_X6_term5 T st) 0 [some (.ref 48), none] [] (HP (T + 2) st) 0 0 := by
  rw [f_X6_term5]
  refine o_aload_n dX6_term5_0 rfl ?_
  refine h_cVi (as := []) (S1 := []) (d' := 4) dX6_term5_1 mf_X6_atom5 ml_X6_221 mv_X6_atom5 q6 rfl (hp_at (px_ltM (by decide)) (c48 _)) rfl (Nat.le_of_ble_eq_true rfl) rfl (Nat.le_of_ble_eq_true rfl) (fun b hb => k_X6_atom5 hb) (fun b5 hb5 => ?_)
  refine o_istore_n (L' := [some (.ref 48), some (.int b5.1)]) dX6_term5_4 (Nat.le_of_ble_eq_true rfl) rfl rfl ?_
  exact (t_X6_term5_5 T 1000 b5.1 b5.2)
theorem k_X6_term5 {T : Nat} {st : px_S} {b : Int32 × px_S} (hf : f_X6_term5 T st = some b) : px_K (5) 0 0 m_X6_term5 [.ref 48] (HP (T + 2) st) ((px_gi (T + 2)) b).1 ((px_gi (T + 2)) b).2 := px_KofH hf mf_X6_term5 (Nat.le_of_ble_eq_true rfl) rfl (t_X6_term5 T st)
/-! ThreeOfThemModel.added5()I: S, depth 6 -/
def f_X6_added5_39 (T : Nat) (k5 : Int32 → px_S → Option (Int32 × px_S)) (y1 : Int32) (z0 : Int32) (st : px_S) : Option (Int32 × px_S) := ((f_X6_next T st).bind fun b1 => ((f_X6_term5 T b1).bind fun b2 => (if z0 = 0 then (k5 (y1 - b2.1) b2.2) else (k5 (y1 + b2.1) b2.2))))
set_option maxRecDepth 20000 in
theorem t_X6_added5_39 (T : Nat) (k5 : Int32 → px_S → Option (Int32 × px_S)) (hk5 : ∀ (y1 : Int32) (st : px_S), px_O (6, 0, 0, px_n (T + 2), m_X6_added5) (px_gi (T + 2)) (k5 y1 st) 5 [some (.ref 48), some (.int y1), none, none] [] (HP (T + 2) st) 0 0) (y1 : Int32) (z0 : Int32) (st : px_S) : px_O (6, 0, 0, px_n (T + 2), m_X6_added5) (px_gi (T + 2)) (f_X6_added5_39 T k5 y1 z0 st) 39 [some (.ref 48), some (.int y1), none, none] [.int z0] (HP (T + 2) st) 0 0 := by
  rw [f_X6_added5_39]
  refine o_istore_n (L' := [some (.ref 48), some (.int y1), some (.int z0), none]) dX6_added5_39 (Nat.le_of_ble_eq_true rfl) rfl rfl ?_
  refine o_aload_n dX6_added5_40 rfl ?_
  refine h_cVv (as := []) (S1 := []) (d' := 1) dX6_added5_41 mf_X6_next ml_X6_185 mv_X6_next q6 rfl (hp_at (px_ltM (by decide)) (c48 _)) rfl (Nat.le_of_ble_eq_true rfl) rfl (Nat.le_of_ble_eq_true rfl) (fun b hb => k_X6_next hb) (fun b1 hb1 => ?_)
  refine o_aload_n dX6_added5_44 rfl ?_
  refine h_cVi (as := []) (S1 := []) (d' := 5) dX6_added5_45 mf_X6_term5 ml_X6_224 mv_X6_term5 q6 rfl (hp_at (px_ltM (by decide)) (c48 _)) rfl (Nat.le_of_ble_eq_true rfl) rfl (Nat.le_of_ble_eq_true rfl) (fun b hb => k_X6_term5 hb) (fun b2 hb2 => ?_)
  refine o_istore_n (L' := [some (.ref 48), some (.int y1), some (.int z0), some (.int b2.1)]) dX6_added5_48 (Nat.le_of_ble_eq_true rfl) rfl rfl ?_
  refine o_iload_n dX6_added5_49 rfl ?_
  refine o_ifeq (tgt := 59) dX6_added5_50 (by decide) (fun u3 => ?_) (fun u3 => ?_)
  · refine o_iload_n dX6_added5_59 rfl ?_
    refine o_iload_n dX6_added5_60 rfl ?_
    refine o_isub dX6_added5_61 ?_
    refine o_istore_n (L' := [some (.ref 48), some (.int (y1 - b2.1)), some (.int z0), some (.int b2.1)]) dX6_added5_62 (Nat.le_of_ble_eq_true rfl) rfl rfl ?_
    refine o_goto (tgt := 5) dX6_added5_63 (by decide) ?_
    exact o_weak (L' := [some (.ref 48), some (.int (y1 - b2.1)), none, none]) ⟨rfl, ⟨rfl, trivial⟩⟩ (hk5 (y1 - b2.1) b2.2)
  · refine o_iload_n dX6_added5_53 rfl ?_
    refine o_iload_n dX6_added5_54 rfl ?_
    refine o_iadd dX6_added5_55 ?_
    refine o_goto (tgt := 62) dX6_added5_56 (by decide) ?_
    refine o_istore_n (L' := [some (.ref 48), some (.int (y1 + b2.1)), some (.int z0), some (.int b2.1)]) dX6_added5_62 (Nat.le_of_ble_eq_true rfl) rfl rfl ?_
    refine o_goto (tgt := 5) dX6_added5_63 (by decide) ?_
    exact o_weak (L' := [some (.ref 48), some (.int (y1 + b2.1)), none, none]) ⟨rfl, ⟨rfl, trivial⟩⟩ (hk5 (y1 + b2.1) b2.2)
def f_X6_added5_23 (T : Nat) (k5 : Int32 → px_S → Option (Int32 × px_S)) (y1 : Int32) (st : px_S) : Option (Int32 × px_S) := (if (lg_cmp (st 48 27).toInt64 43) = 0 then (f_X6_added5_39 T k5 y1 1 st) else (f_X6_added5_39 T k5 y1 0 st))
set_option maxRecDepth 20000 in
theorem t_X6_added5_23 (T : Nat) (k5 : Int32 → px_S → Option (Int32 × px_S)) (hk5 : ∀ (y1 : Int32) (st : px_S), px_O (6, 0, 0, px_n (T + 2), m_X6_added5) (px_gi (T + 2)) (k5 y1 st) 5 [some (.ref 48), some (.int y1), none, none] [] (HP (T + 2) st) 0 0) (y1 : Int32) (st : px_S) : px_O (6, 0, 0, px_n (T + 2), m_X6_added5) (px_gi (T + 2)) (f_X6_added5_23 T k5 y1 st) 23 [some (.ref 48), some (.int y1), none, none] [] (HP (T + 2) st) 0 0 := by
  rw [f_X6_added5_23]
  refine o_aload_n dX6_added5_23 rfl ?_
  refine h_get (v := .long (st 48 27).toInt64) dX6_added5_24 q6 fl_X6_163 (by decide) (px_ltM (by decide)) (c48 _) rfl ?_
  refine o_ldc2 (v := 43) dX6_added5_27 cst_X6_227 ?_
  refine o_lcmp dX6_added5_30 ?_
  refine o_ifne (tgt := 38) dX6_added5_31 (by decide) (fun u4 => ?_) (fun u4 => ?_)
  · refine o_iconst (v := 0) dX6_added5_38 (by decide) ?_
    exact (t_X6_added5_39 T k5 hk5 y1 0 st)
  · refine o_iconst (v := 1) dX6_added5_34 (by decide) ?_
    refine o_goto (tgt := 39) dX6_added5_35 (by decide) ?_
    exact (t_X6_added5_39 T k5 hk5 y1 1 st)
def f_X6_added5_5 (T : Nat) : Nat → Int32 → px_S → Option (Int32 × px_S)
  | 0, _, _ => none
  | n + 1, y1, st => ((f_X6_isSign T st 43).bind fun b5 => (if b5 = 0 then ((f_X6_isSign T st 45).bind fun b7 => (if b7 = 0 then (some (y1, st)) else (f_X6_added5_23 T (f_X6_added5_5 T n) y1 st))) else (f_X6_added5_23 T (f_X6_added5_5 T n) y1 st)))
set_option maxRecDepth 20000 in
theorem t_X6_added5_5 (T : Nat) : ∀ (n : Nat) (y1 : Int32) (st : px_S), px_O (6, 0, 0, px_n (T + 2), m_X6_added5) (px_gi (T + 2)) (f_X6_added5_5 T n y1 st) 5 [some (.ref 48), some (.int y1), none, none] [] (HP (T + 2) st) 0 0 := by
  intro n
  induction n with
  | zero => intro y1 st; rw [f_X6_added5_5]; exact o_none
  | succ n ih =>
    intro y1 st
    rw [f_X6_added5_5]
    refine o_aload_n dX6_added5_5 rfl ?_
    refine o_bipush (v := 43) dX6_added5_6 (by decide) ?_
    refine h_cV0 (as := [.int 43]) (S1 := []) (d' := 0) dX6_added5_8 mf_X6_isSign ml_X6_210 mv_X6_isSign q6 rfl (hp_at (px_ltM (by decide)) (c48 _)) rfl (Nat.le_of_ble_eq_true rfl) rfl (Nat.le_of_ble_eq_true rfl) ⟨Nat.zero_le _, Nat.zero_le _⟩ (fun b hb => k_X6_isSign hb) (fun b5 hb5 => ?_)
    refine o_ifne (tgt := 23) dX6_added5_11 (by decide) (fun u6 => ?_) (fun u6 => ?_)
    · exact (t_X6_added5_23 T (f_X6_added5_5 T n) ih y1 st)
    · refine o_aload_n dX6_added5_14 rfl ?_
      refine o_bipush (v := 45) dX6_added5_15 (by decide) ?_
      refine h_cV0 (as := [.int 45]) (S1 := []) (d' := 0) dX6_added5_17 mf_X6_isSign ml_X6_210 mv_X6_isSign q6 rfl (hp_at (px_ltM (by decide)) (c48 _)) rfl (Nat.le_of_ble_eq_true rfl) rfl (Nat.le_of_ble_eq_true rfl) ⟨Nat.zero_le _, Nat.zero_le _⟩ (fun b hb => k_X6_isSign hb) (fun b7 hb7 => ?_)
      refine o_ifeq (tgt := 66) dX6_added5_20 (by decide) (fun u8 => ?_) (fun u8 => ?_)
      · refine o_iload_n dX6_added5_66 rfl ?_
        exact o_iret (rt := .int) rfl rfl dX6_added5_67 rfl (Nat.zero_le _) (Nat.zero_le _)
      · exact (t_X6_added5_23 T (f_X6_added5_5 T n) ih y1 st)
def f_X6_added5 (T : Nat) (st : px_S) : Option (Int32 × px_S) := ((f_X6_term5 T st).bind fun b9 => (f_X6_added5_5 T 1000 b9.1 b9.2))
set_option maxRecDepth 20000 in
theorem t_X6_added5 (T : Nat) (st : px_S) : px_O (6, 0, 0, px_n (T + 2), m_X6_added5) (px_gi (T + 2)) (f_X6_added5 T st) 0 [some (.ref 48), none, none, none] [] (HP (T + 2) st) 0 0 := by
  rw [f_X6_added5]
  refine o_aload_n dX6_added5_0 rfl ?_
  refine h_cVi (as := []) (S1 := []) (d' := 5) dX6_added5_1 mf_X6_term5 ml_X6_224 mv_X6_term5 q6 rfl (hp_at (px_ltM (by decide)) (c48 _)) rfl (Nat.le_of_ble_eq_true rfl) rfl (Nat.le_of_ble_eq_true rfl) (fun b hb => k_X6_term5 hb) (fun b9 hb9 => ?_)
  refine o_istore_n (L' := [some (.ref 48), some (.int b9.1), none, none]) dX6_added5_4 (Nat.le_of_ble_eq_true rfl) rfl rfl ?_
  exact (t_X6_added5_5 T 1000 b9.1 b9.2)
theorem k_X6_added5 {T : Nat} {st : px_S} {b : Int32 × px_S} (hf : f_X6_added5 T st = some b) : px_K (6) 0 0 m_X6_added5 [.ref 48] (HP (T + 2) st) ((px_gi (T + 2)) b).1 ((px_gi (T + 2)) b).2 := px_KofH hf mf_X6_added5 (Nat.le_of_ble_eq_true rfl) rfl (t_X6_added5 T st)
/-! ThreeOfThemModel.not5()I: S, depth 7 -/
def f_X6_not5_66 (T : Nat) (y1 : Int32) (z0 : Int32) (st : px_S) : Option (Int32 × px_S) := ((f_X6_next T st).bind fun b1 => ((f_X6_added5 T b1).bind fun b2 => (if z0 = 0 then (if y1 = b2.1 then (some (1, b2.2)) else (some (0, b2.2))) else (if y1 < b2.1 then (some (1, b2.2)) else (some (0, b2.2))))))
set_option maxRecDepth 20000 in
theorem t_X6_not5_66 (T : Nat) (y1 : Int32) (z0 : Int32) (st : px_S) : px_O (7, 0, 0, px_n (T + 2), m_X6_not5) (px_gi (T + 2)) (f_X6_not5_66 T y1 z0 st) 66 [some (.ref 48), some (.int y1), none, none] [.int z0] (HP (T + 2) st) 0 0 := by
  rw [f_X6_not5_66]
  refine o_istore_n (L' := [some (.ref 48), some (.int y1), some (.int z0), none]) dX6_not5_66 (Nat.le_of_ble_eq_true rfl) rfl rfl ?_
  refine o_aload_n dX6_not5_67 rfl ?_
  refine h_cVv (as := []) (S1 := []) (d' := 1) dX6_not5_68 mf_X6_next ml_X6_185 mv_X6_next q6 rfl (hp_at (px_ltM (by decide)) (c48 _)) rfl (Nat.le_of_ble_eq_true rfl) rfl (Nat.le_of_ble_eq_true rfl) (fun b hb => k_X6_next hb) (fun b1 hb1 => ?_)
  refine o_aload_n dX6_not5_71 rfl ?_
  refine h_cVi (as := []) (S1 := []) (d' := 6) dX6_not5_72 mf_X6_added5 ml_X6_229 mv_X6_added5 q6 rfl (hp_at (px_ltM (by decide)) (c48 _)) rfl (Nat.le_of_ble_eq_true rfl) rfl (Nat.le_of_ble_eq_true rfl) (fun b hb => k_X6_added5 hb) (fun b2 hb2 => ?_)
  refine o_istore_n (L' := [some (.ref 48), some (.int y1), some (.int z0), some (.int b2.1)]) dX6_not5_75 (Nat.le_of_ble_eq_true rfl) rfl rfl ?_
  refine o_iload_n dX6_not5_76 rfl ?_
  refine o_ifeq (tgt := 88) dX6_not5_77 (by decide) (fun u3 => ?_) (fun u3 => ?_)
  · refine o_iload_n dX6_not5_88 rfl ?_
    refine o_iload_n dX6_not5_89 rfl ?_
    refine o_icmpne (tgt := 97) dX6_not5_90 (by decide) (fun u4 => ?_) (fun u4 => ?_)
    · refine o_iconst (v := 0) dX6_not5_97 (by decide) ?_
      exact o_iret (rt := .int) rfl rfl dX6_not5_98 rfl (Nat.zero_le _) (Nat.zero_le _)
    · refine o_iconst (v := 1) dX6_not5_93 (by decide) ?_
      refine o_goto (tgt := 98) dX6_not5_94 (by decide) ?_
      exact o_iret (rt := .int) rfl rfl dX6_not5_98 rfl (Nat.zero_le _) (Nat.zero_le _)
  · refine o_iload_n dX6_not5_80 rfl ?_
    refine o_iload_n dX6_not5_81 rfl ?_
    refine o_icmpge (tgt := 97) dX6_not5_82 (by decide) (fun u5 => ?_) (fun u5 => ?_)
    · refine o_iconst (v := 0) dX6_not5_97 (by decide) ?_
      exact o_iret (rt := .int) rfl rfl dX6_not5_98 rfl (Nat.zero_le _) (Nat.zero_le _)
    · refine o_goto (tgt := 93) dX6_not5_85 (by decide) ?_
      refine o_iconst (v := 1) dX6_not5_93 (by decide) ?_
      refine o_goto (tgt := 98) dX6_not5_94 (by decide) ?_
      exact o_iret (rt := .int) rfl rfl dX6_not5_98 rfl (Nat.zero_le _) (Nat.zero_le _)
def f_X6_not5_50 (T : Nat) (y1 : Int32) (st : px_S) : Option (Int32 × px_S) := (if (lg_cmp (st 48 27).toInt64 60) = 0 then (f_X6_not5_66 T y1 1 st) else (f_X6_not5_66 T y1 0 st))
set_option maxRecDepth 20000 in
theorem t_X6_not5_50 (T : Nat) (y1 : Int32) (st : px_S) : px_O (7, 0, 0, px_n (T + 2), m_X6_not5) (px_gi (T + 2)) (f_X6_not5_50 T y1 st) 50 [some (.ref 48), some (.int y1), none, none] [] (HP (T + 2) st) 0 0 := by
  rw [f_X6_not5_50]
  refine o_aload_n dX6_not5_50 rfl ?_
  refine h_get (v := .long (st 48 27).toInt64) dX6_not5_51 q6 fl_X6_163 (by decide) (px_ltM (by decide)) (c48 _) rfl ?_
  refine o_ldc2 (v := 60) dX6_not5_54 cst_X6_232 ?_
  refine o_lcmp dX6_not5_57 ?_
  refine o_ifne (tgt := 65) dX6_not5_58 (by decide) (fun u6 => ?_) (fun u6 => ?_)
  · refine o_iconst (v := 0) dX6_not5_65 (by decide) ?_
    exact (t_X6_not5_66 T y1 0 st)
  · refine o_iconst (v := 1) dX6_not5_61 (by decide) ?_
    refine o_goto (tgt := 66) dX6_not5_62 (by decide) ?_
    exact (t_X6_not5_66 T y1 1 st)
def f_X6_not5 (T : Nat) (st : px_S) : Option (Int32 × px_S) := ((f_X6_isWord T st 110 111 116 0 0 0 0 0).bind fun b7 => (if b7 = 0 then ((f_X6_added5 T st).bind fun b9 => ((f_X6_isSign T b9.2 60).bind fun b10 => (if b10 = 0 then ((f_X6_isSign T b9.2 61).bind fun b12 => (if b12 = 0 then (some (b9.1, b9.2)) else (f_X6_not5_50 T b9.1 b9.2))) else (f_X6_not5_50 T b9.1 b9.2)))) else ((f_X6_opens T st).bind fun b14 => (some (0, b14.2)))))
set_option maxRecDepth 20000 in
theorem t_X6_not5 (T : Nat) (st : px_S) : px_O (7, 0, 0, px_n (T + 2), m_X6_not5) (px_gi (T + 2)) (f_X6_not5 T st) 0 [some (.ref 48), none, none, none] [] (HP (T + 2) st) 0 0 := by
  rw [f_X6_not5]
  refine o_aload_n dX6_not5_0 rfl ?_
  refine o_bipush (v := 110) dX6_not5_1 (by decide) ?_
  refine o_bipush (v := 111) dX6_not5_3 (by decide) ?_
  refine o_bipush (v := 116) dX6_not5_5 (by decide) ?_
  refine o_iconst (v := 0) dX6_not5_7 (by decide) ?_
  refine o_iconst (v := 0) dX6_not5_8 (by decide) ?_
  refine o_iconst (v := 0) dX6_not5_9 (by decide) ?_
  refine o_iconst (v := 0) dX6_not5_10 (by decide) ?_
  refine o_iconst (v := 0) dX6_not5_11 (by decide) ?_
  refine h_cV0 (as := [.int 110, .int 111, .int 116, .int 0, .int 0, .int 0, .int 0, .int 0]) (S1 := []) (d' := 2) dX6_not5_12 mf_X6_isWord ml_X6_188 mv_X6_isWord q6 rfl (hp_at (px_ltM (by decide)) (c48 _)) rfl (Nat.le_of_ble_eq_true rfl) rfl (Nat.le_of_ble_eq_true rfl) ⟨Nat.zero_le _, Nat.zero_le _⟩ (fun b hb => k_X6_isWord hb) (fun b7 hb7 => ?_)
  refine o_ifeq (tgt := 25) dX6_not5_15 (by decide) (fun u8 => ?_) (fun u8 => ?_)
  · refine o_aload_n dX6_not5_25 rfl ?_
    refine h_cVi (as := []) (S1 := []) (d' := 6) dX6_not5_26 mf_X6_added5 ml_X6_229 mv_X6_added5 q6 rfl (hp_at (px_ltM (by decide)) (c48 _)) rfl (Nat.le_of_ble_eq_true rfl) rfl (Nat.le_of_ble_eq_true rfl) (fun b hb => k_X6_added5 hb) (fun b9 hb9 => ?_)
    refine o_istore_n (L' := [some (.ref 48), some (.int b9.1), none, none]) dX6_not5_29 (Nat.le_of_ble_eq_true rfl) rfl rfl ?_
    refine o_aload_n dX6_not5_30 rfl ?_
    refine o_bipush (v := 60) dX6_not5_31 (by decide) ?_
    refine h_cV0 (as := [.int 60]) (S1 := []) (d' := 0) dX6_not5_33 mf_X6_isSign ml_X6_210 mv_X6_isSign q6 rfl (hp_at (px_ltM (by decide)) (c48 _)) rfl (Nat.le_of_ble_eq_true rfl) rfl (Nat.le_of_ble_eq_true rfl) ⟨Nat.zero_le _, Nat.zero_le _⟩ (fun b hb => k_X6_isSign hb) (fun b10 hb10 => ?_)
    refine o_ifne (tgt := 50) dX6_not5_36 (by decide) (fun u11 => ?_) (fun u11 => ?_)
    · exact (t_X6_not5_50 T b9.1 b9.2)
    · refine o_aload_n dX6_not5_39 rfl ?_
      refine o_bipush (v := 61) dX6_not5_40 (by decide) ?_
      refine h_cV0 (as := [.int 61]) (S1 := []) (d' := 0) dX6_not5_42 mf_X6_isSign ml_X6_210 mv_X6_isSign q6 rfl (hp_at (px_ltM (by decide)) (c48 _)) rfl (Nat.le_of_ble_eq_true rfl) rfl (Nat.le_of_ble_eq_true rfl) ⟨Nat.zero_le _, Nat.zero_le _⟩ (fun b hb => k_X6_isSign hb) (fun b12 hb12 => ?_)
      refine o_ifne (tgt := 50) dX6_not5_45 (by decide) (fun u13 => ?_) (fun u13 => ?_)
      · exact (t_X6_not5_50 T b9.1 b9.2)
      · refine o_iload_n dX6_not5_48 rfl ?_
        exact o_iret (rt := .int) rfl rfl dX6_not5_49 rfl (Nat.zero_le _) (Nat.zero_le _)
  · refine o_aload_n dX6_not5_18 rfl ?_
    refine h_cVi (as := []) (S1 := []) (d' := 2) dX6_not5_19 mf_X6_opens ml_X6_213 mv_X6_opens q6 rfl (hp_at (px_ltM (by decide)) (c48 _)) rfl (Nat.le_of_ble_eq_true rfl) rfl (Nat.le_of_ble_eq_true rfl) (fun b hb => k_X6_opens hb) (fun b14 hb14 => ?_)
    refine o_pop dX6_not5_22 rfl ?_
    refine o_iconst (v := 0) dX6_not5_23 (by decide) ?_
    exact o_iret (rt := .int) rfl rfl dX6_not5_24 rfl (Nat.zero_le _) (Nat.zero_le _)
theorem k_X6_not5 {T : Nat} {st : px_S} {b : Int32 × px_S} (hf : f_X6_not5 T st = some b) : px_K (7) 0 0 m_X6_not5 [.ref 48] (HP (T + 2) st) ((px_gi (T + 2)) b).1 ((px_gi (T + 2)) b).2 := px_KofH hf mf_X6_not5 (Nat.le_of_ble_eq_true rfl) rfl (t_X6_not5 T st)
/-! ThreeOfThemModel.both5()I: S, depth 8 -/
def f_X6_both5_5 (T : Nat) : Nat → Int32 → px_S → Option (Int32 × px_S)
  | 0, _, _ => none
  | n + 1, y1, st => ((f_X6_isWord T st 97 110 100 0 0 0 0 0).bind fun b1 => (if b1 = 0 then (some (y1, st)) else ((f_X6_next T st).bind fun b3 => ((f_X6_not5 T b3).bind fun b4 => (if y1 = 0 then ((f_X6_both5_5 T n) 0 b4.2) else (if b4.1 = 0 then ((f_X6_both5_5 T n) 0 b4.2) else ((f_X6_both5_5 T n) 1 b4.2)))))))
set_option maxRecDepth 20000 in
theorem t_X6_both5_5 (T : Nat) : ∀ (n : Nat) (y1 : Int32) (st : px_S), px_O (8, 0, 0, px_n (T + 2), m_X6_both5) (px_gi (T + 2)) (f_X6_both5_5 T n y1 st) 5 [some (.ref 48), some (.int y1), none] [] (HP (T + 2) st) 0 0 := by
  intro n
  induction n with
  | zero => intro y1 st; rw [f_X6_both5_5]; exact o_none
  | succ n ih =>
    intro y1 st
    rw [f_X6_both5_5]
    refine o_aload_n dX6_both5_5 rfl ?_
    refine o_bipush (v := 97) dX6_both5_6 (by decide) ?_
    refine o_bipush (v := 110) dX6_both5_8 (by decide) ?_
    refine o_bipush (v := 100) dX6_both5_10 (by decide) ?_
    refine o_iconst (v := 0) dX6_both5_12 (by decide) ?_
    refine o_iconst (v := 0) dX6_both5_13 (by decide) ?_
    refine o_iconst (v := 0) dX6_both5_14 (by decide) ?_
    refine o_iconst (v := 0) dX6_both5_15 (by decide) ?_
    refine o_iconst (v := 0) dX6_both5_16 (by decide) ?_
    refine h_cV0 (as := [.int 97, .int 110, .int 100, .int 0, .int 0, .int 0, .int 0, .int 0]) (S1 := []) (d' := 2) dX6_both5_17 mf_X6_isWord ml_X6_188 mv_X6_isWord q6 rfl (hp_at (px_ltM (by decide)) (c48 _)) rfl (Nat.le_of_ble_eq_true rfl) rfl (Nat.le_of_ble_eq_true rfl) ⟨Nat.zero_le _, Nat.zero_le _⟩ (fun b hb => k_X6_isWord hb) (fun b1 hb1 => ?_)
    refine o_ifeq (tgt := 49) dX6_both5_20 (by decide) (fun u2 => ?_) (fun u2 => ?_)
    · refine o_iload_n dX6_both5_49 rfl ?_
      exact o_iret (rt := .int) rfl rfl dX6_both5_50 rfl (Nat.zero_le _) (Nat.zero_le _)
    · refine o_aload_n dX6_both5_23 rfl ?_
      refine h_cVv (as := []) (S1 := []) (d' := 1) dX6_both5_24 mf_X6_next ml_X6_185 mv_X6_next q6 rfl (hp_at (px_ltM (by decide)) (c48 _)) rfl (Nat.le_of_ble_eq_true rfl) rfl (Nat.le_of_ble_eq_true rfl) (fun b hb => k_X6_next hb) (fun b3 hb3 => ?_)
      refine o_aload_n dX6_both5_27 rfl ?_
      refine h_cVi (as := []) (S1 := []) (d' := 7) dX6_both5_28 mf_X6_not5 ml_X6_234 mv_X6_not5 q6 rfl (hp_at (px_ltM (by decide)) (c48 _)) rfl (Nat.le_of_ble_eq_true rfl) rfl (Nat.le_of_ble_eq_true rfl) (fun b hb => k_X6_not5 hb) (fun b4 hb4 => ?_)
      refine o_istore_n (L' := [some (.ref 48), some (.int y1), some (.int b4.1)]) dX6_both5_31 (Nat.le_of_ble_eq_true rfl) rfl rfl ?_
      refine o_iload_n dX6_both5_32 rfl ?_
      refine o_ifeq (tgt := 44) dX6_both5_33 (by decide) (fun u5 => ?_) (fun u5 => ?_)
      · refine o_iconst (v := 0) dX6_both5_44 (by decide) ?_
        refine o_istore_n (L' := [some (.ref 48), some (.int 0), some (.int b4.1)]) dX6_both5_45 (Nat.le_of_ble_eq_true rfl) rfl rfl ?_
        refine o_goto (tgt := 5) dX6_both5_46 (by decide) ?_
        exact o_weak (L' := [some (.ref 48), some (.int 0), none]) ⟨rfl, ⟨rfl, trivial⟩⟩ (ih 0 b4.2)
      · refine o_iload_n dX6_both5_36 rfl ?_
        refine o_ifeq (tgt := 44) dX6_both5_37 (by decide) (fun u6 => ?_) (fun u6 => ?_)
        · refine o_iconst (v := 0) dX6_both5_44 (by decide) ?_
          refine o_istore_n (L' := [some (.ref 48), some (.int 0), some (.int b4.1)]) dX6_both5_45 (Nat.le_of_ble_eq_true rfl) rfl rfl ?_
          refine o_goto (tgt := 5) dX6_both5_46 (by decide) ?_
          exact o_weak (L' := [some (.ref 48), some (.int 0), none]) ⟨rfl, ⟨rfl, trivial⟩⟩ (ih 0 b4.2)
        · refine o_iconst (v := 1) dX6_both5_40 (by decide) ?_
          refine o_goto (tgt := 45) dX6_both5_41 (by decide) ?_
          refine o_istore_n (L' := [some (.ref 48), some (.int 1), some (.int b4.1)]) dX6_both5_45 (Nat.le_of_ble_eq_true rfl) rfl rfl ?_
          refine o_goto (tgt := 5) dX6_both5_46 (by decide) ?_
          exact o_weak (L' := [some (.ref 48), some (.int 1), none]) ⟨rfl, ⟨rfl, trivial⟩⟩ (ih 1 b4.2)
def f_X6_both5 (T : Nat) (st : px_S) : Option (Int32 × px_S) := ((f_X6_not5 T st).bind fun b7 => (f_X6_both5_5 T 1000 b7.1 b7.2))
set_option maxRecDepth 20000 in
theorem t_X6_both5 (T : Nat) (st : px_S) : px_O (8, 0, 0, px_n (T + 2), m_X6_both5) (px_gi (T + 2)) (f_X6_both5 T st) 0 [some (.ref 48), none, none] [] (HP (T + 2) st) 0 0 := by
  rw [f_X6_both5]
  refine o_aload_n dX6_both5_0 rfl ?_
  refine h_cVi (as := []) (S1 := []) (d' := 7) dX6_both5_1 mf_X6_not5 ml_X6_234 mv_X6_not5 q6 rfl (hp_at (px_ltM (by decide)) (c48 _)) rfl (Nat.le_of_ble_eq_true rfl) rfl (Nat.le_of_ble_eq_true rfl) (fun b hb => k_X6_not5 hb) (fun b7 hb7 => ?_)
  refine o_istore_n (L' := [some (.ref 48), some (.int b7.1), none]) dX6_both5_4 (Nat.le_of_ble_eq_true rfl) rfl rfl ?_
  exact (t_X6_both5_5 T 1000 b7.1 b7.2)
theorem k_X6_both5 {T : Nat} {st : px_S} {b : Int32 × px_S} (hf : f_X6_both5 T st = some b) : px_K (8) 0 0 m_X6_both5 [.ref 48] (HP (T + 2) st) ((px_gi (T + 2)) b).1 ((px_gi (T + 2)) b).2 := px_KofH hf mf_X6_both5 (Nat.le_of_ble_eq_true rfl) rfl (t_X6_both5 T st)
/-! ThreeOfThemModel.either5()I: S, depth 9 -/
def f_X6_either5_5 (T : Nat) : Nat → Int32 → px_S → Option (Int32 × px_S)
  | 0, _, _ => none
  | n + 1, y1, st => ((f_X6_isWord T st 111 114 0 0 0 0 0 0).bind fun b1 => (if b1 = 0 then (some (y1, st)) else ((f_X6_next T st).bind fun b3 => ((f_X6_both5 T b3).bind fun b4 => (if y1 = 0 then (if b4.1 = 0 then ((f_X6_either5_5 T n) 0 b4.2) else ((f_X6_either5_5 T n) 1 b4.2)) else ((f_X6_either5_5 T n) 1 b4.2))))))
set_option maxRecDepth 20000 in
theorem t_X6_either5_5 (T : Nat) : ∀ (n : Nat) (y1 : Int32) (st : px_S), px_O (9, 0, 0, px_n (T + 2), m_X6_either5) (px_gi (T + 2)) (f_X6_either5_5 T n y1 st) 5 [some (.ref 48), some (.int y1), none] [] (HP (T + 2) st) 0 0 := by
  intro n
  induction n with
  | zero => intro y1 st; rw [f_X6_either5_5]; exact o_none
  | succ n ih =>
    intro y1 st
    rw [f_X6_either5_5]
    refine o_aload_n dX6_either5_5 rfl ?_
    refine o_bipush (v := 111) dX6_either5_6 (by decide) ?_
    refine o_bipush (v := 114) dX6_either5_8 (by decide) ?_
    refine o_iconst (v := 0) dX6_either5_10 (by decide) ?_
    refine o_iconst (v := 0) dX6_either5_11 (by decide) ?_
    refine o_iconst (v := 0) dX6_either5_12 (by decide) ?_
    refine o_iconst (v := 0) dX6_either5_13 (by decide) ?_
    refine o_iconst (v := 0) dX6_either5_14 (by decide) ?_
    refine o_iconst (v := 0) dX6_either5_15 (by decide) ?_
    refine h_cV0 (as := [.int 111, .int 114, .int 0, .int 0, .int 0, .int 0, .int 0, .int 0]) (S1 := []) (d' := 2) dX6_either5_16 mf_X6_isWord ml_X6_188 mv_X6_isWord q6 rfl (hp_at (px_ltM (by decide)) (c48 _)) rfl (Nat.le_of_ble_eq_true rfl) rfl (Nat.le_of_ble_eq_true rfl) ⟨Nat.zero_le _, Nat.zero_le _⟩ (fun b hb => k_X6_isWord hb) (fun b1 hb1 => ?_)
    refine o_ifeq (tgt := 48) dX6_either5_19 (by decide) (fun u2 => ?_) (fun u2 => ?_)
    · refine o_iload_n dX6_either5_48 rfl ?_
      exact o_iret (rt := .int) rfl rfl dX6_either5_49 rfl (Nat.zero_le _) (Nat.zero_le _)
    · refine o_aload_n dX6_either5_22 rfl ?_
      refine h_cVv (as := []) (S1 := []) (d' := 1) dX6_either5_23 mf_X6_next ml_X6_185 mv_X6_next q6 rfl (hp_at (px_ltM (by decide)) (c48 _)) rfl (Nat.le_of_ble_eq_true rfl) rfl (Nat.le_of_ble_eq_true rfl) (fun b hb => k_X6_next hb) (fun b3 hb3 => ?_)
      refine o_aload_n dX6_either5_26 rfl ?_
      refine h_cVi (as := []) (S1 := []) (d' := 8) dX6_either5_27 mf_X6_both5 ml_X6_237 mv_X6_both5 q6 rfl (hp_at (px_ltM (by decide)) (c48 _)) rfl (Nat.le_of_ble_eq_true rfl) rfl (Nat.le_of_ble_eq_true rfl) (fun b hb => k_X6_both5 hb) (fun b4 hb4 => ?_)
      refine o_istore_n (L' := [some (.ref 48), some (.int y1), some (.int b4.1)]) dX6_either5_30 (Nat.le_of_ble_eq_true rfl) rfl rfl ?_
      refine o_iload_n dX6_either5_31 rfl ?_
      refine o_ifne (tgt := 39) dX6_either5_32 (by decide) (fun u5 => ?_) (fun u5 => ?_)
      · refine o_iconst (v := 1) dX6_either5_39 (by decide) ?_
        refine o_goto (tgt := 44) dX6_either5_40 (by decide) ?_
        refine o_istore_n (L' := [some (.ref 48), some (.int 1), some (.int b4.1)]) dX6_either5_44 (Nat.le_of_ble_eq_true rfl) rfl rfl ?_
        refine o_goto (tgt := 5) dX6_either5_45 (by decide) ?_
        exact o_weak (L' := [some (.ref 48), some (.int 1), none]) ⟨rfl, ⟨rfl, trivial⟩⟩ (ih 1 b4.2)
      · refine o_iload_n dX6_either5_35 rfl ?_
        refine o_ifeq (tgt := 43) dX6_either5_36 (by decide) (fun u6 => ?_) (fun u6 => ?_)
        · refine o_iconst (v := 0) dX6_either5_43 (by decide) ?_
          refine o_istore_n (L' := [some (.ref 48), some (.int 0), some (.int b4.1)]) dX6_either5_44 (Nat.le_of_ble_eq_true rfl) rfl rfl ?_
          refine o_goto (tgt := 5) dX6_either5_45 (by decide) ?_
          exact o_weak (L' := [some (.ref 48), some (.int 0), none]) ⟨rfl, ⟨rfl, trivial⟩⟩ (ih 0 b4.2)
        · refine o_iconst (v := 1) dX6_either5_39 (by decide) ?_
          refine o_goto (tgt := 44) dX6_either5_40 (by decide) ?_
          refine o_istore_n (L' := [some (.ref 48), some (.int 1), some (.int b4.1)]) dX6_either5_44 (Nat.le_of_ble_eq_true rfl) rfl rfl ?_
          refine o_goto (tgt := 5) dX6_either5_45 (by decide) ?_
          exact o_weak (L' := [some (.ref 48), some (.int 1), none]) ⟨rfl, ⟨rfl, trivial⟩⟩ (ih 1 b4.2)
def f_X6_either5 (T : Nat) (st : px_S) : Option (Int32 × px_S) := ((f_X6_both5 T st).bind fun b7 => (f_X6_either5_5 T 1000 b7.1 b7.2))
set_option maxRecDepth 20000 in
theorem t_X6_either5 (T : Nat) (st : px_S) : px_O (9, 0, 0, px_n (T + 2), m_X6_either5) (px_gi (T + 2)) (f_X6_either5 T st) 0 [some (.ref 48), none, none] [] (HP (T + 2) st) 0 0 := by
  rw [f_X6_either5]
  refine o_aload_n dX6_either5_0 rfl ?_
  refine h_cVi (as := []) (S1 := []) (d' := 8) dX6_either5_1 mf_X6_both5 ml_X6_237 mv_X6_both5 q6 rfl (hp_at (px_ltM (by decide)) (c48 _)) rfl (Nat.le_of_ble_eq_true rfl) rfl (Nat.le_of_ble_eq_true rfl) (fun b hb => k_X6_both5 hb) (fun b7 hb7 => ?_)
  refine o_istore_n (L' := [some (.ref 48), some (.int b7.1), none]) dX6_either5_4 (Nat.le_of_ble_eq_true rfl) rfl rfl ?_
  exact (t_X6_either5_5 T 1000 b7.1 b7.2)
theorem k_X6_either5 {T : Nat} {st : px_S} {b : Int32 × px_S} (hf : f_X6_either5 T st = some b) : px_K (9) 0 0 m_X6_either5 [.ref 48] (HP (T + 2) st) ((px_gi (T + 2)) b).1 ((px_gi (T + 2)) b).2 := px_KofH hf mf_X6_either5 (Nat.le_of_ble_eq_true rfl) rfl (t_X6_either5 T st)
/-! ThreeOfThemModel.atom4()I: S, depth 10 -/
def f_X6_atom4_157 (T : Nat) (y1 : Int32) (st : px_S) : Option (Int32 × px_S) := ((f_X6_fail T st).bind fun b1 => (some (y1, b1)))
set_option maxRecDepth 20000 in
theorem t_X6_atom4_157 (T : Nat) (y1 : Int32) (st : px_S) : px_O (10, 0, 0, px_n (T + 2), m_X6_atom4) (px_gi (T + 2)) (f_X6_atom4_157 T y1 st) 157 [some (.ref 48), some (.int y1)] [] (HP (T + 2) st) 0 0 := by
  rw [f_X6_atom4_157]
  refine o_aload_n dX6_atom4_157 rfl ?_
  refine h_cVv (as := []) (S1 := []) (d' := 0) dX6_atom4_158 mf_X6_fail ml_X6_182 mv_X6_fail q6 rfl (hp_at (px_ltM (by decide)) (c48 _)) rfl (Nat.le_of_ble_eq_true rfl) rfl (Nat.le_of_ble_eq_true rfl) (fun b hb => k_X6_fail hb) (fun b1 hb1 => ?_)
  refine o_iload_n dX6_atom4_161 rfl ?_
  exact o_iret (rt := .int) rfl rfl dX6_atom4_162 rfl (Nat.zero_le _) (Nat.zero_le _)
def f_X6_atom4_123 (T : Nat) (y1 : Int32) (st : px_S) : Option (Int32 × px_S) := (if (st 48 29) = 0 then (if (st 48 25) = 1 then ((f_X6_name T st).bind fun b4 => (if (b4.2 48 29) = 0 then ((f_X6_next T b4.2).bind fun b6 => (some (b4.1, b6))) else (some (b4.1, b4.2)))) else (f_X6_atom4_157 T y1 st)) else (f_X6_atom4_157 T y1 st))
set_option maxRecDepth 20000 in
theorem t_X6_atom4_123 (T : Nat) (y1 : Int32) (st : px_S) : px_O (10, 0, 0, px_n (T + 2), m_X6_atom4) (px_gi (T + 2)) (f_X6_atom4_123 T y1 st) 123 [some (.ref 48), some (.int y1)] [] (HP (T + 2) st) 0 0 := by
  rw [f_X6_atom4_123]
  refine o_aload_n dX6_atom4_123 rfl ?_
  refine h_get (v := .int (st 48 29)) dX6_atom4_124 q6 fl_X6_169 (by decide) (px_ltM (by decide)) (c48 _) rfl ?_
  refine o_ifne (tgt := 157) dX6_atom4_127 (by decide) (fun u2 => ?_) (fun u2 => ?_)
  · exact (t_X6_atom4_157 T y1 st)
  · refine o_aload_n dX6_atom4_130 rfl ?_
    refine h_get (v := .int (st 48 25)) dX6_atom4_131 q6 fl_X6_152 (by decide) (px_ltM (by decide)) (c48 _) rfl ?_
    refine o_iconst (v := 1) dX6_atom4_134 (by decide) ?_
    refine o_icmpne (tgt := 157) dX6_atom4_135 (by decide) (fun u3 => ?_) (fun u3 => ?_)
    · exact (t_X6_atom4_157 T y1 st)
    · refine o_aload_n dX6_atom4_138 rfl ?_
      refine h_cVi (as := []) (S1 := []) (d' := 3) dX6_atom4_139 mf_X6_name ml_X6_217 mv_X6_name q6 rfl (hp_at (px_ltM (by decide)) (c48 _)) rfl (Nat.le_of_ble_eq_true rfl) rfl (Nat.le_of_ble_eq_true rfl) (fun b hb => k_X6_name hb) (fun b4 hb4 => ?_)
      refine o_istore_n (L' := [some (.ref 48), some (.int b4.1)]) dX6_atom4_142 (Nat.le_of_ble_eq_true rfl) rfl rfl ?_
      refine o_aload_n dX6_atom4_143 rfl ?_
      refine h_get (v := .int (b4.2 48 29)) dX6_atom4_144 q6 fl_X6_169 (by decide) (px_ltM (by decide)) (c48 _) rfl ?_
      refine o_ifne (tgt := 161) dX6_atom4_147 (by decide) (fun u5 => ?_) (fun u5 => ?_)
      · refine o_iload_n dX6_atom4_161 rfl ?_
        exact o_iret (rt := .int) rfl rfl dX6_atom4_162 rfl (Nat.zero_le _) (Nat.zero_le _)
      · refine o_aload_n dX6_atom4_150 rfl ?_
        refine h_cVv (as := []) (S1 := []) (d' := 1) dX6_atom4_151 mf_X6_next ml_X6_185 mv_X6_next q6 rfl (hp_at (px_ltM (by decide)) (c48 _)) rfl (Nat.le_of_ble_eq_true rfl) rfl (Nat.le_of_ble_eq_true rfl) (fun b hb => k_X6_next hb) (fun b6 hb6 => ?_)
        refine o_goto (tgt := 161) dX6_atom4_154 (by decide) ?_
        refine o_iload_n dX6_atom4_161 rfl ?_
        exact o_iret (rt := .int) rfl rfl dX6_atom4_162 rfl (Nat.zero_le _) (Nat.zero_le _)
def f_X6_atom4_71 (T : Nat) (y1 : Int32) (st : px_S) : Option (Int32 × px_S) := (if (st 48 29) = 0 then ((f_X6_next T (up st 48 28 ((st 48 28) - 1))).bind fun b8 => (some (y1, b8))) else (some (y1, (up st 48 28 ((st 48 28) - 1)))))
set_option maxRecDepth 20000 in
theorem t_X6_atom4_71 (T : Nat) (y1 : Int32) (st : px_S) : px_O (10, 0, 0, px_n (T + 2), m_X6_atom4) (px_gi (T + 2)) (f_X6_atom4_71 T y1 st) 71 [some (.ref 48), some (.int y1)] [] (HP (T + 2) st) 0 0 := by
  rw [f_X6_atom4_71]
  refine o_aload_n dX6_atom4_71 rfl ?_
  refine o_dup dX6_atom4_72 rfl ?_
  refine h_get (v := .int (st 48 28)) dX6_atom4_73 q6 fl_X6_179 (by decide) (px_ltM (by decide)) (c48 _) rfl ?_
  refine o_iconst (v := 1) dX6_atom4_76 (by decide) ?_
  refine o_isub dX6_atom4_77 ?_
  refine h_puti dX6_atom4_78 q6 fl_X6_179 pf_X6_28 (px_ltM (by decide)) (c48 _) (Nat.le_of_ble_eq_true rfl) (s48_28 _ _) ?_
  refine o_aload_n dX6_atom4_81 rfl ?_
  refine h_get (v := .int (st 48 29)) dX6_atom4_82 q6 fl_X6_169 (by decide) (px_ltM (by decide)) (c48 _) rfl ?_
  refine o_ifne (tgt := 161) dX6_atom4_85 (by decide) (fun u7 => ?_) (fun u7 => ?_)
  · refine o_iload_n dX6_atom4_161 rfl ?_
    exact o_iret (rt := .int) rfl rfl dX6_atom4_162 rfl (Nat.zero_le _) (Nat.zero_le _)
  · refine o_aload_n dX6_atom4_88 rfl ?_
    refine h_cVv (as := []) (S1 := []) (d' := 1) dX6_atom4_89 mf_X6_next ml_X6_185 mv_X6_next q6 rfl (hp_at (px_ltM (by decide)) (c48 _)) rfl (Nat.le_of_ble_eq_true rfl) rfl (Nat.le_of_ble_eq_true rfl) (fun b hb => k_X6_next hb) (fun b8 hb8 => ?_)
    refine o_goto (tgt := 161) dX6_atom4_92 (by decide) ?_
    refine o_iload_n dX6_atom4_161 rfl ?_
    exact o_iret (rt := .int) rfl rfl dX6_atom4_162 rfl (Nat.zero_le _) (Nat.zero_le _)
def f_X6_atom4 (T : Nat) (st : px_S) : Option (Int32 × px_S) := ((f_X6_isSign T st 45).bind fun b9 => (if b9 = 0 then ((f_X6_isSign T st 40).bind fun b11 => (if b11 = 0 then (if (st 48 29) = 0 then (if (st 48 25) = 2 then ((f_X6_next T st).bind fun b15 => (some ((st 48 27).toInt64.toInt32, b15))) else (f_X6_atom4_123 T 0 st)) else (f_X6_atom4_123 T 0 st)) else ((f_X6_opens T st).bind fun b16 => (if b16.1 = 0 then (some (0, b16.2)) else ((f_X6_either5 T b16.2).bind fun b18 => ((f_X6_isSign T b18.2 41).bind fun b19 => (if b19 = 0 then ((f_X6_fail T b18.2).bind fun b21 => (f_X6_atom4_71 T b18.1 b21)) else (f_X6_atom4_71 T b18.1 b18.2)))))))) else ((f_X6_opens T st).bind fun b22 => (if b22.1 = 0 then (some (0, b22.2)) else ((f_X6_atom5 T b22.2).bind fun b24 => (some ((-b24.1), (up b24.2 48 28 ((b24.2 48 28) - 1)))))))))
set_option maxRecDepth 20000 in
theorem t_X6_atom4 (T : Nat) (st : px_S) : px_O (10, 0, 0, px_n (T + 2), m_X6_atom4) (px_gi (T + 2)) (f_X6_atom4 T st) 0 [some (.ref 48), none] [] (HP (T + 2) st) 0 0 := by
  rw [f_X6_atom4]
  refine o_iconst (v := 0) dX6_atom4_0 (by decide) ?_
  refine o_istore_n (L' := [some (.ref 48), some (.int 0)]) dX6_atom4_1 (Nat.le_of_ble_eq_true rfl) rfl rfl ?_
  refine o_aload_n dX6_atom4_2 rfl ?_
  refine o_bipush (v := 45) dX6_atom4_3 (by decide) ?_
  refine h_cV0 (as := [.int 45]) (S1 := []) (d' := 0) dX6_atom4_5 mf_X6_isSign ml_X6_210 mv_X6_isSign q6 rfl (hp_at (px_ltM (by decide)) (c48 _)) rfl (Nat.le_of_ble_eq_true rfl) rfl (Nat.le_of_ble_eq_true rfl) ⟨Nat.zero_le _, Nat.zero_le _⟩ (fun b hb => k_X6_isSign hb) (fun b9 hb9 => ?_)
  refine o_ifeq (tgt := 37) dX6_atom4_8 (by decide) (fun u10 => ?_) (fun u10 => ?_)
  · refine o_aload_n dX6_atom4_37 rfl ?_
    refine o_bipush (v := 40) dX6_atom4_38 (by decide) ?_
    refine h_cV0 (as := [.int 40]) (S1 := []) (d' := 0) dX6_atom4_40 mf_X6_isSign ml_X6_210 mv_X6_isSign q6 rfl (hp_at (px_ltM (by decide)) (c48 _)) rfl (Nat.le_of_ble_eq_true rfl) rfl (Nat.le_of_ble_eq_true rfl) ⟨Nat.zero_le _, Nat.zero_le _⟩ (fun b hb => k_X6_isSign hb) (fun b11 hb11 => ?_)
    refine o_ifeq (tgt := 95) dX6_atom4_43 (by decide) (fun u12 => ?_) (fun u12 => ?_)
    · refine o_aload_n dX6_atom4_95 rfl ?_
      refine h_get (v := .int (st 48 29)) dX6_atom4_96 q6 fl_X6_169 (by decide) (px_ltM (by decide)) (c48 _) rfl ?_
      refine o_ifne (tgt := 123) dX6_atom4_99 (by decide) (fun u13 => ?_) (fun u13 => ?_)
      · exact (t_X6_atom4_123 T 0 st)
      · refine o_aload_n dX6_atom4_102 rfl ?_
        refine h_get (v := .int (st 48 25)) dX6_atom4_103 q6 fl_X6_152 (by decide) (px_ltM (by decide)) (c48 _) rfl ?_
        refine o_iconst (v := 2) dX6_atom4_106 (by decide) ?_
        refine o_icmpne (tgt := 123) dX6_atom4_107 (by decide) (fun u14 => ?_) (fun u14 => ?_)
        · exact (t_X6_atom4_123 T 0 st)
        · refine o_aload_n dX6_atom4_110 rfl ?_
          refine h_get (v := .long (st 48 27).toInt64) dX6_atom4_111 q6 fl_X6_163 (by decide) (px_ltM (by decide)) (c48 _) rfl ?_
          refine o_l2i dX6_atom4_114 ?_
          refine o_istore_n (L' := [some (.ref 48), some (.int (st 48 27).toInt64.toInt32)]) dX6_atom4_115 (Nat.le_of_ble_eq_true rfl) rfl rfl ?_
          refine o_aload_n dX6_atom4_116 rfl ?_
          refine h_cVv (as := []) (S1 := []) (d' := 1) dX6_atom4_117 mf_X6_next ml_X6_185 mv_X6_next q6 rfl (hp_at (px_ltM (by decide)) (c48 _)) rfl (Nat.le_of_ble_eq_true rfl) rfl (Nat.le_of_ble_eq_true rfl) (fun b hb => k_X6_next hb) (fun b15 hb15 => ?_)
          refine o_goto (tgt := 161) dX6_atom4_120 (by decide) ?_
          refine o_iload_n dX6_atom4_161 rfl ?_
          exact o_iret (rt := .int) rfl rfl dX6_atom4_162 rfl (Nat.zero_le _) (Nat.zero_le _)
    · refine o_aload_n dX6_atom4_46 rfl ?_
      refine h_cVi (as := []) (S1 := []) (d' := 2) dX6_atom4_47 mf_X6_opens ml_X6_213 mv_X6_opens q6 rfl (hp_at (px_ltM (by decide)) (c48 _)) rfl (Nat.le_of_ble_eq_true rfl) rfl (Nat.le_of_ble_eq_true rfl) (fun b hb => k_X6_opens hb) (fun b16 hb16 => ?_)
      refine o_ifeq (tgt := 161) dX6_atom4_50 (by decide) (fun u17 => ?_) (fun u17 => ?_)
      · refine o_iload_n dX6_atom4_161 rfl ?_
        exact o_iret (rt := .int) rfl rfl dX6_atom4_162 rfl (Nat.zero_le _) (Nat.zero_le _)
      · refine o_aload_n dX6_atom4_53 rfl ?_
        refine h_cVi (as := []) (S1 := []) (d' := 9) dX6_atom4_54 mf_X6_either5 ml_X6_240 mv_X6_either5 q6 rfl (hp_at (px_ltM (by decide)) (c48 _)) rfl (Nat.le_of_ble_eq_true rfl) rfl (Nat.le_of_ble_eq_true rfl) (fun b hb => k_X6_either5 hb) (fun b18 hb18 => ?_)
        refine o_istore_n (L' := [some (.ref 48), some (.int b18.1)]) dX6_atom4_57 (Nat.le_of_ble_eq_true rfl) rfl rfl ?_
        refine o_aload_n dX6_atom4_58 rfl ?_
        refine o_bipush (v := 41) dX6_atom4_59 (by decide) ?_
        refine h_cV0 (as := [.int 41]) (S1 := []) (d' := 0) dX6_atom4_61 mf_X6_isSign ml_X6_210 mv_X6_isSign q6 rfl (hp_at (px_ltM (by decide)) (c48 _)) rfl (Nat.le_of_ble_eq_true rfl) rfl (Nat.le_of_ble_eq_true rfl) ⟨Nat.zero_le _, Nat.zero_le _⟩ (fun b hb => k_X6_isSign hb) (fun b19 hb19 => ?_)
        refine o_ifne (tgt := 71) dX6_atom4_64 (by decide) (fun u20 => ?_) (fun u20 => ?_)
        · exact (t_X6_atom4_71 T b18.1 b18.2)
        · refine o_aload_n dX6_atom4_67 rfl ?_
          refine h_cVv (as := []) (S1 := []) (d' := 0) dX6_atom4_68 mf_X6_fail ml_X6_182 mv_X6_fail q6 rfl (hp_at (px_ltM (by decide)) (c48 _)) rfl (Nat.le_of_ble_eq_true rfl) rfl (Nat.le_of_ble_eq_true rfl) (fun b hb => k_X6_fail hb) (fun b21 hb21 => ?_)
          exact (t_X6_atom4_71 T b18.1 b21)
  · refine o_aload_n dX6_atom4_11 rfl ?_
    refine h_cVi (as := []) (S1 := []) (d' := 2) dX6_atom4_12 mf_X6_opens ml_X6_213 mv_X6_opens q6 rfl (hp_at (px_ltM (by decide)) (c48 _)) rfl (Nat.le_of_ble_eq_true rfl) rfl (Nat.le_of_ble_eq_true rfl) (fun b hb => k_X6_opens hb) (fun b22 hb22 => ?_)
    refine o_ifeq (tgt := 161) dX6_atom4_15 (by decide) (fun u23 => ?_) (fun u23 => ?_)
    · refine o_iload_n dX6_atom4_161 rfl ?_
      exact o_iret (rt := .int) rfl rfl dX6_atom4_162 rfl (Nat.zero_le _) (Nat.zero_le _)
    · refine o_aload_n dX6_atom4_18 rfl ?_
      refine h_cVi (as := []) (S1 := []) (d' := 4) dX6_atom4_19 mf_X6_atom5 ml_X6_221 mv_X6_atom5 q6 rfl (hp_at (px_ltM (by decide)) (c48 _)) rfl (Nat.le_of_ble_eq_true rfl) rfl (Nat.le_of_ble_eq_true rfl) (fun b hb => k_X6_atom5 hb) (fun b24 hb24 => ?_)
      refine o_ineg dX6_atom4_22 ?_
      refine o_istore_n (L' := [some (.ref 48), some (.int (-b24.1))]) dX6_atom4_23 (Nat.le_of_ble_eq_true rfl) rfl rfl ?_
      refine o_aload_n dX6_atom4_24 rfl ?_
      refine o_dup dX6_atom4_25 rfl ?_
      refine h_get (v := .int (b24.2 48 28)) dX6_atom4_26 q6 fl_X6_179 (by decide) (px_ltM (by decide)) (c48 _) rfl ?_
      refine o_iconst (v := 1) dX6_atom4_29 (by decide) ?_
      refine o_isub dX6_atom4_30 ?_
      refine h_puti dX6_atom4_31 q6 fl_X6_179 pf_X6_28 (px_ltM (by decide)) (c48 _) (Nat.le_of_ble_eq_true rfl) (s48_28 _ _) ?_
      refine o_goto (tgt := 161) dX6_atom4_34 (by decide) ?_
      refine o_iload_n dX6_atom4_161 rfl ?_
      exact o_iret (rt := .int) rfl rfl dX6_atom4_162 rfl (Nat.zero_le _) (Nat.zero_le _)
theorem k_X6_atom4 {T : Nat} {st : px_S} {b : Int32 × px_S} (hf : f_X6_atom4 T st = some b) : px_K (10) 0 0 m_X6_atom4 [.ref 48] (HP (T + 2) st) ((px_gi (T + 2)) b).1 ((px_gi (T + 2)) b).2 := px_KofH hf mf_X6_atom4 (Nat.le_of_ble_eq_true rfl) rfl (t_X6_atom4 T st)
/-! ThreeOfThemModel.term4()I: S, depth 11 -/
def f_X6_term4_5 (T : Nat) : Nat → Int32 → px_S → Option (Int32 × px_S)
  | 0, _, _ => none
  | n + 1, y1, st => ((f_X6_isSign T st 42).bind fun b1 => (if b1 = 0 then (some (y1, st)) else ((f_X6_next T st).bind fun b3 => ((f_X6_atom4 T b3).bind fun b4 => ((f_X6_term4_5 T n) (y1 * b4.1) b4.2)))))
set_option maxRecDepth 20000 in
theorem t_X6_term4_5 (T : Nat) : ∀ (n : Nat) (y1 : Int32) (st : px_S), px_O (11, 0, 0, px_n (T + 2), m_X6_term4) (px_gi (T + 2)) (f_X6_term4_5 T n y1 st) 5 [some (.ref 48), some (.int y1)] [] (HP (T + 2) st) 0 0 := by
  intro n
  induction n with
  | zero => intro y1 st; rw [f_X6_term4_5]; exact o_none
  | succ n ih =>
    intro y1 st
    rw [f_X6_term4_5]
    refine o_aload_n dX6_term4_5 rfl ?_
    refine o_bipush (v := 42) dX6_term4_6 (by decide) ?_
    refine h_cV0 (as := [.int 42]) (S1 := []) (d' := 0) dX6_term4_8 mf_X6_isSign ml_X6_210 mv_X6_isSign q6 rfl (hp_at (px_ltM (by decide)) (c48 _)) rfl (Nat.le_of_ble_eq_true rfl) rfl (Nat.le_of_ble_eq_true rfl) ⟨Nat.zero_le _, Nat.zero_le _⟩ (fun b hb => k_X6_isSign hb) (fun b1 hb1 => ?_)
    refine o_ifeq (tgt := 28) dX6_term4_11 (by decide) (fun u2 => ?_) (fun u2 => ?_)
    · refine o_iload_n dX6_term4_28 rfl ?_
      exact o_iret (rt := .int) rfl rfl dX6_term4_29 rfl (Nat.zero_le _) (Nat.zero_le _)
    · refine o_aload_n dX6_term4_14 rfl ?_
      refine h_cVv (as := []) (S1 := []) (d' := 1) dX6_term4_15 mf_X6_next ml_X6_185 mv_X6_next q6 rfl (hp_at (px_ltM (by decide)) (c48 _)) rfl (Nat.le_of_ble_eq_true rfl) rfl (Nat.le_of_ble_eq_true rfl) (fun b hb => k_X6_next hb) (fun b3 hb3 => ?_)
      refine o_iload_n dX6_term4_18 rfl ?_
      refine o_aload_n dX6_term4_19 rfl ?_
      refine h_cVi (as := []) (S1 := [.int y1]) (d' := 10) dX6_term4_20 mf_X6_atom4 ml_X6_243 mv_X6_atom4 q6 rfl (hp_at (px_ltM (by decide)) (c48 _)) rfl (Nat.le_of_ble_eq_true rfl) rfl (Nat.le_of_ble_eq_true rfl) (fun b hb => k_X6_atom4 hb) (fun b4 hb4 => ?_)
      refine o_imul dX6_term4_23 ?_
      refine o_istore_n (L' := [some (.ref 48), some (.int (y1 * b4.1))]) dX6_term4_24 (Nat.le_of_ble_eq_true rfl) rfl rfl ?_
      refine o_goto (tgt := 5) dX6_term4_25 (by decide) ?_
      exact (ih (y1 * b4.1) b4.2)
def f_X6_term4 (T : Nat) (st : px_S) : Option (Int32 × px_S) := ((f_X6_atom4 T st).bind fun b5 => (f_X6_term4_5 T 1000 b5.1 b5.2))
set_option maxRecDepth 20000 in
theorem t_X6_term4 (T : Nat) (st : px_S) : px_O (11, 0, 0, px_n (T + 2), m_X6_term4) (px_gi (T + 2)) (f_X6_term4 T st) 0 [some (.ref 48), none] [] (HP (T + 2) st) 0 0 := by
  rw [f_X6_term4]
  refine o_aload_n dX6_term4_0 rfl ?_
  refine h_cVi (as := []) (S1 := []) (d' := 10) dX6_term4_1 mf_X6_atom4 ml_X6_243 mv_X6_atom4 q6 rfl (hp_at (px_ltM (by decide)) (c48 _)) rfl (Nat.le_of_ble_eq_true rfl) rfl (Nat.le_of_ble_eq_true rfl) (fun b hb => k_X6_atom4 hb) (fun b5 hb5 => ?_)
  refine o_istore_n (L' := [some (.ref 48), some (.int b5.1)]) dX6_term4_4 (Nat.le_of_ble_eq_true rfl) rfl rfl ?_
  exact (t_X6_term4_5 T 1000 b5.1 b5.2)
theorem k_X6_term4 {T : Nat} {st : px_S} {b : Int32 × px_S} (hf : f_X6_term4 T st = some b) : px_K (11) 0 0 m_X6_term4 [.ref 48] (HP (T + 2) st) ((px_gi (T + 2)) b).1 ((px_gi (T + 2)) b).2 := px_KofH hf mf_X6_term4 (Nat.le_of_ble_eq_true rfl) rfl (t_X6_term4 T st)
/-! ThreeOfThemModel.added4()I: S, depth 12 -/
def f_X6_added4_39 (T : Nat) (k5 : Int32 → px_S → Option (Int32 × px_S)) (y1 : Int32) (z0 : Int32) (st : px_S) : Option (Int32 × px_S) := ((f_X6_next T st).bind fun b1 => ((f_X6_term4 T b1).bind fun b2 => (if z0 = 0 then (k5 (y1 - b2.1) b2.2) else (k5 (y1 + b2.1) b2.2))))
set_option maxRecDepth 20000 in
theorem t_X6_added4_39 (T : Nat) (k5 : Int32 → px_S → Option (Int32 × px_S)) (hk5 : ∀ (y1 : Int32) (st : px_S), px_O (12, 0, 0, px_n (T + 2), m_X6_added4) (px_gi (T + 2)) (k5 y1 st) 5 [some (.ref 48), some (.int y1), none, none] [] (HP (T + 2) st) 0 0) (y1 : Int32) (z0 : Int32) (st : px_S) : px_O (12, 0, 0, px_n (T + 2), m_X6_added4) (px_gi (T + 2)) (f_X6_added4_39 T k5 y1 z0 st) 39 [some (.ref 48), some (.int y1), none, none] [.int z0] (HP (T + 2) st) 0 0 := by
  rw [f_X6_added4_39]
  refine o_istore_n (L' := [some (.ref 48), some (.int y1), some (.int z0), none]) dX6_added4_39 (Nat.le_of_ble_eq_true rfl) rfl rfl ?_
  refine o_aload_n dX6_added4_40 rfl ?_
  refine h_cVv (as := []) (S1 := []) (d' := 1) dX6_added4_41 mf_X6_next ml_X6_185 mv_X6_next q6 rfl (hp_at (px_ltM (by decide)) (c48 _)) rfl (Nat.le_of_ble_eq_true rfl) rfl (Nat.le_of_ble_eq_true rfl) (fun b hb => k_X6_next hb) (fun b1 hb1 => ?_)
  refine o_aload_n dX6_added4_44 rfl ?_
  refine h_cVi (as := []) (S1 := []) (d' := 11) dX6_added4_45 mf_X6_term4 ml_X6_246 mv_X6_term4 q6 rfl (hp_at (px_ltM (by decide)) (c48 _)) rfl (Nat.le_of_ble_eq_true rfl) rfl (Nat.le_of_ble_eq_true rfl) (fun b hb => k_X6_term4 hb) (fun b2 hb2 => ?_)
  refine o_istore_n (L' := [some (.ref 48), some (.int y1), some (.int z0), some (.int b2.1)]) dX6_added4_48 (Nat.le_of_ble_eq_true rfl) rfl rfl ?_
  refine o_iload_n dX6_added4_49 rfl ?_
  refine o_ifeq (tgt := 59) dX6_added4_50 (by decide) (fun u3 => ?_) (fun u3 => ?_)
  · refine o_iload_n dX6_added4_59 rfl ?_
    refine o_iload_n dX6_added4_60 rfl ?_
    refine o_isub dX6_added4_61 ?_
    refine o_istore_n (L' := [some (.ref 48), some (.int (y1 - b2.1)), some (.int z0), some (.int b2.1)]) dX6_added4_62 (Nat.le_of_ble_eq_true rfl) rfl rfl ?_
    refine o_goto (tgt := 5) dX6_added4_63 (by decide) ?_
    exact o_weak (L' := [some (.ref 48), some (.int (y1 - b2.1)), none, none]) ⟨rfl, ⟨rfl, trivial⟩⟩ (hk5 (y1 - b2.1) b2.2)
  · refine o_iload_n dX6_added4_53 rfl ?_
    refine o_iload_n dX6_added4_54 rfl ?_
    refine o_iadd dX6_added4_55 ?_
    refine o_goto (tgt := 62) dX6_added4_56 (by decide) ?_
    refine o_istore_n (L' := [some (.ref 48), some (.int (y1 + b2.1)), some (.int z0), some (.int b2.1)]) dX6_added4_62 (Nat.le_of_ble_eq_true rfl) rfl rfl ?_
    refine o_goto (tgt := 5) dX6_added4_63 (by decide) ?_
    exact o_weak (L' := [some (.ref 48), some (.int (y1 + b2.1)), none, none]) ⟨rfl, ⟨rfl, trivial⟩⟩ (hk5 (y1 + b2.1) b2.2)
def f_X6_added4_23 (T : Nat) (k5 : Int32 → px_S → Option (Int32 × px_S)) (y1 : Int32) (st : px_S) : Option (Int32 × px_S) := (if (lg_cmp (st 48 27).toInt64 43) = 0 then (f_X6_added4_39 T k5 y1 1 st) else (f_X6_added4_39 T k5 y1 0 st))
set_option maxRecDepth 20000 in
theorem t_X6_added4_23 (T : Nat) (k5 : Int32 → px_S → Option (Int32 × px_S)) (hk5 : ∀ (y1 : Int32) (st : px_S), px_O (12, 0, 0, px_n (T + 2), m_X6_added4) (px_gi (T + 2)) (k5 y1 st) 5 [some (.ref 48), some (.int y1), none, none] [] (HP (T + 2) st) 0 0) (y1 : Int32) (st : px_S) : px_O (12, 0, 0, px_n (T + 2), m_X6_added4) (px_gi (T + 2)) (f_X6_added4_23 T k5 y1 st) 23 [some (.ref 48), some (.int y1), none, none] [] (HP (T + 2) st) 0 0 := by
  rw [f_X6_added4_23]
  refine o_aload_n dX6_added4_23 rfl ?_
  refine h_get (v := .long (st 48 27).toInt64) dX6_added4_24 q6 fl_X6_163 (by decide) (px_ltM (by decide)) (c48 _) rfl ?_
  refine o_ldc2 (v := 43) dX6_added4_27 cst_X6_227 ?_
  refine o_lcmp dX6_added4_30 ?_
  refine o_ifne (tgt := 38) dX6_added4_31 (by decide) (fun u4 => ?_) (fun u4 => ?_)
  · refine o_iconst (v := 0) dX6_added4_38 (by decide) ?_
    exact (t_X6_added4_39 T k5 hk5 y1 0 st)
  · refine o_iconst (v := 1) dX6_added4_34 (by decide) ?_
    refine o_goto (tgt := 39) dX6_added4_35 (by decide) ?_
    exact (t_X6_added4_39 T k5 hk5 y1 1 st)
def f_X6_added4_5 (T : Nat) : Nat → Int32 → px_S → Option (Int32 × px_S)
  | 0, _, _ => none
  | n + 1, y1, st => ((f_X6_isSign T st 43).bind fun b5 => (if b5 = 0 then ((f_X6_isSign T st 45).bind fun b7 => (if b7 = 0 then (some (y1, st)) else (f_X6_added4_23 T (f_X6_added4_5 T n) y1 st))) else (f_X6_added4_23 T (f_X6_added4_5 T n) y1 st)))
set_option maxRecDepth 20000 in
theorem t_X6_added4_5 (T : Nat) : ∀ (n : Nat) (y1 : Int32) (st : px_S), px_O (12, 0, 0, px_n (T + 2), m_X6_added4) (px_gi (T + 2)) (f_X6_added4_5 T n y1 st) 5 [some (.ref 48), some (.int y1), none, none] [] (HP (T + 2) st) 0 0 := by
  intro n
  induction n with
  | zero => intro y1 st; rw [f_X6_added4_5]; exact o_none
  | succ n ih =>
    intro y1 st
    rw [f_X6_added4_5]
    refine o_aload_n dX6_added4_5 rfl ?_
    refine o_bipush (v := 43) dX6_added4_6 (by decide) ?_
    refine h_cV0 (as := [.int 43]) (S1 := []) (d' := 0) dX6_added4_8 mf_X6_isSign ml_X6_210 mv_X6_isSign q6 rfl (hp_at (px_ltM (by decide)) (c48 _)) rfl (Nat.le_of_ble_eq_true rfl) rfl (Nat.le_of_ble_eq_true rfl) ⟨Nat.zero_le _, Nat.zero_le _⟩ (fun b hb => k_X6_isSign hb) (fun b5 hb5 => ?_)
    refine o_ifne (tgt := 23) dX6_added4_11 (by decide) (fun u6 => ?_) (fun u6 => ?_)
    · exact (t_X6_added4_23 T (f_X6_added4_5 T n) ih y1 st)
    · refine o_aload_n dX6_added4_14 rfl ?_
      refine o_bipush (v := 45) dX6_added4_15 (by decide) ?_
      refine h_cV0 (as := [.int 45]) (S1 := []) (d' := 0) dX6_added4_17 mf_X6_isSign ml_X6_210 mv_X6_isSign q6 rfl (hp_at (px_ltM (by decide)) (c48 _)) rfl (Nat.le_of_ble_eq_true rfl) rfl (Nat.le_of_ble_eq_true rfl) ⟨Nat.zero_le _, Nat.zero_le _⟩ (fun b hb => k_X6_isSign hb) (fun b7 hb7 => ?_)
      refine o_ifeq (tgt := 66) dX6_added4_20 (by decide) (fun u8 => ?_) (fun u8 => ?_)
      · refine o_iload_n dX6_added4_66 rfl ?_
        exact o_iret (rt := .int) rfl rfl dX6_added4_67 rfl (Nat.zero_le _) (Nat.zero_le _)
      · exact (t_X6_added4_23 T (f_X6_added4_5 T n) ih y1 st)
def f_X6_added4 (T : Nat) (st : px_S) : Option (Int32 × px_S) := ((f_X6_term4 T st).bind fun b9 => (f_X6_added4_5 T 1000 b9.1 b9.2))
set_option maxRecDepth 20000 in
theorem t_X6_added4 (T : Nat) (st : px_S) : px_O (12, 0, 0, px_n (T + 2), m_X6_added4) (px_gi (T + 2)) (f_X6_added4 T st) 0 [some (.ref 48), none, none, none] [] (HP (T + 2) st) 0 0 := by
  rw [f_X6_added4]
  refine o_aload_n dX6_added4_0 rfl ?_
  refine h_cVi (as := []) (S1 := []) (d' := 11) dX6_added4_1 mf_X6_term4 ml_X6_246 mv_X6_term4 q6 rfl (hp_at (px_ltM (by decide)) (c48 _)) rfl (Nat.le_of_ble_eq_true rfl) rfl (Nat.le_of_ble_eq_true rfl) (fun b hb => k_X6_term4 hb) (fun b9 hb9 => ?_)
  refine o_istore_n (L' := [some (.ref 48), some (.int b9.1), none, none]) dX6_added4_4 (Nat.le_of_ble_eq_true rfl) rfl rfl ?_
  exact (t_X6_added4_5 T 1000 b9.1 b9.2)
theorem k_X6_added4 {T : Nat} {st : px_S} {b : Int32 × px_S} (hf : f_X6_added4 T st = some b) : px_K (12) 0 0 m_X6_added4 [.ref 48] (HP (T + 2) st) ((px_gi (T + 2)) b).1 ((px_gi (T + 2)) b).2 := px_KofH hf mf_X6_added4 (Nat.le_of_ble_eq_true rfl) rfl (t_X6_added4 T st)
/-! ThreeOfThemModel.not4()I: S, depth 13 -/
def f_X6_not4_93 (T : Nat) (y1 : Int32) (z0 : Int32) (st : px_S) : Option (Int32 × px_S) := ((f_X6_next T st).bind fun b1 => ((f_X6_added4 T b1).bind fun b2 => (if z0 = 0 then (if y1 = b2.1 then (some (1, b2.2)) else (some (0, b2.2))) else (if y1 < b2.1 then (some (1, b2.2)) else (some (0, b2.2))))))
set_option maxRecDepth 20000 in
theorem t_X6_not4_93 (T : Nat) (y1 : Int32) (z0 : Int32) (st : px_S) : px_O (13, 0, 0, px_n (T + 2), m_X6_not4) (px_gi (T + 2)) (f_X6_not4_93 T y1 z0 st) 93 [some (.ref 48), some (.int y1), none, none] [.int z0] (HP (T + 2) st) 0 0 := by
  rw [f_X6_not4_93]
  refine o_istore_n (L' := [some (.ref 48), some (.int y1), some (.int z0), none]) dX6_not4_93 (Nat.le_of_ble_eq_true rfl) rfl rfl ?_
  refine o_aload_n dX6_not4_94 rfl ?_
  refine h_cVv (as := []) (S1 := []) (d' := 1) dX6_not4_95 mf_X6_next ml_X6_185 mv_X6_next q6 rfl (hp_at (px_ltM (by decide)) (c48 _)) rfl (Nat.le_of_ble_eq_true rfl) rfl (Nat.le_of_ble_eq_true rfl) (fun b hb => k_X6_next hb) (fun b1 hb1 => ?_)
  refine o_aload_n dX6_not4_98 rfl ?_
  refine h_cVi (as := []) (S1 := []) (d' := 12) dX6_not4_99 mf_X6_added4 ml_X6_249 mv_X6_added4 q6 rfl (hp_at (px_ltM (by decide)) (c48 _)) rfl (Nat.le_of_ble_eq_true rfl) rfl (Nat.le_of_ble_eq_true rfl) (fun b hb => k_X6_added4 hb) (fun b2 hb2 => ?_)
  refine o_istore_n (L' := [some (.ref 48), some (.int y1), some (.int z0), some (.int b2.1)]) dX6_not4_102 (Nat.le_of_ble_eq_true rfl) rfl rfl ?_
  refine o_iload_n dX6_not4_103 rfl ?_
  refine o_ifeq (tgt := 115) dX6_not4_104 (by decide) (fun u3 => ?_) (fun u3 => ?_)
  · refine o_iload_n dX6_not4_115 rfl ?_
    refine o_iload_n dX6_not4_116 rfl ?_
    refine o_icmpne (tgt := 124) dX6_not4_117 (by decide) (fun u4 => ?_) (fun u4 => ?_)
    · refine o_iconst (v := 0) dX6_not4_124 (by decide) ?_
      exact o_iret (rt := .int) rfl rfl dX6_not4_125 rfl (Nat.zero_le _) (Nat.zero_le _)
    · refine o_iconst (v := 1) dX6_not4_120 (by decide) ?_
      refine o_goto (tgt := 125) dX6_not4_121 (by decide) ?_
      exact o_iret (rt := .int) rfl rfl dX6_not4_125 rfl (Nat.zero_le _) (Nat.zero_le _)
  · refine o_iload_n dX6_not4_107 rfl ?_
    refine o_iload_n dX6_not4_108 rfl ?_
    refine o_icmpge (tgt := 124) dX6_not4_109 (by decide) (fun u5 => ?_) (fun u5 => ?_)
    · refine o_iconst (v := 0) dX6_not4_124 (by decide) ?_
      exact o_iret (rt := .int) rfl rfl dX6_not4_125 rfl (Nat.zero_le _) (Nat.zero_le _)
    · refine o_goto (tgt := 120) dX6_not4_112 (by decide) ?_
      refine o_iconst (v := 1) dX6_not4_120 (by decide) ?_
      refine o_goto (tgt := 125) dX6_not4_121 (by decide) ?_
      exact o_iret (rt := .int) rfl rfl dX6_not4_125 rfl (Nat.zero_le _) (Nat.zero_le _)
def f_X6_not4_77 (T : Nat) (y1 : Int32) (st : px_S) : Option (Int32 × px_S) := (if (lg_cmp (st 48 27).toInt64 60) = 0 then (f_X6_not4_93 T y1 1 st) else (f_X6_not4_93 T y1 0 st))
set_option maxRecDepth 20000 in
theorem t_X6_not4_77 (T : Nat) (y1 : Int32) (st : px_S) : px_O (13, 0, 0, px_n (T + 2), m_X6_not4) (px_gi (T + 2)) (f_X6_not4_77 T y1 st) 77 [some (.ref 48), some (.int y1), none, none] [] (HP (T + 2) st) 0 0 := by
  rw [f_X6_not4_77]
  refine o_aload_n dX6_not4_77 rfl ?_
  refine h_get (v := .long (st 48 27).toInt64) dX6_not4_78 q6 fl_X6_163 (by decide) (px_ltM (by decide)) (c48 _) rfl ?_
  refine o_ldc2 (v := 60) dX6_not4_81 cst_X6_232 ?_
  refine o_lcmp dX6_not4_84 ?_
  refine o_ifne (tgt := 92) dX6_not4_85 (by decide) (fun u6 => ?_) (fun u6 => ?_)
  · refine o_iconst (v := 0) dX6_not4_92 (by decide) ?_
    exact (t_X6_not4_93 T y1 0 st)
  · refine o_iconst (v := 1) dX6_not4_88 (by decide) ?_
    refine o_goto (tgt := 93) dX6_not4_89 (by decide) ?_
    exact (t_X6_not4_93 T y1 1 st)
def f_X6_not4 (T : Nat) (st : px_S) : Option (Int32 × px_S) := ((f_X6_isWord T st 110 111 116 0 0 0 0 0).bind fun b7 => (if b7 = 0 then ((f_X6_added4 T st).bind fun b9 => ((f_X6_isSign T b9.2 60).bind fun b10 => (if b10 = 0 then ((f_X6_isSign T b9.2 61).bind fun b12 => (if b12 = 0 then (some (b9.1, b9.2)) else (f_X6_not4_77 T b9.1 b9.2))) else (f_X6_not4_77 T b9.1 b9.2)))) else ((f_X6_opens T st).bind fun b14 => (if b14.1 = 0 then (some (0, b14.2)) else ((f_X6_not5 T b14.2).bind fun b16 => (if b16.1 = 0 then (some (1, (up b16.2 48 28 ((b16.2 48 28) - 1)))) else (some (0, (up b16.2 48 28 ((b16.2 48 28) - 1))))))))))
set_option maxRecDepth 20000 in
theorem t_X6_not4 (T : Nat) (st : px_S) : px_O (13, 0, 0, px_n (T + 2), m_X6_not4) (px_gi (T + 2)) (f_X6_not4 T st) 0 [some (.ref 48), none, none, none] [] (HP (T + 2) st) 0 0 := by
  rw [f_X6_not4]
  refine o_aload_n dX6_not4_0 rfl ?_
  refine o_bipush (v := 110) dX6_not4_1 (by decide) ?_
  refine o_bipush (v := 111) dX6_not4_3 (by decide) ?_
  refine o_bipush (v := 116) dX6_not4_5 (by decide) ?_
  refine o_iconst (v := 0) dX6_not4_7 (by decide) ?_
  refine o_iconst (v := 0) dX6_not4_8 (by decide) ?_
  refine o_iconst (v := 0) dX6_not4_9 (by decide) ?_
  refine o_iconst (v := 0) dX6_not4_10 (by decide) ?_
  refine o_iconst (v := 0) dX6_not4_11 (by decide) ?_
  refine h_cV0 (as := [.int 110, .int 111, .int 116, .int 0, .int 0, .int 0, .int 0, .int 0]) (S1 := []) (d' := 2) dX6_not4_12 mf_X6_isWord ml_X6_188 mv_X6_isWord q6 rfl (hp_at (px_ltM (by decide)) (c48 _)) rfl (Nat.le_of_ble_eq_true rfl) rfl (Nat.le_of_ble_eq_true rfl) ⟨Nat.zero_le _, Nat.zero_le _⟩ (fun b hb => k_X6_isWord hb) (fun b7 hb7 => ?_)
  refine o_ifeq (tgt := 52) dX6_not4_15 (by decide) (fun u8 => ?_) (fun u8 => ?_)
  · refine o_aload_n dX6_not4_52 rfl ?_
    refine h_cVi (as := []) (S1 := []) (d' := 12) dX6_not4_53 mf_X6_added4 ml_X6_249 mv_X6_added4 q6 rfl (hp_at (px_ltM (by decide)) (c48 _)) rfl (Nat.le_of_ble_eq_true rfl) rfl (Nat.le_of_ble_eq_true rfl) (fun b hb => k_X6_added4 hb) (fun b9 hb9 => ?_)
    refine o_istore_n (L' := [some (.ref 48), some (.int b9.1), none, none]) dX6_not4_56 (Nat.le_of_ble_eq_true rfl) rfl rfl ?_
    refine o_aload_n dX6_not4_57 rfl ?_
    refine o_bipush (v := 60) dX6_not4_58 (by decide) ?_
    refine h_cV0 (as := [.int 60]) (S1 := []) (d' := 0) dX6_not4_60 mf_X6_isSign ml_X6_210 mv_X6_isSign q6 rfl (hp_at (px_ltM (by decide)) (c48 _)) rfl (Nat.le_of_ble_eq_true rfl) rfl (Nat.le_of_ble_eq_true rfl) ⟨Nat.zero_le _, Nat.zero_le _⟩ (fun b hb => k_X6_isSign hb) (fun b10 hb10 => ?_)
    refine o_ifne (tgt := 77) dX6_not4_63 (by decide) (fun u11 => ?_) (fun u11 => ?_)
    · exact (t_X6_not4_77 T b9.1 b9.2)
    · refine o_aload_n dX6_not4_66 rfl ?_
      refine o_bipush (v := 61) dX6_not4_67 (by decide) ?_
      refine h_cV0 (as := [.int 61]) (S1 := []) (d' := 0) dX6_not4_69 mf_X6_isSign ml_X6_210 mv_X6_isSign q6 rfl (hp_at (px_ltM (by decide)) (c48 _)) rfl (Nat.le_of_ble_eq_true rfl) rfl (Nat.le_of_ble_eq_true rfl) ⟨Nat.zero_le _, Nat.zero_le _⟩ (fun b hb => k_X6_isSign hb) (fun b12 hb12 => ?_)
      refine o_ifne (tgt := 77) dX6_not4_72 (by decide) (fun u13 => ?_) (fun u13 => ?_)
      · exact (t_X6_not4_77 T b9.1 b9.2)
      · refine o_iload_n dX6_not4_75 rfl ?_
        exact o_iret (rt := .int) rfl rfl dX6_not4_76 rfl (Nat.zero_le _) (Nat.zero_le _)
  · refine o_aload_n dX6_not4_18 rfl ?_
    refine h_cVi (as := []) (S1 := []) (d' := 2) dX6_not4_19 mf_X6_opens ml_X6_213 mv_X6_opens q6 rfl (hp_at (px_ltM (by decide)) (c48 _)) rfl (Nat.le_of_ble_eq_true rfl) rfl (Nat.le_of_ble_eq_true rfl) (fun b hb => k_X6_opens hb) (fun b14 hb14 => ?_)
    refine o_ifne (tgt := 27) dX6_not4_22 (by decide) (fun u15 => ?_) (fun u15 => ?_)
    · refine o_aload_n dX6_not4_27 rfl ?_
      refine h_cVi (as := []) (S1 := []) (d' := 7) dX6_not4_28 mf_X6_not5 ml_X6_234 mv_X6_not5 q6 rfl (hp_at (px_ltM (by decide)) (c48 _)) rfl (Nat.le_of_ble_eq_true rfl) rfl (Nat.le_of_ble_eq_true rfl) (fun b hb => k_X6_not5 hb) (fun b16 hb16 => ?_)
      refine o_istore_n (L' := [some (.ref 48), some (.int b16.1), none, none]) dX6_not4_31 (Nat.le_of_ble_eq_true rfl) rfl rfl ?_
      refine o_aload_n dX6_not4_32 rfl ?_
      refine o_dup dX6_not4_33 rfl ?_
      refine h_get (v := .int (b16.2 48 28)) dX6_not4_34 q6 fl_X6_179 (by decide) (px_ltM (by decide)) (c48 _) rfl ?_
      refine o_iconst (v := 1) dX6_not4_37 (by decide) ?_
      refine o_isub dX6_not4_38 ?_
      refine h_puti dX6_not4_39 q6 fl_X6_179 pf_X6_28 (px_ltM (by decide)) (c48 _) (Nat.le_of_ble_eq_true rfl) (s48_28 _ _) ?_
      refine o_iload_n dX6_not4_42 rfl ?_
      refine o_ifne (tgt := 50) dX6_not4_43 (by decide) (fun u17 => ?_) (fun u17 => ?_)
      · refine o_iconst (v := 0) dX6_not4_50 (by decide) ?_
        exact o_iret (rt := .int) rfl rfl dX6_not4_51 rfl (Nat.zero_le _) (Nat.zero_le _)
      · refine o_iconst (v := 1) dX6_not4_46 (by decide) ?_
        refine o_goto (tgt := 51) dX6_not4_47 (by decide) ?_
        exact o_iret (rt := .int) rfl rfl dX6_not4_51 rfl (Nat.zero_le _) (Nat.zero_le _)
    · refine o_iconst (v := 0) dX6_not4_25 (by decide) ?_
      exact o_iret (rt := .int) rfl rfl dX6_not4_26 rfl (Nat.zero_le _) (Nat.zero_le _)
theorem k_X6_not4 {T : Nat} {st : px_S} {b : Int32 × px_S} (hf : f_X6_not4 T st = some b) : px_K (13) 0 0 m_X6_not4 [.ref 48] (HP (T + 2) st) ((px_gi (T + 2)) b).1 ((px_gi (T + 2)) b).2 := px_KofH hf mf_X6_not4 (Nat.le_of_ble_eq_true rfl) rfl (t_X6_not4 T st)
/-! ThreeOfThemModel.both4()I: S, depth 14 -/
def f_X6_both4_5 (T : Nat) : Nat → Int32 → px_S → Option (Int32 × px_S)
  | 0, _, _ => none
  | n + 1, y1, st => ((f_X6_isWord T st 97 110 100 0 0 0 0 0).bind fun b1 => (if b1 = 0 then (some (y1, st)) else ((f_X6_next T st).bind fun b3 => ((f_X6_not4 T b3).bind fun b4 => (if y1 = 0 then ((f_X6_both4_5 T n) 0 b4.2) else (if b4.1 = 0 then ((f_X6_both4_5 T n) 0 b4.2) else ((f_X6_both4_5 T n) 1 b4.2)))))))
set_option maxRecDepth 20000 in
theorem t_X6_both4_5 (T : Nat) : ∀ (n : Nat) (y1 : Int32) (st : px_S), px_O (14, 0, 0, px_n (T + 2), m_X6_both4) (px_gi (T + 2)) (f_X6_both4_5 T n y1 st) 5 [some (.ref 48), some (.int y1), none] [] (HP (T + 2) st) 0 0 := by
  intro n
  induction n with
  | zero => intro y1 st; rw [f_X6_both4_5]; exact o_none
  | succ n ih =>
    intro y1 st
    rw [f_X6_both4_5]
    refine o_aload_n dX6_both4_5 rfl ?_
    refine o_bipush (v := 97) dX6_both4_6 (by decide) ?_
    refine o_bipush (v := 110) dX6_both4_8 (by decide) ?_
    refine o_bipush (v := 100) dX6_both4_10 (by decide) ?_
    refine o_iconst (v := 0) dX6_both4_12 (by decide) ?_
    refine o_iconst (v := 0) dX6_both4_13 (by decide) ?_
    refine o_iconst (v := 0) dX6_both4_14 (by decide) ?_
    refine o_iconst (v := 0) dX6_both4_15 (by decide) ?_
    refine o_iconst (v := 0) dX6_both4_16 (by decide) ?_
    refine h_cV0 (as := [.int 97, .int 110, .int 100, .int 0, .int 0, .int 0, .int 0, .int 0]) (S1 := []) (d' := 2) dX6_both4_17 mf_X6_isWord ml_X6_188 mv_X6_isWord q6 rfl (hp_at (px_ltM (by decide)) (c48 _)) rfl (Nat.le_of_ble_eq_true rfl) rfl (Nat.le_of_ble_eq_true rfl) ⟨Nat.zero_le _, Nat.zero_le _⟩ (fun b hb => k_X6_isWord hb) (fun b1 hb1 => ?_)
    refine o_ifeq (tgt := 49) dX6_both4_20 (by decide) (fun u2 => ?_) (fun u2 => ?_)
    · refine o_iload_n dX6_both4_49 rfl ?_
      exact o_iret (rt := .int) rfl rfl dX6_both4_50 rfl (Nat.zero_le _) (Nat.zero_le _)
    · refine o_aload_n dX6_both4_23 rfl ?_
      refine h_cVv (as := []) (S1 := []) (d' := 1) dX6_both4_24 mf_X6_next ml_X6_185 mv_X6_next q6 rfl (hp_at (px_ltM (by decide)) (c48 _)) rfl (Nat.le_of_ble_eq_true rfl) rfl (Nat.le_of_ble_eq_true rfl) (fun b hb => k_X6_next hb) (fun b3 hb3 => ?_)
      refine o_aload_n dX6_both4_27 rfl ?_
      refine h_cVi (as := []) (S1 := []) (d' := 13) dX6_both4_28 mf_X6_not4 ml_X6_252 mv_X6_not4 q6 rfl (hp_at (px_ltM (by decide)) (c48 _)) rfl (Nat.le_of_ble_eq_true rfl) rfl (Nat.le_of_ble_eq_true rfl) (fun b hb => k_X6_not4 hb) (fun b4 hb4 => ?_)
      refine o_istore_n (L' := [some (.ref 48), some (.int y1), some (.int b4.1)]) dX6_both4_31 (Nat.le_of_ble_eq_true rfl) rfl rfl ?_
      refine o_iload_n dX6_both4_32 rfl ?_
      refine o_ifeq (tgt := 44) dX6_both4_33 (by decide) (fun u5 => ?_) (fun u5 => ?_)
      · refine o_iconst (v := 0) dX6_both4_44 (by decide) ?_
        refine o_istore_n (L' := [some (.ref 48), some (.int 0), some (.int b4.1)]) dX6_both4_45 (Nat.le_of_ble_eq_true rfl) rfl rfl ?_
        refine o_goto (tgt := 5) dX6_both4_46 (by decide) ?_
        exact o_weak (L' := [some (.ref 48), some (.int 0), none]) ⟨rfl, ⟨rfl, trivial⟩⟩ (ih 0 b4.2)
      · refine o_iload_n dX6_both4_36 rfl ?_
        refine o_ifeq (tgt := 44) dX6_both4_37 (by decide) (fun u6 => ?_) (fun u6 => ?_)
        · refine o_iconst (v := 0) dX6_both4_44 (by decide) ?_
          refine o_istore_n (L' := [some (.ref 48), some (.int 0), some (.int b4.1)]) dX6_both4_45 (Nat.le_of_ble_eq_true rfl) rfl rfl ?_
          refine o_goto (tgt := 5) dX6_both4_46 (by decide) ?_
          exact o_weak (L' := [some (.ref 48), some (.int 0), none]) ⟨rfl, ⟨rfl, trivial⟩⟩ (ih 0 b4.2)
        · refine o_iconst (v := 1) dX6_both4_40 (by decide) ?_
          refine o_goto (tgt := 45) dX6_both4_41 (by decide) ?_
          refine o_istore_n (L' := [some (.ref 48), some (.int 1), some (.int b4.1)]) dX6_both4_45 (Nat.le_of_ble_eq_true rfl) rfl rfl ?_
          refine o_goto (tgt := 5) dX6_both4_46 (by decide) ?_
          exact o_weak (L' := [some (.ref 48), some (.int 1), none]) ⟨rfl, ⟨rfl, trivial⟩⟩ (ih 1 b4.2)
def f_X6_both4 (T : Nat) (st : px_S) : Option (Int32 × px_S) := ((f_X6_not4 T st).bind fun b7 => (f_X6_both4_5 T 1000 b7.1 b7.2))
set_option maxRecDepth 20000 in
theorem t_X6_both4 (T : Nat) (st : px_S) : px_O (14, 0, 0, px_n (T + 2), m_X6_both4) (px_gi (T + 2)) (f_X6_both4 T st) 0 [some (.ref 48), none, none] [] (HP (T + 2) st) 0 0 := by
  rw [f_X6_both4]
  refine o_aload_n dX6_both4_0 rfl ?_
  refine h_cVi (as := []) (S1 := []) (d' := 13) dX6_both4_1 mf_X6_not4 ml_X6_252 mv_X6_not4 q6 rfl (hp_at (px_ltM (by decide)) (c48 _)) rfl (Nat.le_of_ble_eq_true rfl) rfl (Nat.le_of_ble_eq_true rfl) (fun b hb => k_X6_not4 hb) (fun b7 hb7 => ?_)
  refine o_istore_n (L' := [some (.ref 48), some (.int b7.1), none]) dX6_both4_4 (Nat.le_of_ble_eq_true rfl) rfl rfl ?_
  exact (t_X6_both4_5 T 1000 b7.1 b7.2)
theorem k_X6_both4 {T : Nat} {st : px_S} {b : Int32 × px_S} (hf : f_X6_both4 T st = some b) : px_K (14) 0 0 m_X6_both4 [.ref 48] (HP (T + 2) st) ((px_gi (T + 2)) b).1 ((px_gi (T + 2)) b).2 := px_KofH hf mf_X6_both4 (Nat.le_of_ble_eq_true rfl) rfl (t_X6_both4 T st)
/-! ThreeOfThemModel.either4()I: S, depth 15 -/
def f_X6_either4_5 (T : Nat) : Nat → Int32 → px_S → Option (Int32 × px_S)
  | 0, _, _ => none
  | n + 1, y1, st => ((f_X6_isWord T st 111 114 0 0 0 0 0 0).bind fun b1 => (if b1 = 0 then (some (y1, st)) else ((f_X6_next T st).bind fun b3 => ((f_X6_both4 T b3).bind fun b4 => (if y1 = 0 then (if b4.1 = 0 then ((f_X6_either4_5 T n) 0 b4.2) else ((f_X6_either4_5 T n) 1 b4.2)) else ((f_X6_either4_5 T n) 1 b4.2))))))
set_option maxRecDepth 20000 in
theorem t_X6_either4_5 (T : Nat) : ∀ (n : Nat) (y1 : Int32) (st : px_S), px_O (15, 0, 0, px_n (T + 2), m_X6_either4) (px_gi (T + 2)) (f_X6_either4_5 T n y1 st) 5 [some (.ref 48), some (.int y1), none] [] (HP (T + 2) st) 0 0 := by
  intro n
  induction n with
  | zero => intro y1 st; rw [f_X6_either4_5]; exact o_none
  | succ n ih =>
    intro y1 st
    rw [f_X6_either4_5]
    refine o_aload_n dX6_either4_5 rfl ?_
    refine o_bipush (v := 111) dX6_either4_6 (by decide) ?_
    refine o_bipush (v := 114) dX6_either4_8 (by decide) ?_
    refine o_iconst (v := 0) dX6_either4_10 (by decide) ?_
    refine o_iconst (v := 0) dX6_either4_11 (by decide) ?_
    refine o_iconst (v := 0) dX6_either4_12 (by decide) ?_
    refine o_iconst (v := 0) dX6_either4_13 (by decide) ?_
    refine o_iconst (v := 0) dX6_either4_14 (by decide) ?_
    refine o_iconst (v := 0) dX6_either4_15 (by decide) ?_
    refine h_cV0 (as := [.int 111, .int 114, .int 0, .int 0, .int 0, .int 0, .int 0, .int 0]) (S1 := []) (d' := 2) dX6_either4_16 mf_X6_isWord ml_X6_188 mv_X6_isWord q6 rfl (hp_at (px_ltM (by decide)) (c48 _)) rfl (Nat.le_of_ble_eq_true rfl) rfl (Nat.le_of_ble_eq_true rfl) ⟨Nat.zero_le _, Nat.zero_le _⟩ (fun b hb => k_X6_isWord hb) (fun b1 hb1 => ?_)
    refine o_ifeq (tgt := 48) dX6_either4_19 (by decide) (fun u2 => ?_) (fun u2 => ?_)
    · refine o_iload_n dX6_either4_48 rfl ?_
      exact o_iret (rt := .int) rfl rfl dX6_either4_49 rfl (Nat.zero_le _) (Nat.zero_le _)
    · refine o_aload_n dX6_either4_22 rfl ?_
      refine h_cVv (as := []) (S1 := []) (d' := 1) dX6_either4_23 mf_X6_next ml_X6_185 mv_X6_next q6 rfl (hp_at (px_ltM (by decide)) (c48 _)) rfl (Nat.le_of_ble_eq_true rfl) rfl (Nat.le_of_ble_eq_true rfl) (fun b hb => k_X6_next hb) (fun b3 hb3 => ?_)
      refine o_aload_n dX6_either4_26 rfl ?_
      refine h_cVi (as := []) (S1 := []) (d' := 14) dX6_either4_27 mf_X6_both4 ml_X6_255 mv_X6_both4 q6 rfl (hp_at (px_ltM (by decide)) (c48 _)) rfl (Nat.le_of_ble_eq_true rfl) rfl (Nat.le_of_ble_eq_true rfl) (fun b hb => k_X6_both4 hb) (fun b4 hb4 => ?_)
      refine o_istore_n (L' := [some (.ref 48), some (.int y1), some (.int b4.1)]) dX6_either4_30 (Nat.le_of_ble_eq_true rfl) rfl rfl ?_
      refine o_iload_n dX6_either4_31 rfl ?_
      refine o_ifne (tgt := 39) dX6_either4_32 (by decide) (fun u5 => ?_) (fun u5 => ?_)
      · refine o_iconst (v := 1) dX6_either4_39 (by decide) ?_
        refine o_goto (tgt := 44) dX6_either4_40 (by decide) ?_
        refine o_istore_n (L' := [some (.ref 48), some (.int 1), some (.int b4.1)]) dX6_either4_44 (Nat.le_of_ble_eq_true rfl) rfl rfl ?_
        refine o_goto (tgt := 5) dX6_either4_45 (by decide) ?_
        exact o_weak (L' := [some (.ref 48), some (.int 1), none]) ⟨rfl, ⟨rfl, trivial⟩⟩ (ih 1 b4.2)
      · refine o_iload_n dX6_either4_35 rfl ?_
        refine o_ifeq (tgt := 43) dX6_either4_36 (by decide) (fun u6 => ?_) (fun u6 => ?_)
        · refine o_iconst (v := 0) dX6_either4_43 (by decide) ?_
          refine o_istore_n (L' := [some (.ref 48), some (.int 0), some (.int b4.1)]) dX6_either4_44 (Nat.le_of_ble_eq_true rfl) rfl rfl ?_
          refine o_goto (tgt := 5) dX6_either4_45 (by decide) ?_
          exact o_weak (L' := [some (.ref 48), some (.int 0), none]) ⟨rfl, ⟨rfl, trivial⟩⟩ (ih 0 b4.2)
        · refine o_iconst (v := 1) dX6_either4_39 (by decide) ?_
          refine o_goto (tgt := 44) dX6_either4_40 (by decide) ?_
          refine o_istore_n (L' := [some (.ref 48), some (.int 1), some (.int b4.1)]) dX6_either4_44 (Nat.le_of_ble_eq_true rfl) rfl rfl ?_
          refine o_goto (tgt := 5) dX6_either4_45 (by decide) ?_
          exact o_weak (L' := [some (.ref 48), some (.int 1), none]) ⟨rfl, ⟨rfl, trivial⟩⟩ (ih 1 b4.2)
def f_X6_either4 (T : Nat) (st : px_S) : Option (Int32 × px_S) := ((f_X6_both4 T st).bind fun b7 => (f_X6_either4_5 T 1000 b7.1 b7.2))
set_option maxRecDepth 20000 in
theorem t_X6_either4 (T : Nat) (st : px_S) : px_O (15, 0, 0, px_n (T + 2), m_X6_either4) (px_gi (T + 2)) (f_X6_either4 T st) 0 [some (.ref 48), none, none] [] (HP (T + 2) st) 0 0 := by
  rw [f_X6_either4]
  refine o_aload_n dX6_either4_0 rfl ?_
  refine h_cVi (as := []) (S1 := []) (d' := 14) dX6_either4_1 mf_X6_both4 ml_X6_255 mv_X6_both4 q6 rfl (hp_at (px_ltM (by decide)) (c48 _)) rfl (Nat.le_of_ble_eq_true rfl) rfl (Nat.le_of_ble_eq_true rfl) (fun b hb => k_X6_both4 hb) (fun b7 hb7 => ?_)
  refine o_istore_n (L' := [some (.ref 48), some (.int b7.1), none]) dX6_either4_4 (Nat.le_of_ble_eq_true rfl) rfl rfl ?_
  exact (t_X6_either4_5 T 1000 b7.1 b7.2)
theorem k_X6_either4 {T : Nat} {st : px_S} {b : Int32 × px_S} (hf : f_X6_either4 T st = some b) : px_K (15) 0 0 m_X6_either4 [.ref 48] (HP (T + 2) st) ((px_gi (T + 2)) b).1 ((px_gi (T + 2)) b).2 := px_KofH hf mf_X6_either4 (Nat.le_of_ble_eq_true rfl) rfl (t_X6_either4 T st)
/-! ThreeOfThemModel.atom3()I: S, depth 16 -/
def f_X6_atom3_157 (T : Nat) (y1 : Int32) (st : px_S) : Option (Int32 × px_S) := ((f_X6_fail T st).bind fun b1 => (some (y1, b1)))
set_option maxRecDepth 20000 in
theorem t_X6_atom3_157 (T : Nat) (y1 : Int32) (st : px_S) : px_O (16, 0, 0, px_n (T + 2), m_X6_atom3) (px_gi (T + 2)) (f_X6_atom3_157 T y1 st) 157 [some (.ref 48), some (.int y1)] [] (HP (T + 2) st) 0 0 := by
  rw [f_X6_atom3_157]
  refine o_aload_n dX6_atom3_157 rfl ?_
  refine h_cVv (as := []) (S1 := []) (d' := 0) dX6_atom3_158 mf_X6_fail ml_X6_182 mv_X6_fail q6 rfl (hp_at (px_ltM (by decide)) (c48 _)) rfl (Nat.le_of_ble_eq_true rfl) rfl (Nat.le_of_ble_eq_true rfl) (fun b hb => k_X6_fail hb) (fun b1 hb1 => ?_)
  refine o_iload_n dX6_atom3_161 rfl ?_
  exact o_iret (rt := .int) rfl rfl dX6_atom3_162 rfl (Nat.zero_le _) (Nat.zero_le _)
def f_X6_atom3_123 (T : Nat) (y1 : Int32) (st : px_S) : Option (Int32 × px_S) := (if (st 48 29) = 0 then (if (st 48 25) = 1 then ((f_X6_name T st).bind fun b4 => (if (b4.2 48 29) = 0 then ((f_X6_next T b4.2).bind fun b6 => (some (b4.1, b6))) else (some (b4.1, b4.2)))) else (f_X6_atom3_157 T y1 st)) else (f_X6_atom3_157 T y1 st))
set_option maxRecDepth 20000 in
theorem t_X6_atom3_123 (T : Nat) (y1 : Int32) (st : px_S) : px_O (16, 0, 0, px_n (T + 2), m_X6_atom3) (px_gi (T + 2)) (f_X6_atom3_123 T y1 st) 123 [some (.ref 48), some (.int y1)] [] (HP (T + 2) st) 0 0 := by
  rw [f_X6_atom3_123]
  refine o_aload_n dX6_atom3_123 rfl ?_
  refine h_get (v := .int (st 48 29)) dX6_atom3_124 q6 fl_X6_169 (by decide) (px_ltM (by decide)) (c48 _) rfl ?_
  refine o_ifne (tgt := 157) dX6_atom3_127 (by decide) (fun u2 => ?_) (fun u2 => ?_)
  · exact (t_X6_atom3_157 T y1 st)
  · refine o_aload_n dX6_atom3_130 rfl ?_
    refine h_get (v := .int (st 48 25)) dX6_atom3_131 q6 fl_X6_152 (by decide) (px_ltM (by decide)) (c48 _) rfl ?_
    refine o_iconst (v := 1) dX6_atom3_134 (by decide) ?_
    refine o_icmpne (tgt := 157) dX6_atom3_135 (by decide) (fun u3 => ?_) (fun u3 => ?_)
    · exact (t_X6_atom3_157 T y1 st)
    · refine o_aload_n dX6_atom3_138 rfl ?_
      refine h_cVi (as := []) (S1 := []) (d' := 3) dX6_atom3_139 mf_X6_name ml_X6_217 mv_X6_name q6 rfl (hp_at (px_ltM (by decide)) (c48 _)) rfl (Nat.le_of_ble_eq_true rfl) rfl (Nat.le_of_ble_eq_true rfl) (fun b hb => k_X6_name hb) (fun b4 hb4 => ?_)
      refine o_istore_n (L' := [some (.ref 48), some (.int b4.1)]) dX6_atom3_142 (Nat.le_of_ble_eq_true rfl) rfl rfl ?_
      refine o_aload_n dX6_atom3_143 rfl ?_
      refine h_get (v := .int (b4.2 48 29)) dX6_atom3_144 q6 fl_X6_169 (by decide) (px_ltM (by decide)) (c48 _) rfl ?_
      refine o_ifne (tgt := 161) dX6_atom3_147 (by decide) (fun u5 => ?_) (fun u5 => ?_)
      · refine o_iload_n dX6_atom3_161 rfl ?_
        exact o_iret (rt := .int) rfl rfl dX6_atom3_162 rfl (Nat.zero_le _) (Nat.zero_le _)
      · refine o_aload_n dX6_atom3_150 rfl ?_
        refine h_cVv (as := []) (S1 := []) (d' := 1) dX6_atom3_151 mf_X6_next ml_X6_185 mv_X6_next q6 rfl (hp_at (px_ltM (by decide)) (c48 _)) rfl (Nat.le_of_ble_eq_true rfl) rfl (Nat.le_of_ble_eq_true rfl) (fun b hb => k_X6_next hb) (fun b6 hb6 => ?_)
        refine o_goto (tgt := 161) dX6_atom3_154 (by decide) ?_
        refine o_iload_n dX6_atom3_161 rfl ?_
        exact o_iret (rt := .int) rfl rfl dX6_atom3_162 rfl (Nat.zero_le _) (Nat.zero_le _)
def f_X6_atom3_71 (T : Nat) (y1 : Int32) (st : px_S) : Option (Int32 × px_S) := (if (st 48 29) = 0 then ((f_X6_next T (up st 48 28 ((st 48 28) - 1))).bind fun b8 => (some (y1, b8))) else (some (y1, (up st 48 28 ((st 48 28) - 1)))))
set_option maxRecDepth 20000 in
theorem t_X6_atom3_71 (T : Nat) (y1 : Int32) (st : px_S) : px_O (16, 0, 0, px_n (T + 2), m_X6_atom3) (px_gi (T + 2)) (f_X6_atom3_71 T y1 st) 71 [some (.ref 48), some (.int y1)] [] (HP (T + 2) st) 0 0 := by
  rw [f_X6_atom3_71]
  refine o_aload_n dX6_atom3_71 rfl ?_
  refine o_dup dX6_atom3_72 rfl ?_
  refine h_get (v := .int (st 48 28)) dX6_atom3_73 q6 fl_X6_179 (by decide) (px_ltM (by decide)) (c48 _) rfl ?_
  refine o_iconst (v := 1) dX6_atom3_76 (by decide) ?_
  refine o_isub dX6_atom3_77 ?_
  refine h_puti dX6_atom3_78 q6 fl_X6_179 pf_X6_28 (px_ltM (by decide)) (c48 _) (Nat.le_of_ble_eq_true rfl) (s48_28 _ _) ?_
  refine o_aload_n dX6_atom3_81 rfl ?_
  refine h_get (v := .int (st 48 29)) dX6_atom3_82 q6 fl_X6_169 (by decide) (px_ltM (by decide)) (c48 _) rfl ?_
  refine o_ifne (tgt := 161) dX6_atom3_85 (by decide) (fun u7 => ?_) (fun u7 => ?_)
  · refine o_iload_n dX6_atom3_161 rfl ?_
    exact o_iret (rt := .int) rfl rfl dX6_atom3_162 rfl (Nat.zero_le _) (Nat.zero_le _)
  · refine o_aload_n dX6_atom3_88 rfl ?_
    refine h_cVv (as := []) (S1 := []) (d' := 1) dX6_atom3_89 mf_X6_next ml_X6_185 mv_X6_next q6 rfl (hp_at (px_ltM (by decide)) (c48 _)) rfl (Nat.le_of_ble_eq_true rfl) rfl (Nat.le_of_ble_eq_true rfl) (fun b hb => k_X6_next hb) (fun b8 hb8 => ?_)
    refine o_goto (tgt := 161) dX6_atom3_92 (by decide) ?_
    refine o_iload_n dX6_atom3_161 rfl ?_
    exact o_iret (rt := .int) rfl rfl dX6_atom3_162 rfl (Nat.zero_le _) (Nat.zero_le _)
def f_X6_atom3 (T : Nat) (st : px_S) : Option (Int32 × px_S) := ((f_X6_isSign T st 45).bind fun b9 => (if b9 = 0 then ((f_X6_isSign T st 40).bind fun b11 => (if b11 = 0 then (if (st 48 29) = 0 then (if (st 48 25) = 2 then ((f_X6_next T st).bind fun b15 => (some ((st 48 27).toInt64.toInt32, b15))) else (f_X6_atom3_123 T 0 st)) else (f_X6_atom3_123 T 0 st)) else ((f_X6_opens T st).bind fun b16 => (if b16.1 = 0 then (some (0, b16.2)) else ((f_X6_either4 T b16.2).bind fun b18 => ((f_X6_isSign T b18.2 41).bind fun b19 => (if b19 = 0 then ((f_X6_fail T b18.2).bind fun b21 => (f_X6_atom3_71 T b18.1 b21)) else (f_X6_atom3_71 T b18.1 b18.2)))))))) else ((f_X6_opens T st).bind fun b22 => (if b22.1 = 0 then (some (0, b22.2)) else ((f_X6_atom4 T b22.2).bind fun b24 => (some ((-b24.1), (up b24.2 48 28 ((b24.2 48 28) - 1)))))))))
set_option maxRecDepth 20000 in
theorem t_X6_atom3 (T : Nat) (st : px_S) : px_O (16, 0, 0, px_n (T + 2), m_X6_atom3) (px_gi (T + 2)) (f_X6_atom3 T st) 0 [some (.ref 48), none] [] (HP (T + 2) st) 0 0 := by
  rw [f_X6_atom3]
  refine o_iconst (v := 0) dX6_atom3_0 (by decide) ?_
  refine o_istore_n (L' := [some (.ref 48), some (.int 0)]) dX6_atom3_1 (Nat.le_of_ble_eq_true rfl) rfl rfl ?_
  refine o_aload_n dX6_atom3_2 rfl ?_
  refine o_bipush (v := 45) dX6_atom3_3 (by decide) ?_
  refine h_cV0 (as := [.int 45]) (S1 := []) (d' := 0) dX6_atom3_5 mf_X6_isSign ml_X6_210 mv_X6_isSign q6 rfl (hp_at (px_ltM (by decide)) (c48 _)) rfl (Nat.le_of_ble_eq_true rfl) rfl (Nat.le_of_ble_eq_true rfl) ⟨Nat.zero_le _, Nat.zero_le _⟩ (fun b hb => k_X6_isSign hb) (fun b9 hb9 => ?_)
  refine o_ifeq (tgt := 37) dX6_atom3_8 (by decide) (fun u10 => ?_) (fun u10 => ?_)
  · refine o_aload_n dX6_atom3_37 rfl ?_
    refine o_bipush (v := 40) dX6_atom3_38 (by decide) ?_
    refine h_cV0 (as := [.int 40]) (S1 := []) (d' := 0) dX6_atom3_40 mf_X6_isSign ml_X6_210 mv_X6_isSign q6 rfl (hp_at (px_ltM (by decide)) (c48 _)) rfl (Nat.le_of_ble_eq_true rfl) rfl (Nat.le_of_ble_eq_true rfl) ⟨Nat.zero_le _, Nat.zero_le _⟩ (fun b hb => k_X6_isSign hb) (fun b11 hb11 => ?_)
    refine o_ifeq (tgt := 95) dX6_atom3_43 (by decide) (fun u12 => ?_) (fun u12 => ?_)
    · refine o_aload_n dX6_atom3_95 rfl ?_
      refine h_get (v := .int (st 48 29)) dX6_atom3_96 q6 fl_X6_169 (by decide) (px_ltM (by decide)) (c48 _) rfl ?_
      refine o_ifne (tgt := 123) dX6_atom3_99 (by decide) (fun u13 => ?_) (fun u13 => ?_)
      · exact (t_X6_atom3_123 T 0 st)
      · refine o_aload_n dX6_atom3_102 rfl ?_
        refine h_get (v := .int (st 48 25)) dX6_atom3_103 q6 fl_X6_152 (by decide) (px_ltM (by decide)) (c48 _) rfl ?_
        refine o_iconst (v := 2) dX6_atom3_106 (by decide) ?_
        refine o_icmpne (tgt := 123) dX6_atom3_107 (by decide) (fun u14 => ?_) (fun u14 => ?_)
        · exact (t_X6_atom3_123 T 0 st)
        · refine o_aload_n dX6_atom3_110 rfl ?_
          refine h_get (v := .long (st 48 27).toInt64) dX6_atom3_111 q6 fl_X6_163 (by decide) (px_ltM (by decide)) (c48 _) rfl ?_
          refine o_l2i dX6_atom3_114 ?_
          refine o_istore_n (L' := [some (.ref 48), some (.int (st 48 27).toInt64.toInt32)]) dX6_atom3_115 (Nat.le_of_ble_eq_true rfl) rfl rfl ?_
          refine o_aload_n dX6_atom3_116 rfl ?_
          refine h_cVv (as := []) (S1 := []) (d' := 1) dX6_atom3_117 mf_X6_next ml_X6_185 mv_X6_next q6 rfl (hp_at (px_ltM (by decide)) (c48 _)) rfl (Nat.le_of_ble_eq_true rfl) rfl (Nat.le_of_ble_eq_true rfl) (fun b hb => k_X6_next hb) (fun b15 hb15 => ?_)
          refine o_goto (tgt := 161) dX6_atom3_120 (by decide) ?_
          refine o_iload_n dX6_atom3_161 rfl ?_
          exact o_iret (rt := .int) rfl rfl dX6_atom3_162 rfl (Nat.zero_le _) (Nat.zero_le _)
    · refine o_aload_n dX6_atom3_46 rfl ?_
      refine h_cVi (as := []) (S1 := []) (d' := 2) dX6_atom3_47 mf_X6_opens ml_X6_213 mv_X6_opens q6 rfl (hp_at (px_ltM (by decide)) (c48 _)) rfl (Nat.le_of_ble_eq_true rfl) rfl (Nat.le_of_ble_eq_true rfl) (fun b hb => k_X6_opens hb) (fun b16 hb16 => ?_)
      refine o_ifeq (tgt := 161) dX6_atom3_50 (by decide) (fun u17 => ?_) (fun u17 => ?_)
      · refine o_iload_n dX6_atom3_161 rfl ?_
        exact o_iret (rt := .int) rfl rfl dX6_atom3_162 rfl (Nat.zero_le _) (Nat.zero_le _)
      · refine o_aload_n dX6_atom3_53 rfl ?_
        refine h_cVi (as := []) (S1 := []) (d' := 15) dX6_atom3_54 mf_X6_either4 ml_X6_258 mv_X6_either4 q6 rfl (hp_at (px_ltM (by decide)) (c48 _)) rfl (Nat.le_of_ble_eq_true rfl) rfl (Nat.le_of_ble_eq_true rfl) (fun b hb => k_X6_either4 hb) (fun b18 hb18 => ?_)
        refine o_istore_n (L' := [some (.ref 48), some (.int b18.1)]) dX6_atom3_57 (Nat.le_of_ble_eq_true rfl) rfl rfl ?_
        refine o_aload_n dX6_atom3_58 rfl ?_
        refine o_bipush (v := 41) dX6_atom3_59 (by decide) ?_
        refine h_cV0 (as := [.int 41]) (S1 := []) (d' := 0) dX6_atom3_61 mf_X6_isSign ml_X6_210 mv_X6_isSign q6 rfl (hp_at (px_ltM (by decide)) (c48 _)) rfl (Nat.le_of_ble_eq_true rfl) rfl (Nat.le_of_ble_eq_true rfl) ⟨Nat.zero_le _, Nat.zero_le _⟩ (fun b hb => k_X6_isSign hb) (fun b19 hb19 => ?_)
        refine o_ifne (tgt := 71) dX6_atom3_64 (by decide) (fun u20 => ?_) (fun u20 => ?_)
        · exact (t_X6_atom3_71 T b18.1 b18.2)
        · refine o_aload_n dX6_atom3_67 rfl ?_
          refine h_cVv (as := []) (S1 := []) (d' := 0) dX6_atom3_68 mf_X6_fail ml_X6_182 mv_X6_fail q6 rfl (hp_at (px_ltM (by decide)) (c48 _)) rfl (Nat.le_of_ble_eq_true rfl) rfl (Nat.le_of_ble_eq_true rfl) (fun b hb => k_X6_fail hb) (fun b21 hb21 => ?_)
          exact (t_X6_atom3_71 T b18.1 b21)
  · refine o_aload_n dX6_atom3_11 rfl ?_
    refine h_cVi (as := []) (S1 := []) (d' := 2) dX6_atom3_12 mf_X6_opens ml_X6_213 mv_X6_opens q6 rfl (hp_at (px_ltM (by decide)) (c48 _)) rfl (Nat.le_of_ble_eq_true rfl) rfl (Nat.le_of_ble_eq_true rfl) (fun b hb => k_X6_opens hb) (fun b22 hb22 => ?_)
    refine o_ifeq (tgt := 161) dX6_atom3_15 (by decide) (fun u23 => ?_) (fun u23 => ?_)
    · refine o_iload_n dX6_atom3_161 rfl ?_
      exact o_iret (rt := .int) rfl rfl dX6_atom3_162 rfl (Nat.zero_le _) (Nat.zero_le _)
    · refine o_aload_n dX6_atom3_18 rfl ?_
      refine h_cVi (as := []) (S1 := []) (d' := 10) dX6_atom3_19 mf_X6_atom4 ml_X6_243 mv_X6_atom4 q6 rfl (hp_at (px_ltM (by decide)) (c48 _)) rfl (Nat.le_of_ble_eq_true rfl) rfl (Nat.le_of_ble_eq_true rfl) (fun b hb => k_X6_atom4 hb) (fun b24 hb24 => ?_)
      refine o_ineg dX6_atom3_22 ?_
      refine o_istore_n (L' := [some (.ref 48), some (.int (-b24.1))]) dX6_atom3_23 (Nat.le_of_ble_eq_true rfl) rfl rfl ?_
      refine o_aload_n dX6_atom3_24 rfl ?_
      refine o_dup dX6_atom3_25 rfl ?_
      refine h_get (v := .int (b24.2 48 28)) dX6_atom3_26 q6 fl_X6_179 (by decide) (px_ltM (by decide)) (c48 _) rfl ?_
      refine o_iconst (v := 1) dX6_atom3_29 (by decide) ?_
      refine o_isub dX6_atom3_30 ?_
      refine h_puti dX6_atom3_31 q6 fl_X6_179 pf_X6_28 (px_ltM (by decide)) (c48 _) (Nat.le_of_ble_eq_true rfl) (s48_28 _ _) ?_
      refine o_goto (tgt := 161) dX6_atom3_34 (by decide) ?_
      refine o_iload_n dX6_atom3_161 rfl ?_
      exact o_iret (rt := .int) rfl rfl dX6_atom3_162 rfl (Nat.zero_le _) (Nat.zero_le _)
theorem k_X6_atom3 {T : Nat} {st : px_S} {b : Int32 × px_S} (hf : f_X6_atom3 T st = some b) : px_K (16) 0 0 m_X6_atom3 [.ref 48] (HP (T + 2) st) ((px_gi (T + 2)) b).1 ((px_gi (T + 2)) b).2 := px_KofH hf mf_X6_atom3 (Nat.le_of_ble_eq_true rfl) rfl (t_X6_atom3 T st)
/-! ThreeOfThemModel.term3()I: S, depth 17 -/
def f_X6_term3_5 (T : Nat) : Nat → Int32 → px_S → Option (Int32 × px_S)
  | 0, _, _ => none
  | n + 1, y1, st => ((f_X6_isSign T st 42).bind fun b1 => (if b1 = 0 then (some (y1, st)) else ((f_X6_next T st).bind fun b3 => ((f_X6_atom3 T b3).bind fun b4 => ((f_X6_term3_5 T n) (y1 * b4.1) b4.2)))))
set_option maxRecDepth 20000 in
theorem t_X6_term3_5 (T : Nat) : ∀ (n : Nat) (y1 : Int32) (st : px_S), px_O (17, 0, 0, px_n (T + 2), m_X6_term3) (px_gi (T + 2)) (f_X6_term3_5 T n y1 st) 5 [some (.ref 48), some (.int y1)] [] (HP (T + 2) st) 0 0 := by
  intro n
  induction n with
  | zero => intro y1 st; rw [f_X6_term3_5]; exact o_none
  | succ n ih =>
    intro y1 st
    rw [f_X6_term3_5]
    refine o_aload_n dX6_term3_5 rfl ?_
    refine o_bipush (v := 42) dX6_term3_6 (by decide) ?_
    refine h_cV0 (as := [.int 42]) (S1 := []) (d' := 0) dX6_term3_8 mf_X6_isSign ml_X6_210 mv_X6_isSign q6 rfl (hp_at (px_ltM (by decide)) (c48 _)) rfl (Nat.le_of_ble_eq_true rfl) rfl (Nat.le_of_ble_eq_true rfl) ⟨Nat.zero_le _, Nat.zero_le _⟩ (fun b hb => k_X6_isSign hb) (fun b1 hb1 => ?_)
    refine o_ifeq (tgt := 28) dX6_term3_11 (by decide) (fun u2 => ?_) (fun u2 => ?_)
    · refine o_iload_n dX6_term3_28 rfl ?_
      exact o_iret (rt := .int) rfl rfl dX6_term3_29 rfl (Nat.zero_le _) (Nat.zero_le _)
    · refine o_aload_n dX6_term3_14 rfl ?_
      refine h_cVv (as := []) (S1 := []) (d' := 1) dX6_term3_15 mf_X6_next ml_X6_185 mv_X6_next q6 rfl (hp_at (px_ltM (by decide)) (c48 _)) rfl (Nat.le_of_ble_eq_true rfl) rfl (Nat.le_of_ble_eq_true rfl) (fun b hb => k_X6_next hb) (fun b3 hb3 => ?_)
      refine o_iload_n dX6_term3_18 rfl ?_
      refine o_aload_n dX6_term3_19 rfl ?_
      refine h_cVi (as := []) (S1 := [.int y1]) (d' := 16) dX6_term3_20 mf_X6_atom3 ml_X6_261 mv_X6_atom3 q6 rfl (hp_at (px_ltM (by decide)) (c48 _)) rfl (Nat.le_of_ble_eq_true rfl) rfl (Nat.le_of_ble_eq_true rfl) (fun b hb => k_X6_atom3 hb) (fun b4 hb4 => ?_)
      refine o_imul dX6_term3_23 ?_
      refine o_istore_n (L' := [some (.ref 48), some (.int (y1 * b4.1))]) dX6_term3_24 (Nat.le_of_ble_eq_true rfl) rfl rfl ?_
      refine o_goto (tgt := 5) dX6_term3_25 (by decide) ?_
      exact (ih (y1 * b4.1) b4.2)
def f_X6_term3 (T : Nat) (st : px_S) : Option (Int32 × px_S) := ((f_X6_atom3 T st).bind fun b5 => (f_X6_term3_5 T 1000 b5.1 b5.2))
set_option maxRecDepth 20000 in
theorem t_X6_term3 (T : Nat) (st : px_S) : px_O (17, 0, 0, px_n (T + 2), m_X6_term3) (px_gi (T + 2)) (f_X6_term3 T st) 0 [some (.ref 48), none] [] (HP (T + 2) st) 0 0 := by
  rw [f_X6_term3]
  refine o_aload_n dX6_term3_0 rfl ?_
  refine h_cVi (as := []) (S1 := []) (d' := 16) dX6_term3_1 mf_X6_atom3 ml_X6_261 mv_X6_atom3 q6 rfl (hp_at (px_ltM (by decide)) (c48 _)) rfl (Nat.le_of_ble_eq_true rfl) rfl (Nat.le_of_ble_eq_true rfl) (fun b hb => k_X6_atom3 hb) (fun b5 hb5 => ?_)
  refine o_istore_n (L' := [some (.ref 48), some (.int b5.1)]) dX6_term3_4 (Nat.le_of_ble_eq_true rfl) rfl rfl ?_
  exact (t_X6_term3_5 T 1000 b5.1 b5.2)
theorem k_X6_term3 {T : Nat} {st : px_S} {b : Int32 × px_S} (hf : f_X6_term3 T st = some b) : px_K (17) 0 0 m_X6_term3 [.ref 48] (HP (T + 2) st) ((px_gi (T + 2)) b).1 ((px_gi (T + 2)) b).2 := px_KofH hf mf_X6_term3 (Nat.le_of_ble_eq_true rfl) rfl (t_X6_term3 T st)
/-! ThreeOfThemModel.added3()I: S, depth 18 -/
def f_X6_added3_39 (T : Nat) (k5 : Int32 → px_S → Option (Int32 × px_S)) (y1 : Int32) (z0 : Int32) (st : px_S) : Option (Int32 × px_S) := ((f_X6_next T st).bind fun b1 => ((f_X6_term3 T b1).bind fun b2 => (if z0 = 0 then (k5 (y1 - b2.1) b2.2) else (k5 (y1 + b2.1) b2.2))))
set_option maxRecDepth 20000 in
theorem t_X6_added3_39 (T : Nat) (k5 : Int32 → px_S → Option (Int32 × px_S)) (hk5 : ∀ (y1 : Int32) (st : px_S), px_O (18, 0, 0, px_n (T + 2), m_X6_added3) (px_gi (T + 2)) (k5 y1 st) 5 [some (.ref 48), some (.int y1), none, none] [] (HP (T + 2) st) 0 0) (y1 : Int32) (z0 : Int32) (st : px_S) : px_O (18, 0, 0, px_n (T + 2), m_X6_added3) (px_gi (T + 2)) (f_X6_added3_39 T k5 y1 z0 st) 39 [some (.ref 48), some (.int y1), none, none] [.int z0] (HP (T + 2) st) 0 0 := by
  rw [f_X6_added3_39]
  refine o_istore_n (L' := [some (.ref 48), some (.int y1), some (.int z0), none]) dX6_added3_39 (Nat.le_of_ble_eq_true rfl) rfl rfl ?_
  refine o_aload_n dX6_added3_40 rfl ?_
  refine h_cVv (as := []) (S1 := []) (d' := 1) dX6_added3_41 mf_X6_next ml_X6_185 mv_X6_next q6 rfl (hp_at (px_ltM (by decide)) (c48 _)) rfl (Nat.le_of_ble_eq_true rfl) rfl (Nat.le_of_ble_eq_true rfl) (fun b hb => k_X6_next hb) (fun b1 hb1 => ?_)
  refine o_aload_n dX6_added3_44 rfl ?_
  refine h_cVi (as := []) (S1 := []) (d' := 17) dX6_added3_45 mf_X6_term3 ml_X6_264 mv_X6_term3 q6 rfl (hp_at (px_ltM (by decide)) (c48 _)) rfl (Nat.le_of_ble_eq_true rfl) rfl (Nat.le_of_ble_eq_true rfl) (fun b hb => k_X6_term3 hb) (fun b2 hb2 => ?_)
  refine o_istore_n (L' := [some (.ref 48), some (.int y1), some (.int z0), some (.int b2.1)]) dX6_added3_48 (Nat.le_of_ble_eq_true rfl) rfl rfl ?_
  refine o_iload_n dX6_added3_49 rfl ?_
  refine o_ifeq (tgt := 59) dX6_added3_50 (by decide) (fun u3 => ?_) (fun u3 => ?_)
  · refine o_iload_n dX6_added3_59 rfl ?_
    refine o_iload_n dX6_added3_60 rfl ?_
    refine o_isub dX6_added3_61 ?_
    refine o_istore_n (L' := [some (.ref 48), some (.int (y1 - b2.1)), some (.int z0), some (.int b2.1)]) dX6_added3_62 (Nat.le_of_ble_eq_true rfl) rfl rfl ?_
    refine o_goto (tgt := 5) dX6_added3_63 (by decide) ?_
    exact o_weak (L' := [some (.ref 48), some (.int (y1 - b2.1)), none, none]) ⟨rfl, ⟨rfl, trivial⟩⟩ (hk5 (y1 - b2.1) b2.2)
  · refine o_iload_n dX6_added3_53 rfl ?_
    refine o_iload_n dX6_added3_54 rfl ?_
    refine o_iadd dX6_added3_55 ?_
    refine o_goto (tgt := 62) dX6_added3_56 (by decide) ?_
    refine o_istore_n (L' := [some (.ref 48), some (.int (y1 + b2.1)), some (.int z0), some (.int b2.1)]) dX6_added3_62 (Nat.le_of_ble_eq_true rfl) rfl rfl ?_
    refine o_goto (tgt := 5) dX6_added3_63 (by decide) ?_
    exact o_weak (L' := [some (.ref 48), some (.int (y1 + b2.1)), none, none]) ⟨rfl, ⟨rfl, trivial⟩⟩ (hk5 (y1 + b2.1) b2.2)
def f_X6_added3_23 (T : Nat) (k5 : Int32 → px_S → Option (Int32 × px_S)) (y1 : Int32) (st : px_S) : Option (Int32 × px_S) := (if (lg_cmp (st 48 27).toInt64 43) = 0 then (f_X6_added3_39 T k5 y1 1 st) else (f_X6_added3_39 T k5 y1 0 st))
set_option maxRecDepth 20000 in
theorem t_X6_added3_23 (T : Nat) (k5 : Int32 → px_S → Option (Int32 × px_S)) (hk5 : ∀ (y1 : Int32) (st : px_S), px_O (18, 0, 0, px_n (T + 2), m_X6_added3) (px_gi (T + 2)) (k5 y1 st) 5 [some (.ref 48), some (.int y1), none, none] [] (HP (T + 2) st) 0 0) (y1 : Int32) (st : px_S) : px_O (18, 0, 0, px_n (T + 2), m_X6_added3) (px_gi (T + 2)) (f_X6_added3_23 T k5 y1 st) 23 [some (.ref 48), some (.int y1), none, none] [] (HP (T + 2) st) 0 0 := by
  rw [f_X6_added3_23]
  refine o_aload_n dX6_added3_23 rfl ?_
  refine h_get (v := .long (st 48 27).toInt64) dX6_added3_24 q6 fl_X6_163 (by decide) (px_ltM (by decide)) (c48 _) rfl ?_
  refine o_ldc2 (v := 43) dX6_added3_27 cst_X6_227 ?_
  refine o_lcmp dX6_added3_30 ?_
  refine o_ifne (tgt := 38) dX6_added3_31 (by decide) (fun u4 => ?_) (fun u4 => ?_)
  · refine o_iconst (v := 0) dX6_added3_38 (by decide) ?_
    exact (t_X6_added3_39 T k5 hk5 y1 0 st)
  · refine o_iconst (v := 1) dX6_added3_34 (by decide) ?_
    refine o_goto (tgt := 39) dX6_added3_35 (by decide) ?_
    exact (t_X6_added3_39 T k5 hk5 y1 1 st)
def f_X6_added3_5 (T : Nat) : Nat → Int32 → px_S → Option (Int32 × px_S)
  | 0, _, _ => none
  | n + 1, y1, st => ((f_X6_isSign T st 43).bind fun b5 => (if b5 = 0 then ((f_X6_isSign T st 45).bind fun b7 => (if b7 = 0 then (some (y1, st)) else (f_X6_added3_23 T (f_X6_added3_5 T n) y1 st))) else (f_X6_added3_23 T (f_X6_added3_5 T n) y1 st)))
set_option maxRecDepth 20000 in
theorem t_X6_added3_5 (T : Nat) : ∀ (n : Nat) (y1 : Int32) (st : px_S), px_O (18, 0, 0, px_n (T + 2), m_X6_added3) (px_gi (T + 2)) (f_X6_added3_5 T n y1 st) 5 [some (.ref 48), some (.int y1), none, none] [] (HP (T + 2) st) 0 0 := by
  intro n
  induction n with
  | zero => intro y1 st; rw [f_X6_added3_5]; exact o_none
  | succ n ih =>
    intro y1 st
    rw [f_X6_added3_5]
    refine o_aload_n dX6_added3_5 rfl ?_
    refine o_bipush (v := 43) dX6_added3_6 (by decide) ?_
    refine h_cV0 (as := [.int 43]) (S1 := []) (d' := 0) dX6_added3_8 mf_X6_isSign ml_X6_210 mv_X6_isSign q6 rfl (hp_at (px_ltM (by decide)) (c48 _)) rfl (Nat.le_of_ble_eq_true rfl) rfl (Nat.le_of_ble_eq_true rfl) ⟨Nat.zero_le _, Nat.zero_le _⟩ (fun b hb => k_X6_isSign hb) (fun b5 hb5 => ?_)
    refine o_ifne (tgt := 23) dX6_added3_11 (by decide) (fun u6 => ?_) (fun u6 => ?_)
    · exact (t_X6_added3_23 T (f_X6_added3_5 T n) ih y1 st)
    · refine o_aload_n dX6_added3_14 rfl ?_
      refine o_bipush (v := 45) dX6_added3_15 (by decide) ?_
      refine h_cV0 (as := [.int 45]) (S1 := []) (d' := 0) dX6_added3_17 mf_X6_isSign ml_X6_210 mv_X6_isSign q6 rfl (hp_at (px_ltM (by decide)) (c48 _)) rfl (Nat.le_of_ble_eq_true rfl) rfl (Nat.le_of_ble_eq_true rfl) ⟨Nat.zero_le _, Nat.zero_le _⟩ (fun b hb => k_X6_isSign hb) (fun b7 hb7 => ?_)
      refine o_ifeq (tgt := 66) dX6_added3_20 (by decide) (fun u8 => ?_) (fun u8 => ?_)
      · refine o_iload_n dX6_added3_66 rfl ?_
        exact o_iret (rt := .int) rfl rfl dX6_added3_67 rfl (Nat.zero_le _) (Nat.zero_le _)
      · exact (t_X6_added3_23 T (f_X6_added3_5 T n) ih y1 st)
def f_X6_added3 (T : Nat) (st : px_S) : Option (Int32 × px_S) := ((f_X6_term3 T st).bind fun b9 => (f_X6_added3_5 T 1000 b9.1 b9.2))
set_option maxRecDepth 20000 in
theorem t_X6_added3 (T : Nat) (st : px_S) : px_O (18, 0, 0, px_n (T + 2), m_X6_added3) (px_gi (T + 2)) (f_X6_added3 T st) 0 [some (.ref 48), none, none, none] [] (HP (T + 2) st) 0 0 := by
  rw [f_X6_added3]
  refine o_aload_n dX6_added3_0 rfl ?_
  refine h_cVi (as := []) (S1 := []) (d' := 17) dX6_added3_1 mf_X6_term3 ml_X6_264 mv_X6_term3 q6 rfl (hp_at (px_ltM (by decide)) (c48 _)) rfl (Nat.le_of_ble_eq_true rfl) rfl (Nat.le_of_ble_eq_true rfl) (fun b hb => k_X6_term3 hb) (fun b9 hb9 => ?_)
  refine o_istore_n (L' := [some (.ref 48), some (.int b9.1), none, none]) dX6_added3_4 (Nat.le_of_ble_eq_true rfl) rfl rfl ?_
  exact (t_X6_added3_5 T 1000 b9.1 b9.2)
theorem k_X6_added3 {T : Nat} {st : px_S} {b : Int32 × px_S} (hf : f_X6_added3 T st = some b) : px_K (18) 0 0 m_X6_added3 [.ref 48] (HP (T + 2) st) ((px_gi (T + 2)) b).1 ((px_gi (T + 2)) b).2 := px_KofH hf mf_X6_added3 (Nat.le_of_ble_eq_true rfl) rfl (t_X6_added3 T st)
/-! ThreeOfThemModel.not3()I: S, depth 19 -/
def f_X6_not3_93 (T : Nat) (y1 : Int32) (z0 : Int32) (st : px_S) : Option (Int32 × px_S) := ((f_X6_next T st).bind fun b1 => ((f_X6_added3 T b1).bind fun b2 => (if z0 = 0 then (if y1 = b2.1 then (some (1, b2.2)) else (some (0, b2.2))) else (if y1 < b2.1 then (some (1, b2.2)) else (some (0, b2.2))))))
set_option maxRecDepth 20000 in
theorem t_X6_not3_93 (T : Nat) (y1 : Int32) (z0 : Int32) (st : px_S) : px_O (19, 0, 0, px_n (T + 2), m_X6_not3) (px_gi (T + 2)) (f_X6_not3_93 T y1 z0 st) 93 [some (.ref 48), some (.int y1), none, none] [.int z0] (HP (T + 2) st) 0 0 := by
  rw [f_X6_not3_93]
  refine o_istore_n (L' := [some (.ref 48), some (.int y1), some (.int z0), none]) dX6_not3_93 (Nat.le_of_ble_eq_true rfl) rfl rfl ?_
  refine o_aload_n dX6_not3_94 rfl ?_
  refine h_cVv (as := []) (S1 := []) (d' := 1) dX6_not3_95 mf_X6_next ml_X6_185 mv_X6_next q6 rfl (hp_at (px_ltM (by decide)) (c48 _)) rfl (Nat.le_of_ble_eq_true rfl) rfl (Nat.le_of_ble_eq_true rfl) (fun b hb => k_X6_next hb) (fun b1 hb1 => ?_)
  refine o_aload_n dX6_not3_98 rfl ?_
  refine h_cVi (as := []) (S1 := []) (d' := 18) dX6_not3_99 mf_X6_added3 ml_X6_267 mv_X6_added3 q6 rfl (hp_at (px_ltM (by decide)) (c48 _)) rfl (Nat.le_of_ble_eq_true rfl) rfl (Nat.le_of_ble_eq_true rfl) (fun b hb => k_X6_added3 hb) (fun b2 hb2 => ?_)
  refine o_istore_n (L' := [some (.ref 48), some (.int y1), some (.int z0), some (.int b2.1)]) dX6_not3_102 (Nat.le_of_ble_eq_true rfl) rfl rfl ?_
  refine o_iload_n dX6_not3_103 rfl ?_
  refine o_ifeq (tgt := 115) dX6_not3_104 (by decide) (fun u3 => ?_) (fun u3 => ?_)
  · refine o_iload_n dX6_not3_115 rfl ?_
    refine o_iload_n dX6_not3_116 rfl ?_
    refine o_icmpne (tgt := 124) dX6_not3_117 (by decide) (fun u4 => ?_) (fun u4 => ?_)
    · refine o_iconst (v := 0) dX6_not3_124 (by decide) ?_
      exact o_iret (rt := .int) rfl rfl dX6_not3_125 rfl (Nat.zero_le _) (Nat.zero_le _)
    · refine o_iconst (v := 1) dX6_not3_120 (by decide) ?_
      refine o_goto (tgt := 125) dX6_not3_121 (by decide) ?_
      exact o_iret (rt := .int) rfl rfl dX6_not3_125 rfl (Nat.zero_le _) (Nat.zero_le _)
  · refine o_iload_n dX6_not3_107 rfl ?_
    refine o_iload_n dX6_not3_108 rfl ?_
    refine o_icmpge (tgt := 124) dX6_not3_109 (by decide) (fun u5 => ?_) (fun u5 => ?_)
    · refine o_iconst (v := 0) dX6_not3_124 (by decide) ?_
      exact o_iret (rt := .int) rfl rfl dX6_not3_125 rfl (Nat.zero_le _) (Nat.zero_le _)
    · refine o_goto (tgt := 120) dX6_not3_112 (by decide) ?_
      refine o_iconst (v := 1) dX6_not3_120 (by decide) ?_
      refine o_goto (tgt := 125) dX6_not3_121 (by decide) ?_
      exact o_iret (rt := .int) rfl rfl dX6_not3_125 rfl (Nat.zero_le _) (Nat.zero_le _)
def f_X6_not3_77 (T : Nat) (y1 : Int32) (st : px_S) : Option (Int32 × px_S) := (if (lg_cmp (st 48 27).toInt64 60) = 0 then (f_X6_not3_93 T y1 1 st) else (f_X6_not3_93 T y1 0 st))
set_option maxRecDepth 20000 in
theorem t_X6_not3_77 (T : Nat) (y1 : Int32) (st : px_S) : px_O (19, 0, 0, px_n (T + 2), m_X6_not3) (px_gi (T + 2)) (f_X6_not3_77 T y1 st) 77 [some (.ref 48), some (.int y1), none, none] [] (HP (T + 2) st) 0 0 := by
  rw [f_X6_not3_77]
  refine o_aload_n dX6_not3_77 rfl ?_
  refine h_get (v := .long (st 48 27).toInt64) dX6_not3_78 q6 fl_X6_163 (by decide) (px_ltM (by decide)) (c48 _) rfl ?_
  refine o_ldc2 (v := 60) dX6_not3_81 cst_X6_232 ?_
  refine o_lcmp dX6_not3_84 ?_
  refine o_ifne (tgt := 92) dX6_not3_85 (by decide) (fun u6 => ?_) (fun u6 => ?_)
  · refine o_iconst (v := 0) dX6_not3_92 (by decide) ?_
    exact (t_X6_not3_93 T y1 0 st)
  · refine o_iconst (v := 1) dX6_not3_88 (by decide) ?_
    refine o_goto (tgt := 93) dX6_not3_89 (by decide) ?_
    exact (t_X6_not3_93 T y1 1 st)
def f_X6_not3 (T : Nat) (st : px_S) : Option (Int32 × px_S) := ((f_X6_isWord T st 110 111 116 0 0 0 0 0).bind fun b7 => (if b7 = 0 then ((f_X6_added3 T st).bind fun b9 => ((f_X6_isSign T b9.2 60).bind fun b10 => (if b10 = 0 then ((f_X6_isSign T b9.2 61).bind fun b12 => (if b12 = 0 then (some (b9.1, b9.2)) else (f_X6_not3_77 T b9.1 b9.2))) else (f_X6_not3_77 T b9.1 b9.2)))) else ((f_X6_opens T st).bind fun b14 => (if b14.1 = 0 then (some (0, b14.2)) else ((f_X6_not4 T b14.2).bind fun b16 => (if b16.1 = 0 then (some (1, (up b16.2 48 28 ((b16.2 48 28) - 1)))) else (some (0, (up b16.2 48 28 ((b16.2 48 28) - 1))))))))))
set_option maxRecDepth 20000 in
theorem t_X6_not3 (T : Nat) (st : px_S) : px_O (19, 0, 0, px_n (T + 2), m_X6_not3) (px_gi (T + 2)) (f_X6_not3 T st) 0 [some (.ref 48), none, none, none] [] (HP (T + 2) st) 0 0 := by
  rw [f_X6_not3]
  refine o_aload_n dX6_not3_0 rfl ?_
  refine o_bipush (v := 110) dX6_not3_1 (by decide) ?_
  refine o_bipush (v := 111) dX6_not3_3 (by decide) ?_
  refine o_bipush (v := 116) dX6_not3_5 (by decide) ?_
  refine o_iconst (v := 0) dX6_not3_7 (by decide) ?_
  refine o_iconst (v := 0) dX6_not3_8 (by decide) ?_
  refine o_iconst (v := 0) dX6_not3_9 (by decide) ?_
  refine o_iconst (v := 0) dX6_not3_10 (by decide) ?_
  refine o_iconst (v := 0) dX6_not3_11 (by decide) ?_
  refine h_cV0 (as := [.int 110, .int 111, .int 116, .int 0, .int 0, .int 0, .int 0, .int 0]) (S1 := []) (d' := 2) dX6_not3_12 mf_X6_isWord ml_X6_188 mv_X6_isWord q6 rfl (hp_at (px_ltM (by decide)) (c48 _)) rfl (Nat.le_of_ble_eq_true rfl) rfl (Nat.le_of_ble_eq_true rfl) ⟨Nat.zero_le _, Nat.zero_le _⟩ (fun b hb => k_X6_isWord hb) (fun b7 hb7 => ?_)
  refine o_ifeq (tgt := 52) dX6_not3_15 (by decide) (fun u8 => ?_) (fun u8 => ?_)
  · refine o_aload_n dX6_not3_52 rfl ?_
    refine h_cVi (as := []) (S1 := []) (d' := 18) dX6_not3_53 mf_X6_added3 ml_X6_267 mv_X6_added3 q6 rfl (hp_at (px_ltM (by decide)) (c48 _)) rfl (Nat.le_of_ble_eq_true rfl) rfl (Nat.le_of_ble_eq_true rfl) (fun b hb => k_X6_added3 hb) (fun b9 hb9 => ?_)
    refine o_istore_n (L' := [some (.ref 48), some (.int b9.1), none, none]) dX6_not3_56 (Nat.le_of_ble_eq_true rfl) rfl rfl ?_
    refine o_aload_n dX6_not3_57 rfl ?_
    refine o_bipush (v := 60) dX6_not3_58 (by decide) ?_
    refine h_cV0 (as := [.int 60]) (S1 := []) (d' := 0) dX6_not3_60 mf_X6_isSign ml_X6_210 mv_X6_isSign q6 rfl (hp_at (px_ltM (by decide)) (c48 _)) rfl (Nat.le_of_ble_eq_true rfl) rfl (Nat.le_of_ble_eq_true rfl) ⟨Nat.zero_le _, Nat.zero_le _⟩ (fun b hb => k_X6_isSign hb) (fun b10 hb10 => ?_)
    refine o_ifne (tgt := 77) dX6_not3_63 (by decide) (fun u11 => ?_) (fun u11 => ?_)
    · exact (t_X6_not3_77 T b9.1 b9.2)
    · refine o_aload_n dX6_not3_66 rfl ?_
      refine o_bipush (v := 61) dX6_not3_67 (by decide) ?_
      refine h_cV0 (as := [.int 61]) (S1 := []) (d' := 0) dX6_not3_69 mf_X6_isSign ml_X6_210 mv_X6_isSign q6 rfl (hp_at (px_ltM (by decide)) (c48 _)) rfl (Nat.le_of_ble_eq_true rfl) rfl (Nat.le_of_ble_eq_true rfl) ⟨Nat.zero_le _, Nat.zero_le _⟩ (fun b hb => k_X6_isSign hb) (fun b12 hb12 => ?_)
      refine o_ifne (tgt := 77) dX6_not3_72 (by decide) (fun u13 => ?_) (fun u13 => ?_)
      · exact (t_X6_not3_77 T b9.1 b9.2)
      · refine o_iload_n dX6_not3_75 rfl ?_
        exact o_iret (rt := .int) rfl rfl dX6_not3_76 rfl (Nat.zero_le _) (Nat.zero_le _)
  · refine o_aload_n dX6_not3_18 rfl ?_
    refine h_cVi (as := []) (S1 := []) (d' := 2) dX6_not3_19 mf_X6_opens ml_X6_213 mv_X6_opens q6 rfl (hp_at (px_ltM (by decide)) (c48 _)) rfl (Nat.le_of_ble_eq_true rfl) rfl (Nat.le_of_ble_eq_true rfl) (fun b hb => k_X6_opens hb) (fun b14 hb14 => ?_)
    refine o_ifne (tgt := 27) dX6_not3_22 (by decide) (fun u15 => ?_) (fun u15 => ?_)
    · refine o_aload_n dX6_not3_27 rfl ?_
      refine h_cVi (as := []) (S1 := []) (d' := 13) dX6_not3_28 mf_X6_not4 ml_X6_252 mv_X6_not4 q6 rfl (hp_at (px_ltM (by decide)) (c48 _)) rfl (Nat.le_of_ble_eq_true rfl) rfl (Nat.le_of_ble_eq_true rfl) (fun b hb => k_X6_not4 hb) (fun b16 hb16 => ?_)
      refine o_istore_n (L' := [some (.ref 48), some (.int b16.1), none, none]) dX6_not3_31 (Nat.le_of_ble_eq_true rfl) rfl rfl ?_
      refine o_aload_n dX6_not3_32 rfl ?_
      refine o_dup dX6_not3_33 rfl ?_
      refine h_get (v := .int (b16.2 48 28)) dX6_not3_34 q6 fl_X6_179 (by decide) (px_ltM (by decide)) (c48 _) rfl ?_
      refine o_iconst (v := 1) dX6_not3_37 (by decide) ?_
      refine o_isub dX6_not3_38 ?_
      refine h_puti dX6_not3_39 q6 fl_X6_179 pf_X6_28 (px_ltM (by decide)) (c48 _) (Nat.le_of_ble_eq_true rfl) (s48_28 _ _) ?_
      refine o_iload_n dX6_not3_42 rfl ?_
      refine o_ifne (tgt := 50) dX6_not3_43 (by decide) (fun u17 => ?_) (fun u17 => ?_)
      · refine o_iconst (v := 0) dX6_not3_50 (by decide) ?_
        exact o_iret (rt := .int) rfl rfl dX6_not3_51 rfl (Nat.zero_le _) (Nat.zero_le _)
      · refine o_iconst (v := 1) dX6_not3_46 (by decide) ?_
        refine o_goto (tgt := 51) dX6_not3_47 (by decide) ?_
        exact o_iret (rt := .int) rfl rfl dX6_not3_51 rfl (Nat.zero_le _) (Nat.zero_le _)
    · refine o_iconst (v := 0) dX6_not3_25 (by decide) ?_
      exact o_iret (rt := .int) rfl rfl dX6_not3_26 rfl (Nat.zero_le _) (Nat.zero_le _)
theorem k_X6_not3 {T : Nat} {st : px_S} {b : Int32 × px_S} (hf : f_X6_not3 T st = some b) : px_K (19) 0 0 m_X6_not3 [.ref 48] (HP (T + 2) st) ((px_gi (T + 2)) b).1 ((px_gi (T + 2)) b).2 := px_KofH hf mf_X6_not3 (Nat.le_of_ble_eq_true rfl) rfl (t_X6_not3 T st)
