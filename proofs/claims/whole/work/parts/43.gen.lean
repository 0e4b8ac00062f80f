/-! ThreeOfThem$Reader.wordOf(II)I: R, depth 7 -/
def f_X2_wordOf (T : Nat) (st : px_S) (x0 : Int32) (x1 : Int32) : Option (Int32) := ((f_X2_spells T st 1 x0 x1).bind fun b1 => (if b1 = 0 then ((f_X2_spells T st 2 x0 x1).bind fun b3 => (if b3 = 0 then ((f_X2_spells T st 3 x0 x1).bind fun b5 => (if b5 = 0 then ((f_X2_spells T st 4 x0 x1).bind fun b7 => (if b7 = 0 then ((f_X2_spells T st 5 x0 x1).bind fun b9 => (if b9 = 0 then ((f_X2_spells T st 6 x0 x1).bind fun b11 => (if b11 = 0 then ((f_X2_spells T st 7 x0 x1).bind fun b13 => (if b13 = 0 then ((f_X2_spells T st 8 x0 x1).bind fun b15 => (if b15 = 0 then ((f_X2_spells T st 9 x0 x1).bind fun b17 => (if b17 = 0 then ((f_X2_spells T st 10 x0 x1).bind fun b19 => (if b19 = 0 then ((f_X2_spells T st 11 x0 x1).bind fun b21 => (if b21 = 0 then ((f_X2_spells T st 12 x0 x1).bind fun b23 => (if b23 = 0 then (some (-23)) else (some (-21)))) else (some (-20)))) else (some (-19)))) else (some (-9)))) else (some (-8)))) else (some (-7)))) else (some (-6)))) else (some (-5)))) else (some (-4)))) else (some (-3)))) else (some (-2)))) else (some (-1))))
set_option maxRecDepth 20000 in
theorem t_X2_wordOf (T : Nat) (st : px_S) (x0 : Int32) (x1 : Int32) : px_O (7, 0, 0, px_n T, m_X2_wordOf) (px_g0 (HP T st)) (f_X2_wordOf T st x0 x1) 0 [some (.ref 31), some (.int x0), some (.int x1)] [] (HP T st) 0 0 := by
  rw [f_X2_wordOf]
  refine o_aload_n dX2_wordOf_0 rfl ?_
  refine o_ldcS 1 (by decide) dX2_wordOf_1 rfl rfl ?_
  refine o_iload_n dX2_wordOf_3 rfl ?_
  refine o_iload_n dX2_wordOf_4 rfl ?_
  refine h_cV0 (as := [.ref (1000 + 1), .int x0, .int x1]) (S1 := []) (d' := 6) dX2_wordOf_5 mf_X2_spells ml_X2_84 mv_X2_spells q2 rfl (hp_at (px_lt (by decide)) (c31 _)) rfl (Nat.le_of_ble_eq_true rfl) rfl (Nat.le_of_ble_eq_true rfl) ⟨Nat.zero_le _, Nat.zero_le _⟩ (fun b hb => k_X2_spells (by decide) hb) (fun b1 hb1 => ?_)
  refine o_ifeq (tgt := 15) dX2_wordOf_8 (by decide) (fun u2 => ?_) (fun u2 => ?_)
  · refine o_aload_n dX2_wordOf_15 rfl ?_
    refine o_ldcS 2 (by decide) dX2_wordOf_16 rfl rfl ?_
    refine o_iload_n dX2_wordOf_18 rfl ?_
    refine o_iload_n dX2_wordOf_19 rfl ?_
    refine h_cV0 (as := [.ref (1000 + 2), .int x0, .int x1]) (S1 := []) (d' := 6) dX2_wordOf_20 mf_X2_spells ml_X2_84 mv_X2_spells q2 rfl (hp_at (px_lt (by decide)) (c31 _)) rfl (Nat.le_of_ble_eq_true rfl) rfl (Nat.le_of_ble_eq_true rfl) ⟨Nat.zero_le _, Nat.zero_le _⟩ (fun b hb => k_X2_spells (by decide) hb) (fun b3 hb3 => ?_)
    refine o_ifeq (tgt := 31) dX2_wordOf_23 (by decide) (fun u4 => ?_) (fun u4 => ?_)
    · refine o_aload_n dX2_wordOf_31 rfl ?_
      refine o_ldcS 3 (by decide) dX2_wordOf_32 rfl rfl ?_
      refine o_iload_n dX2_wordOf_34 rfl ?_
      refine o_iload_n dX2_wordOf_35 rfl ?_
      refine h_cV0 (as := [.ref (1000 + 3), .int x0, .int x1]) (S1 := []) (d' := 6) dX2_wordOf_36 mf_X2_spells ml_X2_84 mv_X2_spells q2 rfl (hp_at (px_lt (by decide)) (c31 _)) rfl (Nat.le_of_ble_eq_true rfl) rfl (Nat.le_of_ble_eq_true rfl) ⟨Nat.zero_le _, Nat.zero_le _⟩ (fun b hb => k_X2_spells (by decide) hb) (fun b5 hb5 => ?_)
      refine o_ifeq (tgt := 47) dX2_wordOf_39 (by decide) (fun u6 => ?_) (fun u6 => ?_)
      · refine o_aload_n dX2_wordOf_47 rfl ?_
        refine o_ldcS 4 (by decide) dX2_wordOf_48 rfl rfl ?_
        refine o_iload_n dX2_wordOf_50 rfl ?_
        refine o_iload_n dX2_wordOf_51 rfl ?_
        refine h_cV0 (as := [.ref (1000 + 4), .int x0, .int x1]) (S1 := []) (d' := 6) dX2_wordOf_52 mf_X2_spells ml_X2_84 mv_X2_spells q2 rfl (hp_at (px_lt (by decide)) (c31 _)) rfl (Nat.le_of_ble_eq_true rfl) rfl (Nat.le_of_ble_eq_true rfl) ⟨Nat.zero_le _, Nat.zero_le _⟩ (fun b hb => k_X2_spells (by decide) hb) (fun b7 hb7 => ?_)
        refine o_ifeq (tgt := 63) dX2_wordOf_55 (by decide) (fun u8 => ?_) (fun u8 => ?_)
        · refine o_aload_n dX2_wordOf_63 rfl ?_
          refine o_ldcS 5 (by decide) dX2_wordOf_64 rfl rfl ?_
          refine o_iload_n dX2_wordOf_66 rfl ?_
          refine o_iload_n dX2_wordOf_67 rfl ?_
          refine h_cV0 (as := [.ref (1000 + 5), .int x0, .int x1]) (S1 := []) (d' := 6) dX2_wordOf_68 mf_X2_spells ml_X2_84 mv_X2_spells q2 rfl (hp_at (px_lt (by decide)) (c31 _)) rfl (Nat.le_of_ble_eq_true rfl) rfl (Nat.le_of_ble_eq_true rfl) ⟨Nat.zero_le _, Nat.zero_le _⟩ (fun b hb => k_X2_spells (by decide) hb) (fun b9 hb9 => ?_)
          refine o_ifeq (tgt := 79) dX2_wordOf_71 (by decide) (fun u10 => ?_) (fun u10 => ?_)
          · refine o_aload_n dX2_wordOf_79 rfl ?_
            refine o_ldcS 6 (by decide) dX2_wordOf_80 rfl rfl ?_
            refine o_iload_n dX2_wordOf_82 rfl ?_
            refine o_iload_n dX2_wordOf_83 rfl ?_
            refine h_cV0 (as := [.ref (1000 + 6), .int x0, .int x1]) (S1 := []) (d' := 6) dX2_wordOf_84 mf_X2_spells ml_X2_84 mv_X2_spells q2 rfl (hp_at (px_lt (by decide)) (c31 _)) rfl (Nat.le_of_ble_eq_true rfl) rfl (Nat.le_of_ble_eq_true rfl) ⟨Nat.zero_le _, Nat.zero_le _⟩ (fun b hb => k_X2_spells (by decide) hb) (fun b11 hb11 => ?_)
            refine o_ifeq (tgt := 95) dX2_wordOf_87 (by decide) (fun u12 => ?_) (fun u12 => ?_)
            · refine o_aload_n dX2_wordOf_95 rfl ?_
              refine o_ldcS 7 (by decide) dX2_wordOf_96 rfl rfl ?_
              refine o_iload_n dX2_wordOf_98 rfl ?_
              refine o_iload_n dX2_wordOf_99 rfl ?_
              refine h_cV0 (as := [.ref (1000 + 7), .int x0, .int x1]) (S1 := []) (d' := 6) dX2_wordOf_100 mf_X2_spells ml_X2_84 mv_X2_spells q2 rfl (hp_at (px_lt (by decide)) (c31 _)) rfl (Nat.le_of_ble_eq_true rfl) rfl (Nat.le_of_ble_eq_true rfl) ⟨Nat.zero_le _, Nat.zero_le _⟩ (fun b hb => k_X2_spells (by decide) hb) (fun b13 hb13 => ?_)
              refine o_ifeq (tgt := 111) dX2_wordOf_103 (by decide) (fun u14 => ?_) (fun u14 => ?_)
              · refine o_aload_n dX2_wordOf_111 rfl ?_
                refine o_ldcS 8 (by decide) dX2_wordOf_112 rfl rfl ?_
                refine o_iload_n dX2_wordOf_114 rfl ?_
                refine o_iload_n dX2_wordOf_115 rfl ?_
                refine h_cV0 (as := [.ref (1000 + 8), .int x0, .int x1]) (S1 := []) (d' := 6) dX2_wordOf_116 mf_X2_spells ml_X2_84 mv_X2_spells q2 rfl (hp_at (px_lt (by decide)) (c31 _)) rfl (Nat.le_of_ble_eq_true rfl) rfl (Nat.le_of_ble_eq_true rfl) ⟨Nat.zero_le _, Nat.zero_le _⟩ (fun b hb => k_X2_spells (by decide) hb) (fun b15 hb15 => ?_)
                refine o_ifeq (tgt := 127) dX2_wordOf_119 (by decide) (fun u16 => ?_) (fun u16 => ?_)
                · refine o_aload_n dX2_wordOf_127 rfl ?_
                  refine o_ldcS 9 (by decide) dX2_wordOf_128 rfl rfl ?_
                  refine o_iload_n dX2_wordOf_130 rfl ?_
                  refine o_iload_n dX2_wordOf_131 rfl ?_
                  refine h_cV0 (as := [.ref (1000 + 9), .int x0, .int x1]) (S1 := []) (d' := 6) dX2_wordOf_132 mf_X2_spells ml_X2_84 mv_X2_spells q2 rfl (hp_at (px_lt (by decide)) (c31 _)) rfl (Nat.le_of_ble_eq_true rfl) rfl (Nat.le_of_ble_eq_true rfl) ⟨Nat.zero_le _, Nat.zero_le _⟩ (fun b hb => k_X2_spells (by decide) hb) (fun b17 hb17 => ?_)
                  refine o_ifeq (tgt := 143) dX2_wordOf_135 (by decide) (fun u18 => ?_) (fun u18 => ?_)
                  · refine o_aload_n dX2_wordOf_143 rfl ?_
                    refine o_ldcS 10 (by decide) dX2_wordOf_144 rfl rfl ?_
                    refine o_iload_n dX2_wordOf_146 rfl ?_
                    refine o_iload_n dX2_wordOf_147 rfl ?_
                    refine h_cV0 (as := [.ref (1000 + 10), .int x0, .int x1]) (S1 := []) (d' := 6) dX2_wordOf_148 mf_X2_spells ml_X2_84 mv_X2_spells q2 rfl (hp_at (px_lt (by decide)) (c31 _)) rfl (Nat.le_of_ble_eq_true rfl) rfl (Nat.le_of_ble_eq_true rfl) ⟨Nat.zero_le _, Nat.zero_le _⟩ (fun b hb => k_X2_spells (by decide) hb) (fun b19 hb19 => ?_)
                    refine o_ifeq (tgt := 159) dX2_wordOf_151 (by decide) (fun u20 => ?_) (fun u20 => ?_)
                    · refine o_aload_n dX2_wordOf_159 rfl ?_
                      refine o_ldcS 11 (by decide) dX2_wordOf_160 rfl rfl ?_
                      refine o_iload_n dX2_wordOf_162 rfl ?_
                      refine o_iload_n dX2_wordOf_163 rfl ?_
                      refine h_cV0 (as := [.ref (1000 + 11), .int x0, .int x1]) (S1 := []) (d' := 6) dX2_wordOf_164 mf_X2_spells ml_X2_84 mv_X2_spells q2 rfl (hp_at (px_lt (by decide)) (c31 _)) rfl (Nat.le_of_ble_eq_true rfl) rfl (Nat.le_of_ble_eq_true rfl) ⟨Nat.zero_le _, Nat.zero_le _⟩ (fun b hb => k_X2_spells (by decide) hb) (fun b21 hb21 => ?_)
                      refine o_ifeq (tgt := 175) dX2_wordOf_167 (by decide) (fun u22 => ?_) (fun u22 => ?_)
                      · refine o_aload_n dX2_wordOf_175 rfl ?_
                        refine o_ldcS 12 (by decide) dX2_wordOf_176 rfl rfl ?_
                        refine o_iload_n dX2_wordOf_178 rfl ?_
                        refine o_iload_n dX2_wordOf_179 rfl ?_
                        refine h_cV0 (as := [.ref (1000 + 12), .int x0, .int x1]) (S1 := []) (d' := 6) dX2_wordOf_180 mf_X2_spells ml_X2_84 mv_X2_spells q2 rfl (hp_at (px_lt (by decide)) (c31 _)) rfl (Nat.le_of_ble_eq_true rfl) rfl (Nat.le_of_ble_eq_true rfl) ⟨Nat.zero_le _, Nat.zero_le _⟩ (fun b hb => k_X2_spells (by decide) hb) (fun b23 hb23 => ?_)
                        refine o_ifeq (tgt := 191) dX2_wordOf_183 (by decide) (fun u24 => ?_) (fun u24 => ?_)
                        · refine o_bipush (v := (-23)) dX2_wordOf_191 (by decide) ?_
                          exact o_iret (rt := .int) rfl rfl dX2_wordOf_193 rfl (Nat.zero_le _) (Nat.zero_le _)
                        · refine o_bipush (v := (-21)) dX2_wordOf_186 (by decide) ?_
                          refine o_goto (tgt := 193) dX2_wordOf_188 (by decide) ?_
                          exact o_iret (rt := .int) rfl rfl dX2_wordOf_193 rfl (Nat.zero_le _) (Nat.zero_le _)
                      · refine o_bipush (v := (-20)) dX2_wordOf_170 (by decide) ?_
                        refine o_goto (tgt := 193) dX2_wordOf_172 (by decide) ?_
                        exact o_iret (rt := .int) rfl rfl dX2_wordOf_193 rfl (Nat.zero_le _) (Nat.zero_le _)
                    · refine o_bipush (v := (-19)) dX2_wordOf_154 (by decide) ?_
                      refine o_goto (tgt := 193) dX2_wordOf_156 (by decide) ?_
                      exact o_iret (rt := .int) rfl rfl dX2_wordOf_193 rfl (Nat.zero_le _) (Nat.zero_le _)
                  · refine o_bipush (v := (-9)) dX2_wordOf_138 (by decide) ?_
                    refine o_goto (tgt := 193) dX2_wordOf_140 (by decide) ?_
                    exact o_iret (rt := .int) rfl rfl dX2_wordOf_193 rfl (Nat.zero_le _) (Nat.zero_le _)
                · refine o_bipush (v := (-8)) dX2_wordOf_122 (by decide) ?_
                  refine o_goto (tgt := 193) dX2_wordOf_124 (by decide) ?_
                  exact o_iret (rt := .int) rfl rfl dX2_wordOf_193 rfl (Nat.zero_le _) (Nat.zero_le _)
              · refine o_bipush (v := (-7)) dX2_wordOf_106 (by decide) ?_
                refine o_goto (tgt := 193) dX2_wordOf_108 (by decide) ?_
                exact o_iret (rt := .int) rfl rfl dX2_wordOf_193 rfl (Nat.zero_le _) (Nat.zero_le _)
            · refine o_bipush (v := (-6)) dX2_wordOf_90 (by decide) ?_
              refine o_goto (tgt := 193) dX2_wordOf_92 (by decide) ?_
              exact o_iret (rt := .int) rfl rfl dX2_wordOf_193 rfl (Nat.zero_le _) (Nat.zero_le _)
          · refine o_bipush (v := (-5)) dX2_wordOf_74 (by decide) ?_
            refine o_goto (tgt := 193) dX2_wordOf_76 (by decide) ?_
            exact o_iret (rt := .int) rfl rfl dX2_wordOf_193 rfl (Nat.zero_le _) (Nat.zero_le _)
        · refine o_bipush (v := (-4)) dX2_wordOf_58 (by decide) ?_
          refine o_goto (tgt := 193) dX2_wordOf_60 (by decide) ?_
          exact o_iret (rt := .int) rfl rfl dX2_wordOf_193 rfl (Nat.zero_le _) (Nat.zero_le _)
      · refine o_bipush (v := (-3)) dX2_wordOf_42 (by decide) ?_
        refine o_goto (tgt := 193) dX2_wordOf_44 (by decide) ?_
        exact o_iret (rt := .int) rfl rfl dX2_wordOf_193 rfl (Nat.zero_le _) (Nat.zero_le _)
    · refine o_bipush (v := (-2)) dX2_wordOf_26 (by decide) ?_
      refine o_goto (tgt := 193) dX2_wordOf_28 (by decide) ?_
      exact o_iret (rt := .int) rfl rfl dX2_wordOf_193 rfl (Nat.zero_le _) (Nat.zero_le _)
  · refine o_iconst (v := (-1)) dX2_wordOf_11 (by decide) ?_
    refine o_goto (tgt := 193) dX2_wordOf_12 (by decide) ?_
    exact o_iret (rt := .int) rfl rfl dX2_wordOf_193 rfl (Nat.zero_le _) (Nat.zero_le _)
theorem k_X2_wordOf_o {T : Nat} {st : px_S} {x0 : Int32} {x1 : Int32} {b : Int32} (hf : f_X2_wordOf T st x0 x1 = some b) : px_K (7) 0 0 m_X2_wordOf [.ref 31, .int x0, .int x1] (HP T st) (some (.int b)) (HP T st) := px_KofH (g := px_g0 (HP T st)) hf mf_X2_wordOf (Nat.le_of_ble_eq_true rfl) rfl (t_X2_wordOf T st x0 x1)
theorem k_X2_wordOf {T : Nat} {st : px_S} {x0 : Int32} {x1 : Int32} {b : Int32} (hf : f_X2_wordOf T st x0 x1 = some b) : px_K (7) 0 0 m_X2_wordOf [.ref 31, .int x0, .int x1] (HP T st) (some (.int b)) (HP T st) := k_X2_wordOf_o hf
/-! ThreeOfThem$Reader.numberOf(II)I: R, depth 0 -/
def f_X2_numberOf_15 (T : Nat) (st : px_S) : Nat → Int32 → Int32 → Int32 → Option (Int32)
  | 0, _, _, _ => none
  | n + 1, y2, y3, y4 => (if y4 < y2 then (if px_in y4 160 then ((f_X2_numberOf_15 T st n) y2 (((y3 * 10) + (st 32 y4.toNatClampNeg)) - 48) (y4 + 1)) else none) else (some y3))
set_option maxRecDepth 20000 in
theorem t_X2_numberOf_15 (T : Nat) (st : px_S) : ∀ (n : Nat) (y2 : Int32) (y3 : Int32) (y4 : Int32), px_O (0, 0, 0, px_n T, m_X2_numberOf) (px_g0 (HP T st)) (f_X2_numberOf_15 T st n y2 y3 y4) 15 [some (.ref 31), none, some (.int y2), some (.int y3), some (.int y4)] [] (HP T st) 0 0 := by
  intro n
  induction n with
  | zero => intro y2 y3 y4; rw [f_X2_numberOf_15]; exact o_none
  | succ n ih =>
    intro y2 y3 y4
    rw [f_X2_numberOf_15]
    refine o_iload dX2_numberOf_15 rfl ?_
    refine o_iload_n dX2_numberOf_17 rfl ?_
    refine o_icmpge (tgt := 43) dX2_numberOf_18 (by decide) (fun u1 => ?_) (fun u1 => ?_)
    · refine o_iload_n dX2_numberOf_43 rfl ?_
      exact o_iret (rt := .int) rfl rfl dX2_numberOf_44 rfl (Nat.zero_le _) (Nat.zero_le _)
    · refine o_iload_n dX2_numberOf_21 rfl ?_
      refine o_bipush (v := 10) dX2_numberOf_22 (by decide) ?_
      refine o_imul dX2_numberOf_24 ?_
      refine o_aload_n dX2_numberOf_25 rfl ?_
      refine h_get (v := .ref 32) dX2_numberOf_26 q2 fl_X2_9 (by decide) (px_lt (by decide)) (c31 _) rfl ?_
      refine o_iload dX2_numberOf_29 rfl ?_
      refine h_iald (n := 160) dX2_numberOf_31 (px_lt (by decide)) (c32 _) (fun u2 => ?_)
      refine o_iadd dX2_numberOf_32 ?_
      refine o_bipush (v := 48) dX2_numberOf_33 (by decide) ?_
      refine o_isub dX2_numberOf_35 ?_
      refine o_istore_n (L' := [some (.ref 31), none, some (.int y2), some (.int (((y3 * 10) + (st 32 y4.toNatClampNeg)) - 48)), some (.int y4)]) dX2_numberOf_36 (Nat.le_of_ble_eq_true rfl) rfl rfl ?_
      refine o_iinc (v := (y4 + 1)) (L' := [some (.ref 31), none, some (.int y2), some (.int (((y3 * 10) + (st 32 y4.toNatClampNeg)) - 48)), some (.int (y4 + 1))]) dX2_numberOf_37 rfl rfl (Nat.le_of_ble_eq_true rfl) rfl rfl ?_
      refine o_goto (tgt := 15) dX2_numberOf_40 (by decide) ?_
      exact (ih y2 (((y3 * 10) + (st 32 y4.toNatClampNeg)) - 48) (y4 + 1))
def f_X2_numberOf (T : Nat) (st : px_S) (x0 : Int32) (x1 : Int32) : Option (Int32) := (if 4 < (x1 - x0) then (some (-23)) else (f_X2_numberOf_15 T st 1000 x1 0 x0))
set_option maxRecDepth 20000 in
theorem t_X2_numberOf (T : Nat) (st : px_S) (x0 : Int32) (x1 : Int32) : px_O (0, 0, 0, px_n T, m_X2_numberOf) (px_g0 (HP T st)) (f_X2_numberOf T st x0 x1) 0 [some (.ref 31), some (.int x0), some (.int x1), none, none] [] (HP T st) 0 0 := by
  rw [f_X2_numberOf]
  refine o_iload_n dX2_numberOf_0 rfl ?_
  refine o_iload_n dX2_numberOf_1 rfl ?_
  refine o_isub dX2_numberOf_2 ?_
  refine o_iconst (v := 4) dX2_numberOf_3 (by decide) ?_
  refine o_icmple (tgt := 10) dX2_numberOf_4 (by decide) (fun u3 => ?_) (fun u3 => ?_)
  · refine o_iconst (v := 0) dX2_numberOf_10 (by decide) ?_
    refine o_istore_n (L' := [some (.ref 31), some (.int x0), some (.int x1), some (.int 0), none]) dX2_numberOf_11 (Nat.le_of_ble_eq_true rfl) rfl rfl ?_
    refine o_iload_n dX2_numberOf_12 rfl ?_
    refine o_istore (L' := [some (.ref 31), some (.int x0), some (.int x1), some (.int 0), some (.int x0)]) dX2_numberOf_13 (Nat.le_of_ble_eq_true rfl) rfl rfl ?_
    exact o_weak (L' := [some (.ref 31), none, some (.int x1), some (.int 0), some (.int x0)]) ⟨rfl, ⟨rfl, ⟨rfl, ⟨rfl, trivial⟩⟩⟩⟩ (t_X2_numberOf_15 T st 1000 x1 0 x0)
  · refine o_bipush (v := (-23)) dX2_numberOf_7 (by decide) ?_
    exact o_iret (rt := .int) rfl rfl dX2_numberOf_9 rfl (Nat.zero_le _) (Nat.zero_le _)
theorem k_X2_numberOf_o {T : Nat} {st : px_S} {x0 : Int32} {x1 : Int32} {b : Int32} (hf : f_X2_numberOf T st x0 x1 = some b) : px_K (0) 0 0 m_X2_numberOf [.ref 31, .int x0, .int x1] (HP T st) (some (.int b)) (HP T st) := px_KofH (g := px_g0 (HP T st)) hf mf_X2_numberOf (Nat.le_of_ble_eq_true rfl) rfl (t_X2_numberOf T st x0 x1)
theorem k_X2_numberOf {T : Nat} {st : px_S} {x0 : Int32} {x1 : Int32} {b : Int32} (hf : f_X2_numberOf T st x0 x1 = some b) : px_K (0) 0 0 m_X2_numberOf [.ref 31, .int x0, .int x1] (HP T st) (some (.int b)) (HP T st) := k_X2_numberOf_o hf
/-! ThreeOfThem$Reader.tokenOf(II)I: R, depth 8 -/
def f_X2_tokenOf (T : Nat) (st : px_S) (x0 : Int32) (x1 : Int32) : Option (Int32) := (if px_in x0 160 then (if (p_X2_isLetter (st 32 x0.toNatClampNeg)) = 0 then (if px_in x0 160 then (if (p_X2_isDigit (st 32 x0.toNatClampNeg)) = 0 then (if px_in x0 160 then (some (p_X2_signOf (st 32 x0.toNatClampNeg))) else none) else ((f_X2_numberOf T st x0 x1).bind fun b6 => (some b6))) else none) else ((f_X2_wordOf T st x0 x1).bind fun b7 => (some b7))) else none)
set_option maxRecDepth 20000 in
theorem t_X2_tokenOf (T : Nat) (st : px_S) (x0 : Int32) (x1 : Int32) : px_O (8, 0, 0, px_n T, m_X2_tokenOf) (px_g0 (HP T st)) (f_X2_tokenOf T st x0 x1) 0 [some (.ref 31), some (.int x0), some (.int x1)] [] (HP T st) 0 0 := by
  rw [f_X2_tokenOf]
  refine o_aload_n dX2_tokenOf_0 rfl ?_
  refine h_get (v := .ref 32) dX2_tokenOf_1 q2 fl_X2_9 (by decide) (px_lt (by decide)) (c31 _) rfl ?_
  refine o_iload_n dX2_tokenOf_4 rfl ?_
  refine h_iald (n := 160) dX2_tokenOf_5 (px_lt (by decide)) (c32 _) (fun u1 => ?_)
  refine h_cSP (as := [.int (st 32 x0.toNatClampNeg)]) (S1 := []) (d' := 0) dX2_tokenOf_6 mf_X2_isLetter ml_X2_67 ms_X2_isLetter rfl (Nat.le_of_ble_eq_true rfl) rfl (Nat.le_of_ble_eq_true rfl) ⟨Nat.zero_le _, Nat.zero_le _⟩ (k_X2_isLetter) ?_
  refine o_ifeq (tgt := 19) dX2_tokenOf_9 (by decide) (fun u2 => ?_) (fun u2 => ?_)
  · refine o_aload_n dX2_tokenOf_19 rfl ?_
    refine h_get (v := .ref 32) dX2_tokenOf_20 q2 fl_X2_9 (by decide) (px_lt (by decide)) (c31 _) rfl ?_
    refine o_iload_n dX2_tokenOf_23 rfl ?_
    refine h_iald (n := 160) dX2_tokenOf_24 (px_lt (by decide)) (c32 _) (fun u3 => ?_)
    refine h_cSP (as := [.int (st 32 x0.toNatClampNeg)]) (S1 := []) (d' := 0) dX2_tokenOf_25 mf_X2_isDigit ml_X2_70 ms_X2_isDigit rfl (Nat.le_of_ble_eq_true rfl) rfl (Nat.le_of_ble_eq_true rfl) ⟨Nat.zero_le _, Nat.zero_le _⟩ (k_X2_isDigit) ?_
    refine o_ifeq (tgt := 40) dX2_tokenOf_28 (by decide) (fun u4 => ?_) (fun u4 => ?_)
    · refine o_aload_n dX2_tokenOf_40 rfl ?_
      refine h_get (v := .ref 32) dX2_tokenOf_41 q2 fl_X2_9 (by decide) (px_lt (by decide)) (c31 _) rfl ?_
      refine o_iload_n dX2_tokenOf_44 rfl ?_
      refine h_iald (n := 160) dX2_tokenOf_45 (px_lt (by decide)) (c32 _) (fun u5 => ?_)
      refine h_cSP (as := [.int (st 32 x0.toNatClampNeg)]) (S1 := []) (d' := 0) dX2_tokenOf_46 mf_X2_signOf ml_X2_79 ms_X2_signOf rfl (Nat.le_of_ble_eq_true rfl) rfl (Nat.le_of_ble_eq_true rfl) ⟨Nat.zero_le _, Nat.zero_le _⟩ (k_X2_signOf) ?_
      exact o_iret (rt := .int) rfl rfl dX2_tokenOf_49 rfl (Nat.zero_le _) (Nat.zero_le _)
    · refine o_aload_n dX2_tokenOf_31 rfl ?_
      refine o_iload_n dX2_tokenOf_32 rfl ?_
      refine o_iload_n dX2_tokenOf_33 rfl ?_
      refine h_cV0 (as := [.int x0, .int x1]) (S1 := []) (d' := 0) dX2_tokenOf_34 mf_X2_numberOf ml_X2_76 mv_X2_numberOf q2 rfl (hp_at (px_lt (by decide)) (c31 _)) rfl (Nat.le_of_ble_eq_true rfl) rfl (Nat.le_of_ble_eq_true rfl) ⟨Nat.zero_le _, Nat.zero_le _⟩ (fun b hb => k_X2_numberOf hb) (fun b6 hb6 => ?_)
      refine o_goto (tgt := 49) dX2_tokenOf_37 (by decide) ?_
      exact o_iret (rt := .int) rfl rfl dX2_tokenOf_49 rfl (Nat.zero_le _) (Nat.zero_le _)
  · refine o_aload_n dX2_tokenOf_12 rfl ?_
    refine o_iload_n dX2_tokenOf_13 rfl ?_
    refine o_iload_n dX2_tokenOf_14 rfl ?_
    refine h_cV0 (as := [.int x0, .int x1]) (S1 := []) (d' := 7) dX2_tokenOf_15 mf_X2_wordOf ml_X2_73 mv_X2_wordOf q2 rfl (hp_at (px_lt (by decide)) (c31 _)) rfl (Nat.le_of_ble_eq_true rfl) rfl (Nat.le_of_ble_eq_true rfl) ⟨Nat.zero_le _, Nat.zero_le _⟩ (fun b hb => k_X2_wordOf hb) (fun b7 hb7 => ?_)
    exact o_iret (rt := .int) rfl rfl dX2_tokenOf_18 rfl (Nat.zero_le _) (Nat.zero_le _)
theorem k_X2_tokenOf_o {T : Nat} {st : px_S} {x0 : Int32} {x1 : Int32} {b : Int32} (hf : f_X2_tokenOf T st x0 x1 = some b) : px_K (8) 0 0 m_X2_tokenOf [.ref 31, .int x0, .int x1] (HP T st) (some (.int b)) (HP T st) := px_KofH (g := px_g0 (HP T st)) hf mf_X2_tokenOf (Nat.le_of_ble_eq_true rfl) rfl (t_X2_tokenOf T st x0 x1)
theorem k_X2_tokenOf {T : Nat} {st : px_S} {x0 : Int32} {x1 : Int32} {b : Int32} (hf : f_X2_tokenOf T st x0 x1 = some b) : px_K (8) 0 0 m_X2_tokenOf [.ref 31, .int x0, .int x1] (HP T st) (some (.int b)) (HP T st) := k_X2_tokenOf_o hf
/-! ThreeOfThem$Reader.split()V: S, depth 9 -/
def f_X2_split_7 (T : Nat) : Nat → Int32 → px_S → Option (px_S)
  | 0, _, _ => none
  | n + 1, y1, st => (if y1 < (st 31 1) then (if px_in y1 160 then (if (st 32 y1.toNatClampNeg) = 32 then ((f_X2_split_7 T n) (y1 + 1) st) else (if px_in y1 160 then (if (st 32 y1.toNatClampNeg) = 10 then ((f_X2_split_7 T n) (y1 + 1) st) else ((f_X2_behind T st y1).bind fun b6 => ((f_X2_tokenOf T st y1 b6).bind fun b7 => (if px_in (st 31 4) 160 then (if px_in (st 31 4) 160 then ((f_X2_split_7 T n) ((b6 - 1) + 1) (up (up (up st 33 (st 31 4).toNatClampNeg b7) 34 (st 31 4).toNatClampNeg y1) 31 4 ((st 31 4) + 1))) else none) else none)))) else none)) else none) else (some st))
set_option maxRecDepth 20000 in
theorem t_X2_split_7 (T : Nat) : ∀ (n : Nat) (y1 : Int32) (st : px_S), px_O (9, 0, 0, px_n T, m_X2_split) (px_gv T) (f_X2_split_7 T n y1 st) 7 [some (.ref 31), some (.int y1), none] [] (HP T st) 0 0 := by
  intro n
  induction n with
  | zero => intro y1 st; rw [f_X2_split_7]; exact o_none
  | succ n ih =>
    intro y1 st
    rw [f_X2_split_7]
    refine o_iload_n dX2_split_7 rfl ?_
    refine o_aload_n dX2_split_8 rfl ?_
    refine h_get (v := .int (st 31 1)) dX2_split_9 q2 fl_X2_24 (by decide) (px_lt (by decide)) (c31 _) rfl ?_
    refine o_icmpge (tgt := 88) dX2_split_12 (by decide) (fun u1 => ?_) (fun u1 => ?_)
    · exact o_vret rfl dX2_split_88 rfl (Nat.zero_le _) (Nat.zero_le _)
    · refine o_aload_n dX2_split_15 rfl ?_
      refine h_get (v := .ref 32) dX2_split_16 q2 fl_X2_9 (by decide) (px_lt (by decide)) (c31 _) rfl ?_
      refine o_iload_n dX2_split_19 rfl ?_
      refine h_iald (n := 160) dX2_split_20 (px_lt (by decide)) (c32 _) (fun u2 => ?_)
      refine o_bipush (v := 32) dX2_split_21 (by decide) ?_
      refine o_icmpeq (tgt := 82) dX2_split_23 (by decide) (fun u3 => ?_) (fun u3 => ?_)
      · refine o_iinc (v := (y1 + 1)) (L' := [some (.ref 31), some (.int (y1 + 1)), none]) dX2_split_82 rfl rfl (Nat.le_of_ble_eq_true rfl) rfl rfl ?_
        refine o_goto (tgt := 7) dX2_split_85 (by decide) ?_
        exact (ih (y1 + 1) st)
      · refine o_aload_n dX2_split_26 rfl ?_
        refine h_get (v := .ref 32) dX2_split_27 q2 fl_X2_9 (by decide) (px_lt (by decide)) (c31 _) rfl ?_
        refine o_iload_n dX2_split_30 rfl ?_
        refine h_iald (n := 160) dX2_split_31 (px_lt (by decide)) (c32 _) (fun u4 => ?_)
        refine o_bipush (v := 10) dX2_split_32 (by decide) ?_
        refine o_icmpeq (tgt := 82) dX2_split_34 (by decide) (fun u5 => ?_) (fun u5 => ?_)
        · refine o_iinc (v := (y1 + 1)) (L' := [some (.ref 31), some (.int (y1 + 1)), none]) dX2_split_82 rfl rfl (Nat.le_of_ble_eq_true rfl) rfl rfl ?_
          refine o_goto (tgt := 7) dX2_split_85 (by decide) ?_
          exact (ih (y1 + 1) st)
        · refine o_aload_n dX2_split_37 rfl ?_
          refine o_iload_n dX2_split_38 rfl ?_
          refine h_cV0 (as := [.int y1]) (S1 := []) (d' := 1) dX2_split_39 mf_X2_behind ml_X2_59 mv_X2_behind q2 rfl (hp_at (px_lt (by decide)) (c31 _)) rfl (Nat.le_of_ble_eq_true rfl) rfl (Nat.le_of_ble_eq_true rfl) ⟨Nat.zero_le _, Nat.zero_le _⟩ (fun b hb => k_X2_behind hb) (fun b6 hb6 => ?_)
          refine o_istore_n (L' := [some (.ref 31), some (.int y1), some (.int b6)]) dX2_split_42 (Nat.le_of_ble_eq_true rfl) rfl rfl ?_
          refine o_aload_n dX2_split_43 rfl ?_
          refine h_get (v := .ref 33) dX2_split_44 q2 fl_X2_15 (by decide) (px_lt (by decide)) (c31 _) rfl ?_
          refine o_aload_n dX2_split_47 rfl ?_
          refine h_get (v := .int (st 31 4)) dX2_split_48 q2 fl_X2_31 (by decide) (px_lt (by decide)) (c31 _) rfl ?_
          refine o_aload_n dX2_split_51 rfl ?_
          refine o_iload_n dX2_split_52 rfl ?_
          refine o_iload_n dX2_split_53 rfl ?_
          refine h_cV0 (as := [.int y1, .int b6]) (S1 := [.int (st 31 4), .ref 33]) (d' := 8) dX2_split_54 mf_X2_tokenOf ml_X2_63 mv_X2_tokenOf q2 rfl (hp_at (px_lt (by decide)) (c31 _)) rfl (Nat.le_of_ble_eq_true rfl) rfl (Nat.le_of_ble_eq_true rfl) ⟨Nat.zero_le _, Nat.zero_le _⟩ (fun b hb => k_X2_tokenOf hb) (fun b7 hb7 => ?_)
          refine h_iast (n := 160) dX2_split_57 (px_lt (by decide)) c33 (fun u8 => ?_)
          refine o_aload_n dX2_split_58 rfl ?_
          refine h_get (v := .ref 34) dX2_split_59 q2 fl_X2_18 (by decide) (px_lt (by decide)) (c31 _) rfl ?_
          refine o_aload_n dX2_split_62 rfl ?_
          refine h_get (v := .int (st 31 4)) dX2_split_63 q2 fl_X2_31 (by decide) (px_lt (by decide)) (c31 _) rfl ?_
          refine o_iload_n dX2_split_66 rfl ?_
          refine h_iast (n := 160) dX2_split_67 (px_lt (by decide)) c34 (fun u9 => ?_)
          refine o_aload_n dX2_split_68 rfl ?_
          refine o_dup dX2_split_69 rfl ?_
          refine h_get (v := .int (st 31 4)) dX2_split_70 q2 fl_X2_31 (by decide) (px_lt (by decide)) (c31 _) rfl ?_
          refine o_iconst (v := 1) dX2_split_73 (by decide) ?_
          refine o_iadd dX2_split_74 ?_
          refine h_puti dX2_split_75 q2 fl_X2_31 pf_X2_4 (px_lt (by decide)) (c31 _) (Nat.le_of_ble_eq_true rfl) (s31_4 _ _) ?_
          refine o_iload_n dX2_split_78 rfl ?_
          refine o_iconst (v := 1) dX2_split_79 (by decide) ?_
          refine o_isub dX2_split_80 ?_
          refine o_istore_n (L' := [some (.ref 31), some (.int (b6 - 1)), some (.int b6)]) dX2_split_81 (Nat.le_of_ble_eq_true rfl) rfl rfl ?_
          refine o_iinc (v := ((b6 - 1) + 1)) (L' := [some (.ref 31), some (.int ((b6 - 1) + 1)), some (.int b6)]) dX2_split_82 rfl rfl (Nat.le_of_ble_eq_true rfl) rfl rfl ?_
          refine o_goto (tgt := 7) dX2_split_85 (by decide) ?_
          exact o_weak (L' := [some (.ref 31), some (.int ((b6 - 1) + 1)), none]) ⟨rfl, ⟨rfl, trivial⟩⟩ (ih ((b6 - 1) + 1) (up (up (up st 33 (st 31 4).toNatClampNeg b7) 34 (st 31 4).toNatClampNeg y1) 31 4 ((st 31 4) + 1)))
def f_X2_split (T : Nat) (st : px_S) : Option (px_S) := (f_X2_split_7 T 1000 0 (up st 31 4 0))
set_option maxRecDepth 20000 in
theorem t_X2_split (T : Nat) (st : px_S) : px_O (9, 0, 0, px_n T, m_X2_split) (px_gv T) (f_X2_split T st) 0 [some (.ref 31), none, none] [] (HP T st) 0 0 := by
  rw [f_X2_split]
  refine o_aload_n dX2_split_0 rfl ?_
  refine o_iconst (v := 0) dX2_split_1 (by decide) ?_
  refine h_puti dX2_split_2 q2 fl_X2_31 pf_X2_4 (px_lt (by decide)) (c31 _) (Nat.le_of_ble_eq_true rfl) (s31_4 _ _) ?_
  refine o_iconst (v := 0) dX2_split_5 (by decide) ?_
  refine o_istore_n (L' := [some (.ref 31), some (.int 0), none]) dX2_split_6 (Nat.le_of_ble_eq_true rfl) rfl rfl ?_
  exact (t_X2_split_7 T 1000 0 (up st 31 4 0))
theorem k_X2_split {T : Nat} {st : px_S} {b : px_S} (hf : f_X2_split T st = some b) : px_K (9) 0 0 m_X2_split [.ref 31] (HP T st) ((px_gv T) b).1 ((px_gv T) b).2 := px_KofH hf mf_X2_split (Nat.le_of_ble_eq_true rfl) rfl (t_X2_split T st)
/-! ThreeOfThem$Reader.current()I: R, depth 0 -/
def f_X2_current (T : Nat) (st : px_S) : Option (Int32) := (if (st 31 5) < (st 31 4) then (if px_in (st 31 5) 160 then (some (st 33 (st 31 5).toNatClampNeg)) else none) else (some (-22)))
set_option maxRecDepth 20000 in
theorem t_X2_current (T : Nat) (st : px_S) : px_O (0, 0, 0, px_n T, m_X2_current) (px_g0 (HP T st)) (f_X2_current T st) 0 [some (.ref 31)] [] (HP T st) 0 0 := by
  rw [f_X2_current]
  refine o_aload_n dX2_current_0 rfl ?_
  refine h_get (v := .int (st 31 5)) dX2_current_1 q2 fl_X2_28 (by decide) (px_lt (by decide)) (c31 _) rfl ?_
  refine o_aload_n dX2_current_4 rfl ?_
  refine h_get (v := .int (st 31 4)) dX2_current_5 q2 fl_X2_31 (by decide) (px_lt (by decide)) (c31 _) rfl ?_
  refine o_icmpge (tgt := 23) dX2_current_8 (by decide) (fun u1 => ?_) (fun u1 => ?_)
  · refine o_bipush (v := (-22)) dX2_current_23 (by decide) ?_
    exact o_iret (rt := .int) rfl rfl dX2_current_25 rfl (Nat.zero_le _) (Nat.zero_le _)
  · refine o_aload_n dX2_current_11 rfl ?_
    refine h_get (v := .ref 33) dX2_current_12 q2 fl_X2_15 (by decide) (px_lt (by decide)) (c31 _) rfl ?_
    refine o_aload_n dX2_current_15 rfl ?_
    refine h_get (v := .int (st 31 5)) dX2_current_16 q2 fl_X2_28 (by decide) (px_lt (by decide)) (c31 _) rfl ?_
    refine h_iald (n := 160) dX2_current_19 (px_lt (by decide)) (c33 _) (fun u2 => ?_)
    refine o_goto (tgt := 25) dX2_current_20 (by decide) ?_
    exact o_iret (rt := .int) rfl rfl dX2_current_25 rfl (Nat.zero_le _) (Nat.zero_le _)
theorem k_X2_current_o {T : Nat} {st : px_S} {b : Int32} (hf : f_X2_current T st = some b) : px_K (0) 0 0 m_X2_current [.ref 31] (HP T st) (some (.int b)) (HP T st) := px_KofH (g := px_g0 (HP T st)) hf mf_X2_current (Nat.le_of_ble_eq_true rfl) rfl (t_X2_current T st)
theorem k_X2_current {T : Nat} {st : px_S} {b : Int32} (hf : f_X2_current T st = some b) : px_K (0) 0 0 m_X2_current [.ref 31] (HP T st) (some (.int b)) (HP T st) := k_X2_current_o hf
/-! ThreeOfThem$Reader.pass(I)Z: S, depth 1 -/
def f_X2_pass_13 (T : Nat) (z0 : Int32) (st : px_S) : Option (Int32 × px_S) := (if z0 = 0 then (if z0 = 0 ∨ z0 = 1 then some (z0, (up st 31 5 ((st 31 5) + 0))) else none) else (if z0 = 0 ∨ z0 = 1 then some (z0, (up st 31 5 ((st 31 5) + 1))) else none))
set_option maxRecDepth 20000 in
theorem t_X2_pass_13 (T : Nat) (z0 : Int32) (st : px_S) : px_O (1, 0, 0, px_n T, m_X2_pass) (px_gi T) (f_X2_pass_13 T z0 st) 13 [some (.ref 31), none, none] [.int z0] (HP T st) 0 0 := by
  rw [f_X2_pass_13]
  refine o_istore_n (L' := [some (.ref 31), none, some (.int z0)]) dX2_pass_13 (Nat.le_of_ble_eq_true rfl) rfl rfl ?_
  refine o_aload_n dX2_pass_14 rfl ?_
  refine o_dup dX2_pass_15 rfl ?_
  refine h_get (v := .int (st 31 5)) dX2_pass_16 q2 fl_X2_28 (by decide) (px_lt (by decide)) (c31 _) rfl ?_
  refine o_iload_n dX2_pass_19 rfl ?_
  refine o_ifeq (tgt := 27) dX2_pass_20 (by decide) (fun u1 => ?_) (fun u1 => ?_)
  · refine o_iconst (v := 0) dX2_pass_27 (by decide) ?_
    refine o_iadd dX2_pass_28 ?_
    refine h_puti dX2_pass_29 q2 fl_X2_28 pf_X2_5 (px_lt (by decide)) (c31 _) (Nat.le_of_ble_eq_true rfl) (s31_5 _ _) ?_
    refine o_iload_n dX2_pass_32 rfl ?_
    refine o_ite (fun u2 => ?_) (fun _ => o_none)
    exact o_iret (rt := .boolean) rfl (by rcases u2 with u2 | u2 <;> rw [u2] <;> rfl) dX2_pass_33 rfl (Nat.zero_le _) (Nat.zero_le _)
  · refine o_iconst (v := 1) dX2_pass_23 (by decide) ?_
    refine o_goto (tgt := 28) dX2_pass_24 (by decide) ?_
    refine o_iadd dX2_pass_28 ?_
    refine h_puti dX2_pass_29 q2 fl_X2_28 pf_X2_5 (px_lt (by decide)) (c31 _) (Nat.le_of_ble_eq_true rfl) (s31_5 _ _) ?_
    refine o_iload_n dX2_pass_32 rfl ?_
    refine o_ite (fun u3 => ?_) (fun _ => o_none)
    exact o_iret (rt := .boolean) rfl (by rcases u3 with u3 | u3 <;> rw [u3] <;> rfl) dX2_pass_33 rfl (Nat.zero_le _) (Nat.zero_le _)
def f_X2_pass (T : Nat) (x0 : Int32) (st : px_S) : Option (Int32 × px_S) := ((f_X2_current T st).bind fun b4 => (if b4 = x0 then (f_X2_pass_13 T 1 st) else (f_X2_pass_13 T 0 st)))
set_option maxRecDepth 20000 in
theorem t_X2_pass (T : Nat) (x0 : Int32) (st : px_S) : px_O (1, 0, 0, px_n T, m_X2_pass) (px_gi T) (f_X2_pass T x0 st) 0 [some (.ref 31), some (.int x0), none] [] (HP T st) 0 0 := by
  rw [f_X2_pass]
  refine o_aload_n dX2_pass_0 rfl ?_
  refine h_cV0 (as := []) (S1 := []) (d' := 0) dX2_pass_1 mf_X2_current ml_X2_44 mv_X2_current q2 rfl (hp_at (px_lt (by decide)) (c31 _)) rfl (Nat.le_of_ble_eq_true rfl) rfl (Nat.le_of_ble_eq_true rfl) ⟨Nat.zero_le _, Nat.zero_le _⟩ (fun b hb => k_X2_current hb) (fun b4 hb4 => ?_)
  refine o_iload_n dX2_pass_4 rfl ?_
  refine o_icmpne (tgt := 12) dX2_pass_5 (by decide) (fun u5 => ?_) (fun u5 => ?_)
  · refine o_iconst (v := 0) dX2_pass_12 (by decide) ?_
    exact o_weak (L' := [some (.ref 31), none, none]) ⟨rfl, trivial⟩ (t_X2_pass_13 T 0 st)
  · refine o_iconst (v := 1) dX2_pass_8 (by decide) ?_
    refine o_goto (tgt := 13) dX2_pass_9 (by decide) ?_
    exact o_weak (L' := [some (.ref 31), none, none]) ⟨rfl, trivial⟩ (t_X2_pass_13 T 1 st)
theorem k_X2_pass {T : Nat} {st : px_S} {x0 : Int32} {b : Int32 × px_S} (hf : f_X2_pass T x0 st = some b) : px_K (1) 0 0 m_X2_pass [.ref 31, .int x0] (HP T st) ((px_gi T) b).1 ((px_gi T) b).2 := px_KofH hf mf_X2_pass (Nat.le_of_ble_eq_true rfl) rfl (t_X2_pass T x0 st)
/-! ThreeOfThem$Reader.emit(I)V: S, depth 0 -/
def f_X2_emit (T : Nat) (x0 : Int32) (st : px_S) : Option (px_S) := (if (st 31 7) < 160 then (if px_in (st 31 7) 160 then (some (up (up st 35 (st 31 7).toNatClampNeg x0) 31 7 ((st 31 7) + 1))) else none) else (some st))
set_option maxRecDepth 20000 in
theorem t_X2_emit (T : Nat) (x0 : Int32) (st : px_S) : px_O (0, 0, 0, px_n T, m_X2_emit) (px_gv T) (f_X2_emit T x0 st) 0 [some (.ref 31), some (.int x0)] [] (HP T st) 0 0 := by
  rw [f_X2_emit]
  refine o_aload_n dX2_emit_0 rfl ?_
  refine h_get (v := .int (st 31 7)) dX2_emit_1 q2 fl_X2_37 (by decide) (px_lt (by decide)) (c31 _) rfl ?_
  refine o_sipush (v := 160) dX2_emit_4 (by decide) ?_
  refine o_icmpge (tgt := 30) dX2_emit_7 (by decide) (fun u1 => ?_) (fun u1 => ?_)
  · exact o_vret rfl dX2_emit_30 rfl (Nat.zero_le _) (Nat.zero_le _)
  · refine o_aload_n dX2_emit_10 rfl ?_
    refine h_get (v := .ref 35) dX2_emit_11 q2 fl_X2_21 (by decide) (px_lt (by decide)) (c31 _) rfl ?_
    refine o_aload_n dX2_emit_14 rfl ?_
    refine h_get (v := .int (st 31 7)) dX2_emit_15 q2 fl_X2_37 (by decide) (px_lt (by decide)) (c31 _) rfl ?_
    refine o_iload_n dX2_emit_18 rfl ?_
    refine h_iast (n := 160) dX2_emit_19 (px_lt (by decide)) c35 (fun u2 => ?_)
    refine o_aload_n dX2_emit_20 rfl ?_
    refine o_dup dX2_emit_21 rfl ?_
    refine h_get (v := .int (st 31 7)) dX2_emit_22 q2 fl_X2_37 (by decide) (px_lt (by decide)) (c31 _) rfl ?_
    refine o_iconst (v := 1) dX2_emit_25 (by decide) ?_
    refine o_iadd dX2_emit_26 ?_
    refine h_puti dX2_emit_27 q2 fl_X2_37 pf_X2_7 (px_lt (by decide)) (c31 _) (Nat.le_of_ble_eq_true rfl) (s31_7 _ _) ?_
    exact o_vret rfl dX2_emit_30 rfl (Nat.zero_le _) (Nat.zero_le _)
theorem k_X2_emit {T : Nat} {st : px_S} {x0 : Int32} {b : px_S} (hf : f_X2_emit T x0 st = some b) : px_K (0) 0 0 m_X2_emit [.ref 31, .int x0] (HP T st) ((px_gv T) b).1 ((px_gv T) b).2 := px_KofH hf mf_X2_emit (Nat.le_of_ble_eq_true rfl) rfl (t_X2_emit T x0 st)
/-! ThreeOfThem$Reader.readOpened(III)Z: S, depth 1 -/
def f_X2_readOpened (T : Nat) (rf : Int32 → Int32 → px_S → Option (Int32 × px_S)) (x0 : Int32) (x1 : Int32) (x2 : Int32) (st : px_S) : Option (Int32 × px_S) := (if x2 < 5 then ((rf x1 (x2 + 1) (up st 31 5 ((st 31 5) + 1))).bind fun b2 => (if b2.1 = 0 then (some (0, b2.2)) else (if x0 = (-16) then (some (1, b2.2)) else ((f_X2_emit T x0 b2.2).bind fun b5 => (some (1, b5)))))) else (some (0, st)))
set_option maxRecDepth 20000 in
theorem t_X2_readOpened {dR : Nat} (T : Nat) (rf : Int32 → Int32 → px_S → Option (Int32 × px_S)) (hr : ∀ (x0 x1 : Int32) (st : px_S) (b : Int32 × px_S), rf x0 x1 st = some b → px_K dR 0 0 m_X2_readLevel [.ref 31, .int x0, .int x1] (HP T st) (px_gi T b).1 (px_gi T b).2) (x0 : Int32) (x1 : Int32) (x2 : Int32) (st : px_S) : px_O (dR + 1, 0, 0, px_n T, m_X2_readOpened) (px_gi T) (f_X2_readOpened T rf x0 x1 x2 st) 0 [some (.ref 31), some (.int x0), some (.int x1), some (.int x2)] [] (HP T st) 0 0 := by
  rw [f_X2_readOpened]
  refine o_iload_n dX2_readOpened_0 rfl ?_
  refine o_iconst (v := 5) dX2_readOpened_1 (by decide) ?_
  refine o_icmplt (tgt := 7) dX2_readOpened_2 (by decide) (fun u1 => ?_) (fun u1 => ?_)
  · refine o_aload_n dX2_readOpened_7 rfl ?_
    refine o_dup dX2_readOpened_8 rfl ?_
    refine h_get (v := .int (st 31 5)) dX2_readOpened_9 q2 fl_X2_28 (by decide) (px_lt (by decide)) (c31 _) rfl ?_
    refine o_iconst (v := 1) dX2_readOpened_12 (by decide) ?_
    refine o_iadd dX2_readOpened_13 ?_
    refine h_puti dX2_readOpened_14 q2 fl_X2_28 pf_X2_5 (px_lt (by decide)) (c31 _) (Nat.le_of_ble_eq_true rfl) (s31_5 _ _) ?_
    refine o_aload_n dX2_readOpened_17 rfl ?_
    refine o_iload_n dX2_readOpened_18 rfl ?_
    refine o_iload_n dX2_readOpened_19 rfl ?_
    refine o_iconst (v := 1) dX2_readOpened_20 (by decide) ?_
    refine o_iadd dX2_readOpened_21 ?_
    refine h_cVi (as := [.int x1, .int (x2 + 1)]) (S1 := []) (d' := (dR)) dX2_readOpened_22 mf_X2_readLevel ml_X2_121 mv_X2_readLevel q2 rfl (hp_at (px_lt (by decide)) (c31 _)) rfl (show dR + 1 ≤ dR + 1 by omega) rfl (Nat.le_of_ble_eq_true rfl) (fun b hb => hr _ _ _ b hb) (fun b2 hb2 => ?_)
    refine o_ifne (tgt := 30) dX2_readOpened_25 (by decide) (fun u3 => ?_) (fun u3 => ?_)
    · refine o_iload_n dX2_readOpened_30 rfl ?_
      refine o_bipush (v := (-16)) dX2_readOpened_31 (by decide) ?_
      refine o_icmpeq (tgt := 41) dX2_readOpened_33 (by decide) (fun u4 => ?_) (fun u4 => ?_)
      · refine o_iconst (v := 1) dX2_readOpened_41 (by decide) ?_
        exact o_iret (rt := .boolean) rfl rfl dX2_readOpened_42 rfl (Nat.zero_le _) (Nat.zero_le _)
      · refine o_aload_n dX2_readOpened_36 rfl ?_
        refine o_iload_n dX2_readOpened_37 rfl ?_
        refine h_cVv (as := [.int x0]) (S1 := []) (d' := 0) dX2_readOpened_38 mf_X2_emit ml_X2_135 mv_X2_emit q2 rfl (hp_at (px_lt (by decide)) (c31 _)) rfl (show 0 + 1 ≤ dR + 1 by omega) rfl (Nat.le_of_ble_eq_true rfl) (fun b hb => k_X2_emit hb) (fun b5 hb5 => ?_)
        refine o_iconst (v := 1) dX2_readOpened_41 (by decide) ?_
        exact o_iret (rt := .boolean) rfl rfl dX2_readOpened_42 rfl (Nat.zero_le _) (Nat.zero_le _)
    · refine o_iconst (v := 0) dX2_readOpened_28 (by decide) ?_
      exact o_iret (rt := .boolean) rfl rfl dX2_readOpened_29 rfl (Nat.zero_le _) (Nat.zero_le _)
  · refine o_iconst (v := 0) dX2_readOpened_5 (by decide) ?_
    exact o_iret (rt := .boolean) rfl rfl dX2_readOpened_6 rfl (Nat.zero_le _) (Nat.zero_le _)
theorem k_X2_readOpened {dR : Nat} {T : Nat} {st : px_S} {rf : Int32 → Int32 → px_S → Option (Int32 × px_S)} {x0 : Int32} {x1 : Int32} {x2 : Int32} {b : Int32 × px_S} (hr : ∀ (x0 x1 : Int32) (st : px_S) (b : Int32 × px_S), rf x0 x1 st = some b → px_K dR 0 0 m_X2_readLevel [.ref 31, .int x0, .int x1] (HP T st) (px_gi T b).1 (px_gi T b).2) (hf : f_X2_readOpened T rf x0 x1 x2 st = some b) : px_K (dR + 1) 0 0 m_X2_readOpened [.ref 31, .int x0, .int x1, .int x2] (HP T st) ((px_gi T) b).1 ((px_gi T) b).2 := px_KofH hf mf_X2_readOpened (Nat.le_of_ble_eq_true rfl) rfl (t_X2_readOpened T rf hr x0 x1 x2 st)
/-! ThreeOfThem$Reader.readOne(I)Z: S, depth 2 -/
def f_X2_readOne (T : Nat) (rf : Int32 → Int32 → px_S → Option (Int32 × px_S)) (x0 : Int32) (st : px_S) : Option (Int32 × px_S) := ((f_X2_current T st).bind fun b1 => (if b1 < (-6) then (if b1 = (-13) then ((f_X2_readOpened T rf (-15) 5 x0 st).bind fun b9 => (if b9.1 = 0 ∨ b9.1 = 1 then some (b9.1, b9.2) else none)) else (if b1 = (-16) then ((f_X2_readOpened T rf (-16) 0 x0 st).bind fun b5 => (if b5.1 = 0 then (some (0, b5.2)) else ((f_X2_pass T (-17) b5.2).bind fun b7 => (if b7.1 = 0 then (some (0, b7.2)) else (some (1, b7.2)))))) else (some (0, st)))) else ((f_X2_emit T b1 (up st 31 5 ((st 31 5) + 1))).bind fun b11 => (some (1, b11)))))
set_option maxRecDepth 20000 in
theorem t_X2_readOne {dR : Nat} (T : Nat) (rf : Int32 → Int32 → px_S → Option (Int32 × px_S)) (hr : ∀ (x0 x1 : Int32) (st : px_S) (b : Int32 × px_S), rf x0 x1 st = some b → px_K dR 0 0 m_X2_readLevel [.ref 31, .int x0, .int x1] (HP T st) (px_gi T b).1 (px_gi T b).2) (x0 : Int32) (st : px_S) : px_O (dR + 2, 0, 0, px_n T, m_X2_readOne) (px_gi T) (f_X2_readOne T rf x0 st) 0 [some (.ref 31), some (.int x0), none] [] (HP T st) 0 0 := by
  rw [f_X2_readOne]
  refine o_aload_n dX2_readOne_0 rfl ?_
  refine h_cV0 (as := []) (S1 := []) (d' := 0) dX2_readOne_1 mf_X2_current ml_X2_44 mv_X2_current q2 rfl (hp_at (px_lt (by decide)) (c31 _)) rfl (show 0 + 1 ≤ dR + 2 by omega) rfl (Nat.le_of_ble_eq_true rfl) ⟨Nat.zero_le _, Nat.zero_le _⟩ (fun b hb => k_X2_current hb) (fun b1 hb1 => ?_)
  refine o_istore_n (L' := [some (.ref 31), some (.int x0), some (.int b1)]) dX2_readOne_4 (Nat.le_of_ble_eq_true rfl) rfl rfl ?_
  refine o_iload_n dX2_readOne_5 rfl ?_
  refine o_bipush (v := (-6)) dX2_readOne_6 (by decide) ?_
  refine o_icmplt (tgt := 28) dX2_readOne_8 (by decide) (fun u2 => ?_) (fun u2 => ?_)
  · refine o_iload_n dX2_readOne_28 rfl ?_
    refine o_bipush (v := (-13)) dX2_readOne_29 (by decide) ?_
    refine o_icmpne (tgt := 43) dX2_readOne_31 (by decide) (fun u3 => ?_) (fun u3 => ?_)
    · refine o_iload_n dX2_readOne_43 rfl ?_
      refine o_bipush (v := (-16)) dX2_readOne_44 (by decide) ?_
      refine o_icmpne (tgt := 73) dX2_readOne_46 (by decide) (fun u4 => ?_) (fun u4 => ?_)
      · refine o_iconst (v := 0) dX2_readOne_73 (by decide) ?_
        exact o_iret (rt := .boolean) rfl rfl dX2_readOne_74 rfl (Nat.zero_le _) (Nat.zero_le _)
      · refine o_aload_n dX2_readOne_49 rfl ?_
        refine o_bipush (v := (-16)) dX2_readOne_50 (by decide) ?_
        refine o_iconst (v := 0) dX2_readOne_52 (by decide) ?_
        refine o_iload_n dX2_readOne_53 rfl ?_
        refine h_cVi (as := [.int (-16), .int 0, .int x0]) (S1 := []) (d' := (dR + 1)) dX2_readOne_54 mf_X2_readOpened ml_X2_128 mv_X2_readOpened q2 rfl (hp_at (px_lt (by decide)) (c31 _)) rfl (show dR + 1 + 1 ≤ dR + 2 by omega) rfl (Nat.le_of_ble_eq_true rfl) (fun b hb => k_X2_readOpened hr hb) (fun b5 hb5 => ?_)
        refine o_ifeq (tgt := 73) dX2_readOne_57 (by decide) (fun u6 => ?_) (fun u6 => ?_)
        · refine o_iconst (v := 0) dX2_readOne_73 (by decide) ?_
          exact o_iret (rt := .boolean) rfl rfl dX2_readOne_74 rfl (Nat.zero_le _) (Nat.zero_le _)
        · refine o_aload_n dX2_readOne_60 rfl ?_
          refine o_bipush (v := (-17)) dX2_readOne_61 (by decide) ?_
          refine h_cVi (as := [.int (-17)]) (S1 := []) (d' := 1) dX2_readOne_63 mf_X2_pass ml_X2_118 mv_X2_pass q2 rfl (hp_at (px_lt (by decide)) (c31 _)) rfl (show 1 + 1 ≤ dR + 2 by omega) rfl (Nat.le_of_ble_eq_true rfl) (fun b hb => k_X2_pass hb) (fun b7 hb7 => ?_)
          refine o_ifeq (tgt := 73) dX2_readOne_66 (by decide) (fun u8 => ?_) (fun u8 => ?_)
          · refine o_iconst (v := 0) dX2_readOne_73 (by decide) ?_
            exact o_iret (rt := .boolean) rfl rfl dX2_readOne_74 rfl (Nat.zero_le _) (Nat.zero_le _)
          · refine o_iconst (v := 1) dX2_readOne_69 (by decide) ?_
            refine o_goto (tgt := 74) dX2_readOne_70 (by decide) ?_
            exact o_iret (rt := .boolean) rfl rfl dX2_readOne_74 rfl (Nat.zero_le _) (Nat.zero_le _)
    · refine o_aload_n dX2_readOne_34 rfl ?_
      refine o_bipush (v := (-15)) dX2_readOne_35 (by decide) ?_
      refine o_iconst (v := 5) dX2_readOne_37 (by decide) ?_
      refine o_iload_n dX2_readOne_38 rfl ?_
      refine h_cVi (as := [.int (-15), .int 5, .int x0]) (S1 := []) (d' := (dR + 1)) dX2_readOne_39 mf_X2_readOpened ml_X2_128 mv_X2_readOpened q2 rfl (hp_at (px_lt (by decide)) (c31 _)) rfl (show dR + 1 + 1 ≤ dR + 2 by omega) rfl (Nat.le_of_ble_eq_true rfl) (fun b hb => k_X2_readOpened hr hb) (fun b9 hb9 => ?_)
      refine o_ite (fun u10 => ?_) (fun _ => o_none)
      exact o_iret (rt := .boolean) rfl (by rcases u10 with u10 | u10 <;> rw [u10] <;> rfl) dX2_readOne_42 rfl (Nat.zero_le _) (Nat.zero_le _)
  · refine o_aload_n dX2_readOne_11 rfl ?_
    refine o_dup dX2_readOne_12 rfl ?_
    refine h_get (v := .int (st 31 5)) dX2_readOne_13 q2 fl_X2_28 (by decide) (px_lt (by decide)) (c31 _) rfl ?_
    refine o_iconst (v := 1) dX2_readOne_16 (by decide) ?_
    refine o_iadd dX2_readOne_17 ?_
    refine h_puti dX2_readOne_18 q2 fl_X2_28 pf_X2_5 (px_lt (by decide)) (c31 _) (Nat.le_of_ble_eq_true rfl) (s31_5 _ _) ?_
    refine o_aload_n dX2_readOne_21 rfl ?_
    refine o_iload_n dX2_readOne_22 rfl ?_
    refine h_cVv (as := [.int b1]) (S1 := []) (d' := 0) dX2_readOne_23 mf_X2_emit ml_X2_135 mv_X2_emit q2 rfl (hp_at (px_lt (by decide)) (c31 _)) rfl (show 0 + 1 ≤ dR + 2 by omega) rfl (Nat.le_of_ble_eq_true rfl) (fun b hb => k_X2_emit hb) (fun b11 hb11 => ?_)
    refine o_iconst (v := 1) dX2_readOne_26 (by decide) ?_
    exact o_iret (rt := .boolean) rfl rfl dX2_readOne_27 rfl (Nat.zero_le _) (Nat.zero_le _)
theorem k_X2_readOne {dR : Nat} {T : Nat} {st : px_S} {rf : Int32 → Int32 → px_S → Option (Int32 × px_S)} {x0 : Int32} {b : Int32 × px_S} (hr : ∀ (x0 x1 : Int32) (st : px_S) (b : Int32 × px_S), rf x0 x1 st = some b → px_K dR 0 0 m_X2_readLevel [.ref 31, .int x0, .int x1] (HP T st) (px_gi T b).1 (px_gi T b).2) (hf : f_X2_readOne T rf x0 st = some b) : px_K (dR + 2) 0 0 m_X2_readOne [.ref 31, .int x0] (HP T st) ((px_gi T) b).1 ((px_gi T) b).2 := px_KofH hf mf_X2_readOne (Nat.le_of_ble_eq_true rfl) rfl (t_X2_readOne T rf hr x0 st)
/-! ThreeOfThem$Reader.readLevel(II)Z: S, depth 120 -/
def f_X2_readLevel_b_63 (T : Nat) (rf : Int32 → Int32 → px_S → Option (Int32 × px_S)) : Nat → Int32 → Int32 → Int32 → Int32 → px_S → Option (Int32 × px_S)
  | 0, _, _, _, _, _ => none
  | n + 1, y1, y2, y3, y4, st => (if y4 < y3 then ((f_X2_current T st).bind fun b2 => (if (p_X2_levelOf b2) = y1 then ((f_X2_current T st).bind fun b4 => ((rf (y1 + 1) y2 (up st 31 5 ((st 31 5) + 1))).bind fun b5 => (if b5.1 = 0 then (some (0, b5.2)) else ((f_X2_emit T b4 b5.2).bind fun b7 => ((f_X2_readLevel_b_63 T rf n) y1 y2 y3 (y4 + 1) b7))))) else (some (1, st)))) else (some (1, st)))
set_option maxRecDepth 20000 in
theorem t_X2_readLevel_b_63 {dR : Nat} (T : Nat) (rf : Int32 → Int32 → px_S → Option (Int32 × px_S)) (hr : ∀ (x0 x1 : Int32) (st : px_S) (b : Int32 × px_S), rf x0 x1 st = some b → px_K dR 0 0 m_X2_readLevel [.ref 31, .int x0, .int x1] (HP T st) (px_gi T b).1 (px_gi T b).2) : ∀ (n : Nat) (y1 : Int32) (y2 : Int32) (y3 : Int32) (y4 : Int32) (st : px_S), px_O (dR + 3, 0, 0, px_n T, m_X2_readLevel) (px_gi T) (f_X2_readLevel_b_63 T rf n y1 y2 y3 y4 st) 63 [some (.ref 31), some (.int y1), some (.int y2), some (.int y3), some (.int y4), none] [] (HP T st) 0 0 := by
  intro n
  induction n with
  | zero => intro y1 y2 y3 y4 st; rw [f_X2_readLevel_b_63]; exact o_none
  | succ n ih =>
    intro y1 y2 y3 y4 st
    rw [f_X2_readLevel_b_63]
    refine o_iload dX2_readLevel_63 rfl ?_
    refine o_iload_n dX2_readLevel_65 rfl ?_
    refine o_icmpge (tgt := 121) dX2_readLevel_66 (by decide) (fun u1 => ?_) (fun u1 => ?_)
    · refine o_iconst (v := 1) dX2_readLevel_121 (by decide) ?_
      exact o_iret (rt := .boolean) rfl rfl dX2_readLevel_122 rfl (Nat.zero_le _) (Nat.zero_le _)
    · refine o_aload_n dX2_readLevel_69 rfl ?_
      refine h_cV0 (as := []) (S1 := []) (d' := 0) dX2_readLevel_70 mf_X2_current ml_X2_44 mv_X2_current q2 rfl (hp_at (px_lt (by decide)) (c31 _)) rfl (show 0 + 1 ≤ dR + 3 by omega) rfl (Nat.le_of_ble_eq_true rfl) ⟨Nat.zero_le _, Nat.zero_le _⟩ (fun b hb => k_X2_current hb) (fun b2 hb2 => ?_)
      refine h_cSP (as := [.int b2]) (S1 := []) (d' := 0) dX2_readLevel_73 mf_X2_levelOf ml_X2_132 ms_X2_levelOf rfl (show 0 + 1 ≤ dR + 3 by omega) rfl (Nat.le_of_ble_eq_true rfl) ⟨Nat.zero_le _, Nat.zero_le _⟩ (k_X2_levelOf) ?_
      refine o_iload_n dX2_readLevel_76 rfl ?_
      refine o_icmpne (tgt := 121) dX2_readLevel_77 (by decide) (fun u3 => ?_) (fun u3 => ?_)
      · refine o_iconst (v := 1) dX2_readLevel_121 (by decide) ?_
        exact o_iret (rt := .boolean) rfl rfl dX2_readLevel_122 rfl (Nat.zero_le _) (Nat.zero_le _)
      · refine o_aload_n dX2_readLevel_80 rfl ?_
        refine h_cV0 (as := []) (S1 := []) (d' := 0) dX2_readLevel_81 mf_X2_current ml_X2_44 mv_X2_current q2 rfl (hp_at (px_lt (by decide)) (c31 _)) rfl (show 0 + 1 ≤ dR + 3 by omega) rfl (Nat.le_of_ble_eq_true rfl) ⟨Nat.zero_le _, Nat.zero_le _⟩ (fun b hb => k_X2_current hb) (fun b4 hb4 => ?_)
        refine o_istore (L' := [some (.ref 31), some (.int y1), some (.int y2), some (.int y3), some (.int y4), some (.int b4)]) dX2_readLevel_84 (Nat.le_of_ble_eq_true rfl) rfl rfl ?_
        refine o_aload_n dX2_readLevel_86 rfl ?_
        refine o_dup dX2_readLevel_87 rfl ?_
        refine h_get (v := .int (st 31 5)) dX2_readLevel_88 q2 fl_X2_28 (by decide) (px_lt (by decide)) (c31 _) rfl ?_
        refine o_iconst (v := 1) dX2_readLevel_91 (by decide) ?_
        refine o_iadd dX2_readLevel_92 ?_
        refine h_puti dX2_readLevel_93 q2 fl_X2_28 pf_X2_5 (px_lt (by decide)) (c31 _) (Nat.le_of_ble_eq_true rfl) (s31_5 _ _) ?_
        refine o_aload_n dX2_readLevel_96 rfl ?_
        refine o_iload_n dX2_readLevel_97 rfl ?_
        refine o_iconst (v := 1) dX2_readLevel_98 (by decide) ?_
        refine o_iadd dX2_readLevel_99 ?_
        refine o_iload_n dX2_readLevel_100 rfl ?_
        refine h_cVi (as := [.int (y1 + 1), .int y2]) (S1 := []) (d' := (dR)) dX2_readLevel_101 mf_X2_readLevel ml_X2_121 mv_X2_readLevel q2 rfl (hp_at (px_lt (by decide)) (c31 _)) rfl (show dR + 1 ≤ dR + 3 by omega) rfl (Nat.le_of_ble_eq_true rfl) (fun b hb => hr _ _ _ b hb) (fun b5 hb5 => ?_)
        refine o_ifne (tgt := 109) dX2_readLevel_104 (by decide) (fun u6 => ?_) (fun u6 => ?_)
        · refine o_aload_n dX2_readLevel_109 rfl ?_
          refine o_iload dX2_readLevel_110 rfl ?_
          refine h_cVv (as := [.int b4]) (S1 := []) (d' := 0) dX2_readLevel_112 mf_X2_emit ml_X2_135 mv_X2_emit q2 rfl (hp_at (px_lt (by decide)) (c31 _)) rfl (show 0 + 1 ≤ dR + 3 by omega) rfl (Nat.le_of_ble_eq_true rfl) (fun b hb => k_X2_emit hb) (fun b7 hb7 => ?_)
          refine o_iinc (v := (y4 + 1)) (L' := [some (.ref 31), some (.int y1), some (.int y2), some (.int y3), some (.int (y4 + 1)), some (.int b4)]) dX2_readLevel_115 rfl rfl (Nat.le_of_ble_eq_true rfl) rfl rfl ?_
          refine o_goto (tgt := 63) dX2_readLevel_118 (by decide) ?_
          exact o_weak (L' := [some (.ref 31), some (.int y1), some (.int y2), some (.int y3), some (.int (y4 + 1)), none]) ⟨rfl, ⟨rfl, ⟨rfl, ⟨rfl, ⟨rfl, trivial⟩⟩⟩⟩⟩ (ih y1 y2 y3 (y4 + 1) b7)
        · refine o_iconst (v := 0) dX2_readLevel_107 (by decide) ?_
          exact o_iret (rt := .boolean) rfl rfl dX2_readLevel_108 rfl (Nat.zero_le _) (Nat.zero_le _)
def f_X2_readLevel_b_34 (T : Nat) (rf : Int32 → Int32 → px_S → Option (Int32 × px_S)) (y1 : Int32) (y2 : Int32) (st : px_S) : Option (Int32 × px_S) := ((rf (y1 + 1) y2 st).bind fun b8 => (if b8.1 = 0 then (some (0, b8.2)) else (if y1 = 2 then (f_X2_readLevel_b_63 T rf 1000 y1 y2 1 0 b8.2) else (f_X2_readLevel_b_63 T rf 1000 y1 y2 160 0 b8.2))))
set_option maxRecDepth 20000 in
theorem t_X2_readLevel_b_34 {dR : Nat} (T : Nat) (rf : Int32 → Int32 → px_S → Option (Int32 × px_S)) (hr : ∀ (x0 x1 : Int32) (st : px_S) (b : Int32 × px_S), rf x0 x1 st = some b → px_K dR 0 0 m_X2_readLevel [.ref 31, .int x0, .int x1] (HP T st) (px_gi T b).1 (px_gi T b).2) (y1 : Int32) (y2 : Int32) (st : px_S) : px_O (dR + 3, 0, 0, px_n T, m_X2_readLevel) (px_gi T) (f_X2_readLevel_b_34 T rf y1 y2 st) 34 [some (.ref 31), some (.int y1), some (.int y2), none, none, none] [] (HP T st) 0 0 := by
  rw [f_X2_readLevel_b_34]
  refine o_aload_n dX2_readLevel_34 rfl ?_
  refine o_iload_n dX2_readLevel_35 rfl ?_
  refine o_iconst (v := 1) dX2_readLevel_36 (by decide) ?_
  refine o_iadd dX2_readLevel_37 ?_
  refine o_iload_n dX2_readLevel_38 rfl ?_
  refine h_cVi (as := [.int (y1 + 1), .int y2]) (S1 := []) (d' := (dR)) dX2_readLevel_39 mf_X2_readLevel ml_X2_121 mv_X2_readLevel q2 rfl (hp_at (px_lt (by decide)) (c31 _)) rfl (show dR + 1 ≤ dR + 3 by omega) rfl (Nat.le_of_ble_eq_true rfl) (fun b hb => hr _ _ _ b hb) (fun b8 hb8 => ?_)
  refine o_ifne (tgt := 47) dX2_readLevel_42 (by decide) (fun u9 => ?_) (fun u9 => ?_)
  · refine o_iload_n dX2_readLevel_47 rfl ?_
    refine o_iconst (v := 2) dX2_readLevel_48 (by decide) ?_
    refine o_icmpne (tgt := 56) dX2_readLevel_49 (by decide) (fun u10 => ?_) (fun u10 => ?_)
    · refine o_sipush (v := 160) dX2_readLevel_56 (by decide) ?_
      refine o_istore_n (L' := [some (.ref 31), some (.int y1), some (.int y2), some (.int 160), none, none]) dX2_readLevel_59 (Nat.le_of_ble_eq_true rfl) rfl rfl ?_
      refine o_iconst (v := 0) dX2_readLevel_60 (by decide) ?_
      refine o_istore (L' := [some (.ref 31), some (.int y1), some (.int y2), some (.int 160), some (.int 0), none]) dX2_readLevel_61 (Nat.le_of_ble_eq_true rfl) rfl rfl ?_
      exact (t_X2_readLevel_b_63 T rf hr 1000 y1 y2 160 0 b8.2)
    · refine o_iconst (v := 1) dX2_readLevel_52 (by decide) ?_
      refine o_goto (tgt := 59) dX2_readLevel_53 (by decide) ?_
      refine o_istore_n (L' := [some (.ref 31), some (.int y1), some (.int y2), some (.int 1), none, none]) dX2_readLevel_59 (Nat.le_of_ble_eq_true rfl) rfl rfl ?_
      refine o_iconst (v := 0) dX2_readLevel_60 (by decide) ?_
      refine o_istore (L' := [some (.ref 31), some (.int y1), some (.int y2), some (.int 1), some (.int 0), none]) dX2_readLevel_61 (Nat.le_of_ble_eq_true rfl) rfl rfl ?_
      exact (t_X2_readLevel_b_63 T rf hr 1000 y1 y2 1 0 b8.2)
  · refine o_iconst (v := 0) dX2_readLevel_45 (by decide) ?_
    exact o_iret (rt := .boolean) rfl rfl dX2_readLevel_46 rfl (Nat.zero_le _) (Nat.zero_le _)
def f_X2_readLevel_b (T : Nat) (rf : Int32 → Int32 → px_S → Option (Int32 × px_S)) (x0 : Int32) (x1 : Int32) (st : px_S) : Option (Int32 × px_S) := (if x0 < 5 then (if x0 = 2 then ((f_X2_current T st).bind fun b13 => (if b13 = (-9) then ((f_X2_readOpened T rf (-9) x0 x1 st).bind fun b15 => (if b15.1 = 0 ∨ b15.1 = 1 then some (b15.1, b15.2) else none)) else (f_X2_readLevel_b_34 T rf x0 x1 st))) else (f_X2_readLevel_b_34 T rf x0 x1 st)) else ((f_X2_readOne T rf x1 st).bind fun b17 => (if b17.1 = 0 ∨ b17.1 = 1 then some (b17.1, b17.2) else none)))
set_option maxRecDepth 20000 in
theorem t_X2_readLevel_b {dR : Nat} (T : Nat) (rf : Int32 → Int32 → px_S → Option (Int32 × px_S)) (hr : ∀ (x0 x1 : Int32) (st : px_S) (b : Int32 × px_S), rf x0 x1 st = some b → px_K dR 0 0 m_X2_readLevel [.ref 31, .int x0, .int x1] (HP T st) (px_gi T b).1 (px_gi T b).2) (x0 : Int32) (x1 : Int32) (st : px_S) : px_O (dR + 3, 0, 0, px_n T, m_X2_readLevel) (px_gi T) (f_X2_readLevel_b T rf x0 x1 st) 0 [some (.ref 31), some (.int x0), some (.int x1), none, none, none] [] (HP T st) 0 0 := by
  rw [f_X2_readLevel_b]
  refine o_iload_n dX2_readLevel_0 rfl ?_
  refine o_iconst (v := 5) dX2_readLevel_1 (by decide) ?_
  refine o_icmplt (tgt := 11) dX2_readLevel_2 (by decide) (fun u11 => ?_) (fun u11 => ?_)
  · refine o_iload_n dX2_readLevel_11 rfl ?_
    refine o_iconst (v := 2) dX2_readLevel_12 (by decide) ?_
    refine o_icmpne (tgt := 34) dX2_readLevel_13 (by decide) (fun u12 => ?_) (fun u12 => ?_)
    · exact (t_X2_readLevel_b_34 T rf hr x0 x1 st)
    · refine o_aload_n dX2_readLevel_16 rfl ?_
      refine h_cV0 (as := []) (S1 := []) (d' := 0) dX2_readLevel_17 mf_X2_current ml_X2_44 mv_X2_current q2 rfl (hp_at (px_lt (by decide)) (c31 _)) rfl (show 0 + 1 ≤ dR + 3 by omega) rfl (Nat.le_of_ble_eq_true rfl) ⟨Nat.zero_le _, Nat.zero_le _⟩ (fun b hb => k_X2_current hb) (fun b13 hb13 => ?_)
      refine o_bipush (v := (-9)) dX2_readLevel_20 (by decide) ?_
      refine o_icmpne (tgt := 34) dX2_readLevel_22 (by decide) (fun u14 => ?_) (fun u14 => ?_)
      · exact (t_X2_readLevel_b_34 T rf hr x0 x1 st)
      · refine o_aload_n dX2_readLevel_25 rfl ?_
        refine o_bipush (v := (-9)) dX2_readLevel_26 (by decide) ?_
        refine o_iload_n dX2_readLevel_28 rfl ?_
        refine o_iload_n dX2_readLevel_29 rfl ?_
        refine h_cVi (as := [.int (-9), .int x0, .int x1]) (S1 := []) (d' := (dR + 1)) dX2_readLevel_30 mf_X2_readOpened ml_X2_128 mv_X2_readOpened q2 rfl (hp_at (px_lt (by decide)) (c31 _)) rfl (show dR + 1 + 1 ≤ dR + 3 by omega) rfl (Nat.le_of_ble_eq_true rfl) (fun b hb => k_X2_readOpened hr hb) (fun b15 hb15 => ?_)
        refine o_ite (fun u16 => ?_) (fun _ => o_none)
        exact o_iret (rt := .boolean) rfl (by rcases u16 with u16 | u16 <;> rw [u16] <;> rfl) dX2_readLevel_33 rfl (Nat.zero_le _) (Nat.zero_le _)
  · refine o_aload_n dX2_readLevel_5 rfl ?_
    refine o_iload_n dX2_readLevel_6 rfl ?_
    refine h_cVi (as := [.int x1]) (S1 := []) (d' := (dR + 2)) dX2_readLevel_7 mf_X2_readOne ml_X2_125 mv_X2_readOne q2 rfl (hp_at (px_lt (by decide)) (c31 _)) rfl (show dR + 2 + 1 ≤ dR + 3 by omega) rfl (Nat.le_of_ble_eq_true rfl) (fun b hb => k_X2_readOne hr hb) (fun b17 hb17 => ?_)
    refine o_ite (fun u18 => ?_) (fun _ => o_none)
    exact o_iret (rt := .boolean) rfl (by rcases u18 with u18 | u18 <;> rw [u18] <;> rfl) dX2_readLevel_10 rfl (Nat.zero_le _) (Nat.zero_le _)
theorem k_X2_readLevel_b {dR : Nat} {T : Nat} {st : px_S} {rf : Int32 → Int32 → px_S → Option (Int32 × px_S)} {x0 : Int32} {x1 : Int32} {b : Int32 × px_S} (hr : ∀ (x0 x1 : Int32) (st : px_S) (b : Int32 × px_S), rf x0 x1 st = some b → px_K dR 0 0 m_X2_readLevel [.ref 31, .int x0, .int x1] (HP T st) (px_gi T b).1 (px_gi T b).2) (hf : f_X2_readLevel_b T rf x0 x1 st = some b) : px_K (dR + 3) 0 0 m_X2_readLevel [.ref 31, .int x0, .int x1] (HP T st) ((px_gi T) b).1 ((px_gi T) b).2 := px_KofH hf mf_X2_readLevel (Nat.le_of_ble_eq_true rfl) rfl (t_X2_readLevel_b T rf hr x0 x1 st)
def f_X2_readLevel_n (T : Nat) : Nat → Int32 → Int32 → px_S → Option (Int32 × px_S)
  | 0, _, _, _ => none
  | n + 1, x0, x1, st => f_X2_readLevel_b T (f_X2_readLevel_n T n) x0 x1 st
theorem k_X2_readLevel_n {T : Nat} : ∀ (n : Nat) (x0 x1 : Int32) (st : px_S) (b : Int32 × px_S), f_X2_readLevel_n T n x0 x1 st = some b → px_K (3 * n) 0 0 m_X2_readLevel [.ref 31, .int x0, .int x1] (HP T st) (px_gi T b).1 (px_gi T b).2 := by
  intro n
  induction n with
  | zero => intro x0 x1 st b hf; cases hf
  | succ n ih => intro x0 x1 st b hf; exact k_X2_readLevel_b ih hf
def f_X2_readLevel (T : Nat) (x0 x1 : Int32) (st : px_S) : Option (Int32 × px_S) := f_X2_readLevel_n T 40 x0 x1 st
theorem k_X2_readLevel {T : Nat} {st : px_S} {x0 x1 : Int32} {b : Int32 × px_S} (hf : f_X2_readLevel T x0 x1 st = some b) : px_K 120 0 0 m_X2_readLevel [.ref 31, .int x0, .int x1] (HP T st) (px_gi T b).1 (px_gi T b).2 := k_X2_readLevel_n 40 x0 x1 st b hf
/-! ThreeOfThem$Reader.readPart(I)Z: S, depth 121 -/
def f_X2_readPart (T : Nat) (x0 : Int32) (st : px_S) : Option (Int32 × px_S) := ((f_X2_pass T x0 st).bind fun b1 => (if b1.1 = 0 then (some (0, b1.2)) else ((f_X2_readLevel T 0 0 b1.2).bind fun b3 => (if b3.1 = 0 then (some (0, b3.2)) else ((f_X2_pass T (-18) b3.2).bind fun b5 => (if b5.1 = 0 then (some (0, b5.2)) else (some (1, b5.2))))))))
set_option maxRecDepth 20000 in
theorem t_X2_readPart (T : Nat) (x0 : Int32) (st : px_S) : px_O (121, 0, 0, px_n T, m_X2_readPart) (px_gi T) (f_X2_readPart T x0 st) 0 [some (.ref 31), some (.int x0)] [] (HP T st) 0 0 := by
  rw [f_X2_readPart]
  refine o_aload_n dX2_readPart_0 rfl ?_
  refine o_iload_n dX2_readPart_1 rfl ?_
  refine h_cVi (as := [.int x0]) (S1 := []) (d' := 1) dX2_readPart_2 mf_X2_pass ml_X2_118 mv_X2_pass q2 rfl (hp_at (px_lt (by decide)) (c31 _)) rfl (Nat.le_of_ble_eq_true rfl) rfl (Nat.le_of_ble_eq_true rfl) (fun b hb => k_X2_pass hb) (fun b1 hb1 => ?_)
  refine o_ifeq (tgt := 30) dX2_readPart_5 (by decide) (fun u2 => ?_) (fun u2 => ?_)
  · refine o_iconst (v := 0) dX2_readPart_30 (by decide) ?_
    exact o_iret (rt := .boolean) rfl rfl dX2_readPart_31 rfl (Nat.zero_le _) (Nat.zero_le _)
  · refine o_aload_n dX2_readPart_8 rfl ?_
    refine o_iconst (v := 0) dX2_readPart_9 (by decide) ?_
    refine o_iconst (v := 0) dX2_readPart_10 (by decide) ?_
    refine h_cVi (as := [.int 0, .int 0]) (S1 := []) (d' := 120) dX2_readPart_11 mf_X2_readLevel ml_X2_121 mv_X2_readLevel q2 rfl (hp_at (px_lt (by decide)) (c31 _)) rfl (Nat.le_of_ble_eq_true rfl) rfl (Nat.le_of_ble_eq_true rfl) (fun b hb => k_X2_readLevel hb) (fun b3 hb3 => ?_)
    refine o_ifeq (tgt := 30) dX2_readPart_14 (by decide) (fun u4 => ?_) (fun u4 => ?_)
    · refine o_iconst (v := 0) dX2_readPart_30 (by decide) ?_
      exact o_iret (rt := .boolean) rfl rfl dX2_readPart_31 rfl (Nat.zero_le _) (Nat.zero_le _)
    · refine o_aload_n dX2_readPart_17 rfl ?_
      refine o_bipush (v := (-18)) dX2_readPart_18 (by decide) ?_
      refine h_cVi (as := [.int (-18)]) (S1 := []) (d' := 1) dX2_readPart_20 mf_X2_pass ml_X2_118 mv_X2_pass q2 rfl (hp_at (px_lt (by decide)) (c31 _)) rfl (Nat.le_of_ble_eq_true rfl) rfl (Nat.le_of_ble_eq_true rfl) (fun b hb => k_X2_pass hb) (fun b5 hb5 => ?_)
      refine o_ifeq (tgt := 30) dX2_readPart_23 (by decide) (fun u6 => ?_) (fun u6 => ?_)
      · refine o_iconst (v := 0) dX2_readPart_30 (by decide) ?_
        exact o_iret (rt := .boolean) rfl rfl dX2_readPart_31 rfl (Nat.zero_le _) (Nat.zero_le _)
      · refine o_iconst (v := 1) dX2_readPart_26 (by decide) ?_
        refine o_goto (tgt := 31) dX2_readPart_27 (by decide) ?_
        exact o_iret (rt := .boolean) rfl rfl dX2_readPart_31 rfl (Nat.zero_le _) (Nat.zero_le _)
theorem k_X2_readPart {T : Nat} {st : px_S} {x0 : Int32} {b : Int32 × px_S} (hf : f_X2_readPart T x0 st = some b) : px_K (121) 0 0 m_X2_readPart [.ref 31, .int x0] (HP T st) ((px_gi T) b).1 ((px_gi T) b).2 := px_KofH hf mf_X2_readPart (Nat.le_of_ble_eq_true rfl) rfl (t_X2_readPart T x0 st)
/-! ThreeOfThem$Sheet.begin(II)V: S, depth 1 -/
def f_X3_begin (T : Nat) (a : Nat) (x0 : Int32) (x1 : Int32) (st : px_S) : Option (px_S) := (px_let (up st a 1 x0) fun s1 => (px_let (up s1 a 2 x1) fun s2 => (px_let (upr s2 (a + 1) (fun _ => 0)) fun s3 => (some s3))))
set_option maxRecDepth 20000 in
theorem t_X3_begin (T : Nat) (a : Nat) (ha : px_isS a) (x0 : Int32) (x1 : Int32) (st : px_S) : px_O (1, 0, 0, px_n T, m_X3_begin) (px_gv T) (f_X3_begin T a x0 x1 st) 0 [some (.ref a), some (.int x0), some (.int x1)] [] (HP T st) 0 0 := by
  rw [f_X3_begin]
  refine o_aload_n dX3_begin_0 rfl ?_
  refine o_iload_n dX3_begin_1 rfl ?_
  refine h_puti dX3_begin_2 q3 fl_X3_15 pf_X3_1 (px_ltS 0 (by decide) ha) (cS ha _) (Nat.le_of_ble_eq_true rfl) (sS_1 ha _ _) ?_
  refine o_let (fun s1 => ?_)
  refine o_aload_n dX3_begin_5 rfl ?_
  refine o_iload_n dX3_begin_6 rfl ?_
  refine h_puti dX3_begin_7 q3 fl_X3_19 pf_X3_2 (px_ltS 0 (by decide) ha) (cS ha _) (Nat.le_of_ble_eq_true rfl) (sS_2 ha _ _) ?_
  refine o_let (fun s2 => ?_)
  refine o_aload_n dX3_begin_10 rfl ?_
  refine h_get (v := .ref (a + 1)) dX3_begin_11 q3 fl_X3_9 (by decide) (px_ltS 0 (by decide) ha) (cS ha _) rfl ?_
  refine o_iconst (v := 0) dX3_begin_14 (by decide) ?_
  refine h_fill (S1 := []) dX3_begin_15 mf_J7_fill_53178 ml_X3_22 ms_J7_fill_53178 (Nat.le_of_ble_eq_true rfl) rfl (Nat.le_of_ble_eq_true rfl) (px_ltS 1 (by decide) ha) (cS1 ha) (by decide) ?_
  refine o_let (fun s3 => ?_)
  exact o_vret rfl dX3_begin_18 rfl (Nat.zero_le _) (Nat.zero_le _)
theorem k_X3_begin {T : Nat} {st : px_S} {a : Nat} {x0 : Int32} {x1 : Int32} {b : px_S} (ha : px_isS a) (hf : f_X3_begin T a x0 x1 st = some b) : px_K (1) 0 0 m_X3_begin [.ref a, .int x0, .int x1] (HP T st) ((px_gv T) b).1 ((px_gv T) b).2 := px_KofH hf mf_X3_begin (Nat.le_of_ble_eq_true rfl) rfl (t_X3_begin T a ha x0 x1 st)
/-! ThreeOfThem$Sheet.isMissing()Z: R, depth 0 -/
def f_X3_isMissing (T : Nat) (st : px_S) (a : Nat) : Option (Int32) := (if (st a 1) = (-1) then (some 1) else (some 0))
set_option maxRecDepth 20000 in
theorem t_X3_isMissing (T : Nat) (st : px_S) (a : Nat) (ha : px_isS a) : px_O (0, 0, 0, px_n T, m_X3_isMissing) (px_g0 (HP T st)) (f_X3_isMissing T st a) 0 [some (.ref a)] [] (HP T st) 0 0 := by
  rw [f_X3_isMissing]
  refine o_aload_n dX3_isMissing_0 rfl ?_
  refine h_get (v := .int (st a 1)) dX3_isMissing_1 q3 fl_X3_15 (by decide) (px_ltS 0 (by decide) ha) (cS ha _) rfl ?_
  refine o_iconst (v := (-1)) dX3_isMissing_4 (by decide) ?_
  refine o_icmpne (tgt := 12) dX3_isMissing_5 (by decide) (fun u1 => ?_) (fun u1 => ?_)
  · refine o_iconst (v := 0) dX3_isMissing_12 (by decide) ?_
    exact o_iret (rt := .boolean) rfl rfl dX3_isMissing_13 rfl (Nat.zero_le _) (Nat.zero_le _)
  · refine o_iconst (v := 1) dX3_isMissing_8 (by decide) ?_
    refine o_goto (tgt := 13) dX3_isMissing_9 (by decide) ?_
    exact o_iret (rt := .boolean) rfl rfl dX3_isMissing_13 rfl (Nat.zero_le _) (Nat.zero_le _)
theorem k_X3_isMissing_o {T : Nat} {st : px_S} {a : Nat} {b : Int32} (ha : px_isS a) (hf : f_X3_isMissing T st a = some b) : px_K (0) 0 0 m_X3_isMissing [.ref a] (HP T st) (some (.int b)) (HP T st) := px_KofH (g := px_g0 (HP T st)) hf mf_X3_isMissing (Nat.le_of_ble_eq_true rfl) rfl (t_X3_isMissing T st a ha)
theorem k_X3_isMissing {T : Nat} {st : px_S} {a : Nat} {b : Int32} (ha : px_isS a) (hf : f_X3_isMissing T st a = some b) : px_K (0) 0 0 m_X3_isMissing [.ref a] (HP T st) (some (.int b)) (HP T st) := k_X3_isMissing_o ha hf
/-! ThreeOfThem$Sheet.reaches(II)Z: R, depth 0 -/
def f_X3_reaches (T : Nat) (st : px_S) (a : Nat) (x0 : Int32) (x1 : Int32) : Option (Int32) := (if x0 < 0 then (some 0) else (if x1 < 0 then (some 0) else (if (st a 2) < x1 then (some 0) else (if ((st a 2) - x1) < x0 then (some 0) else (some 1)))))
set_option maxRecDepth 20000 in
theorem t_X3_reaches (T : Nat) (st : px_S) (a : Nat) (ha : px_isS a) (x0 : Int32) (x1 : Int32) : px_O (0, 0, 0, px_n T, m_X3_reaches) (px_g0 (HP T st)) (f_X3_reaches T st a x0 x1) 0 [some (.ref a), some (.int x0), some (.int x1)] [] (HP T st) 0 0 := by
  rw [f_X3_reaches]
  refine o_iload_n dX3_reaches_0 rfl ?_
  refine o_iflt (tgt := 30) dX3_reaches_1 (by decide) (fun u1 => ?_) (fun u1 => ?_)
  · refine o_iconst (v := 0) dX3_reaches_30 (by decide) ?_
    exact o_iret (rt := .boolean) rfl rfl dX3_reaches_31 rfl (Nat.zero_le _) (Nat.zero_le _)
  · refine o_iload_n dX3_reaches_4 rfl ?_
    refine o_iflt (tgt := 30) dX3_reaches_5 (by decide) (fun u2 => ?_) (fun u2 => ?_)
    · refine o_iconst (v := 0) dX3_reaches_30 (by decide) ?_
      exact o_iret (rt := .boolean) rfl rfl dX3_reaches_31 rfl (Nat.zero_le _) (Nat.zero_le _)
    · refine o_iload_n dX3_reaches_8 rfl ?_
      refine o_aload_n dX3_reaches_9 rfl ?_
      refine h_get (v := .int (st a 2)) dX3_reaches_10 q3 fl_X3_19 (by decide) (px_ltS 0 (by decide) ha) (cS ha _) rfl ?_
      refine o_icmpgt (tgt := 30) dX3_reaches_13 (by decide) (fun u3 => ?_) (fun u3 => ?_)
      · refine o_iconst (v := 0) dX3_reaches_30 (by decide) ?_
        exact o_iret (rt := .boolean) rfl rfl dX3_reaches_31 rfl (Nat.zero_le _) (Nat.zero_le _)
      · refine o_iload_n dX3_reaches_16 rfl ?_
        refine o_aload_n dX3_reaches_17 rfl ?_
        refine h_get (v := .int (st a 2)) dX3_reaches_18 q3 fl_X3_19 (by decide) (px_ltS 0 (by decide) ha) (cS ha _) rfl ?_
        refine o_iload_n dX3_reaches_21 rfl ?_
        refine o_isub dX3_reaches_22 ?_
        refine o_icmpgt (tgt := 30) dX3_reaches_23 (by decide) (fun u4 => ?_) (fun u4 => ?_)
        · refine o_iconst (v := 0) dX3_reaches_30 (by decide) ?_
          exact o_iret (rt := .boolean) rfl rfl dX3_reaches_31 rfl (Nat.zero_le _) (Nat.zero_le _)
        · refine o_iconst (v := 1) dX3_reaches_26 (by decide) ?_
          refine o_goto (tgt := 31) dX3_reaches_27 (by decide) ?_
          exact o_iret (rt := .boolean) rfl rfl dX3_reaches_31 rfl (Nat.zero_le _) (Nat.zero_le _)
theorem k_X3_reaches_o {T : Nat} {st : px_S} {a : Nat} {x0 : Int32} {x1 : Int32} {b : Int32} (ha : px_isS a) (hf : f_X3_reaches T st a x0 x1 = some b) : px_K (0) 0 0 m_X3_reaches [.ref a, .int x0, .int x1] (HP T st) (some (.int b)) (HP T st) := px_KofH (g := px_g0 (HP T st)) hf mf_X3_reaches (Nat.le_of_ble_eq_true rfl) rfl (t_X3_reaches T st a ha x0 x1)
theorem k_X3_reaches {T : Nat} {st : px_S} {a : Nat} {x0 : Int32} {x1 : Int32} {b : Int32} (ha : px_isS a) (hf : f_X3_reaches T st a x0 x1 = some b) : px_K (0) 0 0 m_X3_reaches [.ref a, .int x0, .int x1] (HP T st) (some (.int b)) (HP T st) := k_X3_reaches_o ha hf
/-! ThreeOfThem$Sheet.write(II)V: S, depth 0 -/
def f_X3_write (T : Nat) (a : Nat) (x0 : Int32) (x1 : Int32) (st : px_S) : Option (px_S) := (if (st a 1) = 0 then (if px_in x0 40 then (px_let (up st (a + 1) x0.toNatClampNeg x1.toInt8.toInt32) fun s8 => (some s8)) else none) else (if (st a 1) = 1 then (if px_in x0 40 then (px_let (up st (a + 1) x0.toNatClampNeg x1.toInt16.toInt32) fun s6 => (some s6)) else none) else (if px_in x0 40 then (px_let (up st (a + 1) x0.toNatClampNeg x1) fun s4 => (some s4)) else none)))
set_option maxRecDepth 20000 in
theorem t_X3_write (T : Nat) (a : Nat) (ha : px_isS a) (x0 : Int32) (x1 : Int32) (st : px_S) : px_O (0, 0, 0, px_n T, m_X3_write) (px_gv T) (f_X3_write T a x0 x1 st) 0 [some (.ref a), some (.int x0), some (.int x1)] [] (HP T st) 0 0 := by
  rw [f_X3_write]
  refine o_aload_n dX3_write_0 rfl ?_
  refine h_get (v := .ref (a + 1)) dX3_write_1 q3 fl_X3_9 (by decide) (px_ltS 0 (by decide) ha) (cS ha _) rfl ?_
  refine o_iload_n dX3_write_4 rfl ?_
  refine o_aload_n dX3_write_5 rfl ?_
  refine h_get (v := .int (st a 1)) dX3_write_6 q3 fl_X3_15 (by decide) (px_ltS 0 (by decide) ha) (cS ha _) rfl ?_
  refine o_ifne (tgt := 17) dX3_write_9 (by decide) (fun u1 => ?_) (fun u1 => ?_)
  · refine o_aload_n dX3_write_17 rfl ?_
    refine h_get (v := .int (st a 1)) dX3_write_18 q3 fl_X3_15 (by decide) (px_ltS 0 (by decide) ha) (cS ha _) rfl ?_
    refine o_iconst (v := 1) dX3_write_21 (by decide) ?_
    refine o_icmpne (tgt := 30) dX3_write_22 (by decide) (fun u2 => ?_) (fun u2 => ?_)
    · refine o_iload_n dX3_write_30 rfl ?_
      refine h_iast (n := 40) dX3_write_31 (px_ltS 1 (by decide) ha) (cS1 ha) (fun u3 => ?_)
      refine o_let (fun s4 => ?_)
      exact o_vret rfl dX3_write_32 rfl (Nat.zero_le _) (Nat.zero_le _)
    · refine o_iload_n dX3_write_25 rfl ?_
      refine o_i2s dX3_write_26 ?_
      refine o_goto (tgt := 31) dX3_write_27 (by decide) ?_
      refine h_iast (n := 40) dX3_write_31 (px_ltS 1 (by decide) ha) (cS1 ha) (fun u5 => ?_)
      refine o_let (fun s6 => ?_)
      exact o_vret rfl dX3_write_32 rfl (Nat.zero_le _) (Nat.zero_le _)
  · refine o_iload_n dX3_write_12 rfl ?_
    refine o_i2b dX3_write_13 ?_
    refine o_goto (tgt := 31) dX3_write_14 (by decide) ?_
    refine h_iast (n := 40) dX3_write_31 (px_ltS 1 (by decide) ha) (cS1 ha) (fun u7 => ?_)
    refine o_let (fun s8 => ?_)
    exact o_vret rfl dX3_write_32 rfl (Nat.zero_le _) (Nat.zero_le _)
theorem k_X3_write {T : Nat} {st : px_S} {a : Nat} {x0 : Int32} {x1 : Int32} {b : px_S} (ha : px_isS a) (hf : f_X3_write T a x0 x1 st = some b) : px_K (0) 0 0 m_X3_write [.ref a, .int x0, .int x1] (HP T st) ((px_gv T) b).1 ((px_gv T) b).2 := px_KofH hf mf_X3_write (Nat.le_of_ble_eq_true rfl) rfl (t_X3_write T a ha x0 x1 st)
/-! ThreeOfThem.inmate(II)I: S, depth 2 -/
def f_X5_inmate (T : Nat) (x0 : Int32) (x1 : Int32) (st : px_S) : Option (Int32 × px_S) := (if x0 < 0 then (some ((-2), st)) else (if x0 < 6 then (if x1 < 0 then (some ((-2), st)) else (if 9 < x1 then (some ((-2), st)) else (if (st 1 4) < 7 then ((f_X0_welcome T 1 x0 x1 st).bind fun b6 => (some (b6.1, b6.2))) else (some ((-4), st))))) else (some ((-2), st))))
set_option maxRecDepth 20000 in
theorem t_X5_inmate (T : Nat) (x0 : Int32) (x1 : Int32) (st : px_S) : px_O (2, 0, 0, px_n T, m_X5_inmate) (px_gi T) (f_X5_inmate T x0 x1 st) 0 [some (.ref 0), some (.int x0), some (.int x1)] [] (HP T st) 0 0 := by
  rw [f_X5_inmate]
  refine o_iload_n dX5_inmate_0 rfl ?_
  refine o_iflt (tgt := 20) dX5_inmate_1 (by decide) (fun u1 => ?_) (fun u1 => ?_)
  · refine o_bipush (v := (-2)) dX5_inmate_20 (by decide) ?_
    exact o_iret (rt := .int) rfl rfl dX5_inmate_22 rfl (Nat.zero_le _) (Nat.zero_le _)
  · refine o_iload_n dX5_inmate_4 rfl ?_
    refine o_bipush (v := 6) dX5_inmate_5 (by decide) ?_
    refine o_icmpge (tgt := 20) dX5_inmate_7 (by decide) (fun u2 => ?_) (fun u2 => ?_)
    · refine o_bipush (v := (-2)) dX5_inmate_20 (by decide) ?_
      exact o_iret (rt := .int) rfl rfl dX5_inmate_22 rfl (Nat.zero_le _) (Nat.zero_le _)
    · refine o_iload_n dX5_inmate_10 rfl ?_
      refine o_iflt (tgt := 20) dX5_inmate_11 (by decide) (fun u3 => ?_) (fun u3 => ?_)
      · refine o_bipush (v := (-2)) dX5_inmate_20 (by decide) ?_
        exact o_iret (rt := .int) rfl rfl dX5_inmate_22 rfl (Nat.zero_le _) (Nat.zero_le _)
      · refine o_iload_n dX5_inmate_14 rfl ?_
        refine o_bipush (v := 9) dX5_inmate_15 (by decide) ?_
        refine o_icmple (tgt := 23) dX5_inmate_17 (by decide) (fun u4 => ?_) (fun u4 => ?_)
        · refine o_aload_n dX5_inmate_23 rfl ?_
          refine h_get (v := .ref 1) dX5_inmate_24 q5 fl_X5_12 (by decide) (px_lt (by decide)) (c0 _) rfl ?_
          refine h_get (v := .int (st 1 4)) dX5_inmate_27 q0 fl_X5_73 (by decide) (px_ltH 0 (by decide) (Or.inl rfl)) (cH (Or.inl rfl) _) rfl ?_
          refine o_bipush (v := 7) dX5_inmate_30 (by decide) ?_
          refine o_icmplt (tgt := 38) dX5_inmate_32 (by decide) (fun u5 => ?_) (fun u5 => ?_)
          · refine o_aload_n dX5_inmate_38 rfl ?_
            refine h_get (v := .ref 1) dX5_inmate_39 q5 fl_X5_12 (by decide) (px_lt (by decide)) (c0 _) rfl ?_
            refine o_iload_n dX5_inmate_42 rfl ?_
            refine o_iload_n dX5_inmate_43 rfl ?_
            refine h_cVi (as := [.int x0, .int x1]) (S1 := []) (d' := 1) dX5_inmate_44 mf_X0_welcome ml_X5_76 mv_X0_welcome q0 rfl (hp_at (px_ltH 0 (by decide) (Or.inl rfl)) (cH (Or.inl rfl) _)) rfl (Nat.le_of_ble_eq_true rfl) rfl (Nat.le_of_ble_eq_true rfl) (fun b hb => k_X0_welcome (Or.inl rfl) hb) (fun b6 hb6 => ?_)
            exact o_iret (rt := .int) rfl rfl dX5_inmate_47 rfl (Nat.zero_le _) (Nat.zero_le _)
          · refine o_bipush (v := (-4)) dX5_inmate_35 (by decide) ?_
            exact o_iret (rt := .int) rfl rfl dX5_inmate_37 rfl (Nat.zero_le _) (Nat.zero_le _)
        · refine o_bipush (v := (-2)) dX5_inmate_20 (by decide) ?_
          exact o_iret (rt := .int) rfl rfl dX5_inmate_22 rfl (Nat.zero_le _) (Nat.zero_le _)
theorem k_X5_inmate {T : Nat} {st : px_S} {x0 : Int32} {x1 : Int32} {b : Int32 × px_S} (hf : f_X5_inmate T x0 x1 st = some b) : px_K (2) 0 0 m_X5_inmate [.ref 0, .int x0, .int x1] (HP T st) ((px_gi T) b).1 ((px_gi T) b).2 := px_KofH hf mf_X5_inmate (Nat.le_of_ble_eq_true rfl) rfl (t_X5_inmate T x0 x1 st)
/-! ThreeOfThem.like(III)I: S, depth 2 -/
def f_X5_like (T : Nat) (x0 : Int32) (x1 : Int32) (x2 : Int32) (st : px_S) : Option (Int32 × px_S) := ((f_X0_knowsPair T st 1 x0 x1).bind fun b1 => (if b1 = 0 then (some ((-2), st)) else (if x2 < 0 then (some ((-2), st)) else (if 9 < x2 then (some ((-2), st)) else ((f_X0_changeLike T 1 x0 x1 x2 st).bind fun b5 => (some (b5.1, b5.2)))))))
set_option maxRecDepth 20000 in
theorem t_X5_like (T : Nat) (x0 : Int32) (x1 : Int32) (x2 : Int32) (st : px_S) : px_O (2, 0, 0, px_n T, m_X5_like) (px_gi T) (f_X5_like T x0 x1 x2 st) 0 [some (.ref 0), some (.int x0), some (.int x1), some (.int x2)] [] (HP T st) 0 0 := by
  rw [f_X5_like]
  refine o_aload_n dX5_like_0 rfl ?_
  refine h_get (v := .ref 1) dX5_like_1 q5 fl_X5_12 (by decide) (px_lt (by decide)) (c0 _) rfl ?_
  refine o_iload_n dX5_like_4 rfl ?_
  refine o_iload_n dX5_like_5 rfl ?_
  refine h_cV0 (as := [.int x0, .int x1]) (S1 := []) (d' := 1) dX5_like_6 mf_X0_knowsPair ml_X5_80 mv_X0_knowsPair q0 rfl (hp_at (px_ltH 0 (by decide) (Or.inl rfl)) (cH (Or.inl rfl) _)) rfl (Nat.le_of_ble_eq_true rfl) rfl (Nat.le_of_ble_eq_true rfl) ⟨Nat.zero_le _, Nat.zero_le _⟩ (fun b hb => k_X0_knowsPair (Or.inl rfl) hb) (fun b1 hb1 => ?_)
  refine o_ifeq (tgt := 22) dX5_like_9 (by decide) (fun u2 => ?_) (fun u2 => ?_)
  · refine o_bipush (v := (-2)) dX5_like_22 (by decide) ?_
    exact o_iret (rt := .int) rfl rfl dX5_like_24 rfl (Nat.zero_le _) (Nat.zero_le _)
  · refine o_iload_n dX5_like_12 rfl ?_
    refine o_iflt (tgt := 22) dX5_like_13 (by decide) (fun u3 => ?_) (fun u3 => ?_)
    · refine o_bipush (v := (-2)) dX5_like_22 (by decide) ?_
      exact o_iret (rt := .int) rfl rfl dX5_like_24 rfl (Nat.zero_le _) (Nat.zero_le _)
    · refine o_iload_n dX5_like_16 rfl ?_
      refine o_bipush (v := 9) dX5_like_17 (by decide) ?_
      refine o_icmple (tgt := 25) dX5_like_19 (by decide) (fun u4 => ?_) (fun u4 => ?_)
      · refine o_aload_n dX5_like_25 rfl ?_
        refine h_get (v := .ref 1) dX5_like_26 q5 fl_X5_12 (by decide) (px_lt (by decide)) (c0 _) rfl ?_
        refine o_iload_n dX5_like_29 rfl ?_
        refine o_iload_n dX5_like_30 rfl ?_
        refine o_iload_n dX5_like_31 rfl ?_
        refine h_cVi (as := [.int x0, .int x1, .int x2]) (S1 := []) (d' := 0) dX5_like_32 mf_X0_changeLike ml_X5_84 mv_X0_changeLike q0 rfl (hp_at (px_ltH 0 (by decide) (Or.inl rfl)) (cH (Or.inl rfl) _)) rfl (Nat.le_of_ble_eq_true rfl) rfl (Nat.le_of_ble_eq_true rfl) (fun b hb => k_X0_changeLike (Or.inl rfl) hb) (fun b5 hb5 => ?_)
        exact o_iret (rt := .int) rfl rfl dX5_like_35 rfl (Nat.zero_le _) (Nat.zero_le _)
      · refine o_bipush (v := (-2)) dX5_like_22 (by decide) ?_
        exact o_iret (rt := .int) rfl rfl dX5_like_24 rfl (Nat.zero_le _) (Nat.zero_le _)
theorem k_X5_like {T : Nat} {st : px_S} {x0 : Int32} {x1 : Int32} {x2 : Int32} {b : Int32 × px_S} (hf : f_X5_like T x0 x1 x2 st = some b) : px_K (2) 0 0 m_X5_like [.ref 0, .int x0, .int x1, .int x2] (HP T st) ((px_gi T) b).1 ((px_gi T) b).2 := px_KofH hf mf_X5_like (Nat.le_of_ble_eq_true rfl) rfl (t_X5_like T x0 x1 x2 st)
/-! ThreeOfThem.swear(III)I: S, depth 2 -/
def f_X5_swear_63 (T : Nat) (y4 : Int32) (z0 : Int32) (z1 : Int32) (z2 : Int32) (st : px_S) : Option (Int32 × px_S) := ((f_X0_bind T 1 z2 z1 z0 st).bind fun b1 => (some (y4, b1)))
set_option maxRecDepth 20000 in
theorem t_X5_swear_63 (T : Nat) (y4 : Int32) (z0 : Int32) (z1 : Int32) (z2 : Int32) (st : px_S) : px_O (2, 0, 0, px_n T, m_X5_swear) (px_gi T) (f_X5_swear_63 T y4 z0 z1 z2 st) 63 [none, none, none, none, some (.int y4)] [.int z0, .int z1, .int z2, .ref 1] (HP T st) 0 0 := by
  rw [f_X5_swear_63]
  refine h_cVv (as := [.int z2, .int z1, .int z0]) (S1 := []) (d' := 1) dX5_swear_63 mf_X0_bind ml_X5_95 mv_X0_bind q0 rfl (hp_at (px_ltH 0 (by decide) (Or.inl rfl)) (cH (Or.inl rfl) _)) rfl (Nat.le_of_ble_eq_true rfl) rfl (Nat.le_of_ble_eq_true rfl) (fun b hb => k_X0_bind (Or.inl rfl) hb) (fun b1 hb1 => ?_)
  refine o_iload dX5_swear_66 rfl ?_
  exact o_iret (rt := .int) rfl rfl dX5_swear_68 rfl (Nat.zero_le _) (Nat.zero_le _)
def f_X5_swear_45 (T : Nat) (y1 : Int32) (y2 : Int32) (y3 : Int32) (z0 : Int32) (st : px_S) : Option (Int32 × px_S) := (if y3 = 1 then (f_X5_swear_63 T z0 1 y2 y1 st) else (f_X5_swear_63 T z0 0 y2 y1 st))
set_option maxRecDepth 20000 in
theorem t_X5_swear_45 (T : Nat) (y1 : Int32) (y2 : Int32) (y3 : Int32) (z0 : Int32) (st : px_S) : px_O (2, 0, 0, px_n T, m_X5_swear) (px_gi T) (f_X5_swear_45 T y1 y2 y3 z0 st) 45 [some (.ref 0), some (.int y1), some (.int y2), some (.int y3), none] [.int z0] (HP T st) 0 0 := by
  rw [f_X5_swear_45]
  refine o_istore (L' := [some (.ref 0), some (.int y1), some (.int y2), some (.int y3), some (.int z0)]) dX5_swear_45 (Nat.le_of_ble_eq_true rfl) rfl rfl ?_
  refine o_aload_n dX5_swear_47 rfl ?_
  refine h_get (v := .ref 1) dX5_swear_48 q5 fl_X5_12 (by decide) (px_lt (by decide)) (c0 _) rfl ?_
  refine o_iload_n dX5_swear_51 rfl ?_
  refine o_iload_n dX5_swear_52 rfl ?_
  refine o_iload_n dX5_swear_53 rfl ?_
  refine o_iconst (v := 1) dX5_swear_54 (by decide) ?_
  refine o_icmpne (tgt := 62) dX5_swear_55 (by decide) (fun u2 => ?_) (fun u2 => ?_)
  · refine o_iconst (v := 0) dX5_swear_62 (by decide) ?_
    exact o_weak (L' := [none, none, none, none, some (.int z0)]) ⟨rfl, trivial⟩ (t_X5_swear_63 T z0 0 y2 y1 st)
  · refine o_iconst (v := 1) dX5_swear_58 (by decide) ?_
    refine o_goto (tgt := 63) dX5_swear_59 (by decide) ?_
    exact o_weak (L' := [none, none, none, none, some (.int z0)]) ⟨rfl, trivial⟩ (t_X5_swear_63 T z0 1 y2 y1 st)
def f_X5_swear (T : Nat) (x0 : Int32) (x1 : Int32) (x2 : Int32) (st : px_S) : Option (Int32 × px_S) := ((f_X0_knowsPair T st 1 x0 x1).bind fun b3 => (if b3 = 0 then (some ((-2), st)) else (if x2 < 0 then (some ((-2), st)) else (if 1 < x2 then (some ((-2), st)) else (if px_in x0 7 then (if (p_X5_has (st 5 x0.toNatClampNeg) x1) = 0 then (f_X5_swear_45 T x0 x1 x2 0 st) else (f_X5_swear_45 T x0 x1 x2 1 st)) else none)))))
set_option maxRecDepth 20000 in
theorem t_X5_swear (T : Nat) (x0 : Int32) (x1 : Int32) (x2 : Int32) (st : px_S) : px_O (2, 0, 0, px_n T, m_X5_swear) (px_gi T) (f_X5_swear T x0 x1 x2 st) 0 [some (.ref 0), some (.int x0), some (.int x1), some (.int x2), none] [] (HP T st) 0 0 := by
  rw [f_X5_swear]
  refine o_aload_n dX5_swear_0 rfl ?_
  refine h_get (v := .ref 1) dX5_swear_1 q5 fl_X5_12 (by decide) (px_lt (by decide)) (c0 _) rfl ?_
  refine o_iload_n dX5_swear_4 rfl ?_
  refine o_iload_n dX5_swear_5 rfl ?_
  refine h_cV0 (as := [.int x0, .int x1]) (S1 := []) (d' := 1) dX5_swear_6 mf_X0_knowsPair ml_X5_80 mv_X0_knowsPair q0 rfl (hp_at (px_ltH 0 (by decide) (Or.inl rfl)) (cH (Or.inl rfl) _)) rfl (Nat.le_of_ble_eq_true rfl) rfl (Nat.le_of_ble_eq_true rfl) ⟨Nat.zero_le _, Nat.zero_le _⟩ (fun b hb => k_X0_knowsPair (Or.inl rfl) hb) (fun b3 hb3 => ?_)
  refine o_ifeq (tgt := 21) dX5_swear_9 (by decide) (fun u4 => ?_) (fun u4 => ?_)
  · refine o_bipush (v := (-2)) dX5_swear_21 (by decide) ?_
    exact o_iret (rt := .int) rfl rfl dX5_swear_23 rfl (Nat.zero_le _) (Nat.zero_le _)
  · refine o_iload_n dX5_swear_12 rfl ?_
    refine o_iflt (tgt := 21) dX5_swear_13 (by decide) (fun u5 => ?_) (fun u5 => ?_)
    · refine o_bipush (v := (-2)) dX5_swear_21 (by decide) ?_
      exact o_iret (rt := .int) rfl rfl dX5_swear_23 rfl (Nat.zero_le _) (Nat.zero_le _)
    · refine o_iload_n dX5_swear_16 rfl ?_
      refine o_iconst (v := 1) dX5_swear_17 (by decide) ?_
      refine o_icmple (tgt := 24) dX5_swear_18 (by decide) (fun u6 => ?_) (fun u6 => ?_)
      · refine o_aload_n dX5_swear_24 rfl ?_
        refine h_get (v := .ref 1) dX5_swear_25 q5 fl_X5_12 (by decide) (px_lt (by decide)) (c0 _) rfl ?_
        refine h_get (v := .ref 5) dX5_swear_28 q0 fl_X5_88 (by decide) (px_ltH 0 (by decide) (Or.inl rfl)) (cH (Or.inl rfl) _) rfl ?_
        refine o_iload_n dX5_swear_31 rfl ?_
        refine h_iald (n := 7) dX5_swear_32 (px_lt (by decide)) (c5 _) (fun u7 => ?_)
        refine o_iload_n dX5_swear_33 rfl ?_
        refine h_cSP (as := [.int (st 5 x0.toNatClampNeg), .int x1]) (S1 := []) (d' := 0) dX5_swear_34 mf_X5_has ml_X5_92 ms_X5_has rfl (Nat.le_of_ble_eq_true rfl) rfl (Nat.le_of_ble_eq_true rfl) ⟨Nat.zero_le _, Nat.zero_le _⟩ (k_X5_has) ?_
        refine o_ifeq (tgt := 44) dX5_swear_37 (by decide) (fun u8 => ?_) (fun u8 => ?_)
        · refine o_iconst (v := 0) dX5_swear_44 (by decide) ?_
          exact (t_X5_swear_45 T x0 x1 x2 0 st)
        · refine o_iconst (v := 1) dX5_swear_40 (by decide) ?_
          refine o_goto (tgt := 45) dX5_swear_41 (by decide) ?_
          exact (t_X5_swear_45 T x0 x1 x2 1 st)
      · refine o_bipush (v := (-2)) dX5_swear_21 (by decide) ?_
        exact o_iret (rt := .int) rfl rfl dX5_swear_23 rfl (Nat.zero_le _) (Nat.zero_le _)
theorem k_X5_swear {T : Nat} {st : px_S} {x0 : Int32} {x1 : Int32} {x2 : Int32} {b : Int32 × px_S} (hf : f_X5_swear T x0 x1 x2 st = some b) : px_K (2) 0 0 m_X5_swear [.ref 0, .int x0, .int x1, .int x2] (HP T st) ((px_gi T) b).1 ((px_gi T) b).2 := px_KofH hf mf_X5_swear (Nat.le_of_ble_eq_true rfl) rfl (t_X5_swear T x0 x1 x2 st)
