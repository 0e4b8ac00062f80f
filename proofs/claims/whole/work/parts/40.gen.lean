/-! ThreeOfThem$House.become(LThreeOfThem$House;)V: S, depth 1 -/
def f_X0_become (T : Nat) (a : Nat) (a0 : Nat) (st : px_S) : Option (px_S) := (if (¬ (0 : Int32) < 0 ∧ ¬ (0 : Int32) < 0 ∧ ¬ (7 : Int32) < 0) ∧ (0 : Int32).toNatClampNeg + (7 : Int32).toNatClampNeg ≤ 7 ∧ (0 : Int32).toNatClampNeg + (7 : Int32).toNatClampNeg ≤ 7 then (px_let (upr st (a + 1) (va_cpy (st (a0 + 1)) (st (a + 1)) (0 : Int32).toNatClampNeg (0 : Int32).toNatClampNeg (7 : Int32).toNatClampNeg)) fun s1 => (if (¬ (0 : Int32) < 0 ∧ ¬ (0 : Int32) < 0 ∧ ¬ (7 : Int32) < 0) ∧ (0 : Int32).toNatClampNeg + (7 : Int32).toNatClampNeg ≤ 7 ∧ (0 : Int32).toNatClampNeg + (7 : Int32).toNatClampNeg ≤ 7 then (px_let (upr s1 (a + 2) (va_cpy (s1 (a0 + 2)) (s1 (a + 2)) (0 : Int32).toNatClampNeg (0 : Int32).toNatClampNeg (7 : Int32).toNatClampNeg)) fun s2 => (if (¬ (0 : Int32) < 0 ∧ ¬ (0 : Int32) < 0 ∧ ¬ (49 : Int32) < 0) ∧ (0 : Int32).toNatClampNeg + (49 : Int32).toNatClampNeg ≤ 49 ∧ (0 : Int32).toNatClampNeg + (49 : Int32).toNatClampNeg ≤ 49 then (px_let (upr s2 (a + 3) (va_cpy (s2 (a0 + 3)) (s2 (a + 3)) (0 : Int32).toNatClampNeg (0 : Int32).toNatClampNeg (49 : Int32).toNatClampNeg)) fun s3 => (if (¬ (0 : Int32) < 0 ∧ ¬ (0 : Int32) < 0 ∧ ¬ (7 : Int32) < 0) ∧ (0 : Int32).toNatClampNeg + (7 : Int32).toNatClampNeg ≤ 7 ∧ (0 : Int32).toNatClampNeg + (7 : Int32).toNatClampNeg ≤ 7 then (px_let (upr s3 (a + 4) (va_cpy (s3 (a0 + 4)) (s3 (a + 4)) (0 : Int32).toNatClampNeg (0 : Int32).toNatClampNeg (7 : Int32).toNatClampNeg)) fun s4 => (px_let (up s4 a 4 (s4 a0 4)) fun s5 => (px_let (up s5 a 5 (s5 a0 5)) fun s6 => (px_let (up s6 a 6 (s6 a0 6)) fun s7 => (px_let (up s7 a 7 (s7 a0 7)) fun s8 => (px_let (up s8 a 8 (s8 a0 8)) fun s9 => (px_let (up s9 a 9 (s9 a0 9)) fun s10 => (some s10)))))))) else none)) else none)) else none)) else none)
set_option maxRecDepth 20000 in
theorem t_X0_become (T : Nat) (a : Nat) (a0 : Nat) (ha : px_isH a) (ha0 : px_isH a0) (st : px_S) : px_O (1, 0, 0, px_n T, m_X0_become) (px_gv T) (f_X0_become T a a0 st) 0 [some (.ref a), some (.ref a0)] [] (HP T st) 0 0 := by
  rw [f_X0_become]
  refine o_aload_n dX0_become_0 rfl ?_
  refine h_get (v := .ref (a0 + 1)) dX0_become_1 q0 fl_X0_9 (by decide) (px_ltH 0 (by decide) ha0) (cH ha0 _) rfl ?_
  refine o_iconst (v := 0) dX0_become_4 (by decide) ?_
  refine o_aload_n dX0_become_5 rfl ?_
  refine h_get (v := .ref (a + 1)) dX0_become_6 q0 fl_X0_9 (by decide) (px_ltH 0 (by decide) ha) (cH ha _) rfl ?_
  refine o_iconst (v := 0) dX0_become_9 (by decide) ?_
  refine o_bipush (v := 7) dX0_become_10 (by decide) ?_
  refine h_copy (n0 := 7) (n1 := 7) dX0_become_12 ml_X0_37 w_cpy_n w_cpy_s w_sys_i (px_ltH 1 (by decide) ha0) (px_ltH 1 (by decide) ha) ((cH1 ha0) _) (cH1 ha) (Nat.le_of_ble_eq_true rfl) (Nat.le_of_ble_eq_true rfl) ?_
  refine o_let (fun s1 => ?_)
  refine o_aload_n dX0_become_15 rfl ?_
  refine h_get (v := .ref (a0 + 2)) dX0_become_16 q0 fl_X0_15 (by decide) (px_ltH 0 (by decide) ha0) (cH ha0 _) rfl ?_
  refine o_iconst (v := 0) dX0_become_19 (by decide) ?_
  refine o_aload_n dX0_become_20 rfl ?_
  refine h_get (v := .ref (a + 2)) dX0_become_21 q0 fl_X0_15 (by decide) (px_ltH 0 (by decide) ha) (cH ha _) rfl ?_
  refine o_iconst (v := 0) dX0_become_24 (by decide) ?_
  refine o_bipush (v := 7) dX0_become_25 (by decide) ?_
  refine h_copy (n0 := 7) (n1 := 7) dX0_become_27 ml_X0_37 w_cpy_n w_cpy_s w_sys_i (px_ltH 2 (by decide) ha0) (px_ltH 2 (by decide) ha) ((cH2 ha0) _) (cH2 ha) (Nat.le_of_ble_eq_true rfl) (Nat.le_of_ble_eq_true rfl) ?_
  refine o_let (fun s2 => ?_)
  refine o_aload_n dX0_become_30 rfl ?_
  refine h_get (v := .ref (a0 + 3)) dX0_become_31 q0 fl_X0_18 (by decide) (px_ltH 0 (by decide) ha0) (cH ha0 _) rfl ?_
  refine o_iconst (v := 0) dX0_become_34 (by decide) ?_
  refine o_aload_n dX0_become_35 rfl ?_
  refine h_get (v := .ref (a + 3)) dX0_become_36 q0 fl_X0_18 (by decide) (px_ltH 0 (by decide) ha) (cH ha _) rfl ?_
  refine o_iconst (v := 0) dX0_become_39 (by decide) ?_
  refine o_bipush (v := 49) dX0_become_40 (by decide) ?_
  refine h_copy (n0 := 49) (n1 := 49) dX0_become_42 ml_X0_37 w_cpy_n w_cpy_s w_sys_i (px_ltH 3 (by decide) ha0) (px_ltH 3 (by decide) ha) ((cH3 ha0) _) (cH3 ha) (Nat.le_of_ble_eq_true rfl) (Nat.le_of_ble_eq_true rfl) ?_
  refine o_let (fun s3 => ?_)
  refine o_aload_n dX0_become_45 rfl ?_
  refine h_get (v := .ref (a0 + 4)) dX0_become_46 q0 fl_X0_21 (by decide) (px_ltH 0 (by decide) ha0) (cH ha0 _) rfl ?_
  refine o_iconst (v := 0) dX0_become_49 (by decide) ?_
  refine o_aload_n dX0_become_50 rfl ?_
  refine h_get (v := .ref (a + 4)) dX0_become_51 q0 fl_X0_21 (by decide) (px_ltH 0 (by decide) ha) (cH ha _) rfl ?_
  refine o_iconst (v := 0) dX0_become_54 (by decide) ?_
  refine o_bipush (v := 7) dX0_become_55 (by decide) ?_
  refine h_copy (n0 := 7) (n1 := 7) dX0_become_57 ml_X0_37 w_cpy_n w_cpy_s w_sys_i (px_ltH 4 (by decide) ha0) (px_ltH 4 (by decide) ha) ((cH4 ha0) _) (cH4 ha) (Nat.le_of_ble_eq_true rfl) (Nat.le_of_ble_eq_true rfl) ?_
  refine o_let (fun s4 => ?_)
  refine o_aload_n dX0_become_60 rfl ?_
  refine o_aload_n dX0_become_61 rfl ?_
  refine h_get (v := .int (s4 a0 4)) dX0_become_62 q0 fl_X0_43 (by decide) (px_ltH 0 (by decide) ha0) (cH ha0 _) rfl ?_
  refine h_puti dX0_become_65 q0 fl_X0_43 pf_X0_4 (px_ltH 0 (by decide) ha) (cH ha _) (Nat.le_of_ble_eq_true rfl) (sH_4 ha _ _) ?_
  refine o_let (fun s5 => ?_)
  refine o_aload_n dX0_become_68 rfl ?_
  refine o_aload_n dX0_become_69 rfl ?_
  refine h_get (v := .int (s5 a0 5)) dX0_become_70 q0 fl_X0_46 (by decide) (px_ltH 0 (by decide) ha0) (cH ha0 _) rfl ?_
  refine h_puti dX0_become_73 q0 fl_X0_46 pf_X0_5 (px_ltH 0 (by decide) ha) (cH ha _) (Nat.le_of_ble_eq_true rfl) (sH_5 ha _ _) ?_
  refine o_let (fun s6 => ?_)
  refine o_aload_n dX0_become_76 rfl ?_
  refine o_aload_n dX0_become_77 rfl ?_
  refine h_get (v := .int (s6 a0 6)) dX0_become_78 q0 fl_X0_24 (by decide) (px_ltH 0 (by decide) ha0) (cH ha0 _) rfl ?_
  refine h_puti dX0_become_81 q0 fl_X0_24 pf_X0_6 (px_ltH 0 (by decide) ha) (cH ha _) (Nat.le_of_ble_eq_true rfl) (sH_6 ha _ _) ?_
  refine o_let (fun s7 => ?_)
  refine o_aload_n dX0_become_84 rfl ?_
  refine o_aload_n dX0_become_85 rfl ?_
  refine h_get (v := .int (s7 a0 7)) dX0_become_86 q0 fl_X0_28 (by decide) (px_ltH 0 (by decide) ha0) (cH ha0 _) rfl ?_
  refine h_puti dX0_become_89 q0 fl_X0_28 pf_X0_7 (px_ltH 0 (by decide) ha) (cH ha _) (Nat.le_of_ble_eq_true rfl) (sH_7 ha _ _) ?_
  refine o_let (fun s8 => ?_)
  refine o_aload_n dX0_become_92 rfl ?_
  refine o_aload_n dX0_become_93 rfl ?_
  refine h_get (v := .int (s8 a0 8)) dX0_become_94 q0 fl_X0_49 (by decide) (px_ltH 0 (by decide) ha0) (cH ha0 _) rfl ?_
  refine h_puti dX0_become_97 q0 fl_X0_49 pf_X0_8 (px_ltH 0 (by decide) ha) (cH ha _) (Nat.le_of_ble_eq_true rfl) (sH_8 ha _ _) ?_
  refine o_let (fun s9 => ?_)
  refine o_aload_n dX0_become_100 rfl ?_
  refine o_aload_n dX0_become_101 rfl ?_
  refine h_get (v := .int (s9 a0 9)) dX0_become_102 q0 fl_X0_52 (by decide) (px_ltH 0 (by decide) ha0) (cH ha0 _) rfl ?_
  refine h_puti dX0_become_105 q0 fl_X0_52 pf_X0_9 (px_ltH 0 (by decide) ha) (cH ha _) (Nat.le_of_ble_eq_true rfl) (sH_9 ha _ _) ?_
  refine o_let (fun s10 => ?_)
  exact o_vret rfl dX0_become_108 rfl (Nat.zero_le _) (Nat.zero_le _)
theorem k_X0_become {T : Nat} {st : px_S} {a : Nat} {a0 : Nat} {b : px_S} (ha : px_isH a) (ha0 : px_isH a0) (hf : f_X0_become T a a0 st = some b) : px_K (1) 0 0 m_X0_become [.ref a, .ref a0] (HP T st) ((px_gv T) b).1 ((px_gv T) b).2 := px_KofH hf mf_X0_become (Nat.le_of_ble_eq_true rfl) rfl (t_X0_become T a a0 ha ha0 st)
/-! ThreeOfThem$House.welcome(II)I: S, depth 1 -/
def f_X0_welcome (T : Nat) (a : Nat) (x0 : Int32) (x1 : Int32) (st : px_S) : Option (Int32 × px_S) := (px_let (up st a 4 ((st a 4) + 1)) fun s1 => (if px_in (st a 4) 7 then (px_let (up s1 (a + 1) (st a 4).toNatClampNeg x0) fun s3 => (if px_in (st a 4) 7 then (px_let (up s3 (a + 2) (st a 4).toNatClampNeg x1) fun s5 => (px_let (up s5 a 5 ((s5 a 5) ||| (p_X5_bit (st a 4)))) fun s6 => (some ((st a 4), s6)))) else none)) else none))
set_option maxRecDepth 20000 in
theorem t_X0_welcome (T : Nat) (a : Nat) (ha : px_isH a) (x0 : Int32) (x1 : Int32) (st : px_S) : px_O (1, 0, 0, px_n T, m_X0_welcome) (px_gi T) (f_X0_welcome T a x0 x1 st) 0 [some (.ref a), some (.int x0), some (.int x1), none] [] (HP T st) 0 0 := by
  rw [f_X0_welcome]
  refine o_aload_n dX0_welcome_0 rfl ?_
  refine h_get (v := .int (st a 4)) dX0_welcome_1 q0 fl_X0_43 (by decide) (px_ltH 0 (by decide) ha) (cH ha _) rfl ?_
  refine o_istore_n (L' := [some (.ref a), some (.int x0), some (.int x1), some (.int (st a 4))]) dX0_welcome_4 (Nat.le_of_ble_eq_true rfl) rfl rfl ?_
  refine o_aload_n dX0_welcome_5 rfl ?_
  refine o_dup dX0_welcome_6 rfl ?_
  refine h_get (v := .int (st a 4)) dX0_welcome_7 q0 fl_X0_43 (by decide) (px_ltH 0 (by decide) ha) (cH ha _) rfl ?_
  refine o_iconst (v := 1) dX0_welcome_10 (by decide) ?_
  refine o_iadd dX0_welcome_11 ?_
  refine h_puti dX0_welcome_12 q0 fl_X0_43 pf_X0_4 (px_ltH 0 (by decide) ha) (cH ha _) (Nat.le_of_ble_eq_true rfl) (sH_4 ha _ _) ?_
  refine o_let (fun s1 => ?_)
  refine o_aload_n dX0_welcome_15 rfl ?_
  refine h_get (v := .ref (a + 1)) dX0_welcome_16 q0 fl_X0_9 (by decide) (px_ltH 0 (by decide) ha) (cH ha _) rfl ?_
  refine o_iload_n dX0_welcome_19 rfl ?_
  refine o_iload_n dX0_welcome_20 rfl ?_
  refine h_iast (n := 7) dX0_welcome_21 (px_ltH 1 (by decide) ha) (cH1 ha) (fun u2 => ?_)
  refine o_let (fun s3 => ?_)
  refine o_aload_n dX0_welcome_22 rfl ?_
  refine h_get (v := .ref (a + 2)) dX0_welcome_23 q0 fl_X0_15 (by decide) (px_ltH 0 (by decide) ha) (cH ha _) rfl ?_
  refine o_iload_n dX0_welcome_26 rfl ?_
  refine o_iload_n dX0_welcome_27 rfl ?_
  refine h_iast (n := 7) dX0_welcome_28 (px_ltH 2 (by decide) ha) (cH2 ha) (fun u4 => ?_)
  refine o_let (fun s5 => ?_)
  refine o_aload_n dX0_welcome_29 rfl ?_
  refine o_dup dX0_welcome_30 rfl ?_
  refine h_get (v := .int (s5 a 5)) dX0_welcome_31 q0 fl_X0_46 (by decide) (px_ltH 0 (by decide) ha) (cH ha _) rfl ?_
  refine o_iload_n dX0_welcome_34 rfl ?_
  refine h_cNP (as := [.int (st a 4)]) (S1 := [.int (s5 a 5), .ref a]) (d' := 0) dX0_welcome_35 mf_X5_bit ml_X0_55 ms_X5_bit rfl (Nat.le_of_ble_eq_true rfl) rfl (Nat.le_of_ble_eq_true rfl) ⟨Nat.zero_le _, Nat.zero_le _⟩ (k_X5_bit) ?_
  refine o_ior dX0_welcome_38 ?_
  refine h_puti dX0_welcome_39 q0 fl_X0_46 pf_X0_5 (px_ltH 0 (by decide) ha) (cH ha _) (Nat.le_of_ble_eq_true rfl) (sH_5 ha _ _) ?_
  refine o_let (fun s6 => ?_)
  refine o_iload_n dX0_welcome_42 rfl ?_
  exact o_iret (rt := .int) rfl rfl dX0_welcome_43 rfl (Nat.zero_le _) (Nat.zero_le _)
theorem k_X0_welcome {T : Nat} {st : px_S} {a : Nat} {x0 : Int32} {x1 : Int32} {b : Int32 × px_S} (ha : px_isH a) (hf : f_X0_welcome T a x0 x1 st = some b) : px_K (1) 0 0 m_X0_welcome [.ref a, .int x0, .int x1] (HP T st) ((px_gi T) b).1 ((px_gi T) b).2 := px_KofH hf mf_X0_welcome (Nat.le_of_ble_eq_true rfl) rfl (t_X0_welcome T a ha x0 x1 st)
/-! ThreeOfThem$House.knows(I)Z: R, depth 0 -/
def f_X0_knows (T : Nat) (st : px_S) (a : Nat) (x0 : Int32) : Option (Int32) := (if x0 < 0 then (some 0) else (if x0 < (st a 4) then (some 1) else (some 0)))
set_option maxRecDepth 20000 in
theorem t_X0_knows (T : Nat) (st : px_S) (a : Nat) (ha : px_isH a) (x0 : Int32) : px_O (0, 0, 0, px_n T, m_X0_knows) (px_g0 (HP T st)) (f_X0_knows T st a x0) 0 [some (.ref a), some (.int x0)] [] (HP T st) 0 0 := by
  rw [f_X0_knows]
  refine o_iload_n dX0_knows_0 rfl ?_
  refine o_iflt (tgt := 16) dX0_knows_1 (by decide) (fun u1 => ?_) (fun u1 => ?_)
  · refine o_iconst (v := 0) dX0_knows_16 (by decide) ?_
    exact o_iret (rt := .boolean) rfl rfl dX0_knows_17 rfl (Nat.zero_le _) (Nat.zero_le _)
  · refine o_iload_n dX0_knows_4 rfl ?_
    refine o_aload_n dX0_knows_5 rfl ?_
    refine h_get (v := .int (st a 4)) dX0_knows_6 q0 fl_X0_43 (by decide) (px_ltH 0 (by decide) ha) (cH ha _) rfl ?_
    refine o_icmpge (tgt := 16) dX0_knows_9 (by decide) (fun u2 => ?_) (fun u2 => ?_)
    · refine o_iconst (v := 0) dX0_knows_16 (by decide) ?_
      exact o_iret (rt := .boolean) rfl rfl dX0_knows_17 rfl (Nat.zero_le _) (Nat.zero_le _)
    · refine o_iconst (v := 1) dX0_knows_12 (by decide) ?_
      refine o_goto (tgt := 17) dX0_knows_13 (by decide) ?_
      exact o_iret (rt := .boolean) rfl rfl dX0_knows_17 rfl (Nat.zero_le _) (Nat.zero_le _)
theorem k_X0_knows_o {T : Nat} {st : px_S} {a : Nat} {x0 : Int32} {b : Int32} (ha : px_isH a) (hf : f_X0_knows T st a x0 = some b) : px_K (0) 0 0 m_X0_knows [.ref a, .int x0] (HP T st) (some (.int b)) (HP T st) := px_KofH (g := px_g0 (HP T st)) hf mf_X0_knows (Nat.le_of_ble_eq_true rfl) rfl (t_X0_knows T st a ha x0)
theorem k_X0_knows {T : Nat} {st : px_S} {a : Nat} {x0 : Int32} {b : Int32} (ha : px_isH a) (hf : f_X0_knows T st a x0 = some b) : px_K (0) 0 0 m_X0_knows [.ref a, .int x0] (HP T st) (some (.int b)) (HP T st) := k_X0_knows_o ha hf
/-! ThreeOfThem$House.knowsPair(II)Z: R, depth 1 -/
def f_X0_knowsPair (T : Nat) (st : px_S) (a : Nat) (x0 : Int32) (x1 : Int32) : Option (Int32) := ((f_X0_knows T st a x0).bind fun b1 => (if b1 = 0 then (some 0) else ((f_X0_knows T st a x1).bind fun b3 => (if b3 = 0 then (some 0) else (if x0 = x1 then (some 0) else (some 1))))))
set_option maxRecDepth 20000 in
theorem t_X0_knowsPair (T : Nat) (st : px_S) (a : Nat) (ha : px_isH a) (x0 : Int32) (x1 : Int32) : px_O (1, 0, 0, px_n T, m_X0_knowsPair) (px_g0 (HP T st)) (f_X0_knowsPair T st a x0 x1) 0 [some (.ref a), some (.int x0), some (.int x1)] [] (HP T st) 0 0 := by
  rw [f_X0_knowsPair]
  refine o_aload_n dX0_knowsPair_0 rfl ?_
  refine o_iload_n dX0_knowsPair_1 rfl ?_
  refine h_cV0 (as := [.int x0]) (S1 := []) (d' := 0) dX0_knowsPair_2 mf_X0_knows ml_X0_59 mv_X0_knows q0 rfl (hp_at (px_ltH 0 (by decide) ha) (cH ha _)) rfl (Nat.le_of_ble_eq_true rfl) rfl (Nat.le_of_ble_eq_true rfl) ⟨Nat.zero_le _, Nat.zero_le _⟩ (fun b hb => k_X0_knows ha hb) (fun b1 hb1 => ?_)
  refine o_ifeq (tgt := 25) dX0_knowsPair_5 (by decide) (fun u2 => ?_) (fun u2 => ?_)
  · refine o_iconst (v := 0) dX0_knowsPair_25 (by decide) ?_
    exact o_iret (rt := .boolean) rfl rfl dX0_knowsPair_26 rfl (Nat.zero_le _) (Nat.zero_le _)
  · refine o_aload_n dX0_knowsPair_8 rfl ?_
    refine o_iload_n dX0_knowsPair_9 rfl ?_
    refine h_cV0 (as := [.int x1]) (S1 := []) (d' := 0) dX0_knowsPair_10 mf_X0_knows ml_X0_59 mv_X0_knows q0 rfl (hp_at (px_ltH 0 (by decide) ha) (cH ha _)) rfl (Nat.le_of_ble_eq_true rfl) rfl (Nat.le_of_ble_eq_true rfl) ⟨Nat.zero_le _, Nat.zero_le _⟩ (fun b hb => k_X0_knows ha hb) (fun b3 hb3 => ?_)
    refine o_ifeq (tgt := 25) dX0_knowsPair_13 (by decide) (fun u4 => ?_) (fun u4 => ?_)
    · refine o_iconst (v := 0) dX0_knowsPair_25 (by decide) ?_
      exact o_iret (rt := .boolean) rfl rfl dX0_knowsPair_26 rfl (Nat.zero_le _) (Nat.zero_le _)
    · refine o_iload_n dX0_knowsPair_16 rfl ?_
      refine o_iload_n dX0_knowsPair_17 rfl ?_
      refine o_icmpeq (tgt := 25) dX0_knowsPair_18 (by decide) (fun u5 => ?_) (fun u5 => ?_)
      · refine o_iconst (v := 0) dX0_knowsPair_25 (by decide) ?_
        exact o_iret (rt := .boolean) rfl rfl dX0_knowsPair_26 rfl (Nat.zero_le _) (Nat.zero_le _)
      · refine o_iconst (v := 1) dX0_knowsPair_21 (by decide) ?_
        refine o_goto (tgt := 26) dX0_knowsPair_22 (by decide) ?_
        exact o_iret (rt := .boolean) rfl rfl dX0_knowsPair_26 rfl (Nat.zero_le _) (Nat.zero_le _)
theorem k_X0_knowsPair_o {T : Nat} {st : px_S} {a : Nat} {x0 : Int32} {x1 : Int32} {b : Int32} (ha : px_isH a) (hf : f_X0_knowsPair T st a x0 x1 = some b) : px_K (1) 0 0 m_X0_knowsPair [.ref a, .int x0, .int x1] (HP T st) (some (.int b)) (HP T st) := px_KofH (g := px_g0 (HP T st)) hf mf_X0_knowsPair (Nat.le_of_ble_eq_true rfl) rfl (t_X0_knowsPair T st a ha x0 x1)
theorem k_X0_knowsPair {T : Nat} {st : px_S} {a : Nat} {x0 : Int32} {x1 : Int32} {b : Int32} (ha : px_isH a) (hf : f_X0_knowsPair T st a x0 x1 = some b) : px_K (1) 0 0 m_X0_knowsPair [.ref a, .int x0, .int x1] (HP T st) (some (.int b)) (HP T st) := k_X0_knowsPair_o ha hf
/-! ThreeOfThem$House.isIn(I)Z: R, depth 1 -/
def f_X0_isIn (T : Nat) (st : px_S) (a : Nat) (x0 : Int32) : Option (Int32) := ((f_X0_knows T st a x0).bind fun b1 => (if b1 = 0 then (some 0) else (if (p_X5_has (st a 5) x0) = 0 then (some 0) else (some 1))))
set_option maxRecDepth 20000 in
theorem t_X0_isIn (T : Nat) (st : px_S) (a : Nat) (ha : px_isH a) (x0 : Int32) : px_O (1, 0, 0, px_n T, m_X0_isIn) (px_g0 (HP T st)) (f_X0_isIn T st a x0) 0 [some (.ref a), some (.int x0)] [] (HP T st) 0 0 := by
  rw [f_X0_isIn]
  refine o_aload_n dX0_isIn_0 rfl ?_
  refine o_iload_n dX0_isIn_1 rfl ?_
  refine h_cV0 (as := [.int x0]) (S1 := []) (d' := 0) dX0_isIn_2 mf_X0_knows ml_X0_59 mv_X0_knows q0 rfl (hp_at (px_ltH 0 (by decide) ha) (cH ha _)) rfl (Nat.le_of_ble_eq_true rfl) rfl (Nat.le_of_ble_eq_true rfl) ⟨Nat.zero_le _, Nat.zero_le _⟩ (fun b hb => k_X0_knows ha hb) (fun b1 hb1 => ?_)
  refine o_ifeq (tgt := 23) dX0_isIn_5 (by decide) (fun u2 => ?_) (fun u2 => ?_)
  · refine o_iconst (v := 0) dX0_isIn_23 (by decide) ?_
    exact o_iret (rt := .boolean) rfl rfl dX0_isIn_24 rfl (Nat.zero_le _) (Nat.zero_le _)
  · refine o_aload_n dX0_isIn_8 rfl ?_
    refine h_get (v := .int (st a 5)) dX0_isIn_9 q0 fl_X0_46 (by decide) (px_ltH 0 (by decide) ha) (cH ha _) rfl ?_
    refine o_iload_n dX0_isIn_12 rfl ?_
    refine h_cNP (as := [.int (st a 5), .int x0]) (S1 := []) (d' := 0) dX0_isIn_13 mf_X5_has ml_X0_63 ms_X5_has rfl (Nat.le_of_ble_eq_true rfl) rfl (Nat.le_of_ble_eq_true rfl) ⟨Nat.zero_le _, Nat.zero_le _⟩ (k_X5_has) ?_
    refine o_ifeq (tgt := 23) dX0_isIn_16 (by decide) (fun u3 => ?_) (fun u3 => ?_)
    · refine o_iconst (v := 0) dX0_isIn_23 (by decide) ?_
      exact o_iret (rt := .boolean) rfl rfl dX0_isIn_24 rfl (Nat.zero_le _) (Nat.zero_le _)
    · refine o_iconst (v := 1) dX0_isIn_19 (by decide) ?_
      refine o_goto (tgt := 24) dX0_isIn_20 (by decide) ?_
      exact o_iret (rt := .boolean) rfl rfl dX0_isIn_24 rfl (Nat.zero_le _) (Nat.zero_le _)
theorem k_X0_isIn_o {T : Nat} {st : px_S} {a : Nat} {x0 : Int32} {b : Int32} (ha : px_isH a) (hf : f_X0_isIn T st a x0 = some b) : px_K (1) 0 0 m_X0_isIn [.ref a, .int x0] (HP T st) (some (.int b)) (HP T st) := px_KofH (g := px_g0 (HP T st)) hf mf_X0_isIn (Nat.le_of_ble_eq_true rfl) rfl (t_X0_isIn T st a ha x0)
theorem k_X0_isIn {T : Nat} {st : px_S} {a : Nat} {x0 : Int32} {b : Int32} (ha : px_isH a) (hf : f_X0_isIn T st a x0 = some b) : px_K (1) 0 0 m_X0_isIn [.ref a, .int x0] (HP T st) (some (.int b)) (HP T st) := k_X0_isIn_o ha hf
/-! ThreeOfThem$House.everyone()I: R, depth 1 -/
def f_X0_everyone (T : Nat) (st : px_S) (a : Nat) : Option (Int32) := (some ((p_X5_bit (st a 4)) - 1))
set_option maxRecDepth 20000 in
theorem t_X0_everyone (T : Nat) (st : px_S) (a : Nat) (ha : px_isH a) : px_O (1, 0, 0, px_n T, m_X0_everyone) (px_g0 (HP T st)) (f_X0_everyone T st a) 0 [some (.ref a)] [] (HP T st) 0 0 := by
  rw [f_X0_everyone]
  refine o_aload_n dX0_everyone_0 rfl ?_
  refine h_get (v := .int (st a 4)) dX0_everyone_1 q0 fl_X0_43 (by decide) (px_ltH 0 (by decide) ha) (cH ha _) rfl ?_
  refine h_cNP (as := [.int (st a 4)]) (S1 := []) (d' := 0) dX0_everyone_4 mf_X5_bit ml_X0_55 ms_X5_bit rfl (Nat.le_of_ble_eq_true rfl) rfl (Nat.le_of_ble_eq_true rfl) ⟨Nat.zero_le _, Nat.zero_le _⟩ (k_X5_bit) ?_
  refine o_iconst (v := 1) dX0_everyone_7 (by decide) ?_
  refine o_isub dX0_everyone_8 ?_
  exact o_iret (rt := .int) rfl rfl dX0_everyone_9 rfl (Nat.zero_le _) (Nat.zero_le _)
theorem k_X0_everyone_o {T : Nat} {st : px_S} {a : Nat} {b : Int32} (ha : px_isH a) (hf : f_X0_everyone T st a = some b) : px_K (1) 0 0 m_X0_everyone [.ref a] (HP T st) (some (.int b)) (HP T st) := px_KofH (g := px_g0 (HP T st)) hf mf_X0_everyone (Nat.le_of_ble_eq_true rfl) rfl (t_X0_everyone T st a ha)
theorem k_X0_everyone {T : Nat} {st : px_S} {a : Nat} {b : Int32} (ha : px_isH a) (hf : f_X0_everyone T st a = some b) : px_K (1) 0 0 m_X0_everyone [.ref a] (HP T st) (some (.int b)) (HP T st) := k_X0_everyone_o ha hf
/-! ThreeOfThem$House.changeLike(III)I: S, depth 0 -/
def f_X0_changeLike (T : Nat) (a : Nat) (x0 : Int32) (x1 : Int32) (x2 : Int32) (st : px_S) : Option (Int32 × px_S) := (if px_in ((x0 * 7) + x1) 49 then (if px_in ((x0 * 7) + x1) 49 then (px_let (up st (a + 3) ((x0 * 7) + x1).toNatClampNeg x2) fun s3 => (some ((st (a + 3) ((x0 * 7) + x1).toNatClampNeg), s3))) else none) else none)
set_option maxRecDepth 20000 in
theorem t_X0_changeLike (T : Nat) (a : Nat) (ha : px_isH a) (x0 : Int32) (x1 : Int32) (x2 : Int32) (st : px_S) : px_O (0, 0, 0, px_n T, m_X0_changeLike) (px_gi T) (f_X0_changeLike T a x0 x1 x2 st) 0 [some (.ref a), some (.int x0), some (.int x1), some (.int x2), none] [] (HP T st) 0 0 := by
  rw [f_X0_changeLike]
  refine o_aload_n dX0_changeLike_0 rfl ?_
  refine h_get (v := .ref (a + 3)) dX0_changeLike_1 q0 fl_X0_18 (by decide) (px_ltH 0 (by decide) ha) (cH ha _) rfl ?_
  refine o_iload_n dX0_changeLike_4 rfl ?_
  refine o_bipush (v := 7) dX0_changeLike_5 (by decide) ?_
  refine o_imul dX0_changeLike_7 ?_
  refine o_iload_n dX0_changeLike_8 rfl ?_
  refine o_iadd dX0_changeLike_9 ?_
  refine h_iald (n := 49) dX0_changeLike_10 (px_ltH 3 (by decide) ha) ((cH3 ha) _) (fun u1 => ?_)
  refine o_istore (L' := [some (.ref a), some (.int x0), some (.int x1), some (.int x2), some (.int (st (a + 3) ((x0 * 7) + x1).toNatClampNeg))]) dX0_changeLike_11 (Nat.le_of_ble_eq_true rfl) rfl rfl ?_
  refine o_aload_n dX0_changeLike_13 rfl ?_
  refine h_get (v := .ref (a + 3)) dX0_changeLike_14 q0 fl_X0_18 (by decide) (px_ltH 0 (by decide) ha) (cH ha _) rfl ?_
  refine o_iload_n dX0_changeLike_17 rfl ?_
  refine o_bipush (v := 7) dX0_changeLike_18 (by decide) ?_
  refine o_imul dX0_changeLike_20 ?_
  refine o_iload_n dX0_changeLike_21 rfl ?_
  refine o_iadd dX0_changeLike_22 ?_
  refine o_iload_n dX0_changeLike_23 rfl ?_
  refine h_iast (n := 49) dX0_changeLike_24 (px_ltH 3 (by decide) ha) (cH3 ha) (fun u2 => ?_)
  refine o_let (fun s3 => ?_)
  refine o_iload dX0_changeLike_25 rfl ?_
  exact o_iret (rt := .int) rfl rfl dX0_changeLike_27 rfl (Nat.zero_le _) (Nat.zero_le _)
theorem k_X0_changeLike {T : Nat} {st : px_S} {a : Nat} {x0 : Int32} {x1 : Int32} {x2 : Int32} {b : Int32 × px_S} (ha : px_isH a) (hf : f_X0_changeLike T a x0 x1 x2 st = some b) : px_K (0) 0 0 m_X0_changeLike [.ref a, .int x0, .int x1, .int x2] (HP T st) ((px_gi T) b).1 ((px_gi T) b).2 := px_KofH hf mf_X0_changeLike (Nat.le_of_ble_eq_true rfl) rfl (t_X0_changeLike T a ha x0 x1 x2 st)
/-! ThreeOfThem$House.bind(IIZ)V: S, depth 1 -/
def f_X0_bind_36 (T : Nat) (a : Nat) (y1 : Int32) (y2 : Int32) (y3 : Int32) (z0 : Int32) (z1 : Int32) (st : px_S) : Option (px_S) := (if px_in z1 7 then (px_let (up st (a + 4) z1.toNatClampNeg z0) fun s2 => (if y3 = 0 then (if px_in y2 7 then (if px_in y2 7 then (px_let (up s2 (a + 4) y2.toNatClampNeg ((s2 (a + 4) y2.toNatClampNeg) &&& ((p_X5_bit y1) ^^^ (-1)))) fun s6 => (some s6)) else none) else none) else (if px_in y2 7 then (if px_in y2 7 then (px_let (up s2 (a + 4) y2.toNatClampNeg ((s2 (a + 4) y2.toNatClampNeg) ||| (p_X5_bit y1))) fun s9 => (some s9)) else none) else none))) else none)
set_option maxRecDepth 20000 in
theorem t_X0_bind_36 (T : Nat) (a : Nat) (ha : px_isH a) (y1 : Int32) (y2 : Int32) (y3 : Int32) (z0 : Int32) (z1 : Int32) (st : px_S) : px_O (1, 0, 0, px_n T, m_X0_bind) (px_gv T) (f_X0_bind_36 T a y1 y2 y3 z0 z1 st) 36 [some (.ref a), some (.int y1), some (.int y2), some (.int y3)] [.int z0, .int z1, .ref (a + 4)] (HP T st) 0 0 := by
  rw [f_X0_bind_36]
  refine h_iast (n := 7) dX0_bind_36 (px_ltH 4 (by decide) ha) (cH4 ha) (fun u1 => ?_)
  refine o_let (fun s2 => ?_)
  refine o_aload_n dX0_bind_37 rfl ?_
  refine h_get (v := .ref (a + 4)) dX0_bind_38 q0 fl_X0_21 (by decide) (px_ltH 0 (by decide) ha) (cH ha _) rfl ?_
  refine o_iload_n dX0_bind_41 rfl ?_
  refine o_iload_n dX0_bind_42 rfl ?_
  refine o_ifeq (tgt := 60) dX0_bind_43 (by decide) (fun u3 => ?_) (fun u3 => ?_)
  · refine o_aload_n dX0_bind_60 rfl ?_
    refine h_get (v := .ref (a + 4)) dX0_bind_61 q0 fl_X0_21 (by decide) (px_ltH 0 (by decide) ha) (cH ha _) rfl ?_
    refine o_iload_n dX0_bind_64 rfl ?_
    refine h_iald (n := 7) dX0_bind_65 (px_ltH 4 (by decide) ha) ((cH4 ha) _) (fun u4 => ?_)
    refine o_iload_n dX0_bind_66 rfl ?_
    refine h_cNP (as := [.int y1]) (S1 := [.int (s2 (a + 4) y2.toNatClampNeg), .int y2, .ref (a + 4)]) (d' := 0) dX0_bind_67 mf_X5_bit ml_X0_55 ms_X5_bit rfl (Nat.le_of_ble_eq_true rfl) rfl (Nat.le_of_ble_eq_true rfl) ⟨Nat.zero_le _, Nat.zero_le _⟩ (k_X5_bit) ?_
    refine o_iconst (v := (-1)) dX0_bind_70 (by decide) ?_
    refine o_ixor dX0_bind_71 ?_
    refine o_iand dX0_bind_72 ?_
    refine h_iast (n := 7) dX0_bind_73 (px_ltH 4 (by decide) ha) (cH4 ha) (fun u5 => ?_)
    refine o_let (fun s6 => ?_)
    exact o_vret rfl dX0_bind_74 rfl (Nat.zero_le _) (Nat.zero_le _)
  · refine o_aload_n dX0_bind_46 rfl ?_
    refine h_get (v := .ref (a + 4)) dX0_bind_47 q0 fl_X0_21 (by decide) (px_ltH 0 (by decide) ha) (cH ha _) rfl ?_
    refine o_iload_n dX0_bind_50 rfl ?_
    refine h_iald (n := 7) dX0_bind_51 (px_ltH 4 (by decide) ha) ((cH4 ha) _) (fun u7 => ?_)
    refine o_iload_n dX0_bind_52 rfl ?_
    refine h_cNP (as := [.int y1]) (S1 := [.int (s2 (a + 4) y2.toNatClampNeg), .int y2, .ref (a + 4)]) (d' := 0) dX0_bind_53 mf_X5_bit ml_X0_55 ms_X5_bit rfl (Nat.le_of_ble_eq_true rfl) rfl (Nat.le_of_ble_eq_true rfl) ⟨Nat.zero_le _, Nat.zero_le _⟩ (k_X5_bit) ?_
    refine o_ior dX0_bind_56 ?_
    refine o_goto (tgt := 73) dX0_bind_57 (by decide) ?_
    refine h_iast (n := 7) dX0_bind_73 (px_ltH 4 (by decide) ha) (cH4 ha) (fun u8 => ?_)
    refine o_let (fun s9 => ?_)
    exact o_vret rfl dX0_bind_74 rfl (Nat.zero_le _) (Nat.zero_le _)
def f_X0_bind (T : Nat) (a : Nat) (x0 : Int32) (x1 : Int32) (x2 : Int32) (st : px_S) : Option (px_S) := (if x2 = 0 then (if px_in x0 7 then (f_X0_bind_36 T a x0 x1 x2 ((st (a + 4) x0.toNatClampNeg) &&& ((p_X5_bit x1) ^^^ (-1))) x0 st) else none) else (if px_in x0 7 then (f_X0_bind_36 T a x0 x1 x2 ((st (a + 4) x0.toNatClampNeg) ||| (p_X5_bit x1)) x0 st) else none))
set_option maxRecDepth 20000 in
theorem t_X0_bind (T : Nat) (a : Nat) (ha : px_isH a) (x0 : Int32) (x1 : Int32) (x2 : Int32) (st : px_S) : px_O (1, 0, 0, px_n T, m_X0_bind) (px_gv T) (f_X0_bind T a x0 x1 x2 st) 0 [some (.ref a), some (.int x0), some (.int x1), some (.int x2)] [] (HP T st) 0 0 := by
  rw [f_X0_bind]
  refine o_aload_n dX0_bind_0 rfl ?_
  refine h_get (v := .ref (a + 4)) dX0_bind_1 q0 fl_X0_21 (by decide) (px_ltH 0 (by decide) ha) (cH ha _) rfl ?_
  refine o_iload_n dX0_bind_4 rfl ?_
  refine o_iload_n dX0_bind_5 rfl ?_
  refine o_ifeq (tgt := 23) dX0_bind_6 (by decide) (fun u10 => ?_) (fun u10 => ?_)
  · refine o_aload_n dX0_bind_23 rfl ?_
    refine h_get (v := .ref (a + 4)) dX0_bind_24 q0 fl_X0_21 (by decide) (px_ltH 0 (by decide) ha) (cH ha _) rfl ?_
    refine o_iload_n dX0_bind_27 rfl ?_
    refine h_iald (n := 7) dX0_bind_28 (px_ltH 4 (by decide) ha) ((cH4 ha) _) (fun u11 => ?_)
    refine o_iload_n dX0_bind_29 rfl ?_
    refine h_cNP (as := [.int x1]) (S1 := [.int (st (a + 4) x0.toNatClampNeg), .int x0, .ref (a + 4)]) (d' := 0) dX0_bind_30 mf_X5_bit ml_X0_55 ms_X5_bit rfl (Nat.le_of_ble_eq_true rfl) rfl (Nat.le_of_ble_eq_true rfl) ⟨Nat.zero_le _, Nat.zero_le _⟩ (k_X5_bit) ?_
    refine o_iconst (v := (-1)) dX0_bind_33 (by decide) ?_
    refine o_ixor dX0_bind_34 ?_
    refine o_iand dX0_bind_35 ?_
    exact (t_X0_bind_36 T a ha x0 x1 x2 ((st (a + 4) x0.toNatClampNeg) &&& ((p_X5_bit x1) ^^^ (-1))) x0 st)
  · refine o_aload_n dX0_bind_9 rfl ?_
    refine h_get (v := .ref (a + 4)) dX0_bind_10 q0 fl_X0_21 (by decide) (px_ltH 0 (by decide) ha) (cH ha _) rfl ?_
    refine o_iload_n dX0_bind_13 rfl ?_
    refine h_iald (n := 7) dX0_bind_14 (px_ltH 4 (by decide) ha) ((cH4 ha) _) (fun u12 => ?_)
    refine o_iload_n dX0_bind_15 rfl ?_
    refine h_cNP (as := [.int x1]) (S1 := [.int (st (a + 4) x0.toNatClampNeg), .int x0, .ref (a + 4)]) (d' := 0) dX0_bind_16 mf_X5_bit ml_X0_55 ms_X5_bit rfl (Nat.le_of_ble_eq_true rfl) rfl (Nat.le_of_ble_eq_true rfl) ⟨Nat.zero_le _, Nat.zero_le _⟩ (k_X5_bit) ?_
    refine o_ior dX0_bind_19 ?_
    refine o_goto (tgt := 36) dX0_bind_20 (by decide) ?_
    exact (t_X0_bind_36 T a ha x0 x1 x2 ((st (a + 4) x0.toNatClampNeg) ||| (p_X5_bit x1)) x0 st)
theorem k_X0_bind {T : Nat} {st : px_S} {a : Nat} {x0 : Int32} {x1 : Int32} {x2 : Int32} {b : px_S} (ha : px_isH a) (hf : f_X0_bind T a x0 x1 x2 st = some b) : px_K (1) 0 0 m_X0_bind [.ref a, .int x0, .int x1, .int x2] (HP T st) ((px_gv T) b).1 ((px_gv T) b).2 := px_KofH hf mf_X0_bind (Nat.le_of_ble_eq_true rfl) rfl (t_X0_bind T a ha x0 x1 x2 st)
/-! ThreeOfThem$House.oathPairs()I: R, depth 1 -/
def f_X0_oathPairs_4 (T : Nat) (st : px_S) (a : Nat) : Nat → Int32 → Int32 → Option (Int32)
  | 0, _, _ => none
  | n + 1, y1, y2 => (if y2 < (st a 4) then (if px_in y2 7 then ((f_X0_oathPairs_4 T st a n) (y1 + (p_J6_bitCount_0f7a4 (st (a + 4) y2.toNatClampNeg))) (y2 + 1)) else none) else (some (y1 / 2)))
set_option maxRecDepth 20000 in
theorem t_X0_oathPairs_4 (T : Nat) (st : px_S) (a : Nat) (ha : px_isH a) : ∀ (n : Nat) (y1 : Int32) (y2 : Int32), px_O (1, 0, 0, px_n T, m_X0_oathPairs) (px_g0 (HP T st)) (f_X0_oathPairs_4 T st a n y1 y2) 4 [some (.ref a), some (.int y1), some (.int y2)] [] (HP T st) 0 0 := by
  intro n
  induction n with
  | zero => intro y1 y2; rw [f_X0_oathPairs_4]; exact o_none
  | succ n ih =>
    intro y1 y2
    rw [f_X0_oathPairs_4]
    refine o_iload_n dX0_oathPairs_4 rfl ?_
    refine o_aload_n dX0_oathPairs_5 rfl ?_
    refine h_get (v := .int (st a 4)) dX0_oathPairs_6 q0 fl_X0_43 (by decide) (px_ltH 0 (by decide) ha) (cH ha _) rfl ?_
    refine o_icmpge (tgt := 30) dX0_oathPairs_9 (by decide) (fun u1 => ?_) (fun u1 => ?_)
    · refine o_iload_n dX0_oathPairs_30 rfl ?_
      refine o_iconst (v := 2) dX0_oathPairs_31 (by decide) ?_
      refine o_idiv dX0_oathPairs_32 (by decide) ?_
      exact o_iret (rt := .int) rfl rfl dX0_oathPairs_33 rfl (Nat.zero_le _) (Nat.zero_le _)
    · refine o_iload_n dX0_oathPairs_12 rfl ?_
      refine o_aload_n dX0_oathPairs_13 rfl ?_
      refine h_get (v := .ref (a + 4)) dX0_oathPairs_14 q0 fl_X0_21 (by decide) (px_ltH 0 (by decide) ha) (cH ha _) rfl ?_
      refine o_iload_n dX0_oathPairs_17 rfl ?_
      refine h_iald (n := 7) dX0_oathPairs_18 (px_ltH 4 (by decide) ha) ((cH4 ha) _) (fun u2 => ?_)
      refine h_cSP (as := [.int (st (a + 4) y2.toNatClampNeg)]) (S1 := [.int y1]) (d' := 0) dX0_oathPairs_19 mf_J6_bitCount_0f7a4 ml_X0_67 ms_J6_bitCount_0f7a4 rfl (Nat.le_of_ble_eq_true rfl) rfl (Nat.le_of_ble_eq_true rfl) ⟨Nat.zero_le _, Nat.zero_le _⟩ (k_J6_bitCount_0f7a4) ?_
      refine o_iadd dX0_oathPairs_22 ?_
      refine o_istore_n (L' := [some (.ref a), some (.int (y1 + (p_J6_bitCount_0f7a4 (st (a + 4) y2.toNatClampNeg)))), some (.int y2)]) dX0_oathPairs_23 (Nat.le_of_ble_eq_true rfl) rfl rfl ?_
      refine o_iinc (v := (y2 + 1)) (L' := [some (.ref a), some (.int (y1 + (p_J6_bitCount_0f7a4 (st (a + 4) y2.toNatClampNeg)))), some (.int (y2 + 1))]) dX0_oathPairs_24 rfl rfl (Nat.le_of_ble_eq_true rfl) rfl rfl ?_
      refine o_goto (tgt := 4) dX0_oathPairs_27 (by decide) ?_
      exact (ih (y1 + (p_J6_bitCount_0f7a4 (st (a + 4) y2.toNatClampNeg))) (y2 + 1))
def f_X0_oathPairs (T : Nat) (st : px_S) (a : Nat) : Option (Int32) := (f_X0_oathPairs_4 T st a 1000 0 0)
set_option maxRecDepth 20000 in
theorem t_X0_oathPairs (T : Nat) (st : px_S) (a : Nat) (ha : px_isH a) : px_O (1, 0, 0, px_n T, m_X0_oathPairs) (px_g0 (HP T st)) (f_X0_oathPairs T st a) 0 [some (.ref a), none, none] [] (HP T st) 0 0 := by
  rw [f_X0_oathPairs]
  refine o_iconst (v := 0) dX0_oathPairs_0 (by decide) ?_
  refine o_istore_n (L' := [some (.ref a), some (.int 0), none]) dX0_oathPairs_1 (Nat.le_of_ble_eq_true rfl) rfl rfl ?_
  refine o_iconst (v := 0) dX0_oathPairs_2 (by decide) ?_
  refine o_istore_n (L' := [some (.ref a), some (.int 0), some (.int 0)]) dX0_oathPairs_3 (Nat.le_of_ble_eq_true rfl) rfl rfl ?_
  exact (t_X0_oathPairs_4 T st a ha 1000 0 0)
theorem k_X0_oathPairs_o {T : Nat} {st : px_S} {a : Nat} {b : Int32} (ha : px_isH a) (hf : f_X0_oathPairs T st a = some b) : px_K (1) 0 0 m_X0_oathPairs [.ref a] (HP T st) (some (.int b)) (HP T st) := px_KofH (g := px_g0 (HP T st)) hf mf_X0_oathPairs (Nat.le_of_ble_eq_true rfl) rfl (t_X0_oathPairs T st a ha)
theorem k_X0_oathPairs {T : Nat} {st : px_S} {a : Nat} {b : Int32} (ha : px_isH a) (hf : f_X0_oathPairs T st a = some b) : px_K (1) 0 0 m_X0_oathPairs [.ref a] (HP T st) (some (.int b)) (HP T st) := k_X0_oathPairs_o ha hf
/-! ThreeOfThem$House.leave(I)V: S, depth 1 -/
def f_X0_leave (T : Nat) (a : Nat) (x0 : Int32) (st : px_S) : Option (px_S) := (px_let (up st a 5 ((st a 5) &&& ((p_X5_bit x0) ^^^ (-1)))) fun s1 => (some s1))
set_option maxRecDepth 20000 in
theorem t_X0_leave (T : Nat) (a : Nat) (ha : px_isH a) (x0 : Int32) (st : px_S) : px_O (1, 0, 0, px_n T, m_X0_leave) (px_gv T) (f_X0_leave T a x0 st) 0 [some (.ref a), some (.int x0)] [] (HP T st) 0 0 := by
  rw [f_X0_leave]
  refine o_aload_n dX0_leave_0 rfl ?_
  refine o_dup dX0_leave_1 rfl ?_
  refine h_get (v := .int (st a 5)) dX0_leave_2 q0 fl_X0_46 (by decide) (px_ltH 0 (by decide) ha) (cH ha _) rfl ?_
  refine o_iload_n dX0_leave_5 rfl ?_
  refine h_cNP (as := [.int x0]) (S1 := [.int (st a 5), .ref a]) (d' := 0) dX0_leave_6 mf_X5_bit ml_X0_55 ms_X5_bit rfl (Nat.le_of_ble_eq_true rfl) rfl (Nat.le_of_ble_eq_true rfl) ⟨Nat.zero_le _, Nat.zero_le _⟩ (k_X5_bit) ?_
  refine o_iconst (v := (-1)) dX0_leave_9 (by decide) ?_
  refine o_ixor dX0_leave_10 ?_
  refine o_iand dX0_leave_11 ?_
  refine h_puti dX0_leave_12 q0 fl_X0_46 pf_X0_5 (px_ltH 0 (by decide) ha) (cH ha _) (Nat.le_of_ble_eq_true rfl) (sH_5 ha _ _) ?_
  refine o_let (fun s1 => ?_)
  exact o_vret rfl dX0_leave_15 rfl (Nat.zero_le _) (Nat.zero_le _)
theorem k_X0_leave {T : Nat} {st : px_S} {a : Nat} {x0 : Int32} {b : px_S} (ha : px_isH a) (hf : f_X0_leave T a x0 st = some b) : px_K (1) 0 0 m_X0_leave [.ref a, .int x0] (HP T st) ((px_gv T) b).1 ((px_gv T) b).2 := px_KofH hf mf_X0_leave (Nat.le_of_ble_eq_true rfl) rfl (t_X0_leave T a ha x0 st)
/-! ThreeOfThem$House.passDay()V: S, depth 1 -/
def f_X0_passDay (T : Nat) (a : Nat) (st : px_S) : Option (px_S) := (px_let (up st a 8 (if 999 < ((st a 8) + 1) then 999 else ((st a 8) + 1))) fun s1 => (some s1))
set_option maxRecDepth 20000 in
theorem t_X0_passDay (T : Nat) (a : Nat) (ha : px_isH a) (st : px_S) : px_O (1, 0, 0, px_n T, m_X0_passDay) (px_gv T) (f_X0_passDay T a st) 0 [some (.ref a)] [] (HP T st) 0 0 := by
  rw [f_X0_passDay]
  refine o_aload_n dX0_passDay_0 rfl ?_
  refine o_aload_n dX0_passDay_1 rfl ?_
  refine h_get (v := .int (st a 8)) dX0_passDay_2 q0 fl_X0_49 (by decide) (px_ltH 0 (by decide) ha) (cH ha _) rfl ?_
  refine o_iconst (v := 1) dX0_passDay_5 (by decide) ?_
  refine o_iadd dX0_passDay_6 ?_
  refine o_sipush (v := 999) dX0_passDay_7 (by decide) ?_
  refine o_min dX0_passDay_10 ml_X0_72 w_min_s w_math_i w_min_c (Nat.le_of_ble_eq_true rfl) (Nat.le_of_ble_eq_true rfl) ⟨Nat.zero_le _, Nat.zero_le _⟩ ?_
  refine h_puti dX0_passDay_13 q0 fl_X0_49 pf_X0_8 (px_ltH 0 (by decide) ha) (cH ha _) (Nat.le_of_ble_eq_true rfl) (sH_8 ha _ _) ?_
  refine o_let (fun s1 => ?_)
  exact o_vret rfl dX0_passDay_16 rfl (Nat.zero_le _) (Nat.zero_le _)
theorem k_X0_passDay {T : Nat} {st : px_S} {a : Nat} {b : px_S} (ha : px_isH a) (hf : f_X0_passDay T a st = some b) : px_K (1) 0 0 m_X0_passDay [.ref a] (HP T st) ((px_gv T) b).1 ((px_gv T) b).2 := px_KofH hf mf_X0_passDay (Nat.le_of_ble_eq_true rfl) rfl (t_X0_passDay T a ha st)
/-! ThreeOfThem$House.share(I)I: R, depth 0 -/
def f_X0_share (T : Nat) (st : px_S) (a : Nat) (x0 : Int32) : Option (Int32) := (if 0 < x0 then (if x0 = 0 then none else (some ((st a 6) / x0))) else (some 0))
set_option maxRecDepth 20000 in
theorem t_X0_share (T : Nat) (st : px_S) (a : Nat) (ha : px_isH a) (x0 : Int32) : px_O (0, 0, 0, px_n T, m_X0_share) (px_g0 (HP T st)) (f_X0_share T st a x0) 0 [some (.ref a), some (.int x0)] [] (HP T st) 0 0 := by
  rw [f_X0_share]
  refine o_iload_n dX0_share_0 rfl ?_
  refine o_ifle (tgt := 13) dX0_share_1 (by decide) (fun u1 => ?_) (fun u1 => ?_)
  · refine o_iconst (v := 0) dX0_share_13 (by decide) ?_
    exact o_iret (rt := .int) rfl rfl dX0_share_14 rfl (Nat.zero_le _) (Nat.zero_le _)
  · refine o_aload_n dX0_share_4 rfl ?_
    refine h_get (v := .int (st a 6)) dX0_share_5 q0 fl_X0_24 (by decide) (px_ltH 0 (by decide) ha) (cH ha _) rfl ?_
    refine o_iload_n dX0_share_8 rfl ?_
    refine o_ite (fun _ => o_none) (fun u2 => ?_)
    refine o_idiv dX0_share_9 u2 ?_
    refine o_goto (tgt := 14) dX0_share_10 (by decide) ?_
    exact o_iret (rt := .int) rfl rfl dX0_share_14 rfl (Nat.zero_le _) (Nat.zero_le _)
theorem k_X0_share_o {T : Nat} {st : px_S} {a : Nat} {x0 : Int32} {b : Int32} (ha : px_isH a) (hf : f_X0_share T st a x0 = some b) : px_K (0) 0 0 m_X0_share [.ref a, .int x0] (HP T st) (some (.int b)) (HP T st) := px_KofH (g := px_g0 (HP T st)) hf mf_X0_share (Nat.le_of_ble_eq_true rfl) rfl (t_X0_share T st a ha x0)
theorem k_X0_share {T : Nat} {st : px_S} {a : Nat} {x0 : Int32} {b : Int32} (ha : px_isH a) (hf : f_X0_share T st a x0 = some b) : px_K (0) 0 0 m_X0_share [.ref a, .int x0] (HP T st) (some (.int b)) (HP T st) := k_X0_share_o ha hf
/-! ThreeOfThem$House.bringsOf(II)I: R, depth 5 -/
def f_X0_bringsOf (T : Nat) (st : px_S) (a : Nat) (x0 : Int32) (x1 : Int32) : Option (Int32) := (if px_in x0 7 then (if px_in x0 7 then ((f_X5_bringsAs (st (a + 1) x0.toNatClampNeg) (st (a + 2) x0.toNatClampNeg) x1).bind fun b3 => (some b3)) else none) else none)
set_option maxRecDepth 20000 in
theorem t_X0_bringsOf (T : Nat) (st : px_S) (a : Nat) (ha : px_isH a) (x0 : Int32) (x1 : Int32) : px_O (5, 0, 0, px_n T, m_X0_bringsOf) (px_g0 (HP T st)) (f_X0_bringsOf T st a x0 x1) 0 [some (.ref a), some (.int x0), some (.int x1)] [] (HP T st) 0 0 := by
  rw [f_X0_bringsOf]
  refine o_aload_n dX0_bringsOf_0 rfl ?_
  refine h_get (v := .ref (a + 1)) dX0_bringsOf_1 q0 fl_X0_9 (by decide) (px_ltH 0 (by decide) ha) (cH ha _) rfl ?_
  refine o_iload_n dX0_bringsOf_4 rfl ?_
  refine h_iald (n := 7) dX0_bringsOf_5 (px_ltH 1 (by decide) ha) ((cH1 ha) _) (fun u1 => ?_)
  refine o_aload_n dX0_bringsOf_6 rfl ?_
  refine h_get (v := .ref (a + 2)) dX0_bringsOf_7 q0 fl_X0_15 (by decide) (px_ltH 0 (by decide) ha) (cH ha _) rfl ?_
  refine o_iload_n dX0_bringsOf_10 rfl ?_
  refine h_iald (n := 7) dX0_bringsOf_11 (px_ltH 2 (by decide) ha) ((cH2 ha) _) (fun u2 => ?_)
  refine o_iload_n dX0_bringsOf_12 rfl ?_
  refine h_cN0 (as := [.int (st (a + 1) x0.toNatClampNeg), .int (st (a + 2) x0.toNatClampNeg), .int x1]) (S1 := []) (d' := 4) dX0_bringsOf_13 mf_X5_bringsAs ml_X0_78 ms_X5_bringsAs rfl (Nat.le_of_ble_eq_true rfl) rfl (Nat.le_of_ble_eq_true rfl) ⟨Nat.zero_le _, Nat.zero_le _⟩ (fun b hb => k_X5_bringsAs hb) (fun b3 hb3 => ?_)
  exact o_iret (rt := .int) rfl rfl dX0_bringsOf_16 rfl (Nat.zero_le _) (Nat.zero_le _)
theorem k_X0_bringsOf_o {T : Nat} {st : px_S} {a : Nat} {x0 : Int32} {x1 : Int32} {b : Int32} (ha : px_isH a) (hf : f_X0_bringsOf T st a x0 x1 = some b) : px_K (5) 0 0 m_X0_bringsOf [.ref a, .int x0, .int x1] (HP T st) (some (.int b)) (HP T st) := px_KofH (g := px_g0 (HP T st)) hf mf_X0_bringsOf (Nat.le_of_ble_eq_true rfl) rfl (t_X0_bringsOf T st a ha x0 x1)
theorem k_X0_bringsOf {T : Nat} {st : px_S} {a : Nat} {x0 : Int32} {x1 : Int32} {b : Int32} (ha : px_isH a) (hf : f_X0_bringsOf T st a x0 x1 = some b) : px_K (5) 0 0 m_X0_bringsOf [.ref a, .int x0, .int x1] (HP T st) (some (.int b)) (HP T st) := k_X0_bringsOf_o ha hf
/-! ThreeOfThem$House.wantsOf(IIZ)I: R, depth 5 -/
def f_X0_wantsOf (T : Nat) (st : px_S) (a : Nat) (x0 : Int32) (x1 : Int32) (x2 : Int32) : Option (Int32) := (if px_in x0 7 then (if px_in x0 7 then ((f_X5_wantsAs (st (a + 1) x0.toNatClampNeg) (st (a + 2) x0.toNatClampNeg) x1 x2).bind fun b3 => (some (if 0 < b3 then b3 else 0))) else none) else none)
set_option maxRecDepth 20000 in
theorem t_X0_wantsOf (T : Nat) (st : px_S) (a : Nat) (ha : px_isH a) (x0 : Int32) (x1 : Int32) (x2 : Int32) : px_O (5, 0, 0, px_n T, m_X0_wantsOf) (px_g0 (HP T st)) (f_X0_wantsOf T st a x0 x1 x2) 0 [some (.ref a), some (.int x0), some (.int x1), some (.int x2)] [] (HP T st) 0 0 := by
  rw [f_X0_wantsOf]
  refine o_iconst (v := 0) dX0_wantsOf_0 (by decide) ?_
  refine o_aload_n dX0_wantsOf_1 rfl ?_
  refine h_get (v := .ref (a + 1)) dX0_wantsOf_2 q0 fl_X0_9 (by decide) (px_ltH 0 (by decide) ha) (cH ha _) rfl ?_
  refine o_iload_n dX0_wantsOf_5 rfl ?_
  refine h_iald (n := 7) dX0_wantsOf_6 (px_ltH 1 (by decide) ha) ((cH1 ha) _) (fun u1 => ?_)
  refine o_aload_n dX0_wantsOf_7 rfl ?_
  refine h_get (v := .ref (a + 2)) dX0_wantsOf_8 q0 fl_X0_15 (by decide) (px_ltH 0 (by decide) ha) (cH ha _) rfl ?_
  refine o_iload_n dX0_wantsOf_11 rfl ?_
  refine h_iald (n := 7) dX0_wantsOf_12 (px_ltH 2 (by decide) ha) ((cH2 ha) _) (fun u2 => ?_)
  refine o_iload_n dX0_wantsOf_13 rfl ?_
  refine o_iload_n dX0_wantsOf_14 rfl ?_
  refine h_cN0 (as := [.int (st (a + 1) x0.toNatClampNeg), .int (st (a + 2) x0.toNatClampNeg), .int x1, .int x2]) (S1 := [.int 0]) (d' := 4) dX0_wantsOf_15 mf_X5_wantsAs ml_X0_82 ms_X5_wantsAs rfl (Nat.le_of_ble_eq_true rfl) rfl (Nat.le_of_ble_eq_true rfl) ⟨Nat.zero_le _, Nat.zero_le _⟩ (fun b hb => k_X5_wantsAs hb) (fun b3 hb3 => ?_)
  refine o_max dX0_wantsOf_18 ml_X0_86 w_max_s w_math_i w_max_c (Nat.le_of_ble_eq_true rfl) (Nat.le_of_ble_eq_true rfl) ⟨Nat.zero_le _, Nat.zero_le _⟩ ?_
  exact o_iret (rt := .int) rfl rfl dX0_wantsOf_21 rfl (Nat.zero_le _) (Nat.zero_le _)
theorem k_X0_wantsOf_o {T : Nat} {st : px_S} {a : Nat} {x0 : Int32} {x1 : Int32} {x2 : Int32} {b : Int32} (ha : px_isH a) (hf : f_X0_wantsOf T st a x0 x1 x2 = some b) : px_K (5) 0 0 m_X0_wantsOf [.ref a, .int x0, .int x1, .int x2] (HP T st) (some (.int b)) (HP T st) := px_KofH (g := px_g0 (HP T st)) hf mf_X0_wantsOf (Nat.le_of_ble_eq_true rfl) rfl (t_X0_wantsOf T st a ha x0 x1 x2)
theorem k_X0_wantsOf {T : Nat} {st : px_S} {a : Nat} {x0 : Int32} {x1 : Int32} {x2 : Int32} {b : Int32} (ha : px_isH a) (hf : f_X0_wantsOf T st a x0 x1 x2 = some b) : px_K (5) 0 0 m_X0_wantsOf [.ref a, .int x0, .int x1, .int x2] (HP T st) (some (.int b)) (HP T st) := k_X0_wantsOf_o ha hf
/-! ThreeOfThem$Judge.factsOf(III)[I: S, depth 1 -/
def f_X1_factsOf (T : Nat) (x0 : Int32) (x1 : Int32) (x2 : Int32) (st : px_S) : Option (px_S) := (if px_in ((x0 * 7) + x1) 49 then ((f_X0_share T (up (up st 19 0 (st 15 ((x0 * 7) + x1).toNatClampNeg)) 19 1 x2) 12 x2).bind fun b2 => (some (up (up (up (up (up (up st 19 0 (st 15 ((x0 * 7) + x1).toNatClampNeg)) 19 1 x2) 19 2 b2) 19 3 (st 12 8)) 19 4 x0) 19 5 x1))) else none)
set_option maxRecDepth 20000 in
theorem t_X1_factsOf (T : Nat) (x0 : Int32) (x1 : Int32) (x2 : Int32) (st : px_S) : px_O (1, 0, 0, px_n T, m_X1_factsOf) (px_gr T 19) (f_X1_factsOf T x0 x1 x2 st) 0 [some (.ref 11), some (.int x0), some (.int x1), some (.int x2)] [] (HP T st) 0 0 := by
  rw [f_X1_factsOf]
  refine o_aload_n dX1_factsOf_0 rfl ?_
  refine h_get (v := .ref 19) dX1_factsOf_1 q1 fl_X1_27 (by decide) (px_lt (by decide)) (c11 _) rfl ?_
  refine o_iconst (v := 0) dX1_factsOf_4 (by decide) ?_
  refine o_aload_n dX1_factsOf_5 rfl ?_
  refine h_get (v := .ref 12) dX1_factsOf_6 q1 fl_X1_12 (by decide) (px_lt (by decide)) (c11 _) rfl ?_
  refine h_get (v := .ref 15) dX1_factsOf_9 q0 fl_X1_64 (by decide) (px_ltH 0 (by decide) (Or.inr (Or.inr rfl))) (cH (Or.inr (Or.inr rfl)) _) rfl ?_
  refine o_iload_n dX1_factsOf_12 rfl ?_
  refine o_bipush (v := 7) dX1_factsOf_13 (by decide) ?_
  refine o_imul dX1_factsOf_15 ?_
  refine o_iload_n dX1_factsOf_16 rfl ?_
  refine o_iadd dX1_factsOf_17 ?_
  refine h_iald (n := 49) dX1_factsOf_18 (px_lt (by decide)) (c15 _) (fun u1 => ?_)
  refine h_astc (j := 0) dX1_factsOf_19 (px_lt (by decide)) c19 (by decide) rfl ?_
  refine o_aload_n dX1_factsOf_20 rfl ?_
  refine h_get (v := .ref 19) dX1_factsOf_21 q1 fl_X1_27 (by decide) (px_lt (by decide)) (c11 _) rfl ?_
  refine o_iconst (v := 1) dX1_factsOf_24 (by decide) ?_
  refine o_iload_n dX1_factsOf_25 rfl ?_
  refine h_astc (j := 1) dX1_factsOf_26 (px_lt (by decide)) c19 (by decide) rfl ?_
  refine o_aload_n dX1_factsOf_27 rfl ?_
  refine h_get (v := .ref 19) dX1_factsOf_28 q1 fl_X1_27 (by decide) (px_lt (by decide)) (c11 _) rfl ?_
  refine o_iconst (v := 2) dX1_factsOf_31 (by decide) ?_
  refine o_aload_n dX1_factsOf_32 rfl ?_
  refine h_get (v := .ref 12) dX1_factsOf_33 q1 fl_X1_12 (by decide) (px_lt (by decide)) (c11 _) rfl ?_
  refine o_iload_n dX1_factsOf_36 rfl ?_
  refine h_cV0 (as := [.int x2]) (S1 := [.int 2, .ref 19]) (d' := 0) dX1_factsOf_37 mf_X0_share ml_X1_67 mv_X0_share q0 rfl (hp_at (px_ltH 0 (by decide) (Or.inr (Or.inr rfl))) (cH (Or.inr (Or.inr rfl)) _)) rfl (Nat.le_of_ble_eq_true rfl) rfl (Nat.le_of_ble_eq_true rfl) ⟨Nat.zero_le _, Nat.zero_le _⟩ (fun b hb => k_X0_share (Or.inr (Or.inr rfl)) hb) (fun b2 hb2 => ?_)
  refine h_astc (j := 2) dX1_factsOf_40 (px_lt (by decide)) c19 (by decide) rfl ?_
  refine o_aload_n dX1_factsOf_41 rfl ?_
  refine h_get (v := .ref 19) dX1_factsOf_42 q1 fl_X1_27 (by decide) (px_lt (by decide)) (c11 _) rfl ?_
  refine o_iconst (v := 3) dX1_factsOf_45 (by decide) ?_
  refine o_aload_n dX1_factsOf_46 rfl ?_
  refine h_get (v := .ref 12) dX1_factsOf_47 q1 fl_X1_12 (by decide) (px_lt (by decide)) (c11 _) rfl ?_
  refine h_get (v := .int (st 12 8)) dX1_factsOf_50 q0 fl_X1_71 (by decide) (px_ltH 0 (by decide) (Or.inr (Or.inr rfl))) (cH (Or.inr (Or.inr rfl)) _) rfl ?_
  refine h_astc (j := 3) dX1_factsOf_53 (px_lt (by decide)) c19 (by decide) rfl ?_
  refine o_aload_n dX1_factsOf_54 rfl ?_
  refine h_get (v := .ref 19) dX1_factsOf_55 q1 fl_X1_27 (by decide) (px_lt (by decide)) (c11 _) rfl ?_
  refine o_iconst (v := 4) dX1_factsOf_58 (by decide) ?_
  refine o_iload_n dX1_factsOf_59 rfl ?_
  refine h_astc (j := 4) dX1_factsOf_60 (px_lt (by decide)) c19 (by decide) rfl ?_
  refine o_aload_n dX1_factsOf_61 rfl ?_
  refine h_get (v := .ref 19) dX1_factsOf_62 q1 fl_X1_27 (by decide) (px_lt (by decide)) (c11 _) rfl ?_
  refine o_iconst (v := 5) dX1_factsOf_65 (by decide) ?_
  refine o_iload_n dX1_factsOf_66 rfl ?_
  refine h_astc (j := 5) dX1_factsOf_67 (px_lt (by decide)) c19 (by decide) rfl ?_
  refine o_aload_n dX1_factsOf_68 rfl ?_
  refine h_get (v := .ref 19) dX1_factsOf_69 q1 fl_X1_27 (by decide) (px_lt (by decide)) (c11 _) rfl ?_
  exact o_aret rfl (Or.inr ⟨_, rfl⟩) dX1_factsOf_72 rfl (Nat.zero_le _) (Nat.zero_le _)
theorem k_X1_factsOf {T : Nat} {st : px_S} {x0 : Int32} {x1 : Int32} {x2 : Int32} {b : px_S} (hf : f_X1_factsOf T x0 x1 x2 st = some b) : px_K (1) 0 0 m_X1_factsOf [.ref 11, .int x0, .int x1, .int x2] (HP T st) ((px_gr T 19) b).1 ((px_gr T 19) b).2 := px_KofH hf mf_X1_factsOf (Nat.le_of_ble_eq_true rfl) rfl (t_X1_factsOf T x0 x1 x2 st)
/-! ThreeOfThem$Text.value(I[I[I)I: S, depth 1 -/
def f_X4_value_185 (T : Nat) (a : Nat) (k69 : Int32 → Int32 → Int32 → px_S → Option (Int32 × px_S)) (y5 : Int32) (y6 : Int32) (y7 : Int32) (y8 : Int32) (st : px_S) : Option (Int32 × px_S) := (if y6 < 2 then (k69 y5 y6 (y7 + 1) st) else (if px_in ((y6 + (-1)) - 1) 160 then (if px_in (y6 + (-1)) 160 then (if px_in ((y6 + (-1)) - 1) 160 then (k69 y5 (y6 + (-1)) (y7 + 1) (up st 20 ((y6 + (-1)) - 1).toNatClampNeg (p_X4_join y8 (st 20 ((y6 + (-1)) - 1).toNatClampNeg) (st 20 (y6 + (-1)).toNatClampNeg)))) else none) else none) else none))
set_option maxRecDepth 20000 in
theorem t_X4_value_185 (T : Nat) (a : Nat) (ha : px_isT T a) (k69 : Int32 → Int32 → Int32 → px_S → Option (Int32 × px_S)) (hk69 : ∀ (y5 : Int32) (y6 : Int32) (y7 : Int32) (st : px_S), px_O (1, 0, 0, px_n T, m_X4_value) (px_gi T) (k69 y5 y6 y7 st) 69 [some (.ref a), none, some (.ref 19), some (.ref 20), none, some (.int y5), some (.int y6), some (.int y7), none, none] [] (HP T st) 0 0) (y5 : Int32) (y6 : Int32) (y7 : Int32) (y8 : Int32) (st : px_S) : px_O (1, 0, 0, px_n T, m_X4_value) (px_gi T) (f_X4_value_185 T a k69 y5 y6 y7 y8 st) 185 [some (.ref a), none, some (.ref 19), some (.ref 20), none, some (.int y5), some (.int y6), some (.int y7), some (.int y8), none] [] (HP T st) 0 0 := by
  rw [f_X4_value_185]
  refine o_iload dX4_value_185 rfl ?_
  refine o_iconst (v := 2) dX4_value_187 (by decide) ?_
  refine o_icmplt (tgt := 215) dX4_value_188 (by decide) (fun u1 => ?_) (fun u1 => ?_)
  · refine o_iinc (v := (y7 + 1)) (L' := [some (.ref a), none, some (.ref 19), some (.ref 20), none, some (.int y5), some (.int y6), some (.int (y7 + 1)), some (.int y8), none]) dX4_value_215 rfl rfl (Nat.le_of_ble_eq_true rfl) rfl rfl ?_
    refine o_goto (tgt := 69) dX4_value_218 (by decide) ?_
    exact o_weak (L' := [some (.ref a), none, some (.ref 19), some (.ref 20), none, some (.int y5), some (.int y6), some (.int (y7 + 1)), none, none]) ⟨rfl, ⟨rfl, ⟨rfl, ⟨rfl, ⟨rfl, ⟨rfl, trivial⟩⟩⟩⟩⟩⟩ (hk69 y5 y6 (y7 + 1) st)
  · refine o_iinc (v := (y6 + (-1))) (L' := [some (.ref a), none, some (.ref 19), some (.ref 20), none, some (.int y5), some (.int (y6 + (-1))), some (.int y7), some (.int y8), none]) dX4_value_191 rfl rfl (Nat.le_of_ble_eq_true rfl) rfl rfl ?_
    refine o_aload_n dX4_value_194 rfl ?_
    refine o_iload dX4_value_195 rfl ?_
    refine o_iconst (v := 1) dX4_value_197 (by decide) ?_
    refine o_isub dX4_value_198 ?_
    refine o_iload dX4_value_199 rfl ?_
    refine o_aload_n dX4_value_201 rfl ?_
    refine o_iload dX4_value_202 rfl ?_
    refine o_iconst (v := 1) dX4_value_204 (by decide) ?_
    refine o_isub dX4_value_205 ?_
    refine h_iald (n := 160) dX4_value_206 (px_lt (by decide)) (c20 _) (fun u2 => ?_)
    refine o_aload_n dX4_value_207 rfl ?_
    refine o_iload dX4_value_208 rfl ?_
    refine h_iald (n := 160) dX4_value_210 (px_lt (by decide)) (c20 _) (fun u3 => ?_)
    refine h_cSP (as := [.int y8, .int (st 20 ((y6 + (-1)) - 1).toNatClampNeg), .int (st 20 (y6 + (-1)).toNatClampNeg)]) (S1 := [.int ((y6 + (-1)) - 1), .ref 20]) (d' := 0) dX4_value_211 mf_X4_join ml_X4_22 ms_X4_join rfl (Nat.le_of_ble_eq_true rfl) rfl (Nat.le_of_ble_eq_true rfl) ⟨Nat.zero_le _, Nat.zero_le _⟩ (k_X4_join) ?_
    refine h_iast (n := 160) dX4_value_214 (px_lt (by decide)) c20 (fun u4 => ?_)
    refine o_iinc (v := (y7 + 1)) (L' := [some (.ref a), none, some (.ref 19), some (.ref 20), none, some (.int y5), some (.int (y6 + (-1))), some (.int (y7 + 1)), some (.int y8), none]) dX4_value_215 rfl rfl (Nat.le_of_ble_eq_true rfl) rfl rfl ?_
    refine o_goto (tgt := 69) dX4_value_218 (by decide) ?_
    exact o_weak (L' := [some (.ref a), none, some (.ref 19), some (.ref 20), none, some (.int y5), some (.int (y6 + (-1))), some (.int (y7 + 1)), none, none]) ⟨rfl, ⟨rfl, ⟨rfl, ⟨rfl, ⟨rfl, ⟨rfl, trivial⟩⟩⟩⟩⟩⟩ (hk69 y5 (y6 + (-1)) (y7 + 1) (up st 20 ((y6 + (-1)) - 1).toNatClampNeg (p_X4_join y8 (st 20 ((y6 + (-1)) - 1).toNatClampNeg) (st 20 (y6 + (-1)).toNatClampNeg))))
def f_X4_value_139 (T : Nat) (a : Nat) (k69 : Int32 → Int32 → Int32 → px_S → Option (Int32 × px_S)) (y5 : Int32) (y6 : Int32) (y7 : Int32) (y8 : Int32) (st : px_S) : Option (Int32 × px_S) := (if y6 < 1 then (f_X4_value_185 T a k69 y5 y6 y7 y8 st) else (if px_in (y6 - 1) 160 then (if y8 = (-15) then (if px_in (y6 - 1) 160 then (k69 y5 y6 (y7 + 1) (up st 20 (y6 - 1).toNatClampNeg (-(st 20 (y6 - 1).toNatClampNeg)))) else none) else (if (st 20 (y6 - 1).toNatClampNeg) = 0 then (if px_in (y6 - 1) 160 then (k69 y5 y6 (y7 + 1) (up st 20 (y6 - 1).toNatClampNeg 1)) else none) else (if px_in (y6 - 1) 160 then (k69 y5 y6 (y7 + 1) (up st 20 (y6 - 1).toNatClampNeg 0)) else none))) else none))
set_option maxRecDepth 20000 in
theorem t_X4_value_139 (T : Nat) (a : Nat) (ha : px_isT T a) (k69 : Int32 → Int32 → Int32 → px_S → Option (Int32 × px_S)) (hk69 : ∀ (y5 : Int32) (y6 : Int32) (y7 : Int32) (st : px_S), px_O (1, 0, 0, px_n T, m_X4_value) (px_gi T) (k69 y5 y6 y7 st) 69 [some (.ref a), none, some (.ref 19), some (.ref 20), none, some (.int y5), some (.int y6), some (.int y7), none, none] [] (HP T st) 0 0) (y5 : Int32) (y6 : Int32) (y7 : Int32) (y8 : Int32) (st : px_S) : px_O (1, 0, 0, px_n T, m_X4_value) (px_gi T) (f_X4_value_139 T a k69 y5 y6 y7 y8 st) 139 [some (.ref a), none, some (.ref 19), some (.ref 20), none, some (.int y5), some (.int y6), some (.int y7), some (.int y8), none] [] (HP T st) 0 0 := by
  rw [f_X4_value_139]
  refine o_iload dX4_value_139 rfl ?_
  refine o_iconst (v := 1) dX4_value_141 (by decide) ?_
  refine o_icmplt (tgt := 185) dX4_value_142 (by decide) (fun u5 => ?_) (fun u5 => ?_)
  · exact (t_X4_value_185 T a ha k69 hk69 y5 y6 y7 y8 st)
  · refine o_aload_n dX4_value_145 rfl ?_
    refine o_iload dX4_value_146 rfl ?_
    refine o_iconst (v := 1) dX4_value_148 (by decide) ?_
    refine o_isub dX4_value_149 ?_
    refine h_iald (n := 160) dX4_value_150 (px_lt (by decide)) (c20 _) (fun u6 => ?_)
    refine o_istore (L' := [some (.ref a), none, some (.ref 19), some (.ref 20), none, some (.int y5), some (.int y6), some (.int y7), some (.int y8), some (.int (st 20 (y6 - 1).toNatClampNeg))]) dX4_value_151 (Nat.le_of_ble_eq_true rfl) rfl rfl ?_
    refine o_aload_n dX4_value_153 rfl ?_
    refine o_iload dX4_value_154 rfl ?_
    refine o_iconst (v := 1) dX4_value_156 (by decide) ?_
    refine o_isub dX4_value_157 ?_
    refine o_iload dX4_value_158 rfl ?_
    refine o_bipush (v := (-15)) dX4_value_160 (by decide) ?_
    refine o_icmpne (tgt := 171) dX4_value_162 (by decide) (fun u7 => ?_) (fun u7 => ?_)
    · refine o_iload dX4_value_171 rfl ?_
      refine o_ifne (tgt := 180) dX4_value_173 (by decide) (fun u8 => ?_) (fun u8 => ?_)
      · refine o_iconst (v := 0) dX4_value_180 (by decide) ?_
        refine h_iast (n := 160) dX4_value_181 (px_lt (by decide)) c20 (fun u9 => ?_)
        refine o_goto (tgt := 215) dX4_value_182 (by decide) ?_
        refine o_iinc (v := (y7 + 1)) (L' := [some (.ref a), none, some (.ref 19), some (.ref 20), none, some (.int y5), some (.int y6), some (.int (y7 + 1)), some (.int y8), some (.int (st 20 (y6 - 1).toNatClampNeg))]) dX4_value_215 rfl rfl (Nat.le_of_ble_eq_true rfl) rfl rfl ?_
        refine o_goto (tgt := 69) dX4_value_218 (by decide) ?_
        exact o_weak (L' := [some (.ref a), none, some (.ref 19), some (.ref 20), none, some (.int y5), some (.int y6), some (.int (y7 + 1)), none, none]) ⟨rfl, ⟨rfl, ⟨rfl, ⟨rfl, ⟨rfl, ⟨rfl, trivial⟩⟩⟩⟩⟩⟩ (hk69 y5 y6 (y7 + 1) (up st 20 (y6 - 1).toNatClampNeg 0))
      · refine o_iconst (v := 1) dX4_value_176 (by decide) ?_
        refine o_goto (tgt := 181) dX4_value_177 (by decide) ?_
        refine h_iast (n := 160) dX4_value_181 (px_lt (by decide)) c20 (fun u10 => ?_)
        refine o_goto (tgt := 215) dX4_value_182 (by decide) ?_
        refine o_iinc (v := (y7 + 1)) (L' := [some (.ref a), none, some (.ref 19), some (.ref 20), none, some (.int y5), some (.int y6), some (.int (y7 + 1)), some (.int y8), some (.int (st 20 (y6 - 1).toNatClampNeg))]) dX4_value_215 rfl rfl (Nat.le_of_ble_eq_true rfl) rfl rfl ?_
        refine o_goto (tgt := 69) dX4_value_218 (by decide) ?_
        exact o_weak (L' := [some (.ref a), none, some (.ref 19), some (.ref 20), none, some (.int y5), some (.int y6), some (.int (y7 + 1)), none, none]) ⟨rfl, ⟨rfl, ⟨rfl, ⟨rfl, ⟨rfl, ⟨rfl, trivial⟩⟩⟩⟩⟩⟩ (hk69 y5 y6 (y7 + 1) (up st 20 (y6 - 1).toNatClampNeg 1))
    · refine o_iload dX4_value_165 rfl ?_
      refine o_ineg dX4_value_167 ?_
      refine o_goto (tgt := 181) dX4_value_168 (by decide) ?_
      refine h_iast (n := 160) dX4_value_181 (px_lt (by decide)) c20 (fun u11 => ?_)
      refine o_goto (tgt := 215) dX4_value_182 (by decide) ?_
      refine o_iinc (v := (y7 + 1)) (L' := [some (.ref a), none, some (.ref 19), some (.ref 20), none, some (.int y5), some (.int y6), some (.int (y7 + 1)), some (.int y8), some (.int (st 20 (y6 - 1).toNatClampNeg))]) dX4_value_215 rfl rfl (Nat.le_of_ble_eq_true rfl) rfl rfl ?_
      refine o_goto (tgt := 69) dX4_value_218 (by decide) ?_
      exact o_weak (L' := [some (.ref a), none, some (.ref 19), some (.ref 20), none, some (.int y5), some (.int y6), some (.int (y7 + 1)), none, none]) ⟨rfl, ⟨rfl, ⟨rfl, ⟨rfl, ⟨rfl, ⟨rfl, trivial⟩⟩⟩⟩⟩⟩ (hk69 y5 y6 (y7 + 1) (up st 20 (y6 - 1).toNatClampNeg (-(st 20 (y6 - 1).toNatClampNeg))))
def f_X4_value_125 (T : Nat) (a : Nat) (k69 : Int32 → Int32 → Int32 → px_S → Option (Int32 × px_S)) (y5 : Int32) (y6 : Int32) (y7 : Int32) (y8 : Int32) (st : px_S) : Option (Int32 × px_S) := (if y8 = (-9) then (f_X4_value_139 T a k69 y5 y6 y7 y8 st) else (if y8 = (-15) then (f_X4_value_139 T a k69 y5 y6 y7 y8 st) else (f_X4_value_185 T a k69 y5 y6 y7 y8 st)))
set_option maxRecDepth 20000 in
theorem t_X4_value_125 (T : Nat) (a : Nat) (ha : px_isT T a) (k69 : Int32 → Int32 → Int32 → px_S → Option (Int32 × px_S)) (hk69 : ∀ (y5 : Int32) (y6 : Int32) (y7 : Int32) (st : px_S), px_O (1, 0, 0, px_n T, m_X4_value) (px_gi T) (k69 y5 y6 y7 st) 69 [some (.ref a), none, some (.ref 19), some (.ref 20), none, some (.int y5), some (.int y6), some (.int y7), none, none] [] (HP T st) 0 0) (y5 : Int32) (y6 : Int32) (y7 : Int32) (y8 : Int32) (st : px_S) : px_O (1, 0, 0, px_n T, m_X4_value) (px_gi T) (f_X4_value_125 T a k69 y5 y6 y7 y8 st) 125 [some (.ref a), none, some (.ref 19), some (.ref 20), none, some (.int y5), some (.int y6), some (.int y7), some (.int y8), none] [] (HP T st) 0 0 := by
  rw [f_X4_value_125]
  refine o_iload dX4_value_125 rfl ?_
  refine o_bipush (v := (-9)) dX4_value_127 (by decide) ?_
  refine o_icmpeq (tgt := 139) dX4_value_129 (by decide) (fun u12 => ?_) (fun u12 => ?_)
  · exact (t_X4_value_139 T a ha k69 hk69 y5 y6 y7 y8 st)
  · refine o_iload dX4_value_132 rfl ?_
    refine o_bipush (v := (-15)) dX4_value_134 (by decide) ?_
    refine o_icmpne (tgt := 185) dX4_value_136 (by decide) (fun u13 => ?_) (fun u13 => ?_)
    · exact (t_X4_value_185 T a ha k69 hk69 y5 y6 y7 y8 st)
    · exact (t_X4_value_139 T a ha k69 hk69 y5 y6 y7 y8 st)
def f_X4_value_69 (T : Nat) (a : Nat) : Nat → Int32 → Int32 → Int32 → px_S → Option (Int32 × px_S)
  | 0, _, _, _, _ => none
  | n + 1, y5, y6, y7, st => (if y7 < y5 then (if px_in y7 (st (a + 1) 100000).toNatClampNeg then (if (st (a + 1) y7.toNatClampNeg) < (-6) then (f_X4_value_125 T a (f_X4_value_69 T a n) y5 y6 y7 (st (a + 1) y7.toNatClampNeg) st) else (if y6 < 160 then (if (st (a + 1) y7.toNatClampNeg) < 0 then (if px_in (((-1) : Int32) - (st (a + 1) y7.toNatClampNeg)) 6 then (if px_in y6 160 then ((f_X4_value_69 T a n) y5 (y6 + 1) (y7 + 1) (up st 20 y6.toNatClampNeg (st 19 (((-1) : Int32) - (st (a + 1) y7.toNatClampNeg)).toNatClampNeg))) else none) else none) else (if px_in y6 160 then ((f_X4_value_69 T a n) y5 (y6 + 1) (y7 + 1) (up st 20 y6.toNatClampNeg (st (a + 1) y7.toNatClampNeg))) else none)) else (f_X4_value_125 T a (f_X4_value_69 T a n) y5 y6 y7 (st (a + 1) y7.toNatClampNeg) st))) else none) else (if y6 < 1 then (some (0, st)) else (some ((st 20 0), st))))
set_option maxRecDepth 20000 in
theorem t_X4_value_69 (T : Nat) (a : Nat) (ha : px_isT T a) : ∀ (n : Nat) (y5 : Int32) (y6 : Int32) (y7 : Int32) (st : px_S), px_O (1, 0, 0, px_n T, m_X4_value) (px_gi T) (f_X4_value_69 T a n y5 y6 y7 st) 69 [some (.ref a), none, some (.ref 19), some (.ref 20), none, some (.int y5), some (.int y6), some (.int y7), none, none] [] (HP T st) 0 0 := by
  intro n
  induction n with
  | zero => intro y5 y6 y7 st; rw [f_X4_value_69]; exact o_none
  | succ n ih =>
    intro y5 y6 y7 st
    rw [f_X4_value_69]
    refine o_iload dX4_value_69 rfl ?_
    refine o_iload dX4_value_71 rfl ?_
    refine o_icmpge (tgt := 221) dX4_value_73 (by decide) (fun u14 => ?_) (fun u14 => ?_)
    · refine o_iload dX4_value_221 rfl ?_
      refine o_iconst (v := 1) dX4_value_223 (by decide) ?_
      refine o_icmplt (tgt := 233) dX4_value_224 (by decide) (fun u15 => ?_) (fun u15 => ?_)
      · refine o_iconst (v := 0) dX4_value_233 (by decide) ?_
        exact o_iret (rt := .int) rfl rfl dX4_value_234 rfl (Nat.zero_le _) (Nat.zero_le _)
      · refine o_aload_n dX4_value_227 rfl ?_
        refine o_iconst (v := 0) dX4_value_228 (by decide) ?_
        refine h_aldc (j := 0) dX4_value_229 (px_lt (by decide)) (c20 _) (by decide) rfl ?_
        refine o_goto (tgt := 234) dX4_value_230 (by decide) ?_
        exact o_iret (rt := .int) rfl rfl dX4_value_234 rfl (Nat.zero_le _) (Nat.zero_le _)
    · refine o_aload_n dX4_value_76 rfl ?_
      refine h_get (v := .ref (a + 1)) dX4_value_77 q4 fl_X4_9 (by decide) (px_ltT 0 (by decide) ha) (cT ha _) rfl ?_
      refine o_iload dX4_value_80 rfl ?_
      refine h_iald (n := (st (a + 1) 100000).toNatClampNeg) dX4_value_82 (px_ltT 1 (by decide) ha) ((cT1 ha) _) (fun u16 => ?_)
      refine o_istore (L' := [some (.ref a), none, some (.ref 19), some (.ref 20), none, some (.int y5), some (.int y6), some (.int y7), some (.int (st (a + 1) y7.toNatClampNeg)), none]) dX4_value_83 (Nat.le_of_ble_eq_true rfl) rfl rfl ?_
      refine o_iload dX4_value_85 rfl ?_
      refine o_bipush (v := (-6)) dX4_value_87 (by decide) ?_
      refine o_icmplt (tgt := 125) dX4_value_89 (by decide) (fun u17 => ?_) (fun u17 => ?_)
      · exact (t_X4_value_125 T a ha (f_X4_value_69 T a n) ih y5 y6 y7 (st (a + 1) y7.toNatClampNeg) st)
      · refine o_iload dX4_value_92 rfl ?_
        refine o_aload_n dX4_value_94 rfl ?_
        refine h_alen (n := 160) (v := 160) dX4_value_95 (px_lt (by decide)) (c20 _) (by decide) ?_
        refine o_icmpge (tgt := 125) dX4_value_96 (by decide) (fun u18 => ?_) (fun u18 => ?_)
        · exact (t_X4_value_125 T a ha (f_X4_value_69 T a n) ih y5 y6 y7 (st (a + 1) y7.toNatClampNeg) st)
        · refine o_aload_n dX4_value_99 rfl ?_
          refine o_iload dX4_value_100 rfl ?_
          refine o_iload dX4_value_102 rfl ?_
          refine o_iflt (tgt := 112) dX4_value_104 (by decide) (fun u19 => ?_) (fun u19 => ?_)
          · refine o_aload_n dX4_value_112 rfl ?_
            refine o_iconst (v := (-1)) dX4_value_113 (by decide) ?_
            refine o_iload dX4_value_114 rfl ?_
            refine o_isub dX4_value_116 ?_
            refine h_iald (n := 6) dX4_value_117 (px_lt (by decide)) (c19 _) (fun u20 => ?_)
            refine h_iast (n := 160) dX4_value_118 (px_lt (by decide)) c20 (fun u21 => ?_)
            refine o_iinc (v := (y6 + 1)) (L' := [some (.ref a), none, some (.ref 19), some (.ref 20), none, some (.int y5), some (.int (y6 + 1)), some (.int y7), some (.int (st (a + 1) y7.toNatClampNeg)), none]) dX4_value_119 rfl rfl (Nat.le_of_ble_eq_true rfl) rfl rfl ?_
            refine o_goto (tgt := 215) dX4_value_122 (by decide) ?_
            refine o_iinc (v := (y7 + 1)) (L' := [some (.ref a), none, some (.ref 19), some (.ref 20), none, some (.int y5), some (.int (y6 + 1)), some (.int (y7 + 1)), some (.int (st (a + 1) y7.toNatClampNeg)), none]) dX4_value_215 rfl rfl (Nat.le_of_ble_eq_true rfl) rfl rfl ?_
            refine o_goto (tgt := 69) dX4_value_218 (by decide) ?_
            exact o_weak (L' := [some (.ref a), none, some (.ref 19), some (.ref 20), none, some (.int y5), some (.int (y6 + 1)), some (.int (y7 + 1)), none, none]) ⟨rfl, ⟨rfl, ⟨rfl, ⟨rfl, ⟨rfl, ⟨rfl, trivial⟩⟩⟩⟩⟩⟩ (ih y5 (y6 + 1) (y7 + 1) (up st 20 y6.toNatClampNeg (st 19 (((-1) : Int32) - (st (a + 1) y7.toNatClampNeg)).toNatClampNeg)))
          · refine o_iload dX4_value_107 rfl ?_
            refine o_goto (tgt := 118) dX4_value_109 (by decide) ?_
            refine h_iast (n := 160) dX4_value_118 (px_lt (by decide)) c20 (fun u22 => ?_)
            refine o_iinc (v := (y6 + 1)) (L' := [some (.ref a), none, some (.ref 19), some (.ref 20), none, some (.int y5), some (.int (y6 + 1)), some (.int y7), some (.int (st (a + 1) y7.toNatClampNeg)), none]) dX4_value_119 rfl rfl (Nat.le_of_ble_eq_true rfl) rfl rfl ?_
            refine o_goto (tgt := 215) dX4_value_122 (by decide) ?_
            refine o_iinc (v := (y7 + 1)) (L' := [some (.ref a), none, some (.ref 19), some (.ref 20), none, some (.int y5), some (.int (y6 + 1)), some (.int (y7 + 1)), some (.int (st (a + 1) y7.toNatClampNeg)), none]) dX4_value_215 rfl rfl (Nat.le_of_ble_eq_true rfl) rfl rfl ?_
            refine o_goto (tgt := 69) dX4_value_218 (by decide) ?_
            exact o_weak (L' := [some (.ref a), none, some (.ref 19), some (.ref 20), none, some (.int y5), some (.int (y6 + 1)), some (.int (y7 + 1)), none, none]) ⟨rfl, ⟨rfl, ⟨rfl, ⟨rfl, ⟨rfl, ⟨rfl, trivial⟩⟩⟩⟩⟩⟩ (ih y5 (y6 + 1) (y7 + 1) (up st 20 y6.toNatClampNeg (st (a + 1) y7.toNatClampNeg)))
def f_X4_value_27 (T : Nat) (a : Nat) (y1 : Int32) (z0 : Int32) (st : px_S) : Option (Int32 × px_S) := (if y1 = (-19) then (f_X4_value_69 T a 1000 (st a 1) 0 z0 st) else (if y1 = (-20) then (f_X4_value_69 T a 1000 (st a 2) 0 z0 st) else (f_X4_value_69 T a 1000 (Int32.ofNat (st (a + 1) 100000).toNatClampNeg) 0 z0 st)))
set_option maxRecDepth 20000 in
theorem t_X4_value_27 (T : Nat) (a : Nat) (ha : px_isT T a) (y1 : Int32) (z0 : Int32) (st : px_S) : px_O (1, 0, 0, px_n T, m_X4_value) (px_gi T) (f_X4_value_27 T a y1 z0 st) 27 [some (.ref a), some (.int y1), some (.ref 19), some (.ref 20), none, none, none, none, none, none] [.int z0] (HP T st) 0 0 := by
  rw [f_X4_value_27]
  refine o_istore (L' := [some (.ref a), some (.int y1), some (.ref 19), some (.ref 20), some (.int z0), none, none, none, none, none]) dX4_value_27 (Nat.le_of_ble_eq_true rfl) rfl rfl ?_
  refine o_iload_n dX4_value_29 rfl ?_
  refine o_bipush (v := (-19)) dX4_value_30 (by decide) ?_
  refine o_icmpne (tgt := 42) dX4_value_32 (by decide) (fun u23 => ?_) (fun u23 => ?_)
  · refine o_iload_n dX4_value_42 rfl ?_
    refine o_bipush (v := (-20)) dX4_value_43 (by decide) ?_
    refine o_icmpne (tgt := 55) dX4_value_45 (by decide) (fun u24 => ?_) (fun u24 => ?_)
    · refine o_aload_n dX4_value_55 rfl ?_
      refine h_get (v := .ref (a + 1)) dX4_value_56 q4 fl_X4_9 (by decide) (px_ltT 0 (by decide) ha) (cT ha _) rfl ?_
      refine h_alen (n := (st (a + 1) 100000).toNatClampNeg) (v := (Int32.ofNat (st (a + 1) 100000).toNatClampNeg)) dX4_value_59 (px_ltT 1 (by decide) ha) ((cT1 ha) _) rfl ?_
      refine o_istore (L' := [some (.ref a), some (.int y1), some (.ref 19), some (.ref 20), some (.int z0), some (.int (Int32.ofNat (st (a + 1) 100000).toNatClampNeg)), none, none, none, none]) dX4_value_60 (Nat.le_of_ble_eq_true rfl) rfl rfl ?_
      refine o_iconst (v := 0) dX4_value_62 (by decide) ?_
      refine o_istore (L' := [some (.ref a), some (.int y1), some (.ref 19), some (.ref 20), some (.int z0), some (.int (Int32.ofNat (st (a + 1) 100000).toNatClampNeg)), some (.int 0), none, none, none]) dX4_value_63 (Nat.le_of_ble_eq_true rfl) rfl rfl ?_
      refine o_iload dX4_value_65 rfl ?_
      refine o_istore (L' := [some (.ref a), some (.int y1), some (.ref 19), some (.ref 20), some (.int z0), some (.int (Int32.ofNat (st (a + 1) 100000).toNatClampNeg)), some (.int 0), some (.int z0), none, none]) dX4_value_67 (Nat.le_of_ble_eq_true rfl) rfl rfl ?_
      exact o_weak (L' := [some (.ref a), none, some (.ref 19), some (.ref 20), none, some (.int (Int32.ofNat (st (a + 1) 100000).toNatClampNeg)), some (.int 0), some (.int z0), none, none]) ⟨rfl, ⟨rfl, ⟨rfl, ⟨rfl, ⟨rfl, ⟨rfl, trivial⟩⟩⟩⟩⟩⟩ (t_X4_value_69 T a ha 1000 (Int32.ofNat (st (a + 1) 100000).toNatClampNeg) 0 z0 st)
    · refine o_aload_n dX4_value_48 rfl ?_
      refine h_get (v := .int (st a 2)) dX4_value_49 q4 fl_X4_19 (by decide) (px_ltT 0 (by decide) ha) (cT ha _) rfl ?_
      refine o_goto (tgt := 60) dX4_value_52 (by decide) ?_
      refine o_istore (L' := [some (.ref a), some (.int y1), some (.ref 19), some (.ref 20), some (.int z0), some (.int (st a 2)), none, none, none, none]) dX4_value_60 (Nat.le_of_ble_eq_true rfl) rfl rfl ?_
      refine o_iconst (v := 0) dX4_value_62 (by decide) ?_
      refine o_istore (L' := [some (.ref a), some (.int y1), some (.ref 19), some (.ref 20), some (.int z0), some (.int (st a 2)), some (.int 0), none, none, none]) dX4_value_63 (Nat.le_of_ble_eq_true rfl) rfl rfl ?_
      refine o_iload dX4_value_65 rfl ?_
      refine o_istore (L' := [some (.ref a), some (.int y1), some (.ref 19), some (.ref 20), some (.int z0), some (.int (st a 2)), some (.int 0), some (.int z0), none, none]) dX4_value_67 (Nat.le_of_ble_eq_true rfl) rfl rfl ?_
      exact o_weak (L' := [some (.ref a), none, some (.ref 19), some (.ref 20), none, some (.int (st a 2)), some (.int 0), some (.int z0), none, none]) ⟨rfl, ⟨rfl, ⟨rfl, ⟨rfl, ⟨rfl, ⟨rfl, trivial⟩⟩⟩⟩⟩⟩ (t_X4_value_69 T a ha 1000 (st a 2) 0 z0 st)
  · refine o_aload_n dX4_value_35 rfl ?_
    refine h_get (v := .int (st a 1)) dX4_value_36 q4 fl_X4_15 (by decide) (px_ltT 0 (by decide) ha) (cT ha _) rfl ?_
    refine o_goto (tgt := 60) dX4_value_39 (by decide) ?_
    refine o_istore (L' := [some (.ref a), some (.int y1), some (.ref 19), some (.ref 20), some (.int z0), some (.int (st a 1)), none, none, none, none]) dX4_value_60 (Nat.le_of_ble_eq_true rfl) rfl rfl ?_
    refine o_iconst (v := 0) dX4_value_62 (by decide) ?_
    refine o_istore (L' := [some (.ref a), some (.int y1), some (.ref 19), some (.ref 20), some (.int z0), some (.int (st a 1)), some (.int 0), none, none, none]) dX4_value_63 (Nat.le_of_ble_eq_true rfl) rfl rfl ?_
    refine o_iload dX4_value_65 rfl ?_
    refine o_istore (L' := [some (.ref a), some (.int y1), some (.ref 19), some (.ref 20), some (.int z0), some (.int (st a 1)), some (.int 0), some (.int z0), none, none]) dX4_value_67 (Nat.le_of_ble_eq_true rfl) rfl rfl ?_
    exact o_weak (L' := [some (.ref a), none, some (.ref 19), some (.ref 20), none, some (.int (st a 1)), some (.int 0), some (.int z0), none, none]) ⟨rfl, ⟨rfl, ⟨rfl, ⟨rfl, ⟨rfl, ⟨rfl, trivial⟩⟩⟩⟩⟩⟩ (t_X4_value_69 T a ha 1000 (st a 1) 0 z0 st)
def f_X4_value (T : Nat) (a : Nat) (x0 : Int32) (st : px_S) : Option (Int32 × px_S) := (if x0 = (-19) then (f_X4_value_27 T a x0 0 st) else (if x0 = (-20) then (f_X4_value_27 T a x0 (st a 1) st) else (f_X4_value_27 T a x0 (st a 2) st)))
set_option maxRecDepth 20000 in
theorem t_X4_value (T : Nat) (a : Nat) (ha : px_isT T a) (x0 : Int32) (st : px_S) : px_O (1, 0, 0, px_n T, m_X4_value) (px_gi T) (f_X4_value T a x0 st) 0 [some (.ref a), some (.int x0), some (.ref 19), some (.ref 20), none, none, none, none, none, none] [] (HP T st) 0 0 := by
  rw [f_X4_value]
  refine o_iload_n dX4_value_0 rfl ?_
  refine o_bipush (v := (-19)) dX4_value_1 (by decide) ?_
  refine o_icmpne (tgt := 10) dX4_value_3 (by decide) (fun u25 => ?_) (fun u25 => ?_)
  · refine o_iload_n dX4_value_10 rfl ?_
    refine o_bipush (v := (-20)) dX4_value_11 (by decide) ?_
    refine o_icmpne (tgt := 23) dX4_value_13 (by decide) (fun u26 => ?_) (fun u26 => ?_)
    · refine o_aload_n dX4_value_23 rfl ?_
      refine h_get (v := .int (st a 2)) dX4_value_24 q4 fl_X4_19 (by decide) (px_ltT 0 (by decide) ha) (cT ha _) rfl ?_
      exact (t_X4_value_27 T a ha x0 (st a 2) st)
    · refine o_aload_n dX4_value_16 rfl ?_
      refine h_get (v := .int (st a 1)) dX4_value_17 q4 fl_X4_15 (by decide) (px_ltT 0 (by decide) ha) (cT ha _) rfl ?_
      refine o_goto (tgt := 27) dX4_value_20 (by decide) ?_
      exact (t_X4_value_27 T a ha x0 (st a 1) st)
  · refine o_iconst (v := 0) dX4_value_6 (by decide) ?_
    refine o_goto (tgt := 27) dX4_value_7 (by decide) ?_
    exact (t_X4_value_27 T a ha x0 0 st)
theorem k_X4_value {T : Nat} {st : px_S} {a : Nat} {x0 : Int32} {b : Int32 × px_S} (ha : px_isT T a) (hf : f_X4_value T a x0 st = some b) : px_K (1) 0 0 m_X4_value [.ref a, .int x0, .ref 19, .ref 20] (HP T st) ((px_gi T) b).1 ((px_gi T) b).2 := px_KofH hf mf_X4_value (Nat.le_of_ble_eq_true rfl) rfl (t_X4_value T a ha x0 st)
/-! ThreeOfThem$Judge.worthOf(III)I: S, depth 6 -/
def f_X1_worthOf (T : Nat) (x0 : Int32) (x1 : Int32) (x2 : Int32) (st : px_S) : Option (Int32 × px_S) := ((f_X1_factsOf T x0 x1 x2 st).bind fun b1 => (if px_isT T (st 11 1).toNatClampNeg then ((f_X4_value T (st 11 1).toNatClampNeg (-19) b1).bind fun b3 => ((f_X0_bringsOf T b3.2 12 x1 x2).bind fun b4 => (some (((p_X5_clamp b3.1 (-99) 99) + b4), b3.2)))) else none))
set_option maxRecDepth 20000 in
theorem t_X1_worthOf (T : Nat) (x0 : Int32) (x1 : Int32) (x2 : Int32) (st : px_S) : px_O (6, 0, 0, px_n T, m_X1_worthOf) (px_gi T) (f_X1_worthOf T x0 x1 x2 st) 0 [some (.ref 11), some (.int x0), some (.int x1), some (.int x2), none] [] (HP T st) 0 0 := by
  rw [f_X1_worthOf]
  refine o_aload_n dX1_worthOf_0 rfl ?_
  refine h_get (v := .ref (st 11 1).toNatClampNeg) dX1_worthOf_1 q1 fl_X1_23 (by decide) (px_lt (by decide)) (c11 _) rfl ?_
  refine o_bipush (v := (-19)) dX1_worthOf_4 (by decide) ?_
  refine o_aload_n dX1_worthOf_6 rfl ?_
  refine o_iload_n dX1_worthOf_7 rfl ?_
  refine o_iload_n dX1_worthOf_8 rfl ?_
  refine o_iload_n dX1_worthOf_9 rfl ?_
  refine h_cVr (as := [.int x0, .int x1, .int x2]) (S1 := [.int (-19), .ref (st 11 1).toNatClampNeg]) (d' := 1) dX1_worthOf_10 mf_X1_factsOf ml_X1_75 mv_X1_factsOf q1 rfl (hp_at (px_lt (by decide)) (c11 _)) rfl (Nat.le_of_ble_eq_true rfl) rfl (Nat.le_of_ble_eq_true rfl) (fun b hb => k_X1_factsOf hb) (fun b1 hb1 => ?_)
  refine o_aload_n dX1_worthOf_13 rfl ?_
  refine h_get (v := .ref 20) dX1_worthOf_14 q1 fl_X1_31 (by decide) (px_lt (by decide)) (c11 _) rfl ?_
  refine o_ite (fun u2 => ?_) (fun _ => o_none)
  refine h_cVi (as := [.int (-19), .ref 19, .ref 20]) (S1 := []) (d' := 1) dX1_worthOf_17 mf_X4_value ml_X1_79 mv_X4_value q4 rfl (hp_at (px_ltT 0 (by decide) u2) (cT u2 _)) rfl (Nat.le_of_ble_eq_true rfl) rfl (Nat.le_of_ble_eq_true rfl) (fun b hb => k_X4_value u2 hb) (fun b3 hb3 => ?_)
  refine o_istore (L' := [some (.ref 11), some (.int x0), some (.int x1), some (.int x2), some (.int b3.1)]) dX1_worthOf_20 (Nat.le_of_ble_eq_true rfl) rfl rfl ?_
  refine o_iload dX1_worthOf_22 rfl ?_
  refine o_bipush (v := (-99)) dX1_worthOf_24 (by decide) ?_
  refine o_bipush (v := 99) dX1_worthOf_26 (by decide) ?_
  refine h_cNP (as := [.int b3.1, .int (-99), .int 99]) (S1 := []) (d' := 1) dX1_worthOf_28 mf_X5_clamp ml_X1_83 ms_X5_clamp rfl (Nat.le_of_ble_eq_true rfl) rfl (Nat.le_of_ble_eq_true rfl) ⟨Nat.zero_le _, Nat.zero_le _⟩ (k_X5_clamp) ?_
  refine o_aload_n dX1_worthOf_31 rfl ?_
  refine h_get (v := .ref 12) dX1_worthOf_32 q1 fl_X1_12 (by decide) (px_lt (by decide)) (c11 _) rfl ?_
  refine o_iload_n dX1_worthOf_35 rfl ?_
  refine o_iload_n dX1_worthOf_36 rfl ?_
  refine h_cV0 (as := [.int x1, .int x2]) (S1 := [.int (p_X5_clamp b3.1 (-99) 99)]) (d' := 5) dX1_worthOf_37 mf_X0_bringsOf ml_X1_87 mv_X0_bringsOf q0 rfl (hp_at (px_ltH 0 (by decide) (Or.inr (Or.inr rfl))) (cH (Or.inr (Or.inr rfl)) _)) rfl (Nat.le_of_ble_eq_true rfl) rfl (Nat.le_of_ble_eq_true rfl) ⟨Nat.zero_le _, Nat.zero_le _⟩ (fun b hb => k_X0_bringsOf (Or.inr (Or.inr rfl)) hb) (fun b4 hb4 => ?_)
  refine o_iadd dX1_worthOf_40 ?_
  exact o_iret (rt := .int) rfl rfl dX1_worthOf_41 rfl (Nat.zero_le _) (Nat.zero_le _)
theorem k_X1_worthOf {T : Nat} {st : px_S} {x0 : Int32} {x1 : Int32} {x2 : Int32} {b : Int32 × px_S} (hf : f_X1_worthOf T x0 x1 x2 st = some b) : px_K (6) 0 0 m_X1_worthOf [.ref 11, .int x0, .int x1, .int x2] (HP T st) ((px_gi T) b).1 ((px_gi T) b).2 := px_KofH hf mf_X1_worthOf (Nat.le_of_ble_eq_true rfl) rfl (t_X1_worthOf T x0 x1 x2 st)
/-! ThreeOfThem$Judge.goodOf(III)I: S, depth 7 -/
def f_X1_goodOf_13 (T : Nat) : Nat → Int32 → Int32 → Int32 → Int32 → Int32 → px_S → Option (Int32 × px_S)
  | 0, _, _, _, _, _, _ => none
  | n + 1, y1, y2, y3, y4, y5, st => (if y5 < 7 then (if (p_X5_has y2 y5) = 0 then ((f_X1_goodOf_13 T n) y1 y2 y3 y4 (y5 + 1) st) else (if y5 = y1 then ((f_X1_goodOf_13 T n) y1 y2 y3 y4 (y5 + 1) st) else ((f_X1_worthOf T y1 y5 y3 st).bind fun b4 => ((f_X1_goodOf_13 T n) y1 y2 y3 (y4 + b4.1) (y5 + 1) b4.2)))) else (some (y4, st)))
set_option maxRecDepth 20000 in
theorem t_X1_goodOf_13 (T : Nat) : ∀ (n : Nat) (y1 : Int32) (y2 : Int32) (y3 : Int32) (y4 : Int32) (y5 : Int32) (st : px_S), px_O (7, 0, 0, px_n T, m_X1_goodOf) (px_gi T) (f_X1_goodOf_13 T n y1 y2 y3 y4 y5 st) 13 [some (.ref 11), some (.int y1), some (.int y2), some (.int y3), some (.int y4), some (.int y5)] [] (HP T st) 0 0 := by
  intro n
  induction n with
  | zero => intro y1 y2 y3 y4 y5 st; rw [f_X1_goodOf_13]; exact o_none
  | succ n ih =>
    intro y1 y2 y3 y4 y5 st
    rw [f_X1_goodOf_13]
    refine o_iload dX1_goodOf_13 rfl ?_
    refine o_bipush (v := 7) dX1_goodOf_15 (by decide) ?_
    refine o_icmpge (tgt := 54) dX1_goodOf_17 (by decide) (fun u1 => ?_) (fun u1 => ?_)
    · refine o_iload dX1_goodOf_54 rfl ?_
      exact o_iret (rt := .int) rfl rfl dX1_goodOf_56 rfl (Nat.zero_le _) (Nat.zero_le _)
    · refine o_iload_n dX1_goodOf_20 rfl ?_
      refine o_iload dX1_goodOf_21 rfl ?_
      refine h_cNP (as := [.int y2, .int y5]) (S1 := []) (d' := 0) dX1_goodOf_23 mf_X5_has ml_X1_91 ms_X5_has rfl (Nat.le_of_ble_eq_true rfl) rfl (Nat.le_of_ble_eq_true rfl) ⟨Nat.zero_le _, Nat.zero_le _⟩ (k_X5_has) ?_
      refine o_ifeq (tgt := 48) dX1_goodOf_26 (by decide) (fun u2 => ?_) (fun u2 => ?_)
      · refine o_iinc (v := (y5 + 1)) (L' := [some (.ref 11), some (.int y1), some (.int y2), some (.int y3), some (.int y4), some (.int (y5 + 1))]) dX1_goodOf_48 rfl rfl (Nat.le_of_ble_eq_true rfl) rfl rfl ?_
        refine o_goto (tgt := 13) dX1_goodOf_51 (by decide) ?_
        exact (ih y1 y2 y3 y4 (y5 + 1) st)
      · refine o_iload dX1_goodOf_29 rfl ?_
        refine o_iload_n dX1_goodOf_31 rfl ?_
        refine o_icmpeq (tgt := 48) dX1_goodOf_32 (by decide) (fun u3 => ?_) (fun u3 => ?_)
        · refine o_iinc (v := (y5 + 1)) (L' := [some (.ref 11), some (.int y1), some (.int y2), some (.int y3), some (.int y4), some (.int (y5 + 1))]) dX1_goodOf_48 rfl rfl (Nat.le_of_ble_eq_true rfl) rfl rfl ?_
          refine o_goto (tgt := 13) dX1_goodOf_51 (by decide) ?_
          exact (ih y1 y2 y3 y4 (y5 + 1) st)
        · refine o_iload dX1_goodOf_35 rfl ?_
          refine o_aload_n dX1_goodOf_37 rfl ?_
          refine o_iload_n dX1_goodOf_38 rfl ?_
          refine o_iload dX1_goodOf_39 rfl ?_
          refine o_iload_n dX1_goodOf_41 rfl ?_
          refine h_cVi (as := [.int y1, .int y5, .int y3]) (S1 := [.int y4]) (d' := 6) dX1_goodOf_42 mf_X1_worthOf ml_X1_95 mv_X1_worthOf q1 rfl (hp_at (px_lt (by decide)) (c11 _)) rfl (Nat.le_of_ble_eq_true rfl) rfl (Nat.le_of_ble_eq_true rfl) (fun b hb => k_X1_worthOf hb) (fun b4 hb4 => ?_)
          refine o_iadd dX1_goodOf_45 ?_
          refine o_istore (L' := [some (.ref 11), some (.int y1), some (.int y2), some (.int y3), some (.int (y4 + b4.1)), some (.int y5)]) dX1_goodOf_46 (Nat.le_of_ble_eq_true rfl) rfl rfl ?_
          refine o_iinc (v := (y5 + 1)) (L' := [some (.ref 11), some (.int y1), some (.int y2), some (.int y3), some (.int (y4 + b4.1)), some (.int (y5 + 1))]) dX1_goodOf_48 rfl rfl (Nat.le_of_ble_eq_true rfl) rfl rfl ?_
          refine o_goto (tgt := 13) dX1_goodOf_51 (by decide) ?_
          exact (ih y1 y2 y3 (y4 + b4.1) (y5 + 1) b4.2)
def f_X1_goodOf (T : Nat) (x0 : Int32) (x1 : Int32) (x2 : Int32) (st : px_S) : Option (Int32 × px_S) := ((f_X0_share T st 12 x2).bind fun b5 => (f_X1_goodOf_13 T 1000 x0 x1 x2 b5 0 st))
set_option maxRecDepth 20000 in
theorem t_X1_goodOf (T : Nat) (x0 : Int32) (x1 : Int32) (x2 : Int32) (st : px_S) : px_O (7, 0, 0, px_n T, m_X1_goodOf) (px_gi T) (f_X1_goodOf T x0 x1 x2 st) 0 [some (.ref 11), some (.int x0), some (.int x1), some (.int x2), none, none] [] (HP T st) 0 0 := by
  rw [f_X1_goodOf]
  refine o_aload_n dX1_goodOf_0 rfl ?_
  refine h_get (v := .ref 12) dX1_goodOf_1 q1 fl_X1_12 (by decide) (px_lt (by decide)) (c11 _) rfl ?_
  refine o_iload_n dX1_goodOf_4 rfl ?_
  refine h_cV0 (as := [.int x2]) (S1 := []) (d' := 0) dX1_goodOf_5 mf_X0_share ml_X1_67 mv_X0_share q0 rfl (hp_at (px_ltH 0 (by decide) (Or.inr (Or.inr rfl))) (cH (Or.inr (Or.inr rfl)) _)) rfl (Nat.le_of_ble_eq_true rfl) rfl (Nat.le_of_ble_eq_true rfl) ⟨Nat.zero_le _, Nat.zero_le _⟩ (fun b hb => k_X0_share (Or.inr (Or.inr rfl)) hb) (fun b5 hb5 => ?_)
  refine o_istore (L' := [some (.ref 11), some (.int x0), some (.int x1), some (.int x2), some (.int b5), none]) dX1_goodOf_8 (Nat.le_of_ble_eq_true rfl) rfl rfl ?_
  refine o_iconst (v := 0) dX1_goodOf_10 (by decide) ?_
  refine o_istore (L' := [some (.ref 11), some (.int x0), some (.int x1), some (.int x2), some (.int b5), some (.int 0)]) dX1_goodOf_11 (Nat.le_of_ble_eq_true rfl) rfl rfl ?_
  exact (t_X1_goodOf_13 T 1000 x0 x1 x2 b5 0 st)
theorem k_X1_goodOf {T : Nat} {st : px_S} {x0 : Int32} {x1 : Int32} {x2 : Int32} {b : Int32 × px_S} (hf : f_X1_goodOf T x0 x1 x2 st = some b) : px_K (7) 0 0 m_X1_goodOf [.ref 11, .int x0, .int x1, .int x2] (HP T st) ((px_gi T) b).1 ((px_gi T) b).2 := px_KofH hf mf_X1_goodOf (Nat.le_of_ble_eq_true rfl) rfl (t_X1_goodOf T x0 x1 x2 st)
