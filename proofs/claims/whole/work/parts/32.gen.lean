/-! ThreeOfThemModel.both3()I: S, depth 20 -/
def f_X6_both3_5 (T : Nat) : Nat → Int32 → px_S → Option (Int32 × px_S)
  | 0, _, _ => none
  | n + 1, y1, st => ((f_X6_isWord T st 97 110 100 0 0 0 0 0).bind fun b1 => (if b1 = 0 then (some (y1, st)) else ((f_X6_next T st).bind fun b3 => ((f_X6_not3 T b3).bind fun b4 => (if y1 = 0 then ((f_X6_both3_5 T n) 0 b4.2) else (if b4.1 = 0 then ((f_X6_both3_5 T n) 0 b4.2) else ((f_X6_both3_5 T n) 1 b4.2)))))))
set_option maxRecDepth 20000 in
theorem t_X6_both3_5 (T : Nat) : ∀ (n : Nat) (y1 : Int32) (st : px_S), px_O (20, 0, 0, px_n (T + 2), m_X6_both3) (px_gi (T + 2)) (f_X6_both3_5 T n y1 st) 5 [some (.ref 48), some (.int y1), none] [] (HP (T + 2) st) 0 0 := by
  intro n
  induction n with
  | zero => intro y1 st; rw [f_X6_both3_5]; exact o_none
  | succ n ih =>
    intro y1 st
    rw [f_X6_both3_5]
    refine o_aload_n dX6_both3_5 rfl ?_
    refine o_bipush (v := 97) dX6_both3_6 (by decide) ?_
    refine o_bipush (v := 110) dX6_both3_8 (by decide) ?_
    refine o_bipush (v := 100) dX6_both3_10 (by decide) ?_
    refine o_iconst (v := 0) dX6_both3_12 (by decide) ?_
    refine o_iconst (v := 0) dX6_both3_13 (by decide) ?_
    refine o_iconst (v := 0) dX6_both3_14 (by decide) ?_
    refine o_iconst (v := 0) dX6_both3_15 (by decide) ?_
    refine o_iconst (v := 0) dX6_both3_16 (by decide) ?_
    refine h_cV0 (as := [.int 97, .int 110, .int 100, .int 0, .int 0, .int 0, .int 0, .int 0]) (S1 := []) (d' := 2) dX6_both3_17 mf_X6_isWord ml_X6_188 mv_X6_isWord q6 rfl (hp_at (px_ltM (by decide)) (c48 _)) rfl (Nat.le_of_ble_eq_true rfl) rfl (Nat.le_of_ble_eq_true rfl) ⟨Nat.zero_le _, Nat.zero_le _⟩ (fun b hb => k_X6_isWord hb) (fun b1 hb1 => ?_)
    refine o_ifeq (tgt := 49) dX6_both3_20 (by decide) (fun u2 => ?_) (fun u2 => ?_)
    · refine o_iload_n dX6_both3_49 rfl ?_
      exact o_iret (rt := .int) rfl rfl dX6_both3_50 rfl (Nat.zero_le _) (Nat.zero_le _)
    · refine o_aload_n dX6_both3_23 rfl ?_
      refine h_cVv (as := []) (S1 := []) (d' := 1) dX6_both3_24 mf_X6_next ml_X6_185 mv_X6_next q6 rfl (hp_at (px_ltM (by decide)) (c48 _)) rfl (Nat.le_of_ble_eq_true rfl) rfl (Nat.le_of_ble_eq_true rfl) (fun b hb => k_X6_next hb) (fun b3 hb3 => ?_)
      refine o_aload_n dX6_both3_27 rfl ?_
      refine h_cVi (as := []) (S1 := []) (d' := 19) dX6_both3_28 mf_X6_not3 ml_X6_270 mv_X6_not3 q6 rfl (hp_at (px_ltM (by decide)) (c48 _)) rfl (Nat.le_of_ble_eq_true rfl) rfl (Nat.le_of_ble_eq_true rfl) (fun b hb => k_X6_not3 hb) (fun b4 hb4 => ?_)
      refine o_istore_n (L' := [some (.ref 48), some (.int y1), some (.int b4.1)]) dX6_both3_31 (Nat.le_of_ble_eq_true rfl) rfl rfl ?_
      refine o_iload_n dX6_both3_32 rfl ?_
      refine o_ifeq (tgt := 44) dX6_both3_33 (by decide) (fun u5 => ?_) (fun u5 => ?_)
      · refine o_iconst (v := 0) dX6_both3_44 (by decide) ?_
        refine o_istore_n (L' := [some (.ref 48), some (.int 0), some (.int b4.1)]) dX6_both3_45 (Nat.le_of_ble_eq_true rfl) rfl rfl ?_
        refine o_goto (tgt := 5) dX6_both3_46 (by decide) ?_
        exact o_weak (L' := [some (.ref 48), some (.int 0), none]) ⟨rfl, ⟨rfl, trivial⟩⟩ (ih 0 b4.2)
      · refine o_iload_n dX6_both3_36 rfl ?_
        refine o_ifeq (tgt := 44) dX6_both3_37 (by decide) (fun u6 => ?_) (fun u6 => ?_)
        · refine o_iconst (v := 0) dX6_both3_44 (by decide) ?_
          refine o_istore_n (L' := [some (.ref 48), some (.int 0), some (.int b4.1)]) dX6_both3_45 (Nat.le_of_ble_eq_true rfl) rfl rfl ?_
          refine o_goto (tgt := 5) dX6_both3_46 (by decide) ?_
          exact o_weak (L' := [some (.ref 48), some (.int 0), none]) ⟨rfl, ⟨rfl, trivial⟩⟩ (ih 0 b4.2)
        · refine o_iconst (v := 1) dX6_both3_40 (by decide) ?_
          refine o_goto (tgt := 45) dX6_both3_41 (by decide) ?_
          refine o_istore_n (L' := [some (.ref 48), some (.int 1), some (.int b4.1)]) dX6_both3_45 (Nat.le_of_ble_eq_true rfl) rfl rfl ?_
          refine o_goto (tgt := 5) dX6_both3_46 (by decide) ?_
          exact o_weak (L' := [some (.ref 48), some (.int 1), none]) ⟨rfl, ⟨rfl, trivial⟩⟩ (ih 1 b4.2)
def f_X6_both3 (T : Nat) (st : px_S) : Option (Int32 × px_S) := ((f_X6_not3 T st).bind fun b7 => (f_X6_both3_5 T 1000 b7.1 b7.2))
set_option maxRecDepth 20000 in
theorem t_X6_both3 (T : Nat) (st : px_S) : px_O (20, 0, 0, px_n (T + 2), m_X6_both3) (px_gi (T + 2)) (f_X6_both3 T st) 0 [some (.ref 48), none, none] [] (HP (T + 2) st) 0 0 := by
  rw [f_X6_both3]
  refine o_aload_n dX6_both3_0 rfl ?_
  refine h_cVi (as := []) (S1 := []) (d' := 19) dX6_both3_1 mf_X6_not3 ml_X6_270 mv_X6_not3 q6 rfl (hp_at (px_ltM (by decide)) (c48 _)) rfl (Nat.le_of_ble_eq_true rfl) rfl (Nat.le_of_ble_eq_true rfl) (fun b hb => k_X6_not3 hb) (fun b7 hb7 => ?_)
  refine o_istore_n (L' := [some (.ref 48), some (.int b7.1), none]) dX6_both3_4 (Nat.le_of_ble_eq_true rfl) rfl rfl ?_
  exact (t_X6_both3_5 T 1000 b7.1 b7.2)
theorem k_X6_both3 {T : Nat} {st : px_S} {b : Int32 × px_S} (hf : f_X6_both3 T st = some b) : px_K (20) 0 0 m_X6_both3 [.ref 48] (HP (T + 2) st) ((px_gi (T + 2)) b).1 ((px_gi (T + 2)) b).2 := px_KofH hf mf_X6_both3 (Nat.le_of_ble_eq_true rfl) rfl (t_X6_both3 T st)
/-! ThreeOfThemModel.either3()I: S, depth 21 -/
def f_X6_either3_5 (T : Nat) : Nat → Int32 → px_S → Option (Int32 × px_S)
  | 0, _, _ => none
  | n + 1, y1, st => ((f_X6_isWord T st 111 114 0 0 0 0 0 0).bind fun b1 => (if b1 = 0 then (some (y1, st)) else ((f_X6_next T st).bind fun b3 => ((f_X6_both3 T b3).bind fun b4 => (if y1 = 0 then (if b4.1 = 0 then ((f_X6_either3_5 T n) 0 b4.2) else ((f_X6_either3_5 T n) 1 b4.2)) else ((f_X6_either3_5 T n) 1 b4.2))))))
set_option maxRecDepth 20000 in
theorem t_X6_either3_5 (T : Nat) : ∀ (n : Nat) (y1 : Int32) (st : px_S), px_O (21, 0, 0, px_n (T + 2), m_X6_either3) (px_gi (T + 2)) (f_X6_either3_5 T n y1 st) 5 [some (.ref 48), some (.int y1), none] [] (HP (T + 2) st) 0 0 := by
  intro n
  induction n with
  | zero => intro y1 st; rw [f_X6_either3_5]; exact o_none
  | succ n ih =>
    intro y1 st
    rw [f_X6_either3_5]
    refine o_aload_n dX6_either3_5 rfl ?_
    refine o_bipush (v := 111) dX6_either3_6 (by decide) ?_
    refine o_bipush (v := 114) dX6_either3_8 (by decide) ?_
    refine o_iconst (v := 0) dX6_either3_10 (by decide) ?_
    refine o_iconst (v := 0) dX6_either3_11 (by decide) ?_
    refine o_iconst (v := 0) dX6_either3_12 (by decide) ?_
    refine o_iconst (v := 0) dX6_either3_13 (by decide) ?_
    refine o_iconst (v := 0) dX6_either3_14 (by decide) ?_
    refine o_iconst (v := 0) dX6_either3_15 (by decide) ?_
    refine h_cV0 (as := [.int 111, .int 114, .int 0, .int 0, .int 0, .int 0, .int 0, .int 0]) (S1 := []) (d' := 2) dX6_either3_16 mf_X6_isWord ml_X6_188 mv_X6_isWord q6 rfl (hp_at (px_ltM (by decide)) (c48 _)) rfl (Nat.le_of_ble_eq_true rfl) rfl (Nat.le_of_ble_eq_true rfl) ⟨Nat.zero_le _, Nat.zero_le _⟩ (fun b hb => k_X6_isWord hb) (fun b1 hb1 => ?_)
    refine o_ifeq (tgt := 48) dX6_either3_19 (by decide) (fun u2 => ?_) (fun u2 => ?_)
    · refine o_iload_n dX6_either3_48 rfl ?_
      exact o_iret (rt := .int) rfl rfl dX6_either3_49 rfl (Nat.zero_le _) (Nat.zero_le _)
    · refine o_aload_n dX6_either3_22 rfl ?_
      refine h_cVv (as := []) (S1 := []) (d' := 1) dX6_either3_23 mf_X6_next ml_X6_185 mv_X6_next q6 rfl (hp_at (px_ltM (by decide)) (c48 _)) rfl (Nat.le_of_ble_eq_true rfl) rfl (Nat.le_of_ble_eq_true rfl) (fun b hb => k_X6_next hb) (fun b3 hb3 => ?_)
      refine o_aload_n dX6_either3_26 rfl ?_
      refine h_cVi (as := []) (S1 := []) (d' := 20) dX6_either3_27 mf_X6_both3 ml_X6_273 mv_X6_both3 q6 rfl (hp_at (px_ltM (by decide)) (c48 _)) rfl (Nat.le_of_ble_eq_true rfl) rfl (Nat.le_of_ble_eq_true rfl) (fun b hb => k_X6_both3 hb) (fun b4 hb4 => ?_)
      refine o_istore_n (L' := [some (.ref 48), some (.int y1), some (.int b4.1)]) dX6_either3_30 (Nat.le_of_ble_eq_true rfl) rfl rfl ?_
      refine o_iload_n dX6_either3_31 rfl ?_
      refine o_ifne (tgt := 39) dX6_either3_32 (by decide) (fun u5 => ?_) (fun u5 => ?_)
      · refine o_iconst (v := 1) dX6_either3_39 (by decide) ?_
        refine o_goto (tgt := 44) dX6_either3_40 (by decide) ?_
        refine o_istore_n (L' := [some (.ref 48), some (.int 1), some (.int b4.1)]) dX6_either3_44 (Nat.le_of_ble_eq_true rfl) rfl rfl ?_
        refine o_goto (tgt := 5) dX6_either3_45 (by decide) ?_
        exact o_weak (L' := [some (.ref 48), some (.int 1), none]) ⟨rfl, ⟨rfl, trivial⟩⟩ (ih 1 b4.2)
      · refine o_iload_n dX6_either3_35 rfl ?_
        refine o_ifeq (tgt := 43) dX6_either3_36 (by decide) (fun u6 => ?_) (fun u6 => ?_)
        · refine o_iconst (v := 0) dX6_either3_43 (by decide) ?_
          refine o_istore_n (L' := [some (.ref 48), some (.int 0), some (.int b4.1)]) dX6_either3_44 (Nat.le_of_ble_eq_true rfl) rfl rfl ?_
          refine o_goto (tgt := 5) dX6_either3_45 (by decide) ?_
          exact o_weak (L' := [some (.ref 48), some (.int 0), none]) ⟨rfl, ⟨rfl, trivial⟩⟩ (ih 0 b4.2)
        · refine o_iconst (v := 1) dX6_either3_39 (by decide) ?_
          refine o_goto (tgt := 44) dX6_either3_40 (by decide) ?_
          refine o_istore_n (L' := [some (.ref 48), some (.int 1), some (.int b4.1)]) dX6_either3_44 (Nat.le_of_ble_eq_true rfl) rfl rfl ?_
          refine o_goto (tgt := 5) dX6_either3_45 (by decide) ?_
          exact o_weak (L' := [some (.ref 48), some (.int 1), none]) ⟨rfl, ⟨rfl, trivial⟩⟩ (ih 1 b4.2)
def f_X6_either3 (T : Nat) (st : px_S) : Option (Int32 × px_S) := ((f_X6_both3 T st).bind fun b7 => (f_X6_either3_5 T 1000 b7.1 b7.2))
set_option maxRecDepth 20000 in
theorem t_X6_either3 (T : Nat) (st : px_S) : px_O (21, 0, 0, px_n (T + 2), m_X6_either3) (px_gi (T + 2)) (f_X6_either3 T st) 0 [some (.ref 48), none, none] [] (HP (T + 2) st) 0 0 := by
  rw [f_X6_either3]
  refine o_aload_n dX6_either3_0 rfl ?_
  refine h_cVi (as := []) (S1 := []) (d' := 20) dX6_either3_1 mf_X6_both3 ml_X6_273 mv_X6_both3 q6 rfl (hp_at (px_ltM (by decide)) (c48 _)) rfl (Nat.le_of_ble_eq_true rfl) rfl (Nat.le_of_ble_eq_true rfl) (fun b hb => k_X6_both3 hb) (fun b7 hb7 => ?_)
  refine o_istore_n (L' := [some (.ref 48), some (.int b7.1), none]) dX6_either3_4 (Nat.le_of_ble_eq_true rfl) rfl rfl ?_
  exact (t_X6_either3_5 T 1000 b7.1 b7.2)
theorem k_X6_either3 {T : Nat} {st : px_S} {b : Int32 × px_S} (hf : f_X6_either3 T st = some b) : px_K (21) 0 0 m_X6_either3 [.ref 48] (HP (T + 2) st) ((px_gi (T + 2)) b).1 ((px_gi (T + 2)) b).2 := px_KofH hf mf_X6_either3 (Nat.le_of_ble_eq_true rfl) rfl (t_X6_either3 T st)
/-! ThreeOfThemModel.atom2()I: S, depth 22 -/
def f_X6_atom2_157 (T : Nat) (y1 : Int32) (st : px_S) : Option (Int32 × px_S) := ((f_X6_fail T st).bind fun b1 => (some (y1, b1)))
set_option maxRecDepth 20000 in
theorem t_X6_atom2_157 (T : Nat) (y1 : Int32) (st : px_S) : px_O (22, 0, 0, px_n (T + 2), m_X6_atom2) (px_gi (T + 2)) (f_X6_atom2_157 T y1 st) 157 [some (.ref 48), some (.int y1)] [] (HP (T + 2) st) 0 0 := by
  rw [f_X6_atom2_157]
  refine o_aload_n dX6_atom2_157 rfl ?_
  refine h_cVv (as := []) (S1 := []) (d' := 0) dX6_atom2_158 mf_X6_fail ml_X6_182 mv_X6_fail q6 rfl (hp_at (px_ltM (by decide)) (c48 _)) rfl (Nat.le_of_ble_eq_true rfl) rfl (Nat.le_of_ble_eq_true rfl) (fun b hb => k_X6_fail hb) (fun b1 hb1 => ?_)
  refine o_iload_n dX6_atom2_161 rfl ?_
  exact o_iret (rt := .int) rfl rfl dX6_atom2_162 rfl (Nat.zero_le _) (Nat.zero_le _)
def f_X6_atom2_123 (T : Nat) (y1 : Int32) (st : px_S) : Option (Int32 × px_S) := (if (st 48 29) = 0 then (if (st 48 25) = 1 then ((f_X6_name T st).bind fun b4 => (if (b4.2 48 29) = 0 then ((f_X6_next T b4.2).bind fun b6 => (some (b4.1, b6))) else (some (b4.1, b4.2)))) else (f_X6_atom2_157 T y1 st)) else (f_X6_atom2_157 T y1 st))
set_option maxRecDepth 20000 in
theorem t_X6_atom2_123 (T : Nat) (y1 : Int32) (st : px_S) : px_O (22, 0, 0, px_n (T + 2), m_X6_atom2) (px_gi (T + 2)) (f_X6_atom2_123 T y1 st) 123 [some (.ref 48), some (.int y1)] [] (HP (T + 2) st) 0 0 := by
  rw [f_X6_atom2_123]
  refine o_aload_n dX6_atom2_123 rfl ?_
  refine h_get (v := .int (st 48 29)) dX6_atom2_124 q6 fl_X6_169 (by decide) (px_ltM (by decide)) (c48 _) rfl ?_
  refine o_ifne (tgt := 157) dX6_atom2_127 (by decide) (fun u2 => ?_) (fun u2 => ?_)
  · exact (t_X6_atom2_157 T y1 st)
  · refine o_aload_n dX6_atom2_130 rfl ?_
    refine h_get (v := .int (st 48 25)) dX6_atom2_131 q6 fl_X6_152 (by decide) (px_ltM (by decide)) (c48 _) rfl ?_
    refine o_iconst (v := 1) dX6_atom2_134 (by decide) ?_
    refine o_icmpne (tgt := 157) dX6_atom2_135 (by decide) (fun u3 => ?_) (fun u3 => ?_)
    · exact (t_X6_atom2_157 T y1 st)
    · refine o_aload_n dX6_atom2_138 rfl ?_
      refine h_cVi (as := []) (S1 := []) (d' := 3) dX6_atom2_139 mf_X6_name ml_X6_217 mv_X6_name q6 rfl (hp_at (px_ltM (by decide)) (c48 _)) rfl (Nat.le_of_ble_eq_true rfl) rfl (Nat.le_of_ble_eq_true rfl) (fun b hb => k_X6_name hb) (fun b4 hb4 => ?_)
      refine o_istore_n (L' := [some (.ref 48), some (.int b4.1)]) dX6_atom2_142 (Nat.le_of_ble_eq_true rfl) rfl rfl ?_
      refine o_aload_n dX6_atom2_143 rfl ?_
      refine h_get (v := .int (b4.2 48 29)) dX6_atom2_144 q6 fl_X6_169 (by decide) (px_ltM (by decide)) (c48 _) rfl ?_
      refine o_ifne (tgt := 161) dX6_atom2_147 (by decide) (fun u5 => ?_) (fun u5 => ?_)
      · refine o_iload_n dX6_atom2_161 rfl ?_
        exact o_iret (rt := .int) rfl rfl dX6_atom2_162 rfl (Nat.zero_le _) (Nat.zero_le _)
      · refine o_aload_n dX6_atom2_150 rfl ?_
        refine h_cVv (as := []) (S1 := []) (d' := 1) dX6_atom2_151 mf_X6_next ml_X6_185 mv_X6_next q6 rfl (hp_at (px_ltM (by decide)) (c48 _)) rfl (Nat.le_of_ble_eq_true rfl) rfl (Nat.le_of_ble_eq_true rfl) (fun b hb => k_X6_next hb) (fun b6 hb6 => ?_)
        refine o_goto (tgt := 161) dX6_atom2_154 (by decide) ?_
        refine o_iload_n dX6_atom2_161 rfl ?_
        exact o_iret (rt := .int) rfl rfl dX6_atom2_162 rfl (Nat.zero_le _) (Nat.zero_le _)
def f_X6_atom2_71 (T : Nat) (y1 : Int32) (st : px_S) : Option (Int32 × px_S) := (if (st 48 29) = 0 then ((f_X6_next T (up st 48 28 ((st 48 28) - 1))).bind fun b8 => (some (y1, b8))) else (some (y1, (up st 48 28 ((st 48 28) - 1)))))
set_option maxRecDepth 20000 in
theorem t_X6_atom2_71 (T : Nat) (y1 : Int32) (st : px_S) : px_O (22, 0, 0, px_n (T + 2), m_X6_atom2) (px_gi (T + 2)) (f_X6_atom2_71 T y1 st) 71 [some (.ref 48), some (.int y1)] [] (HP (T + 2) st) 0 0 := by
  rw [f_X6_atom2_71]
  refine o_aload_n dX6_atom2_71 rfl ?_
  refine o_dup dX6_atom2_72 rfl ?_
  refine h_get (v := .int (st 48 28)) dX6_atom2_73 q6 fl_X6_179 (by decide) (px_ltM (by decide)) (c48 _) rfl ?_
  refine o_iconst (v := 1) dX6_atom2_76 (by decide) ?_
  refine o_isub dX6_atom2_77 ?_
  refine h_puti dX6_atom2_78 q6 fl_X6_179 pf_X6_28 (px_ltM (by decide)) (c48 _) (Nat.le_of_ble_eq_true rfl) (s48_28 _ _) ?_
  refine o_aload_n dX6_atom2_81 rfl ?_
  refine h_get (v := .int (st 48 29)) dX6_atom2_82 q6 fl_X6_169 (by decide) (px_ltM (by decide)) (c48 _) rfl ?_
  refine o_ifne (tgt := 161) dX6_atom2_85 (by decide) (fun u7 => ?_) (fun u7 => ?_)
  · refine o_iload_n dX6_atom2_161 rfl ?_
    exact o_iret (rt := .int) rfl rfl dX6_atom2_162 rfl (Nat.zero_le _) (Nat.zero_le _)
  · refine o_aload_n dX6_atom2_88 rfl ?_
    refine h_cVv (as := []) (S1 := []) (d' := 1) dX6_atom2_89 mf_X6_next ml_X6_185 mv_X6_next q6 rfl (hp_at (px_ltM (by decide)) (c48 _)) rfl (Nat.le_of_ble_eq_true rfl) rfl (Nat.le_of_ble_eq_true rfl) (fun b hb => k_X6_next hb) (fun b8 hb8 => ?_)
    refine o_goto (tgt := 161) dX6_atom2_92 (by decide) ?_
    refine o_iload_n dX6_atom2_161 rfl ?_
    exact o_iret (rt := .int) rfl rfl dX6_atom2_162 rfl (Nat.zero_le _) (Nat.zero_le _)
def f_X6_atom2 (T : Nat) (st : px_S) : Option (Int32 × px_S) := ((f_X6_isSign T st 45).bind fun b9 => (if b9 = 0 then ((f_X6_isSign T st 40).bind fun b11 => (if b11 = 0 then (if (st 48 29) = 0 then (if (st 48 25) = 2 then ((f_X6_next T st).bind fun b15 => (some ((st 48 27).toInt64.toInt32, b15))) else (f_X6_atom2_123 T 0 st)) else (f_X6_atom2_123 T 0 st)) else ((f_X6_opens T st).bind fun b16 => (if b16.1 = 0 then (some (0, b16.2)) else ((f_X6_either3 T b16.2).bind fun b18 => ((f_X6_isSign T b18.2 41).bind fun b19 => (if b19 = 0 then ((f_X6_fail T b18.2).bind fun b21 => (f_X6_atom2_71 T b18.1 b21)) else (f_X6_atom2_71 T b18.1 b18.2)))))))) else ((f_X6_opens T st).bind fun b22 => (if b22.1 = 0 then (some (0, b22.2)) else ((f_X6_atom3 T b22.2).bind fun b24 => (some ((-b24.1), (up b24.2 48 28 ((b24.2 48 28) - 1)))))))))
set_option maxRecDepth 20000 in
theorem t_X6_atom2 (T : Nat) (st : px_S) : px_O (22, 0, 0, px_n (T + 2), m_X6_atom2) (px_gi (T + 2)) (f_X6_atom2 T st) 0 [some (.ref 48), none] [] (HP (T + 2) st) 0 0 := by
  rw [f_X6_atom2]
  refine o_iconst (v := 0) dX6_atom2_0 (by decide) ?_
  refine o_istore_n (L' := [some (.ref 48), some (.int 0)]) dX6_atom2_1 (Nat.le_of_ble_eq_true rfl) rfl rfl ?_
  refine o_aload_n dX6_atom2_2 rfl ?_
  refine o_bipush (v := 45) dX6_atom2_3 (by decide) ?_
  refine h_cV0 (as := [.int 45]) (S1 := []) (d' := 0) dX6_atom2_5 mf_X6_isSign ml_X6_210 mv_X6_isSign q6 rfl (hp_at (px_ltM (by decide)) (c48 _)) rfl (Nat.le_of_ble_eq_true rfl) rfl (Nat.le_of_ble_eq_true rfl) ⟨Nat.zero_le _, Nat.zero_le _⟩ (fun b hb => k_X6_isSign hb) (fun b9 hb9 => ?_)
  refine o_ifeq (tgt := 37) dX6_atom2_8 (by decide) (fun u10 => ?_) (fun u10 => ?_)
  · refine o_aload_n dX6_atom2_37 rfl ?_
    refine o_bipush (v := 40) dX6_atom2_38 (by decide) ?_
    refine h_cV0 (as := [.int 40]) (S1 := []) (d' := 0) dX6_atom2_40 mf_X6_isSign ml_X6_210 mv_X6_isSign q6 rfl (hp_at (px_ltM (by decide)) (c48 _)) rfl (Nat.le_of_ble_eq_true rfl) rfl (Nat.le_of_ble_eq_true rfl) ⟨Nat.zero_le _, Nat.zero_le _⟩ (fun b hb => k_X6_isSign hb) (fun b11 hb11 => ?_)
    refine o_ifeq (tgt := 95) dX6_atom2_43 (by decide) (fun u12 => ?_) (fun u12 => ?_)
    · refine o_aload_n dX6_atom2_95 rfl ?_
      refine h_get (v := .int (st 48 29)) dX6_atom2_96 q6 fl_X6_169 (by decide) (px_ltM (by decide)) (c48 _) rfl ?_
      refine o_ifne (tgt := 123) dX6_atom2_99 (by decide) (fun u13 => ?_) (fun u13 => ?_)
      · exact (t_X6_atom2_123 T 0 st)
      · refine o_aload_n dX6_atom2_102 rfl ?_
        refine h_get (v := .int (st 48 25)) dX6_atom2_103 q6 fl_X6_152 (by decide) (px_ltM (by decide)) (c48 _) rfl ?_
        refine o_iconst (v := 2) dX6_atom2_106 (by decide) ?_
        refine o_icmpne (tgt := 123) dX6_atom2_107 (by decide) (fun u14 => ?_) (fun u14 => ?_)
        · exact (t_X6_atom2_123 T 0 st)
        · refine o_aload_n dX6_atom2_110 rfl ?_
          refine h_get (v := .long (st 48 27).toInt64) dX6_atom2_111 q6 fl_X6_163 (by decide) (px_ltM (by decide)) (c48 _) rfl ?_
          refine o_l2i dX6_atom2_114 ?_
          refine o_istore_n (L' := [some (.ref 48), some (.int (st 48 27).toInt64.toInt32)]) dX6_atom2_115 (Nat.le_of_ble_eq_true rfl) rfl rfl ?_
          refine o_aload_n dX6_atom2_116 rfl ?_
          refine h_cVv (as := []) (S1 := []) (d' := 1) dX6_atom2_117 mf_X6_next ml_X6_185 mv_X6_next q6 rfl (hp_at (px_ltM (by decide)) (c48 _)) rfl (Nat.le_of_ble_eq_true rfl) rfl (Nat.le_of_ble_eq_true rfl) (fun b hb => k_X6_next hb) (fun b15 hb15 => ?_)
          refine o_goto (tgt := 161) dX6_atom2_120 (by decide) ?_
          refine o_iload_n dX6_atom2_161 rfl ?_
          exact o_iret (rt := .int) rfl rfl dX6_atom2_162 rfl (Nat.zero_le _) (Nat.zero_le _)
    · refine o_aload_n dX6_atom2_46 rfl ?_
      refine h_cVi (as := []) (S1 := []) (d' := 2) dX6_atom2_47 mf_X6_opens ml_X6_213 mv_X6_opens q6 rfl (hp_at (px_ltM (by decide)) (c48 _)) rfl (Nat.le_of_ble_eq_true rfl) rfl (Nat.le_of_ble_eq_true rfl) (fun b hb => k_X6_opens hb) (fun b16 hb16 => ?_)
      refine o_ifeq (tgt := 161) dX6_atom2_50 (by decide) (fun u17 => ?_) (fun u17 => ?_)
      · refine o_iload_n dX6_atom2_161 rfl ?_
        exact o_iret (rt := .int) rfl rfl dX6_atom2_162 rfl (Nat.zero_le _) (Nat.zero_le _)
      · refine o_aload_n dX6_atom2_53 rfl ?_
        refine h_cVi (as := []) (S1 := []) (d' := 21) dX6_atom2_54 mf_X6_either3 ml_X6_276 mv_X6_either3 q6 rfl (hp_at (px_ltM (by decide)) (c48 _)) rfl (Nat.le_of_ble_eq_true rfl) rfl (Nat.le_of_ble_eq_true rfl) (fun b hb => k_X6_either3 hb) (fun b18 hb18 => ?_)
        refine o_istore_n (L' := [some (.ref 48), some (.int b18.1)]) dX6_atom2_57 (Nat.le_of_ble_eq_true rfl) rfl rfl ?_
        refine o_aload_n dX6_atom2_58 rfl ?_
        refine o_bipush (v := 41) dX6_atom2_59 (by decide) ?_
        refine h_cV0 (as := [.int 41]) (S1 := []) (d' := 0) dX6_atom2_61 mf_X6_isSign ml_X6_210 mv_X6_isSign q6 rfl (hp_at (px_ltM (by decide)) (c48 _)) rfl (Nat.le_of_ble_eq_true rfl) rfl (Nat.le_of_ble_eq_true rfl) ⟨Nat.zero_le _, Nat.zero_le _⟩ (fun b hb => k_X6_isSign hb) (fun b19 hb19 => ?_)
        refine o_ifne (tgt := 71) dX6_atom2_64 (by decide) (fun u20 => ?_) (fun u20 => ?_)
        · exact (t_X6_atom2_71 T b18.1 b18.2)
        · refine o_aload_n dX6_atom2_67 rfl ?_
          refine h_cVv (as := []) (S1 := []) (d' := 0) dX6_atom2_68 mf_X6_fail ml_X6_182 mv_X6_fail q6 rfl (hp_at (px_ltM (by decide)) (c48 _)) rfl (Nat.le_of_ble_eq_true rfl) rfl (Nat.le_of_ble_eq_true rfl) (fun b hb => k_X6_fail hb) (fun b21 hb21 => ?_)
          exact (t_X6_atom2_71 T b18.1 b21)
  · refine o_aload_n dX6_atom2_11 rfl ?_
    refine h_cVi (as := []) (S1 := []) (d' := 2) dX6_atom2_12 mf_X6_opens ml_X6_213 mv_X6_opens q6 rfl (hp_at (px_ltM (by decide)) (c48 _)) rfl (Nat.le_of_ble_eq_true rfl) rfl (Nat.le_of_ble_eq_true rfl) (fun b hb => k_X6_opens hb) (fun b22 hb22 => ?_)
    refine o_ifeq (tgt := 161) dX6_atom2_15 (by decide) (fun u23 => ?_) (fun u23 => ?_)
    · refine o_iload_n dX6_atom2_161 rfl ?_
      exact o_iret (rt := .int) rfl rfl dX6_atom2_162 rfl (Nat.zero_le _) (Nat.zero_le _)
    · refine o_aload_n dX6_atom2_18 rfl ?_
      refine h_cVi (as := []) (S1 := []) (d' := 16) dX6_atom2_19 mf_X6_atom3 ml_X6_261 mv_X6_atom3 q6 rfl (hp_at (px_ltM (by decide)) (c48 _)) rfl (Nat.le_of_ble_eq_true rfl) rfl (Nat.le_of_ble_eq_true rfl) (fun b hb => k_X6_atom3 hb) (fun b24 hb24 => ?_)
      refine o_ineg dX6_atom2_22 ?_
      refine o_istore_n (L' := [some (.ref 48), some (.int (-b24.1))]) dX6_atom2_23 (Nat.le_of_ble_eq_true rfl) rfl rfl ?_
      refine o_aload_n dX6_atom2_24 rfl ?_
      refine o_dup dX6_atom2_25 rfl ?_
      refine h_get (v := .int (b24.2 48 28)) dX6_atom2_26 q6 fl_X6_179 (by decide) (px_ltM (by decide)) (c48 _) rfl ?_
      refine o_iconst (v := 1) dX6_atom2_29 (by decide) ?_
      refine o_isub dX6_atom2_30 ?_
      refine h_puti dX6_atom2_31 q6 fl_X6_179 pf_X6_28 (px_ltM (by decide)) (c48 _) (Nat.le_of_ble_eq_true rfl) (s48_28 _ _) ?_
      refine o_goto (tgt := 161) dX6_atom2_34 (by decide) ?_
      refine o_iload_n dX6_atom2_161 rfl ?_
      exact o_iret (rt := .int) rfl rfl dX6_atom2_162 rfl (Nat.zero_le _) (Nat.zero_le _)
theorem k_X6_atom2 {T : Nat} {st : px_S} {b : Int32 × px_S} (hf : f_X6_atom2 T st = some b) : px_K (22) 0 0 m_X6_atom2 [.ref 48] (HP (T + 2) st) ((px_gi (T + 2)) b).1 ((px_gi (T + 2)) b).2 := px_KofH hf mf_X6_atom2 (Nat.le_of_ble_eq_true rfl) rfl (t_X6_atom2 T st)
/-! ThreeOfThemModel.term2()I: S, depth 23 -/
def f_X6_term2_5 (T : Nat) : Nat → Int32 → px_S → Option (Int32 × px_S)
  | 0, _, _ => none
  | n + 1, y1, st => ((f_X6_isSign T st 42).bind fun b1 => (if b1 = 0 then (some (y1, st)) else ((f_X6_next T st).bind fun b3 => ((f_X6_atom2 T b3).bind fun b4 => ((f_X6_term2_5 T n) (y1 * b4.1) b4.2)))))
set_option maxRecDepth 20000 in
theorem t_X6_term2_5 (T : Nat) : ∀ (n : Nat) (y1 : Int32) (st : px_S), px_O (23, 0, 0, px_n (T + 2), m_X6_term2) (px_gi (T + 2)) (f_X6_term2_5 T n y1 st) 5 [some (.ref 48), some (.int y1)] [] (HP (T + 2) st) 0 0 := by
  intro n
  induction n with
  | zero => intro y1 st; rw [f_X6_term2_5]; exact o_none
  | succ n ih =>
    intro y1 st
    rw [f_X6_term2_5]
    refine o_aload_n dX6_term2_5 rfl ?_
    refine o_bipush (v := 42) dX6_term2_6 (by decide) ?_
    refine h_cV0 (as := [.int 42]) (S1 := []) (d' := 0) dX6_term2_8 mf_X6_isSign ml_X6_210 mv_X6_isSign q6 rfl (hp_at (px_ltM (by decide)) (c48 _)) rfl (Nat.le_of_ble_eq_true rfl) rfl (Nat.le_of_ble_eq_true rfl) ⟨Nat.zero_le _, Nat.zero_le _⟩ (fun b hb => k_X6_isSign hb) (fun b1 hb1 => ?_)
    refine o_ifeq (tgt := 28) dX6_term2_11 (by decide) (fun u2 => ?_) (fun u2 => ?_)
    · refine o_iload_n dX6_term2_28 rfl ?_
      exact o_iret (rt := .int) rfl rfl dX6_term2_29 rfl (Nat.zero_le _) (Nat.zero_le _)
    · refine o_aload_n dX6_term2_14 rfl ?_
      refine h_cVv (as := []) (S1 := []) (d' := 1) dX6_term2_15 mf_X6_next ml_X6_185 mv_X6_next q6 rfl (hp_at (px_ltM (by decide)) (c48 _)) rfl (Nat.le_of_ble_eq_true rfl) rfl (Nat.le_of_ble_eq_true rfl) (fun b hb => k_X6_next hb) (fun b3 hb3 => ?_)
      refine o_iload_n dX6_term2_18 rfl ?_
      refine o_aload_n dX6_term2_19 rfl ?_
      refine h_cVi (as := []) (S1 := [.int y1]) (d' := 22) dX6_term2_20 mf_X6_atom2 ml_X6_279 mv_X6_atom2 q6 rfl (hp_at (px_ltM (by decide)) (c48 _)) rfl (Nat.le_of_ble_eq_true rfl) rfl (Nat.le_of_ble_eq_true rfl) (fun b hb => k_X6_atom2 hb) (fun b4 hb4 => ?_)
      refine o_imul dX6_term2_23 ?_
      refine o_istore_n (L' := [some (.ref 48), some (.int (y1 * b4.1))]) dX6_term2_24 (Nat.le_of_ble_eq_true rfl) rfl rfl ?_
      refine o_goto (tgt := 5) dX6_term2_25 (by decide) ?_
      exact (ih (y1 * b4.1) b4.2)
def f_X6_term2 (T : Nat) (st : px_S) : Option (Int32 × px_S) := ((f_X6_atom2 T st).bind fun b5 => (f_X6_term2_5 T 1000 b5.1 b5.2))
set_option maxRecDepth 20000 in
theorem t_X6_term2 (T : Nat) (st : px_S) : px_O (23, 0, 0, px_n (T + 2), m_X6_term2) (px_gi (T + 2)) (f_X6_term2 T st) 0 [some (.ref 48), none] [] (HP (T + 2) st) 0 0 := by
  rw [f_X6_term2]
  refine o_aload_n dX6_term2_0 rfl ?_
  refine h_cVi (as := []) (S1 := []) (d' := 22) dX6_term2_1 mf_X6_atom2 ml_X6_279 mv_X6_atom2 q6 rfl (hp_at (px_ltM (by decide)) (c48 _)) rfl (Nat.le_of_ble_eq_true rfl) rfl (Nat.le_of_ble_eq_true rfl) (fun b hb => k_X6_atom2 hb) (fun b5 hb5 => ?_)
  refine o_istore_n (L' := [some (.ref 48), some (.int b5.1)]) dX6_term2_4 (Nat.le_of_ble_eq_true rfl) rfl rfl ?_
  exact (t_X6_term2_5 T 1000 b5.1 b5.2)
theorem k_X6_term2 {T : Nat} {st : px_S} {b : Int32 × px_S} (hf : f_X6_term2 T st = some b) : px_K (23) 0 0 m_X6_term2 [.ref 48] (HP (T + 2) st) ((px_gi (T + 2)) b).1 ((px_gi (T + 2)) b).2 := px_KofH hf mf_X6_term2 (Nat.le_of_ble_eq_true rfl) rfl (t_X6_term2 T st)
/-! ThreeOfThemModel.added2()I: S, depth 24 -/
def f_X6_added2_39 (T : Nat) (k5 : Int32 → px_S → Option (Int32 × px_S)) (y1 : Int32) (z0 : Int32) (st : px_S) : Option (Int32 × px_S) := ((f_X6_next T st).bind fun b1 => ((f_X6_term2 T b1).bind fun b2 => (if z0 = 0 then (k5 (y1 - b2.1) b2.2) else (k5 (y1 + b2.1) b2.2))))
set_option maxRecDepth 20000 in
theorem t_X6_added2_39 (T : Nat) (k5 : Int32 → px_S → Option (Int32 × px_S)) (hk5 : ∀ (y1 : Int32) (st : px_S), px_O (24, 0, 0, px_n (T + 2), m_X6_added2) (px_gi (T + 2)) (k5 y1 st) 5 [some (.ref 48), some (.int y1), none, none] [] (HP (T + 2) st) 0 0) (y1 : Int32) (z0 : Int32) (st : px_S) : px_O (24, 0, 0, px_n (T + 2), m_X6_added2) (px_gi (T + 2)) (f_X6_added2_39 T k5 y1 z0 st) 39 [some (.ref 48), some (.int y1), none, none] [.int z0] (HP (T + 2) st) 0 0 := by
  rw [f_X6_added2_39]
  refine o_istore_n (L' := [some (.ref 48), some (.int y1), some (.int z0), none]) dX6_added2_39 (Nat.le_of_ble_eq_true rfl) rfl rfl ?_
  refine o_aload_n dX6_added2_40 rfl ?_
  refine h_cVv (as := []) (S1 := []) (d' := 1) dX6_added2_41 mf_X6_next ml_X6_185 mv_X6_next q6 rfl (hp_at (px_ltM (by decide)) (c48 _)) rfl (Nat.le_of_ble_eq_true rfl) rfl (Nat.le_of_ble_eq_true rfl) (fun b hb => k_X6_next hb) (fun b1 hb1 => ?_)
  refine o_aload_n dX6_added2_44 rfl ?_
  refine h_cVi (as := []) (S1 := []) (d' := 23) dX6_added2_45 mf_X6_term2 ml_X6_282 mv_X6_term2 q6 rfl (hp_at (px_ltM (by decide)) (c48 _)) rfl (Nat.le_of_ble_eq_true rfl) rfl (Nat.le_of_ble_eq_true rfl) (fun b hb => k_X6_term2 hb) (fun b2 hb2 => ?_)
  refine o_istore_n (L' := [some (.ref 48), some (.int y1), some (.int z0), some (.int b2.1)]) dX6_added2_48 (Nat.le_of_ble_eq_true rfl) rfl rfl ?_
  refine o_iload_n dX6_added2_49 rfl ?_
  refine o_ifeq (tgt := 59) dX6_added2_50 (by decide) (fun u3 => ?_) (fun u3 => ?_)
  · refine o_iload_n dX6_added2_59 rfl ?_
    refine o_iload_n dX6_added2_60 rfl ?_
    refine o_isub dX6_added2_61 ?_
    refine o_istore_n (L' := [some (.ref 48), some (.int (y1 - b2.1)), some (.int z0), some (.int b2.1)]) dX6_added2_62 (Nat.le_of_ble_eq_true rfl) rfl rfl ?_
    refine o_goto (tgt := 5) dX6_added2_63 (by decide) ?_
    exact o_weak (L' := [some (.ref 48), some (.int (y1 - b2.1)), none, none]) ⟨rfl, ⟨rfl, trivial⟩⟩ (hk5 (y1 - b2.1) b2.2)
  · refine o_iload_n dX6_added2_53 rfl ?_
    refine o_iload_n dX6_added2_54 rfl ?_
    refine o_iadd dX6_added2_55 ?_
    refine o_goto (tgt := 62) dX6_added2_56 (by decide) ?_
    refine o_istore_n (L' := [some (.ref 48), some (.int (y1 + b2.1)), some (.int z0), some (.int b2.1)]) dX6_added2_62 (Nat.le_of_ble_eq_true rfl) rfl rfl ?_
    refine o_goto (tgt := 5) dX6_added2_63 (by decide) ?_
    exact o_weak (L' := [some (.ref 48), some (.int (y1 + b2.1)), none, none]) ⟨rfl, ⟨rfl, trivial⟩⟩ (hk5 (y1 + b2.1) b2.2)
def f_X6_added2_23 (T : Nat) (k5 : Int32 → px_S → Option (Int32 × px_S)) (y1 : Int32) (st : px_S) : Option (Int32 × px_S) := (if (lg_cmp (st 48 27).toInt64 43) = 0 then (f_X6_added2_39 T k5 y1 1 st) else (f_X6_added2_39 T k5 y1 0 st))
set_option maxRecDepth 20000 in
theorem t_X6_added2_23 (T : Nat) (k5 : Int32 → px_S → Option (Int32 × px_S)) (hk5 : ∀ (y1 : Int32) (st : px_S), px_O (24, 0, 0, px_n (T + 2), m_X6_added2) (px_gi (T + 2)) (k5 y1 st) 5 [some (.ref 48), some (.int y1), none, none] [] (HP (T + 2) st) 0 0) (y1 : Int32) (st : px_S) : px_O (24, 0, 0, px_n (T + 2), m_X6_added2) (px_gi (T + 2)) (f_X6_added2_23 T k5 y1 st) 23 [some (.ref 48), some (.int y1), none, none] [] (HP (T + 2) st) 0 0 := by
  rw [f_X6_added2_23]
  refine o_aload_n dX6_added2_23 rfl ?_
  refine h_get (v := .long (st 48 27).toInt64) dX6_added2_24 q6 fl_X6_163 (by decide) (px_ltM (by decide)) (c48 _) rfl ?_
  refine o_ldc2 (v := 43) dX6_added2_27 cst_X6_227 ?_
  refine o_lcmp dX6_added2_30 ?_
  refine o_ifne (tgt := 38) dX6_added2_31 (by decide) (fun u4 => ?_) (fun u4 => ?_)
  · refine o_iconst (v := 0) dX6_added2_38 (by decide) ?_
    exact (t_X6_added2_39 T k5 hk5 y1 0 st)
  · refine o_iconst (v := 1) dX6_added2_34 (by decide) ?_
    refine o_goto (tgt := 39) dX6_added2_35 (by decide) ?_
    exact (t_X6_added2_39 T k5 hk5 y1 1 st)
def f_X6_added2_5 (T : Nat) : Nat → Int32 → px_S → Option (Int32 × px_S)
  | 0, _, _ => none
  | n + 1, y1, st => ((f_X6_isSign T st 43).bind fun b5 => (if b5 = 0 then ((f_X6_isSign T st 45).bind fun b7 => (if b7 = 0 then (some (y1, st)) else (f_X6_added2_23 T (f_X6_added2_5 T n) y1 st))) else (f_X6_added2_23 T (f_X6_added2_5 T n) y1 st)))
set_option maxRecDepth 20000 in
theorem t_X6_added2_5 (T : Nat) : ∀ (n : Nat) (y1 : Int32) (st : px_S), px_O (24, 0, 0, px_n (T + 2), m_X6_added2) (px_gi (T + 2)) (f_X6_added2_5 T n y1 st) 5 [some (.ref 48), some (.int y1), none, none] [] (HP (T + 2) st) 0 0 := by
  intro n
  induction n with
  | zero => intro y1 st; rw [f_X6_added2_5]; exact o_none
  | succ n ih =>
    intro y1 st
    rw [f_X6_added2_5]
    refine o_aload_n dX6_added2_5 rfl ?_
    refine o_bipush (v := 43) dX6_added2_6 (by decide) ?_
    refine h_cV0 (as := [.int 43]) (S1 := []) (d' := 0) dX6_added2_8 mf_X6_isSign ml_X6_210 mv_X6_isSign q6 rfl (hp_at (px_ltM (by decide)) (c48 _)) rfl (Nat.le_of_ble_eq_true rfl) rfl (Nat.le_of_ble_eq_true rfl) ⟨Nat.zero_le _, Nat.zero_le _⟩ (fun b hb => k_X6_isSign hb) (fun b5 hb5 => ?_)
    refine o_ifne (tgt := 23) dX6_added2_11 (by decide) (fun u6 => ?_) (fun u6 => ?_)
    · exact (t_X6_added2_23 T (f_X6_added2_5 T n) ih y1 st)
    · refine o_aload_n dX6_added2_14 rfl ?_
      refine o_bipush (v := 45) dX6_added2_15 (by decide) ?_
      refine h_cV0 (as := [.int 45]) (S1 := []) (d' := 0) dX6_added2_17 mf_X6_isSign ml_X6_210 mv_X6_isSign q6 rfl (hp_at (px_ltM (by decide)) (c48 _)) rfl (Nat.le_of_ble_eq_true rfl) rfl (Nat.le_of_ble_eq_true rfl) ⟨Nat.zero_le _, Nat.zero_le _⟩ (fun b hb => k_X6_isSign hb) (fun b7 hb7 => ?_)
      refine o_ifeq (tgt := 66) dX6_added2_20 (by decide) (fun u8 => ?_) (fun u8 => ?_)
      · refine o_iload_n dX6_added2_66 rfl ?_
        exact o_iret (rt := .int) rfl rfl dX6_added2_67 rfl (Nat.zero_le _) (Nat.zero_le _)
      · exact (t_X6_added2_23 T (f_X6_added2_5 T n) ih y1 st)
def f_X6_added2 (T : Nat) (st : px_S) : Option (Int32 × px_S) := ((f_X6_term2 T st).bind fun b9 => (f_X6_added2_5 T 1000 b9.1 b9.2))
set_option maxRecDepth 20000 in
theorem t_X6_added2 (T : Nat) (st : px_S) : px_O (24, 0, 0, px_n (T + 2), m_X6_added2) (px_gi (T + 2)) (f_X6_added2 T st) 0 [some (.ref 48), none, none, none] [] (HP (T + 2) st) 0 0 := by
  rw [f_X6_added2]
  refine o_aload_n dX6_added2_0 rfl ?_
  refine h_cVi (as := []) (S1 := []) (d' := 23) dX6_added2_1 mf_X6_term2 ml_X6_282 mv_X6_term2 q6 rfl (hp_at (px_ltM (by decide)) (c48 _)) rfl (Nat.le_of_ble_eq_true rfl) rfl (Nat.le_of_ble_eq_true rfl) (fun b hb => k_X6_term2 hb) (fun b9 hb9 => ?_)
  refine o_istore_n (L' := [some (.ref 48), some (.int b9.1), none, none]) dX6_added2_4 (Nat.le_of_ble_eq_true rfl) rfl rfl ?_
  exact (t_X6_added2_5 T 1000 b9.1 b9.2)
theorem k_X6_added2 {T : Nat} {st : px_S} {b : Int32 × px_S} (hf : f_X6_added2 T st = some b) : px_K (24) 0 0 m_X6_added2 [.ref 48] (HP (T + 2) st) ((px_gi (T + 2)) b).1 ((px_gi (T + 2)) b).2 := px_KofH hf mf_X6_added2 (Nat.le_of_ble_eq_true rfl) rfl (t_X6_added2 T st)
/-! ThreeOfThemModel.not2()I: S, depth 25 -/
def f_X6_not2_93 (T : Nat) (y1 : Int32) (z0 : Int32) (st : px_S) : Option (Int32 × px_S) := ((f_X6_next T st).bind fun b1 => ((f_X6_added2 T b1).bind fun b2 => (if z0 = 0 then (if y1 = b2.1 then (some (1, b2.2)) else (some (0, b2.2))) else (if y1 < b2.1 then (some (1, b2.2)) else (some (0, b2.2))))))
set_option maxRecDepth 20000 in
theorem t_X6_not2_93 (T : Nat) (y1 : Int32) (z0 : Int32) (st : px_S) : px_O (25, 0, 0, px_n (T + 2), m_X6_not2) (px_gi (T + 2)) (f_X6_not2_93 T y1 z0 st) 93 [some (.ref 48), some (.int y1), none, none] [.int z0] (HP (T + 2) st) 0 0 := by
  rw [f_X6_not2_93]
  refine o_istore_n (L' := [some (.ref 48), some (.int y1), some (.int z0), none]) dX6_not2_93 (Nat.le_of_ble_eq_true rfl) rfl rfl ?_
  refine o_aload_n dX6_not2_94 rfl ?_
  refine h_cVv (as := []) (S1 := []) (d' := 1) dX6_not2_95 mf_X6_next ml_X6_185 mv_X6_next q6 rfl (hp_at (px_ltM (by decide)) (c48 _)) rfl (Nat.le_of_ble_eq_true rfl) rfl (Nat.le_of_ble_eq_true rfl) (fun b hb => k_X6_next hb) (fun b1 hb1 => ?_)
  refine o_aload_n dX6_not2_98 rfl ?_
  refine h_cVi (as := []) (S1 := []) (d' := 24) dX6_not2_99 mf_X6_added2 ml_X6_285 mv_X6_added2 q6 rfl (hp_at (px_ltM (by decide)) (c48 _)) rfl (Nat.le_of_ble_eq_true rfl) rfl (Nat.le_of_ble_eq_true rfl) (fun b hb => k_X6_added2 hb) (fun b2 hb2 => ?_)
  refine o_istore_n (L' := [some (.ref 48), some (.int y1), some (.int z0), some (.int b2.1)]) dX6_not2_102 (Nat.le_of_ble_eq_true rfl) rfl rfl ?_
  refine o_iload_n dX6_not2_103 rfl ?_
  refine o_ifeq (tgt := 115) dX6_not2_104 (by decide) (fun u3 => ?_) (fun u3 => ?_)
  · refine o_iload_n dX6_not2_115 rfl ?_
    refine o_iload_n dX6_not2_116 rfl ?_
    refine o_icmpne (tgt := 124) dX6_not2_117 (by decide) (fun u4 => ?_) (fun u4 => ?_)
    · refine o_iconst (v := 0) dX6_not2_124 (by decide) ?_
      exact o_iret (rt := .int) rfl rfl dX6_not2_125 rfl (Nat.zero_le _) (Nat.zero_le _)
    · refine o_iconst (v := 1) dX6_not2_120 (by decide) ?_
      refine o_goto (tgt := 125) dX6_not2_121 (by decide) ?_
      exact o_iret (rt := .int) rfl rfl dX6_not2_125 rfl (Nat.zero_le _) (Nat.zero_le _)
  · refine o_iload_n dX6_not2_107 rfl ?_
    refine o_iload_n dX6_not2_108 rfl ?_
    refine o_icmpge (tgt := 124) dX6_not2_109 (by decide) (fun u5 => ?_) (fun u5 => ?_)
    · refine o_iconst (v := 0) dX6_not2_124 (by decide) ?_
      exact o_iret (rt := .int) rfl rfl dX6_not2_125 rfl (Nat.zero_le _) (Nat.zero_le _)
    · refine o_goto (tgt := 120) dX6_not2_112 (by decide) ?_
      refine o_iconst (v := 1) dX6_not2_120 (by decide) ?_
      refine o_goto (tgt := 125) dX6_not2_121 (by decide) ?_
      exact o_iret (rt := .int) rfl rfl dX6_not2_125 rfl (Nat.zero_le _) (Nat.zero_le _)
def f_X6_not2_77 (T : Nat) (y1 : Int32) (st : px_S) : Option (Int32 × px_S) := (if (lg_cmp (st 48 27).toInt64 60) = 0 then (f_X6_not2_93 T y1 1 st) else (f_X6_not2_93 T y1 0 st))
set_option maxRecDepth 20000 in
theorem t_X6_not2_77 (T : Nat) (y1 : Int32) (st : px_S) : px_O (25, 0, 0, px_n (T + 2), m_X6_not2) (px_gi (T + 2)) (f_X6_not2_77 T y1 st) 77 [some (.ref 48), some (.int y1), none, none] [] (HP (T + 2) st) 0 0 := by
  rw [f_X6_not2_77]
  refine o_aload_n dX6_not2_77 rfl ?_
  refine h_get (v := .long (st 48 27).toInt64) dX6_not2_78 q6 fl_X6_163 (by decide) (px_ltM (by decide)) (c48 _) rfl ?_
  refine o_ldc2 (v := 60) dX6_not2_81 cst_X6_232 ?_
  refine o_lcmp dX6_not2_84 ?_
  refine o_ifne (tgt := 92) dX6_not2_85 (by decide) (fun u6 => ?_) (fun u6 => ?_)
  · refine o_iconst (v := 0) dX6_not2_92 (by decide) ?_
    exact (t_X6_not2_93 T y1 0 st)
  · refine o_iconst (v := 1) dX6_not2_88 (by decide) ?_
    refine o_goto (tgt := 93) dX6_not2_89 (by decide) ?_
    exact (t_X6_not2_93 T y1 1 st)
def f_X6_not2 (T : Nat) (st : px_S) : Option (Int32 × px_S) := ((f_X6_isWord T st 110 111 116 0 0 0 0 0).bind fun b7 => (if b7 = 0 then ((f_X6_added2 T st).bind fun b9 => ((f_X6_isSign T b9.2 60).bind fun b10 => (if b10 = 0 then ((f_X6_isSign T b9.2 61).bind fun b12 => (if b12 = 0 then (some (b9.1, b9.2)) else (f_X6_not2_77 T b9.1 b9.2))) else (f_X6_not2_77 T b9.1 b9.2)))) else ((f_X6_opens T st).bind fun b14 => (if b14.1 = 0 then (some (0, b14.2)) else ((f_X6_not3 T b14.2).bind fun b16 => (if b16.1 = 0 then (some (1, (up b16.2 48 28 ((b16.2 48 28) - 1)))) else (some (0, (up b16.2 48 28 ((b16.2 48 28) - 1))))))))))
set_option maxRecDepth 20000 in
theorem t_X6_not2 (T : Nat) (st : px_S) : px_O (25, 0, 0, px_n (T + 2), m_X6_not2) (px_gi (T + 2)) (f_X6_not2 T st) 0 [some (.ref 48), none, none, none] [] (HP (T + 2) st) 0 0 := by
  rw [f_X6_not2]
  refine o_aload_n dX6_not2_0 rfl ?_
  refine o_bipush (v := 110) dX6_not2_1 (by decide) ?_
  refine o_bipush (v := 111) dX6_not2_3 (by decide) ?_
  refine o_bipush (v := 116) dX6_not2_5 (by decide) ?_
  refine o_iconst (v := 0) dX6_not2_7 (by decide) ?_
  refine o_iconst (v := 0) dX6_not2_8 (by decide) ?_
  refine o_iconst (v := 0) dX6_not2_9 (by decide) ?_
  refine o_iconst (v := 0) dX6_not2_10 (by decide) ?_
  refine o_iconst (v := 0) dX6_not2_11 (by decide) ?_
  refine h_cV0 (as := [.int 110, .int 111, .int 116, .int 0, .int 0, .int 0, .int 0, .int 0]) (S1 := []) (d' := 2) dX6_not2_12 mf_X6_isWord ml_X6_188 mv_X6_isWord q6 rfl (hp_at (px_ltM (by decide)) (c48 _)) rfl (Nat.le_of_ble_eq_true rfl) rfl (Nat.le_of_ble_eq_true rfl) ⟨Nat.zero_le _, Nat.zero_le _⟩ (fun b hb => k_X6_isWord hb) (fun b7 hb7 => ?_)
  refine o_ifeq (tgt := 52) dX6_not2_15 (by decide) (fun u8 => ?_) (fun u8 => ?_)
  · refine o_aload_n dX6_not2_52 rfl ?_
    refine h_cVi (as := []) (S1 := []) (d' := 24) dX6_not2_53 mf_X6_added2 ml_X6_285 mv_X6_added2 q6 rfl (hp_at (px_ltM (by decide)) (c48 _)) rfl (Nat.le_of_ble_eq_true rfl) rfl (Nat.le_of_ble_eq_true rfl) (fun b hb => k_X6_added2 hb) (fun b9 hb9 => ?_)
    refine o_istore_n (L' := [some (.ref 48), some (.int b9.1), none, none]) dX6_not2_56 (Nat.le_of_ble_eq_true rfl) rfl rfl ?_
    refine o_aload_n dX6_not2_57 rfl ?_
    refine o_bipush (v := 60) dX6_not2_58 (by decide) ?_
    refine h_cV0 (as := [.int 60]) (S1 := []) (d' := 0) dX6_not2_60 mf_X6_isSign ml_X6_210 mv_X6_isSign q6 rfl (hp_at (px_ltM (by decide)) (c48 _)) rfl (Nat.le_of_ble_eq_true rfl) rfl (Nat.le_of_ble_eq_true rfl) ⟨Nat.zero_le _, Nat.zero_le _⟩ (fun b hb => k_X6_isSign hb) (fun b10 hb10 => ?_)
    refine o_ifne (tgt := 77) dX6_not2_63 (by decide) (fun u11 => ?_) (fun u11 => ?_)
    · exact (t_X6_not2_77 T b9.1 b9.2)
    · refine o_aload_n dX6_not2_66 rfl ?_
      refine o_bipush (v := 61) dX6_not2_67 (by decide) ?_
      refine h_cV0 (as := [.int 61]) (S1 := []) (d' := 0) dX6_not2_69 mf_X6_isSign ml_X6_210 mv_X6_isSign q6 rfl (hp_at (px_ltM (by decide)) (c48 _)) rfl (Nat.le_of_ble_eq_true rfl) rfl (Nat.le_of_ble_eq_true rfl) ⟨Nat.zero_le _, Nat.zero_le _⟩ (fun b hb => k_X6_isSign hb) (fun b12 hb12 => ?_)
      refine o_ifne (tgt := 77) dX6_not2_72 (by decide) (fun u13 => ?_) (fun u13 => ?_)
      · exact (t_X6_not2_77 T b9.1 b9.2)
      · refine o_iload_n dX6_not2_75 rfl ?_
        exact o_iret (rt := .int) rfl rfl dX6_not2_76 rfl (Nat.zero_le _) (Nat.zero_le _)
  · refine o_aload_n dX6_not2_18 rfl ?_
    refine h_cVi (as := []) (S1 := []) (d' := 2) dX6_not2_19 mf_X6_opens ml_X6_213 mv_X6_opens q6 rfl (hp_at (px_ltM (by decide)) (c48 _)) rfl (Nat.le_of_ble_eq_true rfl) rfl (Nat.le_of_ble_eq_true rfl) (fun b hb => k_X6_opens hb) (fun b14 hb14 => ?_)
    refine o_ifne (tgt := 27) dX6_not2_22 (by decide) (fun u15 => ?_) (fun u15 => ?_)
    · refine o_aload_n dX6_not2_27 rfl ?_
      refine h_cVi (as := []) (S1 := []) (d' := 19) dX6_not2_28 mf_X6_not3 ml_X6_270 mv_X6_not3 q6 rfl (hp_at (px_ltM (by decide)) (c48 _)) rfl (Nat.le_of_ble_eq_true rfl) rfl (Nat.le_of_ble_eq_true rfl) (fun b hb => k_X6_not3 hb) (fun b16 hb16 => ?_)
      refine o_istore_n (L' := [some (.ref 48), some (.int b16.1), none, none]) dX6_not2_31 (Nat.le_of_ble_eq_true rfl) rfl rfl ?_
      refine o_aload_n dX6_not2_32 rfl ?_
      refine o_dup dX6_not2_33 rfl ?_
      refine h_get (v := .int (b16.2 48 28)) dX6_not2_34 q6 fl_X6_179 (by decide) (px_ltM (by decide)) (c48 _) rfl ?_
      refine o_iconst (v := 1) dX6_not2_37 (by decide) ?_
      refine o_isub dX6_not2_38 ?_
      refine h_puti dX6_not2_39 q6 fl_X6_179 pf_X6_28 (px_ltM (by decide)) (c48 _) (Nat.le_of_ble_eq_true rfl) (s48_28 _ _) ?_
      refine o_iload_n dX6_not2_42 rfl ?_
      refine o_ifne (tgt := 50) dX6_not2_43 (by decide) (fun u17 => ?_) (fun u17 => ?_)
      · refine o_iconst (v := 0) dX6_not2_50 (by decide) ?_
        exact o_iret (rt := .int) rfl rfl dX6_not2_51 rfl (Nat.zero_le _) (Nat.zero_le _)
      · refine o_iconst (v := 1) dX6_not2_46 (by decide) ?_
        refine o_goto (tgt := 51) dX6_not2_47 (by decide) ?_
        exact o_iret (rt := .int) rfl rfl dX6_not2_51 rfl (Nat.zero_le _) (Nat.zero_le _)
    · refine o_iconst (v := 0) dX6_not2_25 (by decide) ?_
      exact o_iret (rt := .int) rfl rfl dX6_not2_26 rfl (Nat.zero_le _) (Nat.zero_le _)
theorem k_X6_not2 {T : Nat} {st : px_S} {b : Int32 × px_S} (hf : f_X6_not2 T st = some b) : px_K (25) 0 0 m_X6_not2 [.ref 48] (HP (T + 2) st) ((px_gi (T + 2)) b).1 ((px_gi (T + 2)) b).2 := px_KofH hf mf_X6_not2 (Nat.le_of_ble_eq_true rfl) rfl (t_X6_not2 T st)
/-! ThreeOfThemModel.both2()I: S, depth 26 -/
def f_X6_both2_5 (T : Nat) : Nat → Int32 → px_S → Option (Int32 × px_S)
  | 0, _, _ => none
  | n + 1, y1, st => ((f_X6_isWord T st 97 110 100 0 0 0 0 0).bind fun b1 => (if b1 = 0 then (some (y1, st)) else ((f_X6_next T st).bind fun b3 => ((f_X6_not2 T b3).bind fun b4 => (if y1 = 0 then ((f_X6_both2_5 T n) 0 b4.2) else (if b4.1 = 0 then ((f_X6_both2_5 T n) 0 b4.2) else ((f_X6_both2_5 T n) 1 b4.2)))))))
set_option maxRecDepth 20000 in
theorem t_X6_both2_5 (T : Nat) : ∀ (n : Nat) (y1 : Int32) (st : px_S), px_O (26, 0, 0, px_n (T + 2), m_X6_both2) (px_gi (T + 2)) (f_X6_both2_5 T n y1 st) 5 [some (.ref 48), some (.int y1), none] [] (HP (T + 2) st) 0 0 := by
  intro n
  induction n with
  | zero => intro y1 st; rw [f_X6_both2_5]; exact o_none
  | succ n ih =>
    intro y1 st
    rw [f_X6_both2_5]
    refine o_aload_n dX6_both2_5 rfl ?_
    refine o_bipush (v := 97) dX6_both2_6 (by decide) ?_
    refine o_bipush (v := 110) dX6_both2_8 (by decide) ?_
    refine o_bipush (v := 100) dX6_both2_10 (by decide) ?_
    refine o_iconst (v := 0) dX6_both2_12 (by decide) ?_
    refine o_iconst (v := 0) dX6_both2_13 (by decide) ?_
    refine o_iconst (v := 0) dX6_both2_14 (by decide) ?_
    refine o_iconst (v := 0) dX6_both2_15 (by decide) ?_
    refine o_iconst (v := 0) dX6_both2_16 (by decide) ?_
    refine h_cV0 (as := [.int 97, .int 110, .int 100, .int 0, .int 0, .int 0, .int 0, .int 0]) (S1 := []) (d' := 2) dX6_both2_17 mf_X6_isWord ml_X6_188 mv_X6_isWord q6 rfl (hp_at (px_ltM (by decide)) (c48 _)) rfl (Nat.le_of_ble_eq_true rfl) rfl (Nat.le_of_ble_eq_true rfl) ⟨Nat.zero_le _, Nat.zero_le _⟩ (fun b hb => k_X6_isWord hb) (fun b1 hb1 => ?_)
    refine o_ifeq (tgt := 49) dX6_both2_20 (by decide) (fun u2 => ?_) (fun u2 => ?_)
    · refine o_iload_n dX6_both2_49 rfl ?_
      exact o_iret (rt := .int) rfl rfl dX6_both2_50 rfl (Nat.zero_le _) (Nat.zero_le _)
    · refine o_aload_n dX6_both2_23 rfl ?_
      refine h_cVv (as := []) (S1 := []) (d' := 1) dX6_both2_24 mf_X6_next ml_X6_185 mv_X6_next q6 rfl (hp_at (px_ltM (by decide)) (c48 _)) rfl (Nat.le_of_ble_eq_true rfl) rfl (Nat.le_of_ble_eq_true rfl) (fun b hb => k_X6_next hb) (fun b3 hb3 => ?_)
      refine o_aload_n dX6_both2_27 rfl ?_
      refine h_cVi (as := []) (S1 := []) (d' := 25) dX6_both2_28 mf_X6_not2 ml_X6_288 mv_X6_not2 q6 rfl (hp_at (px_ltM (by decide)) (c48 _)) rfl (Nat.le_of_ble_eq_true rfl) rfl (Nat.le_of_ble_eq_true rfl) (fun b hb => k_X6_not2 hb) (fun b4 hb4 => ?_)
      refine o_istore_n (L' := [some (.ref 48), some (.int y1), some (.int b4.1)]) dX6_both2_31 (Nat.le_of_ble_eq_true rfl) rfl rfl ?_
      refine o_iload_n dX6_both2_32 rfl ?_
      refine o_ifeq (tgt := 44) dX6_both2_33 (by decide) (fun u5 => ?_) (fun u5 => ?_)
      · refine o_iconst (v := 0) dX6_both2_44 (by decide) ?_
        refine o_istore_n (L' := [some (.ref 48), some (.int 0), some (.int b4.1)]) dX6_both2_45 (Nat.le_of_ble_eq_true rfl) rfl rfl ?_
        refine o_goto (tgt := 5) dX6_both2_46 (by decide) ?_
        exact o_weak (L' := [some (.ref 48), some (.int 0), none]) ⟨rfl, ⟨rfl, trivial⟩⟩ (ih 0 b4.2)
      · refine o_iload_n dX6_both2_36 rfl ?_
        refine o_ifeq (tgt := 44) dX6_both2_37 (by decide) (fun u6 => ?_) (fun u6 => ?_)
        · refine o_iconst (v := 0) dX6_both2_44 (by decide) ?_
          refine o_istore_n (L' := [some (.ref 48), some (.int 0), some (.int b4.1)]) dX6_both2_45 (Nat.le_of_ble_eq_true rfl) rfl rfl ?_
          refine o_goto (tgt := 5) dX6_both2_46 (by decide) ?_
          exact o_weak (L' := [some (.ref 48), some (.int 0), none]) ⟨rfl, ⟨rfl, trivial⟩⟩ (ih 0 b4.2)
        · refine o_iconst (v := 1) dX6_both2_40 (by decide) ?_
          refine o_goto (tgt := 45) dX6_both2_41 (by decide) ?_
          refine o_istore_n (L' := [some (.ref 48), some (.int 1), some (.int b4.1)]) dX6_both2_45 (Nat.le_of_ble_eq_true rfl) rfl rfl ?_
          refine o_goto (tgt := 5) dX6_both2_46 (by decide) ?_
          exact o_weak (L' := [some (.ref 48), some (.int 1), none]) ⟨rfl, ⟨rfl, trivial⟩⟩ (ih 1 b4.2)
def f_X6_both2 (T : Nat) (st : px_S) : Option (Int32 × px_S) := ((f_X6_not2 T st).bind fun b7 => (f_X6_both2_5 T 1000 b7.1 b7.2))
set_option maxRecDepth 20000 in
theorem t_X6_both2 (T : Nat) (st : px_S) : px_O (26, 0, 0, px_n (T + 2), m_X6_both2) (px_gi (T + 2)) (f_X6_both2 T st) 0 [some (.ref 48), none, none] [] (HP (T + 2) st) 0 0 := by
  rw [f_X6_both2]
  refine o_aload_n dX6_both2_0 rfl ?_
  refine h_cVi (as := []) (S1 := []) (d' := 25) dX6_both2_1 mf_X6_not2 ml_X6_288 mv_X6_not2 q6 rfl (hp_at (px_ltM (by decide)) (c48 _)) rfl (Nat.le_of_ble_eq_true rfl) rfl (Nat.le_of_ble_eq_true rfl) (fun b hb => k_X6_not2 hb) (fun b7 hb7 => ?_)
  refine o_istore_n (L' := [some (.ref 48), some (.int b7.1), none]) dX6_both2_4 (Nat.le_of_ble_eq_true rfl) rfl rfl ?_
  exact (t_X6_both2_5 T 1000 b7.1 b7.2)
theorem k_X6_both2 {T : Nat} {st : px_S} {b : Int32 × px_S} (hf : f_X6_both2 T st = some b) : px_K (26) 0 0 m_X6_both2 [.ref 48] (HP (T + 2) st) ((px_gi (T + 2)) b).1 ((px_gi (T + 2)) b).2 := px_KofH hf mf_X6_both2 (Nat.le_of_ble_eq_true rfl) rfl (t_X6_both2 T st)
/-! ThreeOfThemModel.either2()I: S, depth 27 -/
def f_X6_either2_5 (T : Nat) : Nat → Int32 → px_S → Option (Int32 × px_S)
  | 0, _, _ => none
  | n + 1, y1, st => ((f_X6_isWord T st 111 114 0 0 0 0 0 0).bind fun b1 => (if b1 = 0 then (some (y1, st)) else ((f_X6_next T st).bind fun b3 => ((f_X6_both2 T b3).bind fun b4 => (if y1 = 0 then (if b4.1 = 0 then ((f_X6_either2_5 T n) 0 b4.2) else ((f_X6_either2_5 T n) 1 b4.2)) else ((f_X6_either2_5 T n) 1 b4.2))))))
set_option maxRecDepth 20000 in
theorem t_X6_either2_5 (T : Nat) : ∀ (n : Nat) (y1 : Int32) (st : px_S), px_O (27, 0, 0, px_n (T + 2), m_X6_either2) (px_gi (T + 2)) (f_X6_either2_5 T n y1 st) 5 [some (.ref 48), some (.int y1), none] [] (HP (T + 2) st) 0 0 := by
  intro n
  induction n with
  | zero => intro y1 st; rw [f_X6_either2_5]; exact o_none
  | succ n ih =>
    intro y1 st
    rw [f_X6_either2_5]
    refine o_aload_n dX6_either2_5 rfl ?_
    refine o_bipush (v := 111) dX6_either2_6 (by decide) ?_
    refine o_bipush (v := 114) dX6_either2_8 (by decide) ?_
    refine o_iconst (v := 0) dX6_either2_10 (by decide) ?_
    refine o_iconst (v := 0) dX6_either2_11 (by decide) ?_
    refine o_iconst (v := 0) dX6_either2_12 (by decide) ?_
    refine o_iconst (v := 0) dX6_either2_13 (by decide) ?_
    refine o_iconst (v := 0) dX6_either2_14 (by decide) ?_
    refine o_iconst (v := 0) dX6_either2_15 (by decide) ?_
    refine h_cV0 (as := [.int 111, .int 114, .int 0, .int 0, .int 0, .int 0, .int 0, .int 0]) (S1 := []) (d' := 2) dX6_either2_16 mf_X6_isWord ml_X6_188 mv_X6_isWord q6 rfl (hp_at (px_ltM (by decide)) (c48 _)) rfl (Nat.le_of_ble_eq_true rfl) rfl (Nat.le_of_ble_eq_true rfl) ⟨Nat.zero_le _, Nat.zero_le _⟩ (fun b hb => k_X6_isWord hb) (fun b1 hb1 => ?_)
    refine o_ifeq (tgt := 48) dX6_either2_19 (by decide) (fun u2 => ?_) (fun u2 => ?_)
    · refine o_iload_n dX6_either2_48 rfl ?_
      exact o_iret (rt := .int) rfl rfl dX6_either2_49 rfl (Nat.zero_le _) (Nat.zero_le _)
    · refine o_aload_n dX6_either2_22 rfl ?_
      refine h_cVv (as := []) (S1 := []) (d' := 1) dX6_either2_23 mf_X6_next ml_X6_185 mv_X6_next q6 rfl (hp_at (px_ltM (by decide)) (c48 _)) rfl (Nat.le_of_ble_eq_true rfl) rfl (Nat.le_of_ble_eq_true rfl) (fun b hb => k_X6_next hb) (fun b3 hb3 => ?_)
      refine o_aload_n dX6_either2_26 rfl ?_
      refine h_cVi (as := []) (S1 := []) (d' := 26) dX6_either2_27 mf_X6_both2 ml_X6_291 mv_X6_both2 q6 rfl (hp_at (px_ltM (by decide)) (c48 _)) rfl (Nat.le_of_ble_eq_true rfl) rfl (Nat.le_of_ble_eq_true rfl) (fun b hb => k_X6_both2 hb) (fun b4 hb4 => ?_)
      refine o_istore_n (L' := [some (.ref 48), some (.int y1), some (.int b4.1)]) dX6_either2_30 (Nat.le_of_ble_eq_true rfl) rfl rfl ?_
      refine o_iload_n dX6_either2_31 rfl ?_
      refine o_ifne (tgt := 39) dX6_either2_32 (by decide) (fun u5 => ?_) (fun u5 => ?_)
      · refine o_iconst (v := 1) dX6_either2_39 (by decide) ?_
        refine o_goto (tgt := 44) dX6_either2_40 (by decide) ?_
        refine o_istore_n (L' := [some (.ref 48), some (.int 1), some (.int b4.1)]) dX6_either2_44 (Nat.le_of_ble_eq_true rfl) rfl rfl ?_
        refine o_goto (tgt := 5) dX6_either2_45 (by decide) ?_
        exact o_weak (L' := [some (.ref 48), some (.int 1), none]) ⟨rfl, ⟨rfl, trivial⟩⟩ (ih 1 b4.2)
      · refine o_iload_n dX6_either2_35 rfl ?_
        refine o_ifeq (tgt := 43) dX6_either2_36 (by decide) (fun u6 => ?_) (fun u6 => ?_)
        · refine o_iconst (v := 0) dX6_either2_43 (by decide) ?_
          refine o_istore_n (L' := [some (.ref 48), some (.int 0), some (.int b4.1)]) dX6_either2_44 (Nat.le_of_ble_eq_true rfl) rfl rfl ?_
          refine o_goto (tgt := 5) dX6_either2_45 (by decide) ?_
          exact o_weak (L' := [some (.ref 48), some (.int 0), none]) ⟨rfl, ⟨rfl, trivial⟩⟩ (ih 0 b4.2)
        · refine o_iconst (v := 1) dX6_either2_39 (by decide) ?_
          refine o_goto (tgt := 44) dX6_either2_40 (by decide) ?_
          refine o_istore_n (L' := [some (.ref 48), some (.int 1), some (.int b4.1)]) dX6_either2_44 (Nat.le_of_ble_eq_true rfl) rfl rfl ?_
          refine o_goto (tgt := 5) dX6_either2_45 (by decide) ?_
          exact o_weak (L' := [some (.ref 48), some (.int 1), none]) ⟨rfl, ⟨rfl, trivial⟩⟩ (ih 1 b4.2)
def f_X6_either2 (T : Nat) (st : px_S) : Option (Int32 × px_S) := ((f_X6_both2 T st).bind fun b7 => (f_X6_either2_5 T 1000 b7.1 b7.2))
set_option maxRecDepth 20000 in
theorem t_X6_either2 (T : Nat) (st : px_S) : px_O (27, 0, 0, px_n (T + 2), m_X6_either2) (px_gi (T + 2)) (f_X6_either2 T st) 0 [some (.ref 48), none, none] [] (HP (T + 2) st) 0 0 := by
  rw [f_X6_either2]
  refine o_aload_n dX6_either2_0 rfl ?_
  refine h_cVi (as := []) (S1 := []) (d' := 26) dX6_either2_1 mf_X6_both2 ml_X6_291 mv_X6_both2 q6 rfl (hp_at (px_ltM (by decide)) (c48 _)) rfl (Nat.le_of_ble_eq_true rfl) rfl (Nat.le_of_ble_eq_true rfl) (fun b hb => k_X6_both2 hb) (fun b7 hb7 => ?_)
  refine o_istore_n (L' := [some (.ref 48), some (.int b7.1), none]) dX6_either2_4 (Nat.le_of_ble_eq_true rfl) rfl rfl ?_
  exact (t_X6_either2_5 T 1000 b7.1 b7.2)
theorem k_X6_either2 {T : Nat} {st : px_S} {b : Int32 × px_S} (hf : f_X6_either2 T st = some b) : px_K (27) 0 0 m_X6_either2 [.ref 48] (HP (T + 2) st) ((px_gi (T + 2)) b).1 ((px_gi (T + 2)) b).2 := px_KofH hf mf_X6_either2 (Nat.le_of_ble_eq_true rfl) rfl (t_X6_either2 T st)
/-! ThreeOfThemModel.atom1()I: S, depth 28 -/
def f_X6_atom1_157 (T : Nat) (y1 : Int32) (st : px_S) : Option (Int32 × px_S) := ((f_X6_fail T st).bind fun b1 => (some (y1, b1)))
set_option maxRecDepth 20000 in
theorem t_X6_atom1_157 (T : Nat) (y1 : Int32) (st : px_S) : px_O (28, 0, 0, px_n (T + 2), m_X6_atom1) (px_gi (T + 2)) (f_X6_atom1_157 T y1 st) 157 [some (.ref 48), some (.int y1)] [] (HP (T + 2) st) 0 0 := by
  rw [f_X6_atom1_157]
  refine o_aload_n dX6_atom1_157 rfl ?_
  refine h_cVv (as := []) (S1 := []) (d' := 0) dX6_atom1_158 mf_X6_fail ml_X6_182 mv_X6_fail q6 rfl (hp_at (px_ltM (by decide)) (c48 _)) rfl (Nat.le_of_ble_eq_true rfl) rfl (Nat.le_of_ble_eq_true rfl) (fun b hb => k_X6_fail hb) (fun b1 hb1 => ?_)
  refine o_iload_n dX6_atom1_161 rfl ?_
  exact o_iret (rt := .int) rfl rfl dX6_atom1_162 rfl (Nat.zero_le _) (Nat.zero_le _)
def f_X6_atom1_123 (T : Nat) (y1 : Int32) (st : px_S) : Option (Int32 × px_S) := (if (st 48 29) = 0 then (if (st 48 25) = 1 then ((f_X6_name T st).bind fun b4 => (if (b4.2 48 29) = 0 then ((f_X6_next T b4.2).bind fun b6 => (some (b4.1, b6))) else (some (b4.1, b4.2)))) else (f_X6_atom1_157 T y1 st)) else (f_X6_atom1_157 T y1 st))
set_option maxRecDepth 20000 in
theorem t_X6_atom1_123 (T : Nat) (y1 : Int32) (st : px_S) : px_O (28, 0, 0, px_n (T + 2), m_X6_atom1) (px_gi (T + 2)) (f_X6_atom1_123 T y1 st) 123 [some (.ref 48), some (.int y1)] [] (HP (T + 2) st) 0 0 := by
  rw [f_X6_atom1_123]
  refine o_aload_n dX6_atom1_123 rfl ?_
  refine h_get (v := .int (st 48 29)) dX6_atom1_124 q6 fl_X6_169 (by decide) (px_ltM (by decide)) (c48 _) rfl ?_
  refine o_ifne (tgt := 157) dX6_atom1_127 (by decide) (fun u2 => ?_) (fun u2 => ?_)
  · exact (t_X6_atom1_157 T y1 st)
  · refine o_aload_n dX6_atom1_130 rfl ?_
    refine h_get (v := .int (st 48 25)) dX6_atom1_131 q6 fl_X6_152 (by decide) (px_ltM (by decide)) (c48 _) rfl ?_
    refine o_iconst (v := 1) dX6_atom1_134 (by decide) ?_
    refine o_icmpne (tgt := 157) dX6_atom1_135 (by decide) (fun u3 => ?_) (fun u3 => ?_)
    · exact (t_X6_atom1_157 T y1 st)
    · refine o_aload_n dX6_atom1_138 rfl ?_
      refine h_cVi (as := []) (S1 := []) (d' := 3) dX6_atom1_139 mf_X6_name ml_X6_217 mv_X6_name q6 rfl (hp_at (px_ltM (by decide)) (c48 _)) rfl (Nat.le_of_ble_eq_true rfl) rfl (Nat.le_of_ble_eq_true rfl) (fun b hb => k_X6_name hb) (fun b4 hb4 => ?_)
      refine o_istore_n (L' := [some (.ref 48), some (.int b4.1)]) dX6_atom1_142 (Nat.le_of_ble_eq_true rfl) rfl rfl ?_
      refine o_aload_n dX6_atom1_143 rfl ?_
      refine h_get (v := .int (b4.2 48 29)) dX6_atom1_144 q6 fl_X6_169 (by decide) (px_ltM (by decide)) (c48 _) rfl ?_
      refine o_ifne (tgt := 161) dX6_atom1_147 (by decide) (fun u5 => ?_) (fun u5 => ?_)
      · refine o_iload_n dX6_atom1_161 rfl ?_
        exact o_iret (rt := .int) rfl rfl dX6_atom1_162 rfl (Nat.zero_le _) (Nat.zero_le _)
      · refine o_aload_n dX6_atom1_150 rfl ?_
        refine h_cVv (as := []) (S1 := []) (d' := 1) dX6_atom1_151 mf_X6_next ml_X6_185 mv_X6_next q6 rfl (hp_at (px_ltM (by decide)) (c48 _)) rfl (Nat.le_of_ble_eq_true rfl) rfl (Nat.le_of_ble_eq_true rfl) (fun b hb => k_X6_next hb) (fun b6 hb6 => ?_)
        refine o_goto (tgt := 161) dX6_atom1_154 (by decide) ?_
        refine o_iload_n dX6_atom1_161 rfl ?_
        exact o_iret (rt := .int) rfl rfl dX6_atom1_162 rfl (Nat.zero_le _) (Nat.zero_le _)
def f_X6_atom1_71 (T : Nat) (y1 : Int32) (st : px_S) : Option (Int32 × px_S) := (if (st 48 29) = 0 then ((f_X6_next T (up st 48 28 ((st 48 28) - 1))).bind fun b8 => (some (y1, b8))) else (some (y1, (up st 48 28 ((st 48 28) - 1)))))
set_option maxRecDepth 20000 in
theorem t_X6_atom1_71 (T : Nat) (y1 : Int32) (st : px_S) : px_O (28, 0, 0, px_n (T + 2), m_X6_atom1) (px_gi (T + 2)) (f_X6_atom1_71 T y1 st) 71 [some (.ref 48), some (.int y1)] [] (HP (T + 2) st) 0 0 := by
  rw [f_X6_atom1_71]
  refine o_aload_n dX6_atom1_71 rfl ?_
  refine o_dup dX6_atom1_72 rfl ?_
  refine h_get (v := .int (st 48 28)) dX6_atom1_73 q6 fl_X6_179 (by decide) (px_ltM (by decide)) (c48 _) rfl ?_
  refine o_iconst (v := 1) dX6_atom1_76 (by decide) ?_
  refine o_isub dX6_atom1_77 ?_
  refine h_puti dX6_atom1_78 q6 fl_X6_179 pf_X6_28 (px_ltM (by decide)) (c48 _) (Nat.le_of_ble_eq_true rfl) (s48_28 _ _) ?_
  refine o_aload_n dX6_atom1_81 rfl ?_
  refine h_get (v := .int (st 48 29)) dX6_atom1_82 q6 fl_X6_169 (by decide) (px_ltM (by decide)) (c48 _) rfl ?_
  refine o_ifne (tgt := 161) dX6_atom1_85 (by decide) (fun u7 => ?_) (fun u7 => ?_)
  · refine o_iload_n dX6_atom1_161 rfl ?_
    exact o_iret (rt := .int) rfl rfl dX6_atom1_162 rfl (Nat.zero_le _) (Nat.zero_le _)
  · refine o_aload_n dX6_atom1_88 rfl ?_
    refine h_cVv (as := []) (S1 := []) (d' := 1) dX6_atom1_89 mf_X6_next ml_X6_185 mv_X6_next q6 rfl (hp_at (px_ltM (by decide)) (c48 _)) rfl (Nat.le_of_ble_eq_true rfl) rfl (Nat.le_of_ble_eq_true rfl) (fun b hb => k_X6_next hb) (fun b8 hb8 => ?_)
    refine o_goto (tgt := 161) dX6_atom1_92 (by decide) ?_
    refine o_iload_n dX6_atom1_161 rfl ?_
    exact o_iret (rt := .int) rfl rfl dX6_atom1_162 rfl (Nat.zero_le _) (Nat.zero_le _)
def f_X6_atom1 (T : Nat) (st : px_S) : Option (Int32 × px_S) := ((f_X6_isSign T st 45).bind fun b9 => (if b9 = 0 then ((f_X6_isSign T st 40).bind fun b11 => (if b11 = 0 then (if (st 48 29) = 0 then (if (st 48 25) = 2 then ((f_X6_next T st).bind fun b15 => (some ((st 48 27).toInt64.toInt32, b15))) else (f_X6_atom1_123 T 0 st)) else (f_X6_atom1_123 T 0 st)) else ((f_X6_opens T st).bind fun b16 => (if b16.1 = 0 then (some (0, b16.2)) else ((f_X6_either2 T b16.2).bind fun b18 => ((f_X6_isSign T b18.2 41).bind fun b19 => (if b19 = 0 then ((f_X6_fail T b18.2).bind fun b21 => (f_X6_atom1_71 T b18.1 b21)) else (f_X6_atom1_71 T b18.1 b18.2)))))))) else ((f_X6_opens T st).bind fun b22 => (if b22.1 = 0 then (some (0, b22.2)) else ((f_X6_atom2 T b22.2).bind fun b24 => (some ((-b24.1), (up b24.2 48 28 ((b24.2 48 28) - 1)))))))))
set_option maxRecDepth 20000 in
theorem t_X6_atom1 (T : Nat) (st : px_S) : px_O (28, 0, 0, px_n (T + 2), m_X6_atom1) (px_gi (T + 2)) (f_X6_atom1 T st) 0 [some (.ref 48), none] [] (HP (T + 2) st) 0 0 := by
  rw [f_X6_atom1]
  refine o_iconst (v := 0) dX6_atom1_0 (by decide) ?_
  refine o_istore_n (L' := [some (.ref 48), some (.int 0)]) dX6_atom1_1 (Nat.le_of_ble_eq_true rfl) rfl rfl ?_
  refine o_aload_n dX6_atom1_2 rfl ?_
  refine o_bipush (v := 45) dX6_atom1_3 (by decide) ?_
  refine h_cV0 (as := [.int 45]) (S1 := []) (d' := 0) dX6_atom1_5 mf_X6_isSign ml_X6_210 mv_X6_isSign q6 rfl (hp_at (px_ltM (by decide)) (c48 _)) rfl (Nat.le_of_ble_eq_true rfl) rfl (Nat.le_of_ble_eq_true rfl) ⟨Nat.zero_le _, Nat.zero_le _⟩ (fun b hb => k_X6_isSign hb) (fun b9 hb9 => ?_)
  refine o_ifeq (tgt := 37) dX6_atom1_8 (by decide) (fun u10 => ?_) (fun u10 => ?_)
  · refine o_aload_n dX6_atom1_37 rfl ?_
    refine o_bipush (v := 40) dX6_atom1_38 (by decide) ?_
    refine h_cV0 (as := [.int 40]) (S1 := []) (d' := 0) dX6_atom1_40 mf_X6_isSign ml_X6_210 mv_X6_isSign q6 rfl (hp_at (px_ltM (by decide)) (c48 _)) rfl (Nat.le_of_ble_eq_true rfl) rfl (Nat.le_of_ble_eq_true rfl) ⟨Nat.zero_le _, Nat.zero_le _⟩ (fun b hb => k_X6_isSign hb) (fun b11 hb11 => ?_)
    refine o_ifeq (tgt := 95) dX6_atom1_43 (by decide) (fun u12 => ?_) (fun u12 => ?_)
    · refine o_aload_n dX6_atom1_95 rfl ?_
      refine h_get (v := .int (st 48 29)) dX6_atom1_96 q6 fl_X6_169 (by decide) (px_ltM (by decide)) (c48 _) rfl ?_
      refine o_ifne (tgt := 123) dX6_atom1_99 (by decide) (fun u13 => ?_) (fun u13 => ?_)
      · exact (t_X6_atom1_123 T 0 st)
      · refine o_aload_n dX6_atom1_102 rfl ?_
        refine h_get (v := .int (st 48 25)) dX6_atom1_103 q6 fl_X6_152 (by decide) (px_ltM (by decide)) (c48 _) rfl ?_
        refine o_iconst (v := 2) dX6_atom1_106 (by decide) ?_
        refine o_icmpne (tgt := 123) dX6_atom1_107 (by decide) (fun u14 => ?_) (fun u14 => ?_)
        · exact (t_X6_atom1_123 T 0 st)
        · refine o_aload_n dX6_atom1_110 rfl ?_
          refine h_get (v := .long (st 48 27).toInt64) dX6_atom1_111 q6 fl_X6_163 (by decide) (px_ltM (by decide)) (c48 _) rfl ?_
          refine o_l2i dX6_atom1_114 ?_
          refine o_istore_n (L' := [some (.ref 48), some (.int (st 48 27).toInt64.toInt32)]) dX6_atom1_115 (Nat.le_of_ble_eq_true rfl) rfl rfl ?_
          refine o_aload_n dX6_atom1_116 rfl ?_
          refine h_cVv (as := []) (S1 := []) (d' := 1) dX6_atom1_117 mf_X6_next ml_X6_185 mv_X6_next q6 rfl (hp_at (px_ltM (by decide)) (c48 _)) rfl (Nat.le_of_ble_eq_true rfl) rfl (Nat.le_of_ble_eq_true rfl) (fun b hb => k_X6_next hb) (fun b15 hb15 => ?_)
          refine o_goto (tgt := 161) dX6_atom1_120 (by decide) ?_
          refine o_iload_n dX6_atom1_161 rfl ?_
          exact o_iret (rt := .int) rfl rfl dX6_atom1_162 rfl (Nat.zero_le _) (Nat.zero_le _)
    · refine o_aload_n dX6_atom1_46 rfl ?_
      refine h_cVi (as := []) (S1 := []) (d' := 2) dX6_atom1_47 mf_X6_opens ml_X6_213 mv_X6_opens q6 rfl (hp_at (px_ltM (by decide)) (c48 _)) rfl (Nat.le_of_ble_eq_true rfl) rfl (Nat.le_of_ble_eq_true rfl) (fun b hb => k_X6_opens hb) (fun b16 hb16 => ?_)
      refine o_ifeq (tgt := 161) dX6_atom1_50 (by decide) (fun u17 => ?_) (fun u17 => ?_)
      · refine o_iload_n dX6_atom1_161 rfl ?_
        exact o_iret (rt := .int) rfl rfl dX6_atom1_162 rfl (Nat.zero_le _) (Nat.zero_le _)
      · refine o_aload_n dX6_atom1_53 rfl ?_
        refine h_cVi (as := []) (S1 := []) (d' := 27) dX6_atom1_54 mf_X6_either2 ml_X6_294 mv_X6_either2 q6 rfl (hp_at (px_ltM (by decide)) (c48 _)) rfl (Nat.le_of_ble_eq_true rfl) rfl (Nat.le_of_ble_eq_true rfl) (fun b hb => k_X6_either2 hb) (fun b18 hb18 => ?_)
        refine o_istore_n (L' := [some (.ref 48), some (.int b18.1)]) dX6_atom1_57 (Nat.le_of_ble_eq_true rfl) rfl rfl ?_
        refine o_aload_n dX6_atom1_58 rfl ?_
        refine o_bipush (v := 41) dX6_atom1_59 (by decide) ?_
        refine h_cV0 (as := [.int 41]) (S1 := []) (d' := 0) dX6_atom1_61 mf_X6_isSign ml_X6_210 mv_X6_isSign q6 rfl (hp_at (px_ltM (by decide)) (c48 _)) rfl (Nat.le_of_ble_eq_true rfl) rfl (Nat.le_of_ble_eq_true rfl) ⟨Nat.zero_le _, Nat.zero_le _⟩ (fun b hb => k_X6_isSign hb) (fun b19 hb19 => ?_)
        refine o_ifne (tgt := 71) dX6_atom1_64 (by decide) (fun u20 => ?_) (fun u20 => ?_)
        · exact (t_X6_atom1_71 T b18.1 b18.2)
        · refine o_aload_n dX6_atom1_67 rfl ?_
          refine h_cVv (as := []) (S1 := []) (d' := 0) dX6_atom1_68 mf_X6_fail ml_X6_182 mv_X6_fail q6 rfl (hp_at (px_ltM (by decide)) (c48 _)) rfl (Nat.le_of_ble_eq_true rfl) rfl (Nat.le_of_ble_eq_true rfl) (fun b hb => k_X6_fail hb) (fun b21 hb21 => ?_)
          exact (t_X6_atom1_71 T b18.1 b21)
  · refine o_aload_n dX6_atom1_11 rfl ?_
    refine h_cVi (as := []) (S1 := []) (d' := 2) dX6_atom1_12 mf_X6_opens ml_X6_213 mv_X6_opens q6 rfl (hp_at (px_ltM (by decide)) (c48 _)) rfl (Nat.le_of_ble_eq_true rfl) rfl (Nat.le_of_ble_eq_true rfl) (fun b hb => k_X6_opens hb) (fun b22 hb22 => ?_)
    refine o_ifeq (tgt := 161) dX6_atom1_15 (by decide) (fun u23 => ?_) (fun u23 => ?_)
    · refine o_iload_n dX6_atom1_161 rfl ?_
      exact o_iret (rt := .int) rfl rfl dX6_atom1_162 rfl (Nat.zero_le _) (Nat.zero_le _)
    · refine o_aload_n dX6_atom1_18 rfl ?_
      refine h_cVi (as := []) (S1 := []) (d' := 22) dX6_atom1_19 mf_X6_atom2 ml_X6_279 mv_X6_atom2 q6 rfl (hp_at (px_ltM (by decide)) (c48 _)) rfl (Nat.le_of_ble_eq_true rfl) rfl (Nat.le_of_ble_eq_true rfl) (fun b hb => k_X6_atom2 hb) (fun b24 hb24 => ?_)
      refine o_ineg dX6_atom1_22 ?_
      refine o_istore_n (L' := [some (.ref 48), some (.int (-b24.1))]) dX6_atom1_23 (Nat.le_of_ble_eq_true rfl) rfl rfl ?_
      refine o_aload_n dX6_atom1_24 rfl ?_
      refine o_dup dX6_atom1_25 rfl ?_
      refine h_get (v := .int (b24.2 48 28)) dX6_atom1_26 q6 fl_X6_179 (by decide) (px_ltM (by decide)) (c48 _) rfl ?_
      refine o_iconst (v := 1) dX6_atom1_29 (by decide) ?_
      refine o_isub dX6_atom1_30 ?_
      refine h_puti dX6_atom1_31 q6 fl_X6_179 pf_X6_28 (px_ltM (by decide)) (c48 _) (Nat.le_of_ble_eq_true rfl) (s48_28 _ _) ?_
      refine o_goto (tgt := 161) dX6_atom1_34 (by decide) ?_
      refine o_iload_n dX6_atom1_161 rfl ?_
      exact o_iret (rt := .int) rfl rfl dX6_atom1_162 rfl (Nat.zero_le _) (Nat.zero_le _)
theorem k_X6_atom1 {T : Nat} {st : px_S} {b : Int32 × px_S} (hf : f_X6_atom1 T st = some b) : px_K (28) 0 0 m_X6_atom1 [.ref 48] (HP (T + 2) st) ((px_gi (T + 2)) b).1 ((px_gi (T + 2)) b).2 := px_KofH hf mf_X6_atom1 (Nat.le_of_ble_eq_true rfl) rfl (t_X6_atom1 T st)
/-! ThreeOfThemModel.term1()I: S, depth 29 -/
def f_X6_term1_5 (T : Nat) : Nat → Int32 → px_S → Option (Int32 × px_S)
  | 0, _, _ => none
  | n + 1, y1, st => ((f_X6_isSign T st 42).bind fun b1 => (if b1 = 0 then (some (y1, st)) else ((f_X6_next T st).bind fun b3 => ((f_X6_atom1 T b3).bind fun b4 => ((f_X6_term1_5 T n) (y1 * b4.1) b4.2)))))
set_option maxRecDepth 20000 in
theorem t_X6_term1_5 (T : Nat) : ∀ (n : Nat) (y1 : Int32) (st : px_S), px_O (29, 0, 0, px_n (T + 2), m_X6_term1) (px_gi (T + 2)) (f_X6_term1_5 T n y1 st) 5 [some (.ref 48), some (.int y1)] [] (HP (T + 2) st) 0 0 := by
  intro n
  induction n with
  | zero => intro y1 st; rw [f_X6_term1_5]; exact o_none
  | succ n ih =>
    intro y1 st
    rw [f_X6_term1_5]
    refine o_aload_n dX6_term1_5 rfl ?_
    refine o_bipush (v := 42) dX6_term1_6 (by decide) ?_
    refine h_cV0 (as := [.int 42]) (S1 := []) (d' := 0) dX6_term1_8 mf_X6_isSign ml_X6_210 mv_X6_isSign q6 rfl (hp_at (px_ltM (by decide)) (c48 _)) rfl (Nat.le_of_ble_eq_true rfl) rfl (Nat.le_of_ble_eq_true rfl) ⟨Nat.zero_le _, Nat.zero_le _⟩ (fun b hb => k_X6_isSign hb) (fun b1 hb1 => ?_)
    refine o_ifeq (tgt := 28) dX6_term1_11 (by decide) (fun u2 => ?_) (fun u2 => ?_)
    · refine o_iload_n dX6_term1_28 rfl ?_
      exact o_iret (rt := .int) rfl rfl dX6_term1_29 rfl (Nat.zero_le _) (Nat.zero_le _)
    · refine o_aload_n dX6_term1_14 rfl ?_
      refine h_cVv (as := []) (S1 := []) (d' := 1) dX6_term1_15 mf_X6_next ml_X6_185 mv_X6_next q6 rfl (hp_at (px_ltM (by decide)) (c48 _)) rfl (Nat.le_of_ble_eq_true rfl) rfl (Nat.le_of_ble_eq_true rfl) (fun b hb => k_X6_next hb) (fun b3 hb3 => ?_)
      refine o_iload_n dX6_term1_18 rfl ?_
      refine o_aload_n dX6_term1_19 rfl ?_
      refine h_cVi (as := []) (S1 := [.int y1]) (d' := 28) dX6_term1_20 mf_X6_atom1 ml_X6_297 mv_X6_atom1 q6 rfl (hp_at (px_ltM (by decide)) (c48 _)) rfl (Nat.le_of_ble_eq_true rfl) rfl (Nat.le_of_ble_eq_true rfl) (fun b hb => k_X6_atom1 hb) (fun b4 hb4 => ?_)
      refine o_imul dX6_term1_23 ?_
      refine o_istore_n (L' := [some (.ref 48), some (.int (y1 * b4.1))]) dX6_term1_24 (Nat.le_of_ble_eq_true rfl) rfl rfl ?_
      refine o_goto (tgt := 5) dX6_term1_25 (by decide) ?_
      exact (ih (y1 * b4.1) b4.2)
def f_X6_term1 (T : Nat) (st : px_S) : Option (Int32 × px_S) := ((f_X6_atom1 T st).bind fun b5 => (f_X6_term1_5 T 1000 b5.1 b5.2))
set_option maxRecDepth 20000 in
theorem t_X6_term1 (T : Nat) (st : px_S) : px_O (29, 0, 0, px_n (T + 2), m_X6_term1) (px_gi (T + 2)) (f_X6_term1 T st) 0 [some (.ref 48), none] [] (HP (T + 2) st) 0 0 := by
  rw [f_X6_term1]
  refine o_aload_n dX6_term1_0 rfl ?_
  refine h_cVi (as := []) (S1 := []) (d' := 28) dX6_term1_1 mf_X6_atom1 ml_X6_297 mv_X6_atom1 q6 rfl (hp_at (px_ltM (by decide)) (c48 _)) rfl (Nat.le_of_ble_eq_true rfl) rfl (Nat.le_of_ble_eq_true rfl) (fun b hb => k_X6_atom1 hb) (fun b5 hb5 => ?_)
  refine o_istore_n (L' := [some (.ref 48), some (.int b5.1)]) dX6_term1_4 (Nat.le_of_ble_eq_true rfl) rfl rfl ?_
  exact (t_X6_term1_5 T 1000 b5.1 b5.2)
theorem k_X6_term1 {T : Nat} {st : px_S} {b : Int32 × px_S} (hf : f_X6_term1 T st = some b) : px_K (29) 0 0 m_X6_term1 [.ref 48] (HP (T + 2) st) ((px_gi (T + 2)) b).1 ((px_gi (T + 2)) b).2 := px_KofH hf mf_X6_term1 (Nat.le_of_ble_eq_true rfl) rfl (t_X6_term1 T st)
/-! ThreeOfThemModel.added1()I: S, depth 30 -/
def f_X6_added1_39 (T : Nat) (k5 : Int32 → px_S → Option (Int32 × px_S)) (y1 : Int32) (z0 : Int32) (st : px_S) : Option (Int32 × px_S) := ((f_X6_next T st).bind fun b1 => ((f_X6_term1 T b1).bind fun b2 => (if z0 = 0 then (k5 (y1 - b2.1) b2.2) else (k5 (y1 + b2.1) b2.2))))
set_option maxRecDepth 20000 in
theorem t_X6_added1_39 (T : Nat) (k5 : Int32 → px_S → Option (Int32 × px_S)) (hk5 : ∀ (y1 : Int32) (st : px_S), px_O (30, 0, 0, px_n (T + 2), m_X6_added1) (px_gi (T + 2)) (k5 y1 st) 5 [some (.ref 48), some (.int y1), none, none] [] (HP (T + 2) st) 0 0) (y1 : Int32) (z0 : Int32) (st : px_S) : px_O (30, 0, 0, px_n (T + 2), m_X6_added1) (px_gi (T + 2)) (f_X6_added1_39 T k5 y1 z0 st) 39 [some (.ref 48), some (.int y1), none, none] [.int z0] (HP (T + 2) st) 0 0 := by
  rw [f_X6_added1_39]
  refine o_istore_n (L' := [some (.ref 48), some (.int y1), some (.int z0), none]) dX6_added1_39 (Nat.le_of_ble_eq_true rfl) rfl rfl ?_
  refine o_aload_n dX6_added1_40 rfl ?_
  refine h_cVv (as := []) (S1 := []) (d' := 1) dX6_added1_41 mf_X6_next ml_X6_185 mv_X6_next q6 rfl (hp_at (px_ltM (by decide)) (c48 _)) rfl (Nat.le_of_ble_eq_true rfl) rfl (Nat.le_of_ble_eq_true rfl) (fun b hb => k_X6_next hb) (fun b1 hb1 => ?_)
  refine o_aload_n dX6_added1_44 rfl ?_
  refine h_cVi (as := []) (S1 := []) (d' := 29) dX6_added1_45 mf_X6_term1 ml_X6_300 mv_X6_term1 q6 rfl (hp_at (px_ltM (by decide)) (c48 _)) rfl (Nat.le_of_ble_eq_true rfl) rfl (Nat.le_of_ble_eq_true rfl) (fun b hb => k_X6_term1 hb) (fun b2 hb2 => ?_)
  refine o_istore_n (L' := [some (.ref 48), some (.int y1), some (.int z0), some (.int b2.1)]) dX6_added1_48 (Nat.le_of_ble_eq_true rfl) rfl rfl ?_
  refine o_iload_n dX6_added1_49 rfl ?_
  refine o_ifeq (tgt := 59) dX6_added1_50 (by decide) (fun u3 => ?_) (fun u3 => ?_)
  · refine o_iload_n dX6_added1_59 rfl ?_
    refine o_iload_n dX6_added1_60 rfl ?_
    refine o_isub dX6_added1_61 ?_
    refine o_istore_n (L' := [some (.ref 48), some (.int (y1 - b2.1)), some (.int z0), some (.int b2.1)]) dX6_added1_62 (Nat.le_of_ble_eq_true rfl) rfl rfl ?_
    refine o_goto (tgt := 5) dX6_added1_63 (by decide) ?_
    exact o_weak (L' := [some (.ref 48), some (.int (y1 - b2.1)), none, none]) ⟨rfl, ⟨rfl, trivial⟩⟩ (hk5 (y1 - b2.1) b2.2)
  · refine o_iload_n dX6_added1_53 rfl ?_
    refine o_iload_n dX6_added1_54 rfl ?_
    refine o_iadd dX6_added1_55 ?_
    refine o_goto (tgt := 62) dX6_added1_56 (by decide) ?_
    refine o_istore_n (L' := [some (.ref 48), some (.int (y1 + b2.1)), some (.int z0), some (.int b2.1)]) dX6_added1_62 (Nat.le_of_ble_eq_true rfl) rfl rfl ?_
    refine o_goto (tgt := 5) dX6_added1_63 (by decide) ?_
    exact o_weak (L' := [some (.ref 48), some (.int (y1 + b2.1)), none, none]) ⟨rfl, ⟨rfl, trivial⟩⟩ (hk5 (y1 + b2.1) b2.2)
def f_X6_added1_23 (T : Nat) (k5 : Int32 → px_S → Option (Int32 × px_S)) (y1 : Int32) (st : px_S) : Option (Int32 × px_S) := (if (lg_cmp (st 48 27).toInt64 43) = 0 then (f_X6_added1_39 T k5 y1 1 st) else (f_X6_added1_39 T k5 y1 0 st))
set_option maxRecDepth 20000 in
theorem t_X6_added1_23 (T : Nat) (k5 : Int32 → px_S → Option (Int32 × px_S)) (hk5 : ∀ (y1 : Int32) (st : px_S), px_O (30, 0, 0, px_n (T + 2), m_X6_added1) (px_gi (T + 2)) (k5 y1 st) 5 [some (.ref 48), some (.int y1), none, none] [] (HP (T + 2) st) 0 0) (y1 : Int32) (st : px_S) : px_O (30, 0, 0, px_n (T + 2), m_X6_added1) (px_gi (T + 2)) (f_X6_added1_23 T k5 y1 st) 23 [some (.ref 48), some (.int y1), none, none] [] (HP (T + 2) st) 0 0 := by
  rw [f_X6_added1_23]
  refine o_aload_n dX6_added1_23 rfl ?_
  refine h_get (v := .long (st 48 27).toInt64) dX6_added1_24 q6 fl_X6_163 (by decide) (px_ltM (by decide)) (c48 _) rfl ?_
  refine o_ldc2 (v := 43) dX6_added1_27 cst_X6_227 ?_
  refine o_lcmp dX6_added1_30 ?_
  refine o_ifne (tgt := 38) dX6_added1_31 (by decide) (fun u4 => ?_) (fun u4 => ?_)
  · refine o_iconst (v := 0) dX6_added1_38 (by decide) ?_
    exact (t_X6_added1_39 T k5 hk5 y1 0 st)
  · refine o_iconst (v := 1) dX6_added1_34 (by decide) ?_
    refine o_goto (tgt := 39) dX6_added1_35 (by decide) ?_
    exact (t_X6_added1_39 T k5 hk5 y1 1 st)
def f_X6_added1_5 (T : Nat) : Nat → Int32 → px_S → Option (Int32 × px_S)
  | 0, _, _ => none
  | n + 1, y1, st => ((f_X6_isSign T st 43).bind fun b5 => (if b5 = 0 then ((f_X6_isSign T st 45).bind fun b7 => (if b7 = 0 then (some (y1, st)) else (f_X6_added1_23 T (f_X6_added1_5 T n) y1 st))) else (f_X6_added1_23 T (f_X6_added1_5 T n) y1 st)))
set_option maxRecDepth 20000 in
theorem t_X6_added1_5 (T : Nat) : ∀ (n : Nat) (y1 : Int32) (st : px_S), px_O (30, 0, 0, px_n (T + 2), m_X6_added1) (px_gi (T + 2)) (f_X6_added1_5 T n y1 st) 5 [some (.ref 48), some (.int y1), none, none] [] (HP (T + 2) st) 0 0 := by
  intro n
  induction n with
  | zero => intro y1 st; rw [f_X6_added1_5]; exact o_none
  | succ n ih =>
    intro y1 st
    rw [f_X6_added1_5]
    refine o_aload_n dX6_added1_5 rfl ?_
    refine o_bipush (v := 43) dX6_added1_6 (by decide) ?_
    refine h_cV0 (as := [.int 43]) (S1 := []) (d' := 0) dX6_added1_8 mf_X6_isSign ml_X6_210 mv_X6_isSign q6 rfl (hp_at (px_ltM (by decide)) (c48 _)) rfl (Nat.le_of_ble_eq_true rfl) rfl (Nat.le_of_ble_eq_true rfl) ⟨Nat.zero_le _, Nat.zero_le _⟩ (fun b hb => k_X6_isSign hb) (fun b5 hb5 => ?_)
    refine o_ifne (tgt := 23) dX6_added1_11 (by decide) (fun u6 => ?_) (fun u6 => ?_)
    · exact (t_X6_added1_23 T (f_X6_added1_5 T n) ih y1 st)
    · refine o_aload_n dX6_added1_14 rfl ?_
      refine o_bipush (v := 45) dX6_added1_15 (by decide) ?_
      refine h_cV0 (as := [.int 45]) (S1 := []) (d' := 0) dX6_added1_17 mf_X6_isSign ml_X6_210 mv_X6_isSign q6 rfl (hp_at (px_ltM (by decide)) (c48 _)) rfl (Nat.le_of_ble_eq_true rfl) rfl (Nat.le_of_ble_eq_true rfl) ⟨Nat.zero_le _, Nat.zero_le _⟩ (fun b hb => k_X6_isSign hb) (fun b7 hb7 => ?_)
      refine o_ifeq (tgt := 66) dX6_added1_20 (by decide) (fun u8 => ?_) (fun u8 => ?_)
      · refine o_iload_n dX6_added1_66 rfl ?_
        exact o_iret (rt := .int) rfl rfl dX6_added1_67 rfl (Nat.zero_le _) (Nat.zero_le _)
      · exact (t_X6_added1_23 T (f_X6_added1_5 T n) ih y1 st)
def f_X6_added1 (T : Nat) (st : px_S) : Option (Int32 × px_S) := ((f_X6_term1 T st).bind fun b9 => (f_X6_added1_5 T 1000 b9.1 b9.2))
set_option maxRecDepth 20000 in
theorem t_X6_added1 (T : Nat) (st : px_S) : px_O (30, 0, 0, px_n (T + 2), m_X6_added1) (px_gi (T + 2)) (f_X6_added1 T st) 0 [some (.ref 48), none, none, none] [] (HP (T + 2) st) 0 0 := by
  rw [f_X6_added1]
  refine o_aload_n dX6_added1_0 rfl ?_
  refine h_cVi (as := []) (S1 := []) (d' := 29) dX6_added1_1 mf_X6_term1 ml_X6_300 mv_X6_term1 q6 rfl (hp_at (px_ltM (by decide)) (c48 _)) rfl (Nat.le_of_ble_eq_true rfl) rfl (Nat.le_of_ble_eq_true rfl) (fun b hb => k_X6_term1 hb) (fun b9 hb9 => ?_)
  refine o_istore_n (L' := [some (.ref 48), some (.int b9.1), none, none]) dX6_added1_4 (Nat.le_of_ble_eq_true rfl) rfl rfl ?_
  exact (t_X6_added1_5 T 1000 b9.1 b9.2)
theorem k_X6_added1 {T : Nat} {st : px_S} {b : Int32 × px_S} (hf : f_X6_added1 T st = some b) : px_K (30) 0 0 m_X6_added1 [.ref 48] (HP (T + 2) st) ((px_gi (T + 2)) b).1 ((px_gi (T + 2)) b).2 := px_KofH hf mf_X6_added1 (Nat.le_of_ble_eq_true rfl) rfl (t_X6_added1 T st)
/-! ThreeOfThemModel.not1()I: S, depth 31 -/
def f_X6_not1_93 (T : Nat) (y1 : Int32) (z0 : Int32) (st : px_S) : Option (Int32 × px_S) := ((f_X6_next T st).bind fun b1 => ((f_X6_added1 T b1).bind fun b2 => (if z0 = 0 then (if y1 = b2.1 then (some (1, b2.2)) else (some (0, b2.2))) else (if y1 < b2.1 then (some (1, b2.2)) else (some (0, b2.2))))))
set_option maxRecDepth 20000 in
theorem t_X6_not1_93 (T : Nat) (y1 : Int32) (z0 : Int32) (st : px_S) : px_O (31, 0, 0, px_n (T + 2), m_X6_not1) (px_gi (T + 2)) (f_X6_not1_93 T y1 z0 st) 93 [some (.ref 48), some (.int y1), none, none] [.int z0] (HP (T + 2) st) 0 0 := by
  rw [f_X6_not1_93]
  refine o_istore_n (L' := [some (.ref 48), some (.int y1), some (.int z0), none]) dX6_not1_93 (Nat.le_of_ble_eq_true rfl) rfl rfl ?_
  refine o_aload_n dX6_not1_94 rfl ?_
  refine h_cVv (as := []) (S1 := []) (d' := 1) dX6_not1_95 mf_X6_next ml_X6_185 mv_X6_next q6 rfl (hp_at (px_ltM (by decide)) (c48 _)) rfl (Nat.le_of_ble_eq_true rfl) rfl (Nat.le_of_ble_eq_true rfl) (fun b hb => k_X6_next hb) (fun b1 hb1 => ?_)
  refine o_aload_n dX6_not1_98 rfl ?_
  refine h_cVi (as := []) (S1 := []) (d' := 30) dX6_not1_99 mf_X6_added1 ml_X6_303 mv_X6_added1 q6 rfl (hp_at (px_ltM (by decide)) (c48 _)) rfl (Nat.le_of_ble_eq_true rfl) rfl (Nat.le_of_ble_eq_true rfl) (fun b hb => k_X6_added1 hb) (fun b2 hb2 => ?_)
  refine o_istore_n (L' := [some (.ref 48), some (.int y1), some (.int z0), some (.int b2.1)]) dX6_not1_102 (Nat.le_of_ble_eq_true rfl) rfl rfl ?_
  refine o_iload_n dX6_not1_103 rfl ?_
  refine o_ifeq (tgt := 115) dX6_not1_104 (by decide) (fun u3 => ?_) (fun u3 => ?_)
  · refine o_iload_n dX6_not1_115 rfl ?_
    refine o_iload_n dX6_not1_116 rfl ?_
    refine o_icmpne (tgt := 124) dX6_not1_117 (by decide) (fun u4 => ?_) (fun u4 => ?_)
    · refine o_iconst (v := 0) dX6_not1_124 (by decide) ?_
      exact o_iret (rt := .int) rfl rfl dX6_not1_125 rfl (Nat.zero_le _) (Nat.zero_le _)
    · refine o_iconst (v := 1) dX6_not1_120 (by decide) ?_
      refine o_goto (tgt := 125) dX6_not1_121 (by decide) ?_
      exact o_iret (rt := .int) rfl rfl dX6_not1_125 rfl (Nat.zero_le _) (Nat.zero_le _)
  · refine o_iload_n dX6_not1_107 rfl ?_
    refine o_iload_n dX6_not1_108 rfl ?_
    refine o_icmpge (tgt := 124) dX6_not1_109 (by decide) (fun u5 => ?_) (fun u5 => ?_)
    · refine o_iconst (v := 0) dX6_not1_124 (by decide) ?_
      exact o_iret (rt := .int) rfl rfl dX6_not1_125 rfl (Nat.zero_le _) (Nat.zero_le _)
    · refine o_goto (tgt := 120) dX6_not1_112 (by decide) ?_
      refine o_iconst (v := 1) dX6_not1_120 (by decide) ?_
      refine o_goto (tgt := 125) dX6_not1_121 (by decide) ?_
      exact o_iret (rt := .int) rfl rfl dX6_not1_125 rfl (Nat.zero_le _) (Nat.zero_le _)
def f_X6_not1_77 (T : Nat) (y1 : Int32) (st : px_S) : Option (Int32 × px_S) := (if (lg_cmp (st 48 27).toInt64 60) = 0 then (f_X6_not1_93 T y1 1 st) else (f_X6_not1_93 T y1 0 st))
set_option maxRecDepth 20000 in
theorem t_X6_not1_77 (T : Nat) (y1 : Int32) (st : px_S) : px_O (31, 0, 0, px_n (T + 2), m_X6_not1) (px_gi (T + 2)) (f_X6_not1_77 T y1 st) 77 [some (.ref 48), some (.int y1), none, none] [] (HP (T + 2) st) 0 0 := by
  rw [f_X6_not1_77]
  refine o_aload_n dX6_not1_77 rfl ?_
  refine h_get (v := .long (st 48 27).toInt64) dX6_not1_78 q6 fl_X6_163 (by decide) (px_ltM (by decide)) (c48 _) rfl ?_
  refine o_ldc2 (v := 60) dX6_not1_81 cst_X6_232 ?_
  refine o_lcmp dX6_not1_84 ?_
  refine o_ifne (tgt := 92) dX6_not1_85 (by decide) (fun u6 => ?_) (fun u6 => ?_)
  · refine o_iconst (v := 0) dX6_not1_92 (by decide) ?_
    exact (t_X6_not1_93 T y1 0 st)
  · refine o_iconst (v := 1) dX6_not1_88 (by decide) ?_
    refine o_goto (tgt := 93) dX6_not1_89 (by decide) ?_
    exact (t_X6_not1_93 T y1 1 st)
def f_X6_not1 (T : Nat) (st : px_S) : Option (Int32 × px_S) := ((f_X6_isWord T st 110 111 116 0 0 0 0 0).bind fun b7 => (if b7 = 0 then ((f_X6_added1 T st).bind fun b9 => ((f_X6_isSign T b9.2 60).bind fun b10 => (if b10 = 0 then ((f_X6_isSign T b9.2 61).bind fun b12 => (if b12 = 0 then (some (b9.1, b9.2)) else (f_X6_not1_77 T b9.1 b9.2))) else (f_X6_not1_77 T b9.1 b9.2)))) else ((f_X6_opens T st).bind fun b14 => (if b14.1 = 0 then (some (0, b14.2)) else ((f_X6_not2 T b14.2).bind fun b16 => (if b16.1 = 0 then (some (1, (up b16.2 48 28 ((b16.2 48 28) - 1)))) else (some (0, (up b16.2 48 28 ((b16.2 48 28) - 1))))))))))
set_option maxRecDepth 20000 in
theorem t_X6_not1 (T : Nat) (st : px_S) : px_O (31, 0, 0, px_n (T + 2), m_X6_not1) (px_gi (T + 2)) (f_X6_not1 T st) 0 [some (.ref 48), none, none, none] [] (HP (T + 2) st) 0 0 := by
  rw [f_X6_not1]
  refine o_aload_n dX6_not1_0 rfl ?_
  refine o_bipush (v := 110) dX6_not1_1 (by decide) ?_
  refine o_bipush (v := 111) dX6_not1_3 (by decide) ?_
  refine o_bipush (v := 116) dX6_not1_5 (by decide) ?_
  refine o_iconst (v := 0) dX6_not1_7 (by decide) ?_
  refine o_iconst (v := 0) dX6_not1_8 (by decide) ?_
  refine o_iconst (v := 0) dX6_not1_9 (by decide) ?_
  refine o_iconst (v := 0) dX6_not1_10 (by decide) ?_
  refine o_iconst (v := 0) dX6_not1_11 (by decide) ?_
  refine h_cV0 (as := [.int 110, .int 111, .int 116, .int 0, .int 0, .int 0, .int 0, .int 0]) (S1 := []) (d' := 2) dX6_not1_12 mf_X6_isWord ml_X6_188 mv_X6_isWord q6 rfl (hp_at (px_ltM (by decide)) (c48 _)) rfl (Nat.le_of_ble_eq_true rfl) rfl (Nat.le_of_ble_eq_true rfl) ⟨Nat.zero_le _, Nat.zero_le _⟩ (fun b hb => k_X6_isWord hb) (fun b7 hb7 => ?_)
  refine o_ifeq (tgt := 52) dX6_not1_15 (by decide) (fun u8 => ?_) (fun u8 => ?_)
  · refine o_aload_n dX6_not1_52 rfl ?_
    refine h_cVi (as := []) (S1 := []) (d' := 30) dX6_not1_53 mf_X6_added1 ml_X6_303 mv_X6_added1 q6 rfl (hp_at (px_ltM (by decide)) (c48 _)) rfl (Nat.le_of_ble_eq_true rfl) rfl (Nat.le_of_ble_eq_true rfl) (fun b hb => k_X6_added1 hb) (fun b9 hb9 => ?_)
    refine o_istore_n (L' := [some (.ref 48), some (.int b9.1), none, none]) dX6_not1_56 (Nat.le_of_ble_eq_true rfl) rfl rfl ?_
    refine o_aload_n dX6_not1_57 rfl ?_
    refine o_bipush (v := 60) dX6_not1_58 (by decide) ?_
    refine h_cV0 (as := [.int 60]) (S1 := []) (d' := 0) dX6_not1_60 mf_X6_isSign ml_X6_210 mv_X6_isSign q6 rfl (hp_at (px_ltM (by decide)) (c48 _)) rfl (Nat.le_of_ble_eq_true rfl) rfl (Nat.le_of_ble_eq_true rfl) ⟨Nat.zero_le _, Nat.zero_le _⟩ (fun b hb => k_X6_isSign hb) (fun b10 hb10 => ?_)
    refine o_ifne (tgt := 77) dX6_not1_63 (by decide) (fun u11 => ?_) (fun u11 => ?_)
    · exact (t_X6_not1_77 T b9.1 b9.2)
    · refine o_aload_n dX6_not1_66 rfl ?_
      refine o_bipush (v := 61) dX6_not1_67 (by decide) ?_
      refine h_cV0 (as := [.int 61]) (S1 := []) (d' := 0) dX6_not1_69 mf_X6_isSign ml_X6_210 mv_X6_isSign q6 rfl (hp_at (px_ltM (by decide)) (c48 _)) rfl (Nat.le_of_ble_eq_true rfl) rfl (Nat.le_of_ble_eq_true rfl) ⟨Nat.zero_le _, Nat.zero_le _⟩ (fun b hb => k_X6_isSign hb) (fun b12 hb12 => ?_)
      refine o_ifne (tgt := 77) dX6_not1_72 (by decide) (fun u13 => ?_) (fun u13 => ?_)
      · exact (t_X6_not1_77 T b9.1 b9.2)
      · refine o_iload_n dX6_not1_75 rfl ?_
        exact o_iret (rt := .int) rfl rfl dX6_not1_76 rfl (Nat.zero_le _) (Nat.zero_le _)
  · refine o_aload_n dX6_not1_18 rfl ?_
    refine h_cVi (as := []) (S1 := []) (d' := 2) dX6_not1_19 mf_X6_opens ml_X6_213 mv_X6_opens q6 rfl (hp_at (px_ltM (by decide)) (c48 _)) rfl (Nat.le_of_ble_eq_true rfl) rfl (Nat.le_of_ble_eq_true rfl) (fun b hb => k_X6_opens hb) (fun b14 hb14 => ?_)
    refine o_ifne (tgt := 27) dX6_not1_22 (by decide) (fun u15 => ?_) (fun u15 => ?_)
    · refine o_aload_n dX6_not1_27 rfl ?_
      refine h_cVi (as := []) (S1 := []) (d' := 25) dX6_not1_28 mf_X6_not2 ml_X6_288 mv_X6_not2 q6 rfl (hp_at (px_ltM (by decide)) (c48 _)) rfl (Nat.le_of_ble_eq_true rfl) rfl (Nat.le_of_ble_eq_true rfl) (fun b hb => k_X6_not2 hb) (fun b16 hb16 => ?_)
      refine o_istore_n (L' := [some (.ref 48), some (.int b16.1), none, none]) dX6_not1_31 (Nat.le_of_ble_eq_true rfl) rfl rfl ?_
      refine o_aload_n dX6_not1_32 rfl ?_
      refine o_dup dX6_not1_33 rfl ?_
      refine h_get (v := .int (b16.2 48 28)) dX6_not1_34 q6 fl_X6_179 (by decide) (px_ltM (by decide)) (c48 _) rfl ?_
      refine o_iconst (v := 1) dX6_not1_37 (by decide) ?_
      refine o_isub dX6_not1_38 ?_
      refine h_puti dX6_not1_39 q6 fl_X6_179 pf_X6_28 (px_ltM (by decide)) (c48 _) (Nat.le_of_ble_eq_true rfl) (s48_28 _ _) ?_
      refine o_iload_n dX6_not1_42 rfl ?_
      refine o_ifne (tgt := 50) dX6_not1_43 (by decide) (fun u17 => ?_) (fun u17 => ?_)
      · refine o_iconst (v := 0) dX6_not1_50 (by decide) ?_
        exact o_iret (rt := .int) rfl rfl dX6_not1_51 rfl (Nat.zero_le _) (Nat.zero_le _)
      · refine o_iconst (v := 1) dX6_not1_46 (by decide) ?_
        refine o_goto (tgt := 51) dX6_not1_47 (by decide) ?_
        exact o_iret (rt := .int) rfl rfl dX6_not1_51 rfl (Nat.zero_le _) (Nat.zero_le _)
    · refine o_iconst (v := 0) dX6_not1_25 (by decide) ?_
      exact o_iret (rt := .int) rfl rfl dX6_not1_26 rfl (Nat.zero_le _) (Nat.zero_le _)
theorem k_X6_not1 {T : Nat} {st : px_S} {b : Int32 × px_S} (hf : f_X6_not1 T st = some b) : px_K (31) 0 0 m_X6_not1 [.ref 48] (HP (T + 2) st) ((px_gi (T + 2)) b).1 ((px_gi (T + 2)) b).2 := px_KofH hf mf_X6_not1 (Nat.le_of_ble_eq_true rfl) rfl (t_X6_not1 T st)
/-! ThreeOfThemModel.both1()I: S, depth 32 -/
def f_X6_both1_5 (T : Nat) : Nat → Int32 → px_S → Option (Int32 × px_S)
  | 0, _, _ => none
  | n + 1, y1, st => ((f_X6_isWord T st 97 110 100 0 0 0 0 0).bind fun b1 => (if b1 = 0 then (some (y1, st)) else ((f_X6_next T st).bind fun b3 => ((f_X6_not1 T b3).bind fun b4 => (if y1 = 0 then ((f_X6_both1_5 T n) 0 b4.2) else (if b4.1 = 0 then ((f_X6_both1_5 T n) 0 b4.2) else ((f_X6_both1_5 T n) 1 b4.2)))))))
set_option maxRecDepth 20000 in
theorem t_X6_both1_5 (T : Nat) : ∀ (n : Nat) (y1 : Int32) (st : px_S), px_O (32, 0, 0, px_n (T + 2), m_X6_both1) (px_gi (T + 2)) (f_X6_both1_5 T n y1 st) 5 [some (.ref 48), some (.int y1), none] [] (HP (T + 2) st) 0 0 := by
  intro n
  induction n with
  | zero => intro y1 st; rw [f_X6_both1_5]; exact o_none
  | succ n ih =>
    intro y1 st
    rw [f_X6_both1_5]
    refine o_aload_n dX6_both1_5 rfl ?_
    refine o_bipush (v := 97) dX6_both1_6 (by decide) ?_
    refine o_bipush (v := 110) dX6_both1_8 (by decide) ?_
    refine o_bipush (v := 100) dX6_both1_10 (by decide) ?_
    refine o_iconst (v := 0) dX6_both1_12 (by decide) ?_
    refine o_iconst (v := 0) dX6_both1_13 (by decide) ?_
    refine o_iconst (v := 0) dX6_both1_14 (by decide) ?_
    refine o_iconst (v := 0) dX6_both1_15 (by decide) ?_
    refine o_iconst (v := 0) dX6_both1_16 (by decide) ?_
    refine h_cV0 (as := [.int 97, .int 110, .int 100, .int 0, .int 0, .int 0, .int 0, .int 0]) (S1 := []) (d' := 2) dX6_both1_17 mf_X6_isWord ml_X6_188 mv_X6_isWord q6 rfl (hp_at (px_ltM (by decide)) (c48 _)) rfl (Nat.le_of_ble_eq_true rfl) rfl (Nat.le_of_ble_eq_true rfl) ⟨Nat.zero_le _, Nat.zero_le _⟩ (fun b hb => k_X6_isWord hb) (fun b1 hb1 => ?_)
    refine o_ifeq (tgt := 49) dX6_both1_20 (by decide) (fun u2 => ?_) (fun u2 => ?_)
    · refine o_iload_n dX6_both1_49 rfl ?_
      exact o_iret (rt := .int) rfl rfl dX6_both1_50 rfl (Nat.zero_le _) (Nat.zero_le _)
    · refine o_aload_n dX6_both1_23 rfl ?_
      refine h_cVv (as := []) (S1 := []) (d' := 1) dX6_both1_24 mf_X6_next ml_X6_185 mv_X6_next q6 rfl (hp_at (px_ltM (by decide)) (c48 _)) rfl (Nat.le_of_ble_eq_true rfl) rfl (Nat.le_of_ble_eq_true rfl) (fun b hb => k_X6_next hb) (fun b3 hb3 => ?_)
      refine o_aload_n dX6_both1_27 rfl ?_
      refine h_cVi (as := []) (S1 := []) (d' := 31) dX6_both1_28 mf_X6_not1 ml_X6_306 mv_X6_not1 q6 rfl (hp_at (px_ltM (by decide)) (c48 _)) rfl (Nat.le_of_ble_eq_true rfl) rfl (Nat.le_of_ble_eq_true rfl) (fun b hb => k_X6_not1 hb) (fun b4 hb4 => ?_)
      refine o_istore_n (L' := [some (.ref 48), some (.int y1), some (.int b4.1)]) dX6_both1_31 (Nat.le_of_ble_eq_true rfl) rfl rfl ?_
      refine o_iload_n dX6_both1_32 rfl ?_
      refine o_ifeq (tgt := 44) dX6_both1_33 (by decide) (fun u5 => ?_) (fun u5 => ?_)
      · refine o_iconst (v := 0) dX6_both1_44 (by decide) ?_
        refine o_istore_n (L' := [some (.ref 48), some (.int 0), some (.int b4.1)]) dX6_both1_45 (Nat.le_of_ble_eq_true rfl) rfl rfl ?_
        refine o_goto (tgt := 5) dX6_both1_46 (by decide) ?_
        exact o_weak (L' := [some (.ref 48), some (.int 0), none]) ⟨rfl, ⟨rfl, trivial⟩⟩ (ih 0 b4.2)
      · refine o_iload_n dX6_both1_36 rfl ?_
        refine o_ifeq (tgt := 44) dX6_both1_37 (by decide) (fun u6 => ?_) (fun u6 => ?_)
        · refine o_iconst (v := 0) dX6_both1_44 (by decide) ?_
          refine o_istore_n (L' := [some (.ref 48), some (.int 0), some (.int b4.1)]) dX6_both1_45 (Nat.le_of_ble_eq_true rfl) rfl rfl ?_
          refine o_goto (tgt := 5) dX6_both1_46 (by decide) ?_
          exact o_weak (L' := [some (.ref 48), some (.int 0), none]) ⟨rfl, ⟨rfl, trivial⟩⟩ (ih 0 b4.2)
        · refine o_iconst (v := 1) dX6_both1_40 (by decide) ?_
          refine o_goto (tgt := 45) dX6_both1_41 (by decide) ?_
          refine o_istore_n (L' := [some (.ref 48), some (.int 1), some (.int b4.1)]) dX6_both1_45 (Nat.le_of_ble_eq_true rfl) rfl rfl ?_
          refine o_goto (tgt := 5) dX6_both1_46 (by decide) ?_
          exact o_weak (L' := [some (.ref 48), some (.int 1), none]) ⟨rfl, ⟨rfl, trivial⟩⟩ (ih 1 b4.2)
def f_X6_both1 (T : Nat) (st : px_S) : Option (Int32 × px_S) := ((f_X6_not1 T st).bind fun b7 => (f_X6_both1_5 T 1000 b7.1 b7.2))
set_option maxRecDepth 20000 in
theorem t_X6_both1 (T : Nat) (st : px_S) : px_O (32, 0, 0, px_n (T + 2), m_X6_both1) (px_gi (T + 2)) (f_X6_both1 T st) 0 [some (.ref 48), none, none] [] (HP (T + 2) st) 0 0 := by
  rw [f_X6_both1]
  refine o_aload_n dX6_both1_0 rfl ?_
  refine h_cVi (as := []) (S1 := []) (d' := 31) dX6_both1_1 mf_X6_not1 ml_X6_306 mv_X6_not1 q6 rfl (hp_at (px_ltM (by decide)) (c48 _)) rfl (Nat.le_of_ble_eq_true rfl) rfl (Nat.le_of_ble_eq_true rfl) (fun b hb => k_X6_not1 hb) (fun b7 hb7 => ?_)
  refine o_istore_n (L' := [some (.ref 48), some (.int b7.1), none]) dX6_both1_4 (Nat.le_of_ble_eq_true rfl) rfl rfl ?_
  exact (t_X6_both1_5 T 1000 b7.1 b7.2)
theorem k_X6_both1 {T : Nat} {st : px_S} {b : Int32 × px_S} (hf : f_X6_both1 T st = some b) : px_K (32) 0 0 m_X6_both1 [.ref 48] (HP (T + 2) st) ((px_gi (T + 2)) b).1 ((px_gi (T + 2)) b).2 := px_KofH hf mf_X6_both1 (Nat.le_of_ble_eq_true rfl) rfl (t_X6_both1 T st)
/-! ThreeOfThemModel.either1()I: S, depth 33 -/
def f_X6_either1_5 (T : Nat) : Nat → Int32 → px_S → Option (Int32 × px_S)
  | 0, _, _ => none
  | n + 1, y1, st => ((f_X6_isWord T st 111 114 0 0 0 0 0 0).bind fun b1 => (if b1 = 0 then (some (y1, st)) else ((f_X6_next T st).bind fun b3 => ((f_X6_both1 T b3).bind fun b4 => (if y1 = 0 then (if b4.1 = 0 then ((f_X6_either1_5 T n) 0 b4.2) else ((f_X6_either1_5 T n) 1 b4.2)) else ((f_X6_either1_5 T n) 1 b4.2))))))
set_option maxRecDepth 20000 in
theorem t_X6_either1_5 (T : Nat) : ∀ (n : Nat) (y1 : Int32) (st : px_S), px_O (33, 0, 0, px_n (T + 2), m_X6_either1) (px_gi (T + 2)) (f_X6_either1_5 T n y1 st) 5 [some (.ref 48), some (.int y1), none] [] (HP (T + 2) st) 0 0 := by
  intro n
  induction n with
  | zero => intro y1 st; rw [f_X6_either1_5]; exact o_none
  | succ n ih =>
    intro y1 st
    rw [f_X6_either1_5]
    refine o_aload_n dX6_either1_5 rfl ?_
    refine o_bipush (v := 111) dX6_either1_6 (by decide) ?_
    refine o_bipush (v := 114) dX6_either1_8 (by decide) ?_
    refine o_iconst (v := 0) dX6_either1_10 (by decide) ?_
    refine o_iconst (v := 0) dX6_either1_11 (by decide) ?_
    refine o_iconst (v := 0) dX6_either1_12 (by decide) ?_
    refine o_iconst (v := 0) dX6_either1_13 (by decide) ?_
    refine o_iconst (v := 0) dX6_either1_14 (by decide) ?_
    refine o_iconst (v := 0) dX6_either1_15 (by decide) ?_
    refine h_cV0 (as := [.int 111, .int 114, .int 0, .int 0, .int 0, .int 0, .int 0, .int 0]) (S1 := []) (d' := 2) dX6_either1_16 mf_X6_isWord ml_X6_188 mv_X6_isWord q6 rfl (hp_at (px_ltM (by decide)) (c48 _)) rfl (Nat.le_of_ble_eq_true rfl) rfl (Nat.le_of_ble_eq_true rfl) ⟨Nat.zero_le _, Nat.zero_le _⟩ (fun b hb => k_X6_isWord hb) (fun b1 hb1 => ?_)
    refine o_ifeq (tgt := 48) dX6_either1_19 (by decide) (fun u2 => ?_) (fun u2 => ?_)
    · refine o_iload_n dX6_either1_48 rfl ?_
      exact o_iret (rt := .int) rfl rfl dX6_either1_49 rfl (Nat.zero_le _) (Nat.zero_le _)
    · refine o_aload_n dX6_either1_22 rfl ?_
      refine h_cVv (as := []) (S1 := []) (d' := 1) dX6_either1_23 mf_X6_next ml_X6_185 mv_X6_next q6 rfl (hp_at (px_ltM (by decide)) (c48 _)) rfl (Nat.le_of_ble_eq_true rfl) rfl (Nat.le_of_ble_eq_true rfl) (fun b hb => k_X6_next hb) (fun b3 hb3 => ?_)
      refine o_aload_n dX6_either1_26 rfl ?_
      refine h_cVi (as := []) (S1 := []) (d' := 32) dX6_either1_27 mf_X6_both1 ml_X6_309 mv_X6_both1 q6 rfl (hp_at (px_ltM (by decide)) (c48 _)) rfl (Nat.le_of_ble_eq_true rfl) rfl (Nat.le_of_ble_eq_true rfl) (fun b hb => k_X6_both1 hb) (fun b4 hb4 => ?_)
      refine o_istore_n (L' := [some (.ref 48), some (.int y1), some (.int b4.1)]) dX6_either1_30 (Nat.le_of_ble_eq_true rfl) rfl rfl ?_
      refine o_iload_n dX6_either1_31 rfl ?_
      refine o_ifne (tgt := 39) dX6_either1_32 (by decide) (fun u5 => ?_) (fun u5 => ?_)
      · refine o_iconst (v := 1) dX6_either1_39 (by decide) ?_
        refine o_goto (tgt := 44) dX6_either1_40 (by decide) ?_
        refine o_istore_n (L' := [some (.ref 48), some (.int 1), some (.int b4.1)]) dX6_either1_44 (Nat.le_of_ble_eq_true rfl) rfl rfl ?_
        refine o_goto (tgt := 5) dX6_either1_45 (by decide) ?_
        exact o_weak (L' := [some (.ref 48), some (.int 1), none]) ⟨rfl, ⟨rfl, trivial⟩⟩ (ih 1 b4.2)
      · refine o_iload_n dX6_either1_35 rfl ?_
        refine o_ifeq (tgt := 43) dX6_either1_36 (by decide) (fun u6 => ?_) (fun u6 => ?_)
        · refine o_iconst (v := 0) dX6_either1_43 (by decide) ?_
          refine o_istore_n (L' := [some (.ref 48), some (.int 0), some (.int b4.1)]) dX6_either1_44 (Nat.le_of_ble_eq_true rfl) rfl rfl ?_
          refine o_goto (tgt := 5) dX6_either1_45 (by decide) ?_
          exact o_weak (L' := [some (.ref 48), some (.int 0), none]) ⟨rfl, ⟨rfl, trivial⟩⟩ (ih 0 b4.2)
        · refine o_iconst (v := 1) dX6_either1_39 (by decide) ?_
          refine o_goto (tgt := 44) dX6_either1_40 (by decide) ?_
          refine o_istore_n (L' := [some (.ref 48), some (.int 1), some (.int b4.1)]) dX6_either1_44 (Nat.le_of_ble_eq_true rfl) rfl rfl ?_
          refine o_goto (tgt := 5) dX6_either1_45 (by decide) ?_
          exact o_weak (L' := [some (.ref 48), some (.int 1), none]) ⟨rfl, ⟨rfl, trivial⟩⟩ (ih 1 b4.2)
def f_X6_either1 (T : Nat) (st : px_S) : Option (Int32 × px_S) := ((f_X6_both1 T st).bind fun b7 => (f_X6_either1_5 T 1000 b7.1 b7.2))
set_option maxRecDepth 20000 in
theorem t_X6_either1 (T : Nat) (st : px_S) : px_O (33, 0, 0, px_n (T + 2), m_X6_either1) (px_gi (T + 2)) (f_X6_either1 T st) 0 [some (.ref 48), none, none] [] (HP (T + 2) st) 0 0 := by
  rw [f_X6_either1]
  refine o_aload_n dX6_either1_0 rfl ?_
  refine h_cVi (as := []) (S1 := []) (d' := 32) dX6_either1_1 mf_X6_both1 ml_X6_309 mv_X6_both1 q6 rfl (hp_at (px_ltM (by decide)) (c48 _)) rfl (Nat.le_of_ble_eq_true rfl) rfl (Nat.le_of_ble_eq_true rfl) (fun b hb => k_X6_both1 hb) (fun b7 hb7 => ?_)
  refine o_istore_n (L' := [some (.ref 48), some (.int b7.1), none]) dX6_either1_4 (Nat.le_of_ble_eq_true rfl) rfl rfl ?_
  exact (t_X6_either1_5 T 1000 b7.1 b7.2)
theorem k_X6_either1 {T : Nat} {st : px_S} {b : Int32 × px_S} (hf : f_X6_either1 T st = some b) : px_K (33) 0 0 m_X6_either1 [.ref 48] (HP (T + 2) st) ((px_gi (T + 2)) b).1 ((px_gi (T + 2)) b).2 := px_KofH hf mf_X6_either1 (Nat.le_of_ble_eq_true rfl) rfl (t_X6_either1 T st)
/-! ThreeOfThemModel.atom0()I: S, depth 34 -/
def f_X6_atom0_157 (T : Nat) (y1 : Int32) (st : px_S) : Option (Int32 × px_S) := ((f_X6_fail T st).bind fun b1 => (some (y1, b1)))
set_option maxRecDepth 20000 in
theorem t_X6_atom0_157 (T : Nat) (y1 : Int32) (st : px_S) : px_O (34, 0, 0, px_n (T + 2), m_X6_atom0) (px_gi (T + 2)) (f_X6_atom0_157 T y1 st) 157 [some (.ref 48), some (.int y1)] [] (HP (T + 2) st) 0 0 := by
  rw [f_X6_atom0_157]
  refine o_aload_n dX6_atom0_157 rfl ?_
  refine h_cVv (as := []) (S1 := []) (d' := 0) dX6_atom0_158 mf_X6_fail ml_X6_182 mv_X6_fail q6 rfl (hp_at (px_ltM (by decide)) (c48 _)) rfl (Nat.le_of_ble_eq_true rfl) rfl (Nat.le_of_ble_eq_true rfl) (fun b hb => k_X6_fail hb) (fun b1 hb1 => ?_)
  refine o_iload_n dX6_atom0_161 rfl ?_
  exact o_iret (rt := .int) rfl rfl dX6_atom0_162 rfl (Nat.zero_le _) (Nat.zero_le _)
def f_X6_atom0_123 (T : Nat) (y1 : Int32) (st : px_S) : Option (Int32 × px_S) := (if (st 48 29) = 0 then (if (st 48 25) = 1 then ((f_X6_name T st).bind fun b4 => (if (b4.2 48 29) = 0 then ((f_X6_next T b4.2).bind fun b6 => (some (b4.1, b6))) else (some (b4.1, b4.2)))) else (f_X6_atom0_157 T y1 st)) else (f_X6_atom0_157 T y1 st))
set_option maxRecDepth 20000 in
theorem t_X6_atom0_123 (T : Nat) (y1 : Int32) (st : px_S) : px_O (34, 0, 0, px_n (T + 2), m_X6_atom0) (px_gi (T + 2)) (f_X6_atom0_123 T y1 st) 123 [some (.ref 48), some (.int y1)] [] (HP (T + 2) st) 0 0 := by
  rw [f_X6_atom0_123]
  refine o_aload_n dX6_atom0_123 rfl ?_
  refine h_get (v := .int (st 48 29)) dX6_atom0_124 q6 fl_X6_169 (by decide) (px_ltM (by decide)) (c48 _) rfl ?_
  refine o_ifne (tgt := 157) dX6_atom0_127 (by decide) (fun u2 => ?_) (fun u2 => ?_)
  · exact (t_X6_atom0_157 T y1 st)
  · refine o_aload_n dX6_atom0_130 rfl ?_
    refine h_get (v := .int (st 48 25)) dX6_atom0_131 q6 fl_X6_152 (by decide) (px_ltM (by decide)) (c48 _) rfl ?_
    refine o_iconst (v := 1) dX6_atom0_134 (by decide) ?_
    refine o_icmpne (tgt := 157) dX6_atom0_135 (by decide) (fun u3 => ?_) (fun u3 => ?_)
    · exact (t_X6_atom0_157 T y1 st)
    · refine o_aload_n dX6_atom0_138 rfl ?_
      refine h_cVi (as := []) (S1 := []) (d' := 3) dX6_atom0_139 mf_X6_name ml_X6_217 mv_X6_name q6 rfl (hp_at (px_ltM (by decide)) (c48 _)) rfl (Nat.le_of_ble_eq_true rfl) rfl (Nat.le_of_ble_eq_true rfl) (fun b hb => k_X6_name hb) (fun b4 hb4 => ?_)
      refine o_istore_n (L' := [some (.ref 48), some (.int b4.1)]) dX6_atom0_142 (Nat.le_of_ble_eq_true rfl) rfl rfl ?_
      refine o_aload_n dX6_atom0_143 rfl ?_
      refine h_get (v := .int (b4.2 48 29)) dX6_atom0_144 q6 fl_X6_169 (by decide) (px_ltM (by decide)) (c48 _) rfl ?_
      refine o_ifne (tgt := 161) dX6_atom0_147 (by decide) (fun u5 => ?_) (fun u5 => ?_)
      · refine o_iload_n dX6_atom0_161 rfl ?_
        exact o_iret (rt := .int) rfl rfl dX6_atom0_162 rfl (Nat.zero_le _) (Nat.zero_le _)
      · refine o_aload_n dX6_atom0_150 rfl ?_
        refine h_cVv (as := []) (S1 := []) (d' := 1) dX6_atom0_151 mf_X6_next ml_X6_185 mv_X6_next q6 rfl (hp_at (px_ltM (by decide)) (c48 _)) rfl (Nat.le_of_ble_eq_true rfl) rfl (Nat.le_of_ble_eq_true rfl) (fun b hb => k_X6_next hb) (fun b6 hb6 => ?_)
        refine o_goto (tgt := 161) dX6_atom0_154 (by decide) ?_
        refine o_iload_n dX6_atom0_161 rfl ?_
        exact o_iret (rt := .int) rfl rfl dX6_atom0_162 rfl (Nat.zero_le _) (Nat.zero_le _)
def f_X6_atom0_71 (T : Nat) (y1 : Int32) (st : px_S) : Option (Int32 × px_S) := (if (st 48 29) = 0 then ((f_X6_next T (up st 48 28 ((st 48 28) - 1))).bind fun b8 => (some (y1, b8))) else (some (y1, (up st 48 28 ((st 48 28) - 1)))))
set_option maxRecDepth 20000 in
theorem t_X6_atom0_71 (T : Nat) (y1 : Int32) (st : px_S) : px_O (34, 0, 0, px_n (T + 2), m_X6_atom0) (px_gi (T + 2)) (f_X6_atom0_71 T y1 st) 71 [some (.ref 48), some (.int y1)] [] (HP (T + 2) st) 0 0 := by
  rw [f_X6_atom0_71]
  refine o_aload_n dX6_atom0_71 rfl ?_
  refine o_dup dX6_atom0_72 rfl ?_
  refine h_get (v := .int (st 48 28)) dX6_atom0_73 q6 fl_X6_179 (by decide) (px_ltM (by decide)) (c48 _) rfl ?_
  refine o_iconst (v := 1) dX6_atom0_76 (by decide) ?_
  refine o_isub dX6_atom0_77 ?_
  refine h_puti dX6_atom0_78 q6 fl_X6_179 pf_X6_28 (px_ltM (by decide)) (c48 _) (Nat.le_of_ble_eq_true rfl) (s48_28 _ _) ?_
  refine o_aload_n dX6_atom0_81 rfl ?_
  refine h_get (v := .int (st 48 29)) dX6_atom0_82 q6 fl_X6_169 (by decide) (px_ltM (by decide)) (c48 _) rfl ?_
  refine o_ifne (tgt := 161) dX6_atom0_85 (by decide) (fun u7 => ?_) (fun u7 => ?_)
  · refine o_iload_n dX6_atom0_161 rfl ?_
    exact o_iret (rt := .int) rfl rfl dX6_atom0_162 rfl (Nat.zero_le _) (Nat.zero_le _)
  · refine o_aload_n dX6_atom0_88 rfl ?_
    refine h_cVv (as := []) (S1 := []) (d' := 1) dX6_atom0_89 mf_X6_next ml_X6_185 mv_X6_next q6 rfl (hp_at (px_ltM (by decide)) (c48 _)) rfl (Nat.le_of_ble_eq_true rfl) rfl (Nat.le_of_ble_eq_true rfl) (fun b hb => k_X6_next hb) (fun b8 hb8 => ?_)
    refine o_goto (tgt := 161) dX6_atom0_92 (by decide) ?_
    refine o_iload_n dX6_atom0_161 rfl ?_
    exact o_iret (rt := .int) rfl rfl dX6_atom0_162 rfl (Nat.zero_le _) (Nat.zero_le _)
def f_X6_atom0 (T : Nat) (st : px_S) : Option (Int32 × px_S) := ((f_X6_isSign T st 45).bind fun b9 => (if b9 = 0 then ((f_X6_isSign T st 40).bind fun b11 => (if b11 = 0 then (if (st 48 29) = 0 then (if (st 48 25) = 2 then ((f_X6_next T st).bind fun b15 => (some ((st 48 27).toInt64.toInt32, b15))) else (f_X6_atom0_123 T 0 st)) else (f_X6_atom0_123 T 0 st)) else ((f_X6_opens T st).bind fun b16 => (if b16.1 = 0 then (some (0, b16.2)) else ((f_X6_either1 T b16.2).bind fun b18 => ((f_X6_isSign T b18.2 41).bind fun b19 => (if b19 = 0 then ((f_X6_fail T b18.2).bind fun b21 => (f_X6_atom0_71 T b18.1 b21)) else (f_X6_atom0_71 T b18.1 b18.2)))))))) else ((f_X6_opens T st).bind fun b22 => (if b22.1 = 0 then (some (0, b22.2)) else ((f_X6_atom1 T b22.2).bind fun b24 => (some ((-b24.1), (up b24.2 48 28 ((b24.2 48 28) - 1)))))))))
set_option maxRecDepth 20000 in
theorem t_X6_atom0 (T : Nat) (st : px_S) : px_O (34, 0, 0, px_n (T + 2), m_X6_atom0) (px_gi (T + 2)) (f_X6_atom0 T st) 0 [some (.ref 48), none] [] (HP (T + 2) st) 0 0 := by
  rw [f_X6_atom0]
  refine o_iconst (v := 0) dX6_atom0_0 (by decide) ?_
  refine o_istore_n (L' := [some (.ref 48), some (.int 0)]) dX6_atom0_1 (Nat.le_of_ble_eq_true rfl) rfl rfl ?_
  refine o_aload_n dX6_atom0_2 rfl ?_
  refine o_bipush (v := 45) dX6_atom0_3 (by decide) ?_
  refine h_cV0 (as := [.int 45]) (S1 := []) (d' := 0) dX6_atom0_5 mf_X6_isSign ml_X6_210 mv_X6_isSign q6 rfl (hp_at (px_ltM (by decide)) (c48 _)) rfl (Nat.le_of_ble_eq_true rfl) rfl (Nat.le_of_ble_eq_true rfl) ⟨Nat.zero_le _, Nat.zero_le _⟩ (fun b hb => k_X6_isSign hb) (fun b9 hb9 => ?_)
  refine o_ifeq (tgt := 37) dX6_atom0_8 (by decide) (fun u10 => ?_) (fun u10 => ?_)
  · refine o_aload_n dX6_atom0_37 rfl ?_
    refine o_bipush (v := 40) dX6_atom0_38 (by decide) ?_
    refine h_cV0 (as := [.int 40]) (S1 := []) (d' := 0) dX6_atom0_40 mf_X6_isSign ml_X6_210 mv_X6_isSign q6 rfl (hp_at (px_ltM (by decide)) (c48 _)) rfl (Nat.le_of_ble_eq_true rfl) rfl (Nat.le_of_ble_eq_true rfl) ⟨Nat.zero_le _, Nat.zero_le _⟩ (fun b hb => k_X6_isSign hb) (fun b11 hb11 => ?_)
    refine o_ifeq (tgt := 95) dX6_atom0_43 (by decide) (fun u12 => ?_) (fun u12 => ?_)
    · refine o_aload_n dX6_atom0_95 rfl ?_
      refine h_get (v := .int (st 48 29)) dX6_atom0_96 q6 fl_X6_169 (by decide) (px_ltM (by decide)) (c48 _) rfl ?_
      refine o_ifne (tgt := 123) dX6_atom0_99 (by decide) (fun u13 => ?_) (fun u13 => ?_)
      · exact (t_X6_atom0_123 T 0 st)
      · refine o_aload_n dX6_atom0_102 rfl ?_
        refine h_get (v := .int (st 48 25)) dX6_atom0_103 q6 fl_X6_152 (by decide) (px_ltM (by decide)) (c48 _) rfl ?_
        refine o_iconst (v := 2) dX6_atom0_106 (by decide) ?_
        refine o_icmpne (tgt := 123) dX6_atom0_107 (by decide) (fun u14 => ?_) (fun u14 => ?_)
        · exact (t_X6_atom0_123 T 0 st)
        · refine o_aload_n dX6_atom0_110 rfl ?_
          refine h_get (v := .long (st 48 27).toInt64) dX6_atom0_111 q6 fl_X6_163 (by decide) (px_ltM (by decide)) (c48 _) rfl ?_
          refine o_l2i dX6_atom0_114 ?_
          refine o_istore_n (L' := [some (.ref 48), some (.int (st 48 27).toInt64.toInt32)]) dX6_atom0_115 (Nat.le_of_ble_eq_true rfl) rfl rfl ?_
          refine o_aload_n dX6_atom0_116 rfl ?_
          refine h_cVv (as := []) (S1 := []) (d' := 1) dX6_atom0_117 mf_X6_next ml_X6_185 mv_X6_next q6 rfl (hp_at (px_ltM (by decide)) (c48 _)) rfl (Nat.le_of_ble_eq_true rfl) rfl (Nat.le_of_ble_eq_true rfl) (fun b hb => k_X6_next hb) (fun b15 hb15 => ?_)
          refine o_goto (tgt := 161) dX6_atom0_120 (by decide) ?_
          refine o_iload_n dX6_atom0_161 rfl ?_
          exact o_iret (rt := .int) rfl rfl dX6_atom0_162 rfl (Nat.zero_le _) (Nat.zero_le _)
    · refine o_aload_n dX6_atom0_46 rfl ?_
      refine h_cVi (as := []) (S1 := []) (d' := 2) dX6_atom0_47 mf_X6_opens ml_X6_213 mv_X6_opens q6 rfl (hp_at (px_ltM (by decide)) (c48 _)) rfl (Nat.le_of_ble_eq_true rfl) rfl (Nat.le_of_ble_eq_true rfl) (fun b hb => k_X6_opens hb) (fun b16 hb16 => ?_)
      refine o_ifeq (tgt := 161) dX6_atom0_50 (by decide) (fun u17 => ?_) (fun u17 => ?_)
      · refine o_iload_n dX6_atom0_161 rfl ?_
        exact o_iret (rt := .int) rfl rfl dX6_atom0_162 rfl (Nat.zero_le _) (Nat.zero_le _)
      · refine o_aload_n dX6_atom0_53 rfl ?_
        refine h_cVi (as := []) (S1 := []) (d' := 33) dX6_atom0_54 mf_X6_either1 ml_X6_312 mv_X6_either1 q6 rfl (hp_at (px_ltM (by decide)) (c48 _)) rfl (Nat.le_of_ble_eq_true rfl) rfl (Nat.le_of_ble_eq_true rfl) (fun b hb => k_X6_either1 hb) (fun b18 hb18 => ?_)
        refine o_istore_n (L' := [some (.ref 48), some (.int b18.1)]) dX6_atom0_57 (Nat.le_of_ble_eq_true rfl) rfl rfl ?_
        refine o_aload_n dX6_atom0_58 rfl ?_
        refine o_bipush (v := 41) dX6_atom0_59 (by decide) ?_
        refine h_cV0 (as := [.int 41]) (S1 := []) (d' := 0) dX6_atom0_61 mf_X6_isSign ml_X6_210 mv_X6_isSign q6 rfl (hp_at (px_ltM (by decide)) (c48 _)) rfl (Nat.le_of_ble_eq_true rfl) rfl (Nat.le_of_ble_eq_true rfl) ⟨Nat.zero_le _, Nat.zero_le _⟩ (fun b hb => k_X6_isSign hb) (fun b19 hb19 => ?_)
        refine o_ifne (tgt := 71) dX6_atom0_64 (by decide) (fun u20 => ?_) (fun u20 => ?_)
        · exact (t_X6_atom0_71 T b18.1 b18.2)
        · refine o_aload_n dX6_atom0_67 rfl ?_
          refine h_cVv (as := []) (S1 := []) (d' := 0) dX6_atom0_68 mf_X6_fail ml_X6_182 mv_X6_fail q6 rfl (hp_at (px_ltM (by decide)) (c48 _)) rfl (Nat.le_of_ble_eq_true rfl) rfl (Nat.le_of_ble_eq_true rfl) (fun b hb => k_X6_fail hb) (fun b21 hb21 => ?_)
          exact (t_X6_atom0_71 T b18.1 b21)
  · refine o_aload_n dX6_atom0_11 rfl ?_
    refine h_cVi (as := []) (S1 := []) (d' := 2) dX6_atom0_12 mf_X6_opens ml_X6_213 mv_X6_opens q6 rfl (hp_at (px_ltM (by decide)) (c48 _)) rfl (Nat.le_of_ble_eq_true rfl) rfl (Nat.le_of_ble_eq_true rfl) (fun b hb => k_X6_opens hb) (fun b22 hb22 => ?_)
    refine o_ifeq (tgt := 161) dX6_atom0_15 (by decide) (fun u23 => ?_) (fun u23 => ?_)
    · refine o_iload_n dX6_atom0_161 rfl ?_
      exact o_iret (rt := .int) rfl rfl dX6_atom0_162 rfl (Nat.zero_le _) (Nat.zero_le _)
    · refine o_aload_n dX6_atom0_18 rfl ?_
      refine h_cVi (as := []) (S1 := []) (d' := 28) dX6_atom0_19 mf_X6_atom1 ml_X6_297 mv_X6_atom1 q6 rfl (hp_at (px_ltM (by decide)) (c48 _)) rfl (Nat.le_of_ble_eq_true rfl) rfl (Nat.le_of_ble_eq_true rfl) (fun b hb => k_X6_atom1 hb) (fun b24 hb24 => ?_)
      refine o_ineg dX6_atom0_22 ?_
      refine o_istore_n (L' := [some (.ref 48), some (.int (-b24.1))]) dX6_atom0_23 (Nat.le_of_ble_eq_true rfl) rfl rfl ?_
      refine o_aload_n dX6_atom0_24 rfl ?_
      refine o_dup dX6_atom0_25 rfl ?_
      refine h_get (v := .int (b24.2 48 28)) dX6_atom0_26 q6 fl_X6_179 (by decide) (px_ltM (by decide)) (c48 _) rfl ?_
      refine o_iconst (v := 1) dX6_atom0_29 (by decide) ?_
      refine o_isub dX6_atom0_30 ?_
      refine h_puti dX6_atom0_31 q6 fl_X6_179 pf_X6_28 (px_ltM (by decide)) (c48 _) (Nat.le_of_ble_eq_true rfl) (s48_28 _ _) ?_
      refine o_goto (tgt := 161) dX6_atom0_34 (by decide) ?_
      refine o_iload_n dX6_atom0_161 rfl ?_
      exact o_iret (rt := .int) rfl rfl dX6_atom0_162 rfl (Nat.zero_le _) (Nat.zero_le _)
theorem k_X6_atom0 {T : Nat} {st : px_S} {b : Int32 × px_S} (hf : f_X6_atom0 T st = some b) : px_K (34) 0 0 m_X6_atom0 [.ref 48] (HP (T + 2) st) ((px_gi (T + 2)) b).1 ((px_gi (T + 2)) b).2 := px_KofH hf mf_X6_atom0 (Nat.le_of_ble_eq_true rfl) rfl (t_X6_atom0 T st)
/-! ThreeOfThemModel.term0()I: S, depth 35 -/
def f_X6_term0_5 (T : Nat) : Nat → Int32 → px_S → Option (Int32 × px_S)
  | 0, _, _ => none
  | n + 1, y1, st => ((f_X6_isSign T st 42).bind fun b1 => (if b1 = 0 then (some (y1, st)) else ((f_X6_next T st).bind fun b3 => ((f_X6_atom0 T b3).bind fun b4 => ((f_X6_term0_5 T n) (y1 * b4.1) b4.2)))))
set_option maxRecDepth 20000 in
theorem t_X6_term0_5 (T : Nat) : ∀ (n : Nat) (y1 : Int32) (st : px_S), px_O (35, 0, 0, px_n (T + 2), m_X6_term0) (px_gi (T + 2)) (f_X6_term0_5 T n y1 st) 5 [some (.ref 48), some (.int y1)] [] (HP (T + 2) st) 0 0 := by
  intro n
  induction n with
  | zero => intro y1 st; rw [f_X6_term0_5]; exact o_none
  | succ n ih =>
    intro y1 st
    rw [f_X6_term0_5]
    refine o_aload_n dX6_term0_5 rfl ?_
    refine o_bipush (v := 42) dX6_term0_6 (by decide) ?_
    refine h_cV0 (as := [.int 42]) (S1 := []) (d' := 0) dX6_term0_8 mf_X6_isSign ml_X6_210 mv_X6_isSign q6 rfl (hp_at (px_ltM (by decide)) (c48 _)) rfl (Nat.le_of_ble_eq_true rfl) rfl (Nat.le_of_ble_eq_true rfl) ⟨Nat.zero_le _, Nat.zero_le _⟩ (fun b hb => k_X6_isSign hb) (fun b1 hb1 => ?_)
    refine o_ifeq (tgt := 28) dX6_term0_11 (by decide) (fun u2 => ?_) (fun u2 => ?_)
    · refine o_iload_n dX6_term0_28 rfl ?_
      exact o_iret (rt := .int) rfl rfl dX6_term0_29 rfl (Nat.zero_le _) (Nat.zero_le _)
    · refine o_aload_n dX6_term0_14 rfl ?_
      refine h_cVv (as := []) (S1 := []) (d' := 1) dX6_term0_15 mf_X6_next ml_X6_185 mv_X6_next q6 rfl (hp_at (px_ltM (by decide)) (c48 _)) rfl (Nat.le_of_ble_eq_true rfl) rfl (Nat.le_of_ble_eq_true rfl) (fun b hb => k_X6_next hb) (fun b3 hb3 => ?_)
      refine o_iload_n dX6_term0_18 rfl ?_
      refine o_aload_n dX6_term0_19 rfl ?_
      refine h_cVi (as := []) (S1 := [.int y1]) (d' := 34) dX6_term0_20 mf_X6_atom0 ml_X6_315 mv_X6_atom0 q6 rfl (hp_at (px_ltM (by decide)) (c48 _)) rfl (Nat.le_of_ble_eq_true rfl) rfl (Nat.le_of_ble_eq_true rfl) (fun b hb => k_X6_atom0 hb) (fun b4 hb4 => ?_)
      refine o_imul dX6_term0_23 ?_
      refine o_istore_n (L' := [some (.ref 48), some (.int (y1 * b4.1))]) dX6_term0_24 (Nat.le_of_ble_eq_true rfl) rfl rfl ?_
      refine o_goto (tgt := 5) dX6_term0_25 (by decide) ?_
      exact (ih (y1 * b4.1) b4.2)
def f_X6_term0 (T : Nat) (st : px_S) : Option (Int32 × px_S) := ((f_X6_atom0 T st).bind fun b5 => (f_X6_term0_5 T 1000 b5.1 b5.2))
set_option maxRecDepth 20000 in
theorem t_X6_term0 (T : Nat) (st : px_S) : px_O (35, 0, 0, px_n (T + 2), m_X6_term0) (px_gi (T + 2)) (f_X6_term0 T st) 0 [some (.ref 48), none] [] (HP (T + 2) st) 0 0 := by
  rw [f_X6_term0]
  refine o_aload_n dX6_term0_0 rfl ?_
  refine h_cVi (as := []) (S1 := []) (d' := 34) dX6_term0_1 mf_X6_atom0 ml_X6_315 mv_X6_atom0 q6 rfl (hp_at (px_ltM (by decide)) (c48 _)) rfl (Nat.le_of_ble_eq_true rfl) rfl (Nat.le_of_ble_eq_true rfl) (fun b hb => k_X6_atom0 hb) (fun b5 hb5 => ?_)
  refine o_istore_n (L' := [some (.ref 48), some (.int b5.1)]) dX6_term0_4 (Nat.le_of_ble_eq_true rfl) rfl rfl ?_
  exact (t_X6_term0_5 T 1000 b5.1 b5.2)
theorem k_X6_term0 {T : Nat} {st : px_S} {b : Int32 × px_S} (hf : f_X6_term0 T st = some b) : px_K (35) 0 0 m_X6_term0 [.ref 48] (HP (T + 2) st) ((px_gi (T + 2)) b).1 ((px_gi (T + 2)) b).2 := px_KofH hf mf_X6_term0 (Nat.le_of_ble_eq_true rfl) rfl (t_X6_term0 T st)
/-! ThreeOfThemModel.added0()I: S, depth 36 -/
def f_X6_added0_39 (T : Nat) (k5 : Int32 → px_S → Option (Int32 × px_S)) (y1 : Int32) (z0 : Int32) (st : px_S) : Option (Int32 × px_S) := ((f_X6_next T st).bind fun b1 => ((f_X6_term0 T b1).bind fun b2 => (if z0 = 0 then (k5 (y1 - b2.1) b2.2) else (k5 (y1 + b2.1) b2.2))))
set_option maxRecDepth 20000 in
theorem t_X6_added0_39 (T : Nat) (k5 : Int32 → px_S → Option (Int32 × px_S)) (hk5 : ∀ (y1 : Int32) (st : px_S), px_O (36, 0, 0, px_n (T + 2), m_X6_added0) (px_gi (T + 2)) (k5 y1 st) 5 [some (.ref 48), some (.int y1), none, none] [] (HP (T + 2) st) 0 0) (y1 : Int32) (z0 : Int32) (st : px_S) : px_O (36, 0, 0, px_n (T + 2), m_X6_added0) (px_gi (T + 2)) (f_X6_added0_39 T k5 y1 z0 st) 39 [some (.ref 48), some (.int y1), none, none] [.int z0] (HP (T + 2) st) 0 0 := by
  rw [f_X6_added0_39]
  refine o_istore_n (L' := [some (.ref 48), some (.int y1), some (.int z0), none]) dX6_added0_39 (Nat.le_of_ble_eq_true rfl) rfl rfl ?_
  refine o_aload_n dX6_added0_40 rfl ?_
  refine h_cVv (as := []) (S1 := []) (d' := 1) dX6_added0_41 mf_X6_next ml_X6_185 mv_X6_next q6 rfl (hp_at (px_ltM (by decide)) (c48 _)) rfl (Nat.le_of_ble_eq_true rfl) rfl (Nat.le_of_ble_eq_true rfl) (fun b hb => k_X6_next hb) (fun b1 hb1 => ?_)
  refine o_aload_n dX6_added0_44 rfl ?_
  refine h_cVi (as := []) (S1 := []) (d' := 35) dX6_added0_45 mf_X6_term0 ml_X6_318 mv_X6_term0 q6 rfl (hp_at (px_ltM (by decide)) (c48 _)) rfl (Nat.le_of_ble_eq_true rfl) rfl (Nat.le_of_ble_eq_true rfl) (fun b hb => k_X6_term0 hb) (fun b2 hb2 => ?_)
  refine o_istore_n (L' := [some (.ref 48), some (.int y1), some (.int z0), some (.int b2.1)]) dX6_added0_48 (Nat.le_of_ble_eq_true rfl) rfl rfl ?_
  refine o_iload_n dX6_added0_49 rfl ?_
  refine o_ifeq (tgt := 59) dX6_added0_50 (by decide) (fun u3 => ?_) (fun u3 => ?_)
  · refine o_iload_n dX6_added0_59 rfl ?_
    refine o_iload_n dX6_added0_60 rfl ?_
    refine o_isub dX6_added0_61 ?_
    refine o_istore_n (L' := [some (.ref 48), some (.int (y1 - b2.1)), some (.int z0), some (.int b2.1)]) dX6_added0_62 (Nat.le_of_ble_eq_true rfl) rfl rfl ?_
    refine o_goto (tgt := 5) dX6_added0_63 (by decide) ?_
    exact o_weak (L' := [some (.ref 48), some (.int (y1 - b2.1)), none, none]) ⟨rfl, ⟨rfl, trivial⟩⟩ (hk5 (y1 - b2.1) b2.2)
  · refine o_iload_n dX6_added0_53 rfl ?_
    refine o_iload_n dX6_added0_54 rfl ?_
    refine o_iadd dX6_added0_55 ?_
    refine o_goto (tgt := 62) dX6_added0_56 (by decide) ?_
    refine o_istore_n (L' := [some (.ref 48), some (.int (y1 + b2.1)), some (.int z0), some (.int b2.1)]) dX6_added0_62 (Nat.le_of_ble_eq_true rfl) rfl rfl ?_
    refine o_goto (tgt := 5) dX6_added0_63 (by decide) ?_
    exact o_weak (L' := [some (.ref 48), some (.int (y1 + b2.1)), none, none]) ⟨rfl, ⟨rfl, trivial⟩⟩ (hk5 (y1 + b2.1) b2.2)
def f_X6_added0_23 (T : Nat) (k5 : Int32 → px_S → Option (Int32 × px_S)) (y1 : Int32) (st : px_S) : Option (Int32 × px_S) := (if (lg_cmp (st 48 27).toInt64 43) = 0 then (f_X6_added0_39 T k5 y1 1 st) else (f_X6_added0_39 T k5 y1 0 st))
set_option maxRecDepth 20000 in
theorem t_X6_added0_23 (T : Nat) (k5 : Int32 → px_S → Option (Int32 × px_S)) (hk5 : ∀ (y1 : Int32) (st : px_S), px_O (36, 0, 0, px_n (T + 2), m_X6_added0) (px_gi (T + 2)) (k5 y1 st) 5 [some (.ref 48), some (.int y1), none, none] [] (HP (T + 2) st) 0 0) (y1 : Int32) (st : px_S) : px_O (36, 0, 0, px_n (T + 2), m_X6_added0) (px_gi (T + 2)) (f_X6_added0_23 T k5 y1 st) 23 [some (.ref 48), some (.int y1), none, none] [] (HP (T + 2) st) 0 0 := by
  rw [f_X6_added0_23]
  refine o_aload_n dX6_added0_23 rfl ?_
  refine h_get (v := .long (st 48 27).toInt64) dX6_added0_24 q6 fl_X6_163 (by decide) (px_ltM (by decide)) (c48 _) rfl ?_
  refine o_ldc2 (v := 43) dX6_added0_27 cst_X6_227 ?_
  refine o_lcmp dX6_added0_30 ?_
  refine o_ifne (tgt := 38) dX6_added0_31 (by decide) (fun u4 => ?_) (fun u4 => ?_)
  · refine o_iconst (v := 0) dX6_added0_38 (by decide) ?_
    exact (t_X6_added0_39 T k5 hk5 y1 0 st)
  · refine o_iconst (v := 1) dX6_added0_34 (by decide) ?_
    refine o_goto (tgt := 39) dX6_added0_35 (by decide) ?_
    exact (t_X6_added0_39 T k5 hk5 y1 1 st)
def f_X6_added0_5 (T : Nat) : Nat → Int32 → px_S → Option (Int32 × px_S)
  | 0, _, _ => none
  | n + 1, y1, st => ((f_X6_isSign T st 43).bind fun b5 => (if b5 = 0 then ((f_X6_isSign T st 45).bind fun b7 => (if b7 = 0 then (some (y1, st)) else (f_X6_added0_23 T (f_X6_added0_5 T n) y1 st))) else (f_X6_added0_23 T (f_X6_added0_5 T n) y1 st)))
set_option maxRecDepth 20000 in
theorem t_X6_added0_5 (T : Nat) : ∀ (n : Nat) (y1 : Int32) (st : px_S), px_O (36, 0, 0, px_n (T + 2), m_X6_added0) (px_gi (T + 2)) (f_X6_added0_5 T n y1 st) 5 [some (.ref 48), some (.int y1), none, none] [] (HP (T + 2) st) 0 0 := by
  intro n
  induction n with
  | zero => intro y1 st; rw [f_X6_added0_5]; exact o_none
  | succ n ih =>
    intro y1 st
    rw [f_X6_added0_5]
    refine o_aload_n dX6_added0_5 rfl ?_
    refine o_bipush (v := 43) dX6_added0_6 (by decide) ?_
    refine h_cV0 (as := [.int 43]) (S1 := []) (d' := 0) dX6_added0_8 mf_X6_isSign ml_X6_210 mv_X6_isSign q6 rfl (hp_at (px_ltM (by decide)) (c48 _)) rfl (Nat.le_of_ble_eq_true rfl) rfl (Nat.le_of_ble_eq_true rfl) ⟨Nat.zero_le _, Nat.zero_le _⟩ (fun b hb => k_X6_isSign hb) (fun b5 hb5 => ?_)
    refine o_ifne (tgt := 23) dX6_added0_11 (by decide) (fun u6 => ?_) (fun u6 => ?_)
    · exact (t_X6_added0_23 T (f_X6_added0_5 T n) ih y1 st)
    · refine o_aload_n dX6_added0_14 rfl ?_
      refine o_bipush (v := 45) dX6_added0_15 (by decide) ?_
      refine h_cV0 (as := [.int 45]) (S1 := []) (d' := 0) dX6_added0_17 mf_X6_isSign ml_X6_210 mv_X6_isSign q6 rfl (hp_at (px_ltM (by decide)) (c48 _)) rfl (Nat.le_of_ble_eq_true rfl) rfl (Nat.le_of_ble_eq_true rfl) ⟨Nat.zero_le _, Nat.zero_le _⟩ (fun b hb => k_X6_isSign hb) (fun b7 hb7 => ?_)
      refine o_ifeq (tgt := 66) dX6_added0_20 (by decide) (fun u8 => ?_) (fun u8 => ?_)
      · refine o_iload_n dX6_added0_66 rfl ?_
        exact o_iret (rt := .int) rfl rfl dX6_added0_67 rfl (Nat.zero_le _) (Nat.zero_le _)
      · exact (t_X6_added0_23 T (f_X6_added0_5 T n) ih y1 st)
def f_X6_added0 (T : Nat) (st : px_S) : Option (Int32 × px_S) := ((f_X6_term0 T st).bind fun b9 => (f_X6_added0_5 T 1000 b9.1 b9.2))
set_option maxRecDepth 20000 in
theorem t_X6_added0 (T : Nat) (st : px_S) : px_O (36, 0, 0, px_n (T + 2), m_X6_added0) (px_gi (T + 2)) (f_X6_added0 T st) 0 [some (.ref 48), none, none, none] [] (HP (T + 2) st) 0 0 := by
  rw [f_X6_added0]
  refine o_aload_n dX6_added0_0 rfl ?_
  refine h_cVi (as := []) (S1 := []) (d' := 35) dX6_added0_1 mf_X6_term0 ml_X6_318 mv_X6_term0 q6 rfl (hp_at (px_ltM (by decide)) (c48 _)) rfl (Nat.le_of_ble_eq_true rfl) rfl (Nat.le_of_ble_eq_true rfl) (fun b hb => k_X6_term0 hb) (fun b9 hb9 => ?_)
  refine o_istore_n (L' := [some (.ref 48), some (.int b9.1), none, none]) dX6_added0_4 (Nat.le_of_ble_eq_true rfl) rfl rfl ?_
  exact (t_X6_added0_5 T 1000 b9.1 b9.2)
theorem k_X6_added0 {T : Nat} {st : px_S} {b : Int32 × px_S} (hf : f_X6_added0 T st = some b) : px_K (36) 0 0 m_X6_added0 [.ref 48] (HP (T + 2) st) ((px_gi (T + 2)) b).1 ((px_gi (T + 2)) b).2 := px_KofH hf mf_X6_added0 (Nat.le_of_ble_eq_true rfl) rfl (t_X6_added0 T st)
/-! ThreeOfThemModel.not0()I: S, depth 37 -/
def f_X6_not0_93 (T : Nat) (y1 : Int32) (z0 : Int32) (st : px_S) : Option (Int32 × px_S) := ((f_X6_next T st).bind fun b1 => ((f_X6_added0 T b1).bind fun b2 => (if z0 = 0 then (if y1 = b2.1 then (some (1, b2.2)) else (some (0, b2.2))) else (if y1 < b2.1 then (some (1, b2.2)) else (some (0, b2.2))))))
set_option maxRecDepth 20000 in
theorem t_X6_not0_93 (T : Nat) (y1 : Int32) (z0 : Int32) (st : px_S) : px_O (37, 0, 0, px_n (T + 2), m_X6_not0) (px_gi (T + 2)) (f_X6_not0_93 T y1 z0 st) 93 [some (.ref 48), some (.int y1), none, none] [.int z0] (HP (T + 2) st) 0 0 := by
  rw [f_X6_not0_93]
  refine o_istore_n (L' := [some (.ref 48), some (.int y1), some (.int z0), none]) dX6_not0_93 (Nat.le_of_ble_eq_true rfl) rfl rfl ?_
  refine o_aload_n dX6_not0_94 rfl ?_
  refine h_cVv (as := []) (S1 := []) (d' := 1) dX6_not0_95 mf_X6_next ml_X6_185 mv_X6_next q6 rfl (hp_at (px_ltM (by decide)) (c48 _)) rfl (Nat.le_of_ble_eq_true rfl) rfl (Nat.le_of_ble_eq_true rfl) (fun b hb => k_X6_next hb) (fun b1 hb1 => ?_)
  refine o_aload_n dX6_not0_98 rfl ?_
  refine h_cVi (as := []) (S1 := []) (d' := 36) dX6_not0_99 mf_X6_added0 ml_X6_321 mv_X6_added0 q6 rfl (hp_at (px_ltM (by decide)) (c48 _)) rfl (Nat.le_of_ble_eq_true rfl) rfl (Nat.le_of_ble_eq_true rfl) (fun b hb => k_X6_added0 hb) (fun b2 hb2 => ?_)
  refine o_istore_n (L' := [some (.ref 48), some (.int y1), some (.int z0), some (.int b2.1)]) dX6_not0_102 (Nat.le_of_ble_eq_true rfl) rfl rfl ?_
  refine o_iload_n dX6_not0_103 rfl ?_
  refine o_ifeq (tgt := 115) dX6_not0_104 (by decide) (fun u3 => ?_) (fun u3 => ?_)
  · refine o_iload_n dX6_not0_115 rfl ?_
    refine o_iload_n dX6_not0_116 rfl ?_
    refine o_icmpne (tgt := 124) dX6_not0_117 (by decide) (fun u4 => ?_) (fun u4 => ?_)
    · refine o_iconst (v := 0) dX6_not0_124 (by decide) ?_
      exact o_iret (rt := .int) rfl rfl dX6_not0_125 rfl (Nat.zero_le _) (Nat.zero_le _)
    · refine o_iconst (v := 1) dX6_not0_120 (by decide) ?_
      refine o_goto (tgt := 125) dX6_not0_121 (by decide) ?_
      exact o_iret (rt := .int) rfl rfl dX6_not0_125 rfl (Nat.zero_le _) (Nat.zero_le _)
  · refine o_iload_n dX6_not0_107 rfl ?_
    refine o_iload_n dX6_not0_108 rfl ?_
    refine o_icmpge (tgt := 124) dX6_not0_109 (by decide) (fun u5 => ?_) (fun u5 => ?_)
    · refine o_iconst (v := 0) dX6_not0_124 (by decide) ?_
      exact o_iret (rt := .int) rfl rfl dX6_not0_125 rfl (Nat.zero_le _) (Nat.zero_le _)
    · refine o_goto (tgt := 120) dX6_not0_112 (by decide) ?_
      refine o_iconst (v := 1) dX6_not0_120 (by decide) ?_
      refine o_goto (tgt := 125) dX6_not0_121 (by decide) ?_
      exact o_iret (rt := .int) rfl rfl dX6_not0_125 rfl (Nat.zero_le _) (Nat.zero_le _)
def f_X6_not0_77 (T : Nat) (y1 : Int32) (st : px_S) : Option (Int32 × px_S) := (if (lg_cmp (st 48 27).toInt64 60) = 0 then (f_X6_not0_93 T y1 1 st) else (f_X6_not0_93 T y1 0 st))
set_option maxRecDepth 20000 in
theorem t_X6_not0_77 (T : Nat) (y1 : Int32) (st : px_S) : px_O (37, 0, 0, px_n (T + 2), m_X6_not0) (px_gi (T + 2)) (f_X6_not0_77 T y1 st) 77 [some (.ref 48), some (.int y1), none, none] [] (HP (T + 2) st) 0 0 := by
  rw [f_X6_not0_77]
  refine o_aload_n dX6_not0_77 rfl ?_
  refine h_get (v := .long (st 48 27).toInt64) dX6_not0_78 q6 fl_X6_163 (by decide) (px_ltM (by decide)) (c48 _) rfl ?_
  refine o_ldc2 (v := 60) dX6_not0_81 cst_X6_232 ?_
  refine o_lcmp dX6_not0_84 ?_
  refine o_ifne (tgt := 92) dX6_not0_85 (by decide) (fun u6 => ?_) (fun u6 => ?_)
  · refine o_iconst (v := 0) dX6_not0_92 (by decide) ?_
    exact (t_X6_not0_93 T y1 0 st)
  · refine o_iconst (v := 1) dX6_not0_88 (by decide) ?_
    refine o_goto (tgt := 93) dX6_not0_89 (by decide) ?_
    exact (t_X6_not0_93 T y1 1 st)
def f_X6_not0 (T : Nat) (st : px_S) : Option (Int32 × px_S) := ((f_X6_isWord T st 110 111 116 0 0 0 0 0).bind fun b7 => (if b7 = 0 then ((f_X6_added0 T st).bind fun b9 => ((f_X6_isSign T b9.2 60).bind fun b10 => (if b10 = 0 then ((f_X6_isSign T b9.2 61).bind fun b12 => (if b12 = 0 then (some (b9.1, b9.2)) else (f_X6_not0_77 T b9.1 b9.2))) else (f_X6_not0_77 T b9.1 b9.2)))) else ((f_X6_opens T st).bind fun b14 => (if b14.1 = 0 then (some (0, b14.2)) else ((f_X6_not1 T b14.2).bind fun b16 => (if b16.1 = 0 then (some (1, (up b16.2 48 28 ((b16.2 48 28) - 1)))) else (some (0, (up b16.2 48 28 ((b16.2 48 28) - 1))))))))))
set_option maxRecDepth 20000 in
theorem t_X6_not0 (T : Nat) (st : px_S) : px_O (37, 0, 0, px_n (T + 2), m_X6_not0) (px_gi (T + 2)) (f_X6_not0 T st) 0 [some (.ref 48), none, none, none] [] (HP (T + 2) st) 0 0 := by
  rw [f_X6_not0]
  refine o_aload_n dX6_not0_0 rfl ?_
  refine o_bipush (v := 110) dX6_not0_1 (by decide) ?_
  refine o_bipush (v := 111) dX6_not0_3 (by decide) ?_
  refine o_bipush (v := 116) dX6_not0_5 (by decide) ?_
  refine o_iconst (v := 0) dX6_not0_7 (by decide) ?_
  refine o_iconst (v := 0) dX6_not0_8 (by decide) ?_
  refine o_iconst (v := 0) dX6_not0_9 (by decide) ?_
  refine o_iconst (v := 0) dX6_not0_10 (by decide) ?_
  refine o_iconst (v := 0) dX6_not0_11 (by decide) ?_
  refine h_cV0 (as := [.int 110, .int 111, .int 116, .int 0, .int 0, .int 0, .int 0, .int 0]) (S1 := []) (d' := 2) dX6_not0_12 mf_X6_isWord ml_X6_188 mv_X6_isWord q6 rfl (hp_at (px_ltM (by decide)) (c48 _)) rfl (Nat.le_of_ble_eq_true rfl) rfl (Nat.le_of_ble_eq_true rfl) ⟨Nat.zero_le _, Nat.zero_le _⟩ (fun b hb => k_X6_isWord hb) (fun b7 hb7 => ?_)
  refine o_ifeq (tgt := 52) dX6_not0_15 (by decide) (fun u8 => ?_) (fun u8 => ?_)
  · refine o_aload_n dX6_not0_52 rfl ?_
    refine h_cVi (as := []) (S1 := []) (d' := 36) dX6_not0_53 mf_X6_added0 ml_X6_321 mv_X6_added0 q6 rfl (hp_at (px_ltM (by decide)) (c48 _)) rfl (Nat.le_of_ble_eq_true rfl) rfl (Nat.le_of_ble_eq_true rfl) (fun b hb => k_X6_added0 hb) (fun b9 hb9 => ?_)
    refine o_istore_n (L' := [some (.ref 48), some (.int b9.1), none, none]) dX6_not0_56 (Nat.le_of_ble_eq_true rfl) rfl rfl ?_
    refine o_aload_n dX6_not0_57 rfl ?_
    refine o_bipush (v := 60) dX6_not0_58 (by decide) ?_
    refine h_cV0 (as := [.int 60]) (S1 := []) (d' := 0) dX6_not0_60 mf_X6_isSign ml_X6_210 mv_X6_isSign q6 rfl (hp_at (px_ltM (by decide)) (c48 _)) rfl (Nat.le_of_ble_eq_true rfl) rfl (Nat.le_of_ble_eq_true rfl) ⟨Nat.zero_le _, Nat.zero_le _⟩ (fun b hb => k_X6_isSign hb) (fun b10 hb10 => ?_)
    refine o_ifne (tgt := 77) dX6_not0_63 (by decide) (fun u11 => ?_) (fun u11 => ?_)
    · exact (t_X6_not0_77 T b9.1 b9.2)
    · refine o_aload_n dX6_not0_66 rfl ?_
      refine o_bipush (v := 61) dX6_not0_67 (by decide) ?_
      refine h_cV0 (as := [.int 61]) (S1 := []) (d' := 0) dX6_not0_69 mf_X6_isSign ml_X6_210 mv_X6_isSign q6 rfl (hp_at (px_ltM (by decide)) (c48 _)) rfl (Nat.le_of_ble_eq_true rfl) rfl (Nat.le_of_ble_eq_true rfl) ⟨Nat.zero_le _, Nat.zero_le _⟩ (fun b hb => k_X6_isSign hb) (fun b12 hb12 => ?_)
      refine o_ifne (tgt := 77) dX6_not0_72 (by decide) (fun u13 => ?_) (fun u13 => ?_)
      · exact (t_X6_not0_77 T b9.1 b9.2)
      · refine o_iload_n dX6_not0_75 rfl ?_
        exact o_iret (rt := .int) rfl rfl dX6_not0_76 rfl (Nat.zero_le _) (Nat.zero_le _)
  · refine o_aload_n dX6_not0_18 rfl ?_
    refine h_cVi (as := []) (S1 := []) (d' := 2) dX6_not0_19 mf_X6_opens ml_X6_213 mv_X6_opens q6 rfl (hp_at (px_ltM (by decide)) (c48 _)) rfl (Nat.le_of_ble_eq_true rfl) rfl (Nat.le_of_ble_eq_true rfl) (fun b hb => k_X6_opens hb) (fun b14 hb14 => ?_)
    refine o_ifne (tgt := 27) dX6_not0_22 (by decide) (fun u15 => ?_) (fun u15 => ?_)
    · refine o_aload_n dX6_not0_27 rfl ?_
      refine h_cVi (as := []) (S1 := []) (d' := 31) dX6_not0_28 mf_X6_not1 ml_X6_306 mv_X6_not1 q6 rfl (hp_at (px_ltM (by decide)) (c48 _)) rfl (Nat.le_of_ble_eq_true rfl) rfl (Nat.le_of_ble_eq_true rfl) (fun b hb => k_X6_not1 hb) (fun b16 hb16 => ?_)
      refine o_istore_n (L' := [some (.ref 48), some (.int b16.1), none, none]) dX6_not0_31 (Nat.le_of_ble_eq_true rfl) rfl rfl ?_
      refine o_aload_n dX6_not0_32 rfl ?_
      refine o_dup dX6_not0_33 rfl ?_
      refine h_get (v := .int (b16.2 48 28)) dX6_not0_34 q6 fl_X6_179 (by decide) (px_ltM (by decide)) (c48 _) rfl ?_
      refine o_iconst (v := 1) dX6_not0_37 (by decide) ?_
      refine o_isub dX6_not0_38 ?_
      refine h_puti dX6_not0_39 q6 fl_X6_179 pf_X6_28 (px_ltM (by decide)) (c48 _) (Nat.le_of_ble_eq_true rfl) (s48_28 _ _) ?_
      refine o_iload_n dX6_not0_42 rfl ?_
      refine o_ifne (tgt := 50) dX6_not0_43 (by decide) (fun u17 => ?_) (fun u17 => ?_)
      · refine o_iconst (v := 0) dX6_not0_50 (by decide) ?_
        exact o_iret (rt := .int) rfl rfl dX6_not0_51 rfl (Nat.zero_le _) (Nat.zero_le _)
      · refine o_iconst (v := 1) dX6_not0_46 (by decide) ?_
        refine o_goto (tgt := 51) dX6_not0_47 (by decide) ?_
        exact o_iret (rt := .int) rfl rfl dX6_not0_51 rfl (Nat.zero_le _) (Nat.zero_le _)
    · refine o_iconst (v := 0) dX6_not0_25 (by decide) ?_
      exact o_iret (rt := .int) rfl rfl dX6_not0_26 rfl (Nat.zero_le _) (Nat.zero_le _)
theorem k_X6_not0 {T : Nat} {st : px_S} {b : Int32 × px_S} (hf : f_X6_not0 T st = some b) : px_K (37) 0 0 m_X6_not0 [.ref 48] (HP (T + 2) st) ((px_gi (T + 2)) b).1 ((px_gi (T + 2)) b).2 := px_KofH hf mf_X6_not0 (Nat.le_of_ble_eq_true rfl) rfl (t_X6_not0 T st)
