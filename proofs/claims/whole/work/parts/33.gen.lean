/-! ThreeOfThemModel.both0()I: S, depth 38 -/
def f_X6_both0_5 (T : Nat) : Nat → Int32 → px_S → Option (Int32 × px_S)
  | 0, _, _ => none
  | n + 1, y1, st => ((f_X6_isWord T st 97 110 100 0 0 0 0 0).bind fun b1 => (if b1 = 0 then (some (y1, st)) else ((f_X6_next T st).bind fun b3 => ((f_X6_not0 T b3).bind fun b4 => (if y1 = 0 then ((f_X6_both0_5 T n) 0 b4.2) else (if b4.1 = 0 then ((f_X6_both0_5 T n) 0 b4.2) else ((f_X6_both0_5 T n) 1 b4.2)))))))
set_option maxRecDepth 20000 in
theorem t_X6_both0_5 (T : Nat) : ∀ (n : Nat) (y1 : Int32) (st : px_S), px_O (38, 0, 0, px_n (T + 2), m_X6_both0) (px_gi (T + 2)) (f_X6_both0_5 T n y1 st) 5 [some (.ref 48), some (.int y1), none] [] (HP (T + 2) st) 0 0 := by
  intro n
  induction n with
  | zero => intro y1 st; rw [f_X6_both0_5]; exact o_none
  | succ n ih =>
    intro y1 st
    rw [f_X6_both0_5]
    refine o_aload_n dX6_both0_5 rfl ?_
    refine o_bipush (v := 97) dX6_both0_6 (by decide) ?_
    refine o_bipush (v := 110) dX6_both0_8 (by decide) ?_
    refine o_bipush (v := 100) dX6_both0_10 (by decide) ?_
    refine o_iconst (v := 0) dX6_both0_12 (by decide) ?_
    refine o_iconst (v := 0) dX6_both0_13 (by decide) ?_
    refine o_iconst (v := 0) dX6_both0_14 (by decide) ?_
    refine o_iconst (v := 0) dX6_both0_15 (by decide) ?_
    refine o_iconst (v := 0) dX6_both0_16 (by decide) ?_
    refine h_cV0 (as := [.int 97, .int 110, .int 100, .int 0, .int 0, .int 0, .int 0, .int 0]) (S1 := []) (d' := 2) dX6_both0_17 mf_X6_isWord ml_X6_188 mv_X6_isWord q6 rfl (hp_at (px_ltM (by decide)) (c48 _)) rfl (Nat.le_of_ble_eq_true rfl) rfl (Nat.le_of_ble_eq_true rfl) ⟨Nat.zero_le _, Nat.zero_le _⟩ (fun b hb => k_X6_isWord hb) (fun b1 hb1 => ?_)
    refine o_ifeq (tgt := 49) dX6_both0_20 (by decide) (fun u2 => ?_) (fun u2 => ?_)
    · refine o_iload_n dX6_both0_49 rfl ?_
      exact o_iret (rt := .int) rfl rfl dX6_both0_50 rfl (Nat.zero_le _) (Nat.zero_le _)
    · refine o_aload_n dX6_both0_23 rfl ?_
      refine h_cVv (as := []) (S1 := []) (d' := 1) dX6_both0_24 mf_X6_next ml_X6_185 mv_X6_next q6 rfl (hp_at (px_ltM (by decide)) (c48 _)) rfl (Nat.le_of_ble_eq_true rfl) rfl (Nat.le_of_ble_eq_true rfl) (fun b hb => k_X6_next hb) (fun b3 hb3 => ?_)
      refine o_aload_n dX6_both0_27 rfl ?_
      refine h_cVi (as := []) (S1 := []) (d' := 37) dX6_both0_28 mf_X6_not0 ml_X6_324 mv_X6_not0 q6 rfl (hp_at (px_ltM (by decide)) (c48 _)) rfl (Nat.le_of_ble_eq_true rfl) rfl (Nat.le_of_ble_eq_true rfl) (fun b hb => k_X6_not0 hb) (fun b4 hb4 => ?_)
      refine o_istore_n (L' := [some (.ref 48), some (.int y1), some (.int b4.1)]) dX6_both0_31 (Nat.le_of_ble_eq_true rfl) rfl rfl ?_
      refine o_iload_n dX6_both0_32 rfl ?_
      refine o_ifeq (tgt := 44) dX6_both0_33 (by decide) (fun u5 => ?_) (fun u5 => ?_)
      · refine o_iconst (v := 0) dX6_both0_44 (by decide) ?_
        refine o_istore_n (L' := [some (.ref 48), some (.int 0), some (.int b4.1)]) dX6_both0_45 (Nat.le_of_ble_eq_true rfl) rfl rfl ?_
        refine o_goto (tgt := 5) dX6_both0_46 (by decide) ?_
        exact o_weak (L' := [some (.ref 48), some (.int 0), none]) ⟨rfl, ⟨rfl, trivial⟩⟩ (ih 0 b4.2)
      · refine o_iload_n dX6_both0_36 rfl ?_
        refine o_ifeq (tgt := 44) dX6_both0_37 (by decide) (fun u6 => ?_) (fun u6 => ?_)
        · refine o_iconst (v := 0) dX6_both0_44 (by decide) ?_
          refine o_istore_n (L' := [some (.ref 48), some (.int 0), some (.int b4.1)]) dX6_both0_45 (Nat.le_of_ble_eq_true rfl) rfl rfl ?_
          refine o_goto (tgt := 5) dX6_both0_46 (by decide) ?_
          exact o_weak (L' := [some (.ref 48), some (.int 0), none]) ⟨rfl, ⟨rfl, trivial⟩⟩ (ih 0 b4.2)
        · refine o_iconst (v := 1) dX6_both0_40 (by decide) ?_
          refine o_goto (tgt := 45) dX6_both0_41 (by decide) ?_
          refine o_istore_n (L' := [some (.ref 48), some (.int 1), some (.int b4.1)]) dX6_both0_45 (Nat.le_of_ble_eq_true rfl) rfl rfl ?_
          refine o_goto (tgt := 5) dX6_both0_46 (by decide) ?_
          exact o_weak (L' := [some (.ref 48), some (.int 1), none]) ⟨rfl, ⟨rfl, trivial⟩⟩ (ih 1 b4.2)
def f_X6_both0 (T : Nat) (st : px_S) : Option (Int32 × px_S) := ((f_X6_not0 T st).bind fun b7 => (f_X6_both0_5 T 1000 b7.1 b7.2))
set_option maxRecDepth 20000 in
theorem t_X6_both0 (T : Nat) (st : px_S) : px_O (38, 0, 0, px_n (T + 2), m_X6_both0) (px_gi (T + 2)) (f_X6_both0 T st) 0 [some (.ref 48), none, none] [] (HP (T + 2) st) 0 0 := by
  rw [f_X6_both0]
  refine o_aload_n dX6_both0_0 rfl ?_
  refine h_cVi (as := []) (S1 := []) (d' := 37) dX6_both0_1 mf_X6_not0 ml_X6_324 mv_X6_not0 q6 rfl (hp_at (px_ltM (by decide)) (c48 _)) rfl (Nat.le_of_ble_eq_true rfl) rfl (Nat.le_of_ble_eq_true rfl) (fun b hb => k_X6_not0 hb) (fun b7 hb7 => ?_)
  refine o_istore_n (L' := [some (.ref 48), some (.int b7.1), none]) dX6_both0_4 (Nat.le_of_ble_eq_true rfl) rfl rfl ?_
  exact (t_X6_both0_5 T 1000 b7.1 b7.2)
theorem k_X6_both0 {T : Nat} {st : px_S} {b : Int32 × px_S} (hf : f_X6_both0 T st = some b) : px_K (38) 0 0 m_X6_both0 [.ref 48] (HP (T + 2) st) ((px_gi (T + 2)) b).1 ((px_gi (T + 2)) b).2 := px_KofH hf mf_X6_both0 (Nat.le_of_ble_eq_true rfl) rfl (t_X6_both0 T st)
/-! ThreeOfThemModel.either0()I: S, depth 39 -/
def f_X6_either0_5 (T : Nat) : Nat → Int32 → px_S → Option (Int32 × px_S)
  | 0, _, _ => none
  | n + 1, y1, st => ((f_X6_isWord T st 111 114 0 0 0 0 0 0).bind fun b1 => (if b1 = 0 then (some (y1, st)) else ((f_X6_next T st).bind fun b3 => ((f_X6_both0 T b3).bind fun b4 => (if y1 = 0 then (if b4.1 = 0 then ((f_X6_either0_5 T n) 0 b4.2) else ((f_X6_either0_5 T n) 1 b4.2)) else ((f_X6_either0_5 T n) 1 b4.2))))))
set_option maxRecDepth 20000 in
theorem t_X6_either0_5 (T : Nat) : ∀ (n : Nat) (y1 : Int32) (st : px_S), px_O (39, 0, 0, px_n (T + 2), m_X6_either0) (px_gi (T + 2)) (f_X6_either0_5 T n y1 st) 5 [some (.ref 48), some (.int y1), none] [] (HP (T + 2) st) 0 0 := by
  intro n
  induction n with
  | zero => intro y1 st; rw [f_X6_either0_5]; exact o_none
  | succ n ih =>
    intro y1 st
    rw [f_X6_either0_5]
    refine o_aload_n dX6_either0_5 rfl ?_
    refine o_bipush (v := 111) dX6_either0_6 (by decide) ?_
    refine o_bipush (v := 114) dX6_either0_8 (by decide) ?_
    refine o_iconst (v := 0) dX6_either0_10 (by decide) ?_
    refine o_iconst (v := 0) dX6_either0_11 (by decide) ?_
    refine o_iconst (v := 0) dX6_either0_12 (by decide) ?_
    refine o_iconst (v := 0) dX6_either0_13 (by decide) ?_
    refine o_iconst (v := 0) dX6_either0_14 (by decide) ?_
    refine o_iconst (v := 0) dX6_either0_15 (by decide) ?_
    refine h_cV0 (as := [.int 111, .int 114, .int 0, .int 0, .int 0, .int 0, .int 0, .int 0]) (S1 := []) (d' := 2) dX6_either0_16 mf_X6_isWord ml_X6_188 mv_X6_isWord q6 rfl (hp_at (px_ltM (by decide)) (c48 _)) rfl (Nat.le_of_ble_eq_true rfl) rfl (Nat.le_of_ble_eq_true rfl) ⟨Nat.zero_le _, Nat.zero_le _⟩ (fun b hb => k_X6_isWord hb) (fun b1 hb1 => ?_)
    refine o_ifeq (tgt := 48) dX6_either0_19 (by decide) (fun u2 => ?_) (fun u2 => ?_)
    · refine o_iload_n dX6_either0_48 rfl ?_
      exact o_iret (rt := .int) rfl rfl dX6_either0_49 rfl (Nat.zero_le _) (Nat.zero_le _)
    · refine o_aload_n dX6_either0_22 rfl ?_
      refine h_cVv (as := []) (S1 := []) (d' := 1) dX6_either0_23 mf_X6_next ml_X6_185 mv_X6_next q6 rfl (hp_at (px_ltM (by decide)) (c48 _)) rfl (Nat.le_of_ble_eq_true rfl) rfl (Nat.le_of_ble_eq_true rfl) (fun b hb => k_X6_next hb) (fun b3 hb3 => ?_)
      refine o_aload_n dX6_either0_26 rfl ?_
      refine h_cVi (as := []) (S1 := []) (d' := 38) dX6_either0_27 mf_X6_both0 ml_X6_327 mv_X6_both0 q6 rfl (hp_at (px_ltM (by decide)) (c48 _)) rfl (Nat.le_of_ble_eq_true rfl) rfl (Nat.le_of_ble_eq_true rfl) (fun b hb => k_X6_both0 hb) (fun b4 hb4 => ?_)
      refine o_istore_n (L' := [some (.ref 48), some (.int y1), some (.int b4.1)]) dX6_either0_30 (Nat.le_of_ble_eq_true rfl) rfl rfl ?_
      refine o_iload_n dX6_either0_31 rfl ?_
      refine o_ifne (tgt := 39) dX6_either0_32 (by decide) (fun u5 => ?_) (fun u5 => ?_)
      · refine o_iconst (v := 1) dX6_either0_39 (by decide) ?_
        refine o_goto (tgt := 44) dX6_either0_40 (by decide) ?_
        refine o_istore_n (L' := [some (.ref 48), some (.int 1), some (.int b4.1)]) dX6_either0_44 (Nat.le_of_ble_eq_true rfl) rfl rfl ?_
        refine o_goto (tgt := 5) dX6_either0_45 (by decide) ?_
        exact o_weak (L' := [some (.ref 48), some (.int 1), none]) ⟨rfl, ⟨rfl, trivial⟩⟩ (ih 1 b4.2)
      · refine o_iload_n dX6_either0_35 rfl ?_
        refine o_ifeq (tgt := 43) dX6_either0_36 (by decide) (fun u6 => ?_) (fun u6 => ?_)
        · refine o_iconst (v := 0) dX6_either0_43 (by decide) ?_
          refine o_istore_n (L' := [some (.ref 48), some (.int 0), some (.int b4.1)]) dX6_either0_44 (Nat.le_of_ble_eq_true rfl) rfl rfl ?_
          refine o_goto (tgt := 5) dX6_either0_45 (by decide) ?_
          exact o_weak (L' := [some (.ref 48), some (.int 0), none]) ⟨rfl, ⟨rfl, trivial⟩⟩ (ih 0 b4.2)
        · refine o_iconst (v := 1) dX6_either0_39 (by decide) ?_
          refine o_goto (tgt := 44) dX6_either0_40 (by decide) ?_
          refine o_istore_n (L' := [some (.ref 48), some (.int 1), some (.int b4.1)]) dX6_either0_44 (Nat.le_of_ble_eq_true rfl) rfl rfl ?_
          refine o_goto (tgt := 5) dX6_either0_45 (by decide) ?_
          exact o_weak (L' := [some (.ref 48), some (.int 1), none]) ⟨rfl, ⟨rfl, trivial⟩⟩ (ih 1 b4.2)
def f_X6_either0 (T : Nat) (st : px_S) : Option (Int32 × px_S) := ((f_X6_both0 T st).bind fun b7 => (f_X6_either0_5 T 1000 b7.1 b7.2))
set_option maxRecDepth 20000 in
theorem t_X6_either0 (T : Nat) (st : px_S) : px_O (39, 0, 0, px_n (T + 2), m_X6_either0) (px_gi (T + 2)) (f_X6_either0 T st) 0 [some (.ref 48), none, none] [] (HP (T + 2) st) 0 0 := by
  rw [f_X6_either0]
  refine o_aload_n dX6_either0_0 rfl ?_
  refine h_cVi (as := []) (S1 := []) (d' := 38) dX6_either0_1 mf_X6_both0 ml_X6_327 mv_X6_both0 q6 rfl (hp_at (px_ltM (by decide)) (c48 _)) rfl (Nat.le_of_ble_eq_true rfl) rfl (Nat.le_of_ble_eq_true rfl) (fun b hb => k_X6_both0 hb) (fun b7 hb7 => ?_)
  refine o_istore_n (L' := [some (.ref 48), some (.int b7.1), none]) dX6_either0_4 (Nat.le_of_ble_eq_true rfl) rfl rfl ?_
  exact (t_X6_either0_5 T 1000 b7.1 b7.2)
theorem k_X6_either0 {T : Nat} {st : px_S} {b : Int32 × px_S} (hf : f_X6_either0 T st = some b) : px_K (39) 0 0 m_X6_either0 [.ref 48] (HP (T + 2) st) ((px_gi (T + 2)) b).1 ((px_gi (T + 2)) b).2 := px_KofH hf mf_X6_either0 (Nat.le_of_ble_eq_true rfl) rfl (t_X6_either0 T st)
/-! ThreeOfThemModel.part(Z)I: S, depth 40 -/
def f_X6_part_48 (T : Nat) (y2 : Int32) (st : px_S) : Option (Int32 × px_S) := (if (st 48 29) = 0 then ((f_X6_next T st).bind fun b2 => (some (y2, b2))) else (some (y2, st)))
set_option maxRecDepth 20000 in
theorem t_X6_part_48 (T : Nat) (y2 : Int32) (st : px_S) : px_O (40, 0, 0, px_n (T + 2), m_X6_part) (px_gi (T + 2)) (f_X6_part_48 T y2 st) 48 [some (.ref 48), none, some (.int y2)] [] (HP (T + 2) st) 0 0 := by
  rw [f_X6_part_48]
  refine o_aload_n dX6_part_48 rfl ?_
  refine h_get (v := .int (st 48 29)) dX6_part_49 q6 fl_X6_169 (by decide) (px_ltM (by decide)) (c48 _) rfl ?_
  refine o_ifne (tgt := 59) dX6_part_52 (by decide) (fun u1 => ?_) (fun u1 => ?_)
  · refine o_iload_n dX6_part_59 rfl ?_
    exact o_iret (rt := .int) rfl rfl dX6_part_60 rfl (Nat.zero_le _) (Nat.zero_le _)
  · refine o_aload_n dX6_part_55 rfl ?_
    refine h_cVv (as := []) (S1 := []) (d' := 1) dX6_part_56 mf_X6_next ml_X6_185 mv_X6_next q6 rfl (hp_at (px_ltM (by decide)) (c48 _)) rfl (Nat.le_of_ble_eq_true rfl) rfl (Nat.le_of_ble_eq_true rfl) (fun b hb => k_X6_next hb) (fun b2 hb2 => ?_)
    refine o_iload_n dX6_part_59 rfl ?_
    exact o_iret (rt := .int) rfl rfl dX6_part_60 rfl (Nat.zero_le _) (Nat.zero_le _)
def f_X6_part_34 (T : Nat) (z0 : Int32) (st : px_S) : Option (Int32 × px_S) := ((f_X6_isSign T st 59).bind fun b3 => (if b3 = 0 then ((f_X6_fail T st).bind fun b5 => (f_X6_part_48 T z0 b5)) else (f_X6_part_48 T z0 st)))
set_option maxRecDepth 20000 in
theorem t_X6_part_34 (T : Nat) (z0 : Int32) (st : px_S) : px_O (40, 0, 0, px_n (T + 2), m_X6_part) (px_gi (T + 2)) (f_X6_part_34 T z0 st) 34 [some (.ref 48), none, none] [.int z0] (HP (T + 2) st) 0 0 := by
  rw [f_X6_part_34]
  refine o_istore_n (L' := [some (.ref 48), none, some (.int z0)]) dX6_part_34 (Nat.le_of_ble_eq_true rfl) rfl rfl ?_
  refine o_aload_n dX6_part_35 rfl ?_
  refine o_bipush (v := 59) dX6_part_36 (by decide) ?_
  refine h_cV0 (as := [.int 59]) (S1 := []) (d' := 0) dX6_part_38 mf_X6_isSign ml_X6_210 mv_X6_isSign q6 rfl (hp_at (px_ltM (by decide)) (c48 _)) rfl (Nat.le_of_ble_eq_true rfl) rfl (Nat.le_of_ble_eq_true rfl) ⟨Nat.zero_le _, Nat.zero_le _⟩ (fun b hb => k_X6_isSign hb) (fun b3 hb3 => ?_)
  refine o_ifne (tgt := 48) dX6_part_41 (by decide) (fun u4 => ?_) (fun u4 => ?_)
  · exact (t_X6_part_48 T z0 st)
  · refine o_aload_n dX6_part_44 rfl ?_
    refine h_cVv (as := []) (S1 := []) (d' := 0) dX6_part_45 mf_X6_fail ml_X6_182 mv_X6_fail q6 rfl (hp_at (px_ltM (by decide)) (c48 _)) rfl (Nat.le_of_ble_eq_true rfl) rfl (Nat.le_of_ble_eq_true rfl) (fun b hb => k_X6_fail hb) (fun b5 hb5 => ?_)
    exact (t_X6_part_48 T z0 b5)
def f_X6_part_19 (T : Nat) (st : px_S) : Option (Int32 × px_S) := (if (st 48 29) = 0 then ((f_X6_either0 T st).bind fun b7 => (f_X6_part_34 T b7.1 b7.2)) else (f_X6_part_34 T 0 st))
set_option maxRecDepth 20000 in
theorem t_X6_part_19 (T : Nat) (st : px_S) : px_O (40, 0, 0, px_n (T + 2), m_X6_part) (px_gi (T + 2)) (f_X6_part_19 T st) 19 [some (.ref 48), none, none] [] (HP (T + 2) st) 0 0 := by
  rw [f_X6_part_19]
  refine o_aload_n dX6_part_19 rfl ?_
  refine h_get (v := .int (st 48 29)) dX6_part_20 q6 fl_X6_169 (by decide) (px_ltM (by decide)) (c48 _) rfl ?_
  refine o_ifeq (tgt := 30) dX6_part_23 (by decide) (fun u6 => ?_) (fun u6 => ?_)
  · refine o_aload_n dX6_part_30 rfl ?_
    refine h_cVi (as := []) (S1 := []) (d' := 39) dX6_part_31 mf_X6_either0 ml_X6_330 mv_X6_either0 q6 rfl (hp_at (px_ltM (by decide)) (c48 _)) rfl (Nat.le_of_ble_eq_true rfl) rfl (Nat.le_of_ble_eq_true rfl) (fun b hb => k_X6_either0 hb) (fun b7 hb7 => ?_)
    exact (t_X6_part_34 T b7.1 b7.2)
  · refine o_iconst (v := 0) dX6_part_26 (by decide) ?_
    refine o_goto (tgt := 34) dX6_part_27 (by decide) ?_
    exact (t_X6_part_34 T 0 st)
def f_X6_part_8 (T : Nat) (st : px_S) : Option (Int32 × px_S) := (if (st 48 29) = 0 then ((f_X6_next T st).bind fun b9 => (f_X6_part_19 T  b9)) else (f_X6_part_19 T  st))
set_option maxRecDepth 20000 in
theorem t_X6_part_8 (T : Nat) (st : px_S) : px_O (40, 0, 0, px_n (T + 2), m_X6_part) (px_gi (T + 2)) (f_X6_part_8 T st) 8 [some (.ref 48), none, none] [] (HP (T + 2) st) 0 0 := by
  rw [f_X6_part_8]
  refine o_aload_n dX6_part_8 rfl ?_
  refine h_get (v := .int (st 48 29)) dX6_part_9 q6 fl_X6_169 (by decide) (px_ltM (by decide)) (c48 _) rfl ?_
  refine o_ifne (tgt := 19) dX6_part_12 (by decide) (fun u8 => ?_) (fun u8 => ?_)
  · exact (t_X6_part_19 T  st)
  · refine o_aload_n dX6_part_15 rfl ?_
    refine h_cVv (as := []) (S1 := []) (d' := 1) dX6_part_16 mf_X6_next ml_X6_185 mv_X6_next q6 rfl (hp_at (px_ltM (by decide)) (c48 _)) rfl (Nat.le_of_ble_eq_true rfl) rfl (Nat.le_of_ble_eq_true rfl) (fun b hb => k_X6_next hb) (fun b9 hb9 => ?_)
    exact (t_X6_part_19 T  b9)
def f_X6_part (T : Nat) (x0 : Int32) (st : px_S) : Option (Int32 × px_S) := (if x0 = 0 then ((f_X6_fail T st).bind fun b11 => (f_X6_part_8 T  b11)) else (f_X6_part_8 T  st))
set_option maxRecDepth 20000 in
theorem t_X6_part (T : Nat) (x0 : Int32) (st : px_S) : px_O (40, 0, 0, px_n (T + 2), m_X6_part) (px_gi (T + 2)) (f_X6_part T x0 st) 0 [some (.ref 48), some (.int x0), none] [] (HP (T + 2) st) 0 0 := by
  rw [f_X6_part]
  refine o_iload_n dX6_part_0 rfl ?_
  refine o_ifne (tgt := 8) dX6_part_1 (by decide) (fun u10 => ?_) (fun u10 => ?_)
  · exact o_weak (L' := [some (.ref 48), none, none]) ⟨rfl, trivial⟩ (t_X6_part_8 T  st)
  · refine o_aload_n dX6_part_4 rfl ?_
    refine h_cVv (as := []) (S1 := []) (d' := 0) dX6_part_5 mf_X6_fail ml_X6_182 mv_X6_fail q6 rfl (hp_at (px_ltM (by decide)) (c48 _)) rfl (Nat.le_of_ble_eq_true rfl) rfl (Nat.le_of_ble_eq_true rfl) (fun b hb => k_X6_fail hb) (fun b11 hb11 => ?_)
    exact o_weak (L' := [some (.ref 48), none, none]) ⟨rfl, trivial⟩ (t_X6_part_8 T  b11)
theorem k_X6_part {T : Nat} {st : px_S} {x0 : Int32} {b : Int32 × px_S} (hf : f_X6_part T x0 st = some b) : px_K (40) 0 0 m_X6_part [.ref 48, .int x0] (HP (T + 2) st) ((px_gi (T + 2)) b).1 ((px_gi (T + 2)) b).2 := px_KofH hf mf_X6_part (Nat.le_of_ble_eq_true rfl) rfl (t_X6_part T x0 st)
/-! ThreeOfThemModel.read(II)I: S, depth 41 -/
def f_X6_read_147 (T : Nat) (y2 : Int32) (y3 : Int32) (y4 : Int32) (y5 : Int32) (st : px_S) : Option (Int32 × px_S) := (if y2 = 0 then (some (y3, st)) else (if y2 = 1 then (some (y4, st)) else (some (y5, st))))
set_option maxRecDepth 20000 in
theorem t_X6_read_147 (T : Nat) (y2 : Int32) (y3 : Int32) (y4 : Int32) (y5 : Int32) (st : px_S) : px_O (41, 0, 0, px_n (T + 2), m_X6_read) (px_gi (T + 2)) (f_X6_read_147 T y2 y3 y4 y5 st) 147 [none, none, some (.int y2), some (.int y3), some (.int y4), some (.int y5)] [] (HP (T + 2) st) 0 0 := by
  rw [f_X6_read_147]
  refine o_iload_n dX6_read_147 rfl ?_
  refine o_ifne (tgt := 155) dX6_read_148 (by decide) (fun u1 => ?_) (fun u1 => ?_)
  · refine o_iload_n dX6_read_155 rfl ?_
    refine o_iconst (v := 1) dX6_read_156 (by decide) ?_
    refine o_icmpne (tgt := 165) dX6_read_157 (by decide) (fun u2 => ?_) (fun u2 => ?_)
    · refine o_iload dX6_read_165 rfl ?_
      exact o_iret (rt := .int) rfl rfl dX6_read_167 rfl (Nat.zero_le _) (Nat.zero_le _)
    · refine o_iload dX6_read_160 rfl ?_
      refine o_goto (tgt := 167) dX6_read_162 (by decide) ?_
      exact o_iret (rt := .int) rfl rfl dX6_read_167 rfl (Nat.zero_le _) (Nat.zero_le _)
  · refine o_iload_n dX6_read_151 rfl ?_
    refine o_goto (tgt := 167) dX6_read_152 (by decide) ?_
    exact o_iret (rt := .int) rfl rfl dX6_read_167 rfl (Nat.zero_le _) (Nat.zero_le _)
def f_X6_read_127 (T : Nat) (y2 : Int32) (y3 : Int32) (y4 : Int32) (z0 : Int32) (st : px_S) : Option (Int32 × px_S) := (if (st 48 29) = 0 then (if (st 48 25) = 0 then (f_X6_read_147 T y2 y3 y4 z0 st) else ((f_X6_fail T st).bind fun b5 => (f_X6_read_147 T y2 y3 y4 z0 b5))) else (f_X6_read_147 T y2 y3 y4 z0 st))
set_option maxRecDepth 20000 in
theorem t_X6_read_127 (T : Nat) (y2 : Int32) (y3 : Int32) (y4 : Int32) (z0 : Int32) (st : px_S) : px_O (41, 0, 0, px_n (T + 2), m_X6_read) (px_gi (T + 2)) (f_X6_read_127 T y2 y3 y4 z0 st) 127 [some (.ref 48), none, some (.int y2), some (.int y3), some (.int y4), none] [.int z0] (HP (T + 2) st) 0 0 := by
  rw [f_X6_read_127]
  refine o_istore (L' := [some (.ref 48), none, some (.int y2), some (.int y3), some (.int y4), some (.int z0)]) dX6_read_127 (Nat.le_of_ble_eq_true rfl) rfl rfl ?_
  refine o_aload_n dX6_read_129 rfl ?_
  refine h_get (v := .int (st 48 29)) dX6_read_130 q6 fl_X6_169 (by decide) (px_ltM (by decide)) (c48 _) rfl ?_
  refine o_ifne (tgt := 147) dX6_read_133 (by decide) (fun u3 => ?_) (fun u3 => ?_)
  · exact o_weak (L' := [none, none, some (.int y2), some (.int y3), some (.int y4), some (.int z0)]) ⟨rfl, ⟨rfl, ⟨rfl, ⟨rfl, trivial⟩⟩⟩⟩ (t_X6_read_147 T y2 y3 y4 z0 st)
  · refine o_aload_n dX6_read_136 rfl ?_
    refine h_get (v := .int (st 48 25)) dX6_read_137 q6 fl_X6_152 (by decide) (px_ltM (by decide)) (c48 _) rfl ?_
    refine o_ifeq (tgt := 147) dX6_read_140 (by decide) (fun u4 => ?_) (fun u4 => ?_)
    · exact o_weak (L' := [none, none, some (.int y2), some (.int y3), some (.int y4), some (.int z0)]) ⟨rfl, ⟨rfl, ⟨rfl, ⟨rfl, trivial⟩⟩⟩⟩ (t_X6_read_147 T y2 y3 y4 z0 st)
    · refine o_aload_n dX6_read_143 rfl ?_
      refine h_cVv (as := []) (S1 := []) (d' := 0) dX6_read_144 mf_X6_fail ml_X6_182 mv_X6_fail q6 rfl (hp_at (px_ltM (by decide)) (c48 _)) rfl (Nat.le_of_ble_eq_true rfl) rfl (Nat.le_of_ble_eq_true rfl) (fun b hb => k_X6_fail hb) (fun b5 hb5 => ?_)
      exact o_weak (L' := [none, none, some (.int y2), some (.int y3), some (.int y4), some (.int z0)]) ⟨rfl, ⟨rfl, ⟨rfl, ⟨rfl, trivial⟩⟩⟩⟩ (t_X6_read_147 T y2 y3 y4 z0 b5)
def f_X6_read_93 (T : Nat) (y2 : Int32) (y3 : Int32) (z0 : Int32) (st : px_S) : Option (Int32 × px_S) := (if (st 48 29) = 0 then ((f_X6_isWord T st 106 111 105 110 115 0 0 0).bind fun b7 => ((f_X6_part T b7 st).bind fun b8 => (f_X6_read_127 T y2 y3 z0 b8.1 b8.2))) else (f_X6_read_127 T y2 y3 z0 0 st))
set_option maxRecDepth 20000 in
theorem t_X6_read_93 (T : Nat) (y2 : Int32) (y3 : Int32) (z0 : Int32) (st : px_S) : px_O (41, 0, 0, px_n (T + 2), m_X6_read) (px_gi (T + 2)) (f_X6_read_93 T y2 y3 z0 st) 93 [some (.ref 48), none, some (.int y2), some (.int y3), none, none] [.int z0] (HP (T + 2) st) 0 0 := by
  rw [f_X6_read_93]
  refine o_istore (L' := [some (.ref 48), none, some (.int y2), some (.int y3), some (.int z0), none]) dX6_read_93 (Nat.le_of_ble_eq_true rfl) rfl rfl ?_
  refine o_aload_n dX6_read_95 rfl ?_
  refine h_get (v := .int (st 48 29)) dX6_read_96 q6 fl_X6_169 (by decide) (px_ltM (by decide)) (c48 _) rfl ?_
  refine o_ifeq (tgt := 106) dX6_read_99 (by decide) (fun u6 => ?_) (fun u6 => ?_)
  · refine o_aload_n dX6_read_106 rfl ?_
    refine o_aload_n dX6_read_107 rfl ?_
    refine o_bipush (v := 106) dX6_read_108 (by decide) ?_
    refine o_bipush (v := 111) dX6_read_110 (by decide) ?_
    refine o_bipush (v := 105) dX6_read_112 (by decide) ?_
    refine o_bipush (v := 110) dX6_read_114 (by decide) ?_
    refine o_bipush (v := 115) dX6_read_116 (by decide) ?_
    refine o_iconst (v := 0) dX6_read_118 (by decide) ?_
    refine o_iconst (v := 0) dX6_read_119 (by decide) ?_
    refine o_iconst (v := 0) dX6_read_120 (by decide) ?_
    refine h_cV0 (as := [.int 106, .int 111, .int 105, .int 110, .int 115, .int 0, .int 0, .int 0]) (S1 := [.ref 48]) (d' := 2) dX6_read_121 mf_X6_isWord ml_X6_188 mv_X6_isWord q6 rfl (hp_at (px_ltM (by decide)) (c48 _)) rfl (Nat.le_of_ble_eq_true rfl) rfl (Nat.le_of_ble_eq_true rfl) ⟨Nat.zero_le _, Nat.zero_le _⟩ (fun b hb => k_X6_isWord hb) (fun b7 hb7 => ?_)
    refine h_cVi (as := [.int b7]) (S1 := []) (d' := 40) dX6_read_124 mf_X6_part ml_X6_333 mv_X6_part q6 rfl (hp_at (px_ltM (by decide)) (c48 _)) rfl (Nat.le_of_ble_eq_true rfl) rfl (Nat.le_of_ble_eq_true rfl) (fun b hb => k_X6_part hb) (fun b8 hb8 => ?_)
    exact (t_X6_read_127 T y2 y3 z0 b8.1 b8.2)
  · refine o_iconst (v := 0) dX6_read_102 (by decide) ?_
    refine o_goto (tgt := 127) dX6_read_103 (by decide) ?_
    exact (t_X6_read_127 T y2 y3 z0 0 st)
def f_X6_read (T : Nat) (x0 : Int32) (x1 : Int32) (st : px_S) : Option (Int32 × px_S) := (if px_in x0 6 then ((f_X6_next T (up (up (up (up (up st 48 22 ((160 : Int32) * x0)) 48 23 ((up st 48 22 ((160 : Int32) * x0)) 50 x0.toNatClampNeg)) 48 24 0) 48 28 0) 48 29 0)).bind fun b10 => ((f_X6_isWord T b10 99 111 109 112 97 110 121 0).bind fun b11 => ((f_X6_part T b11 b10).bind fun b12 => (if (b12.2 48 29) = 0 then ((f_X6_isWord T b12.2 111 97 116 104 0 0 0 0).bind fun b14 => ((f_X6_part T b14 b12.2).bind fun b15 => (f_X6_read_93 T x1 b12.1 b15.1 b15.2))) else (f_X6_read_93 T x1 b12.1 0 b12.2))))) else none)
set_option maxRecDepth 20000 in
theorem t_X6_read (T : Nat) (x0 : Int32) (x1 : Int32) (st : px_S) : px_O (41, 0, 0, px_n (T + 2), m_X6_read) (px_gi (T + 2)) (f_X6_read T x0 x1 st) 0 [some (.ref 48), some (.int x0), some (.int x1), none, none, none] [] (HP (T + 2) st) 0 0 := by
  rw [f_X6_read]
  refine o_aload_n dX6_read_0 rfl ?_
  refine o_sipush (v := 160) dX6_read_1 (by decide) ?_
  refine o_iload_n dX6_read_4 rfl ?_
  refine o_imul dX6_read_5 ?_
  refine h_puti dX6_read_6 q6 fl_X6_139 pf_X6_22 (px_ltM (by decide)) (c48 _) (Nat.le_of_ble_eq_true rfl) (s48_22 _ _) ?_
  refine o_aload_n dX6_read_9 rfl ?_
  refine o_aload_n dX6_read_10 rfl ?_
  refine h_get (v := .ref 50) dX6_read_11 q6 fl_X6_17 (by decide) (px_ltM (by decide)) (c48 _) rfl ?_
  refine o_iload_n dX6_read_14 rfl ?_
  refine h_iald (n := 6) dX6_read_15 (px_ltM (by decide)) (c50 _) (fun u9 => ?_)
  refine h_puti dX6_read_16 q6 fl_X6_136 pf_X6_23 (px_ltM (by decide)) (c48 _) (Nat.le_of_ble_eq_true rfl) (s48_23 _ _) ?_
  refine o_aload_n dX6_read_19 rfl ?_
  refine o_iconst (v := 0) dX6_read_20 (by decide) ?_
  refine h_puti dX6_read_21 q6 fl_X6_142 pf_X6_24 (px_ltM (by decide)) (c48 _) (Nat.le_of_ble_eq_true rfl) (s48_24 _ _) ?_
  refine o_aload_n dX6_read_24 rfl ?_
  refine o_iconst (v := 0) dX6_read_25 (by decide) ?_
  refine h_puti dX6_read_26 q6 fl_X6_179 pf_X6_28 (px_ltM (by decide)) (c48 _) (Nat.le_of_ble_eq_true rfl) (s48_28 _ _) ?_
  refine o_aload_n dX6_read_29 rfl ?_
  refine o_iconst (v := 0) dX6_read_30 (by decide) ?_
  refine h_putz dX6_read_31 q6 fl_X6_169 pf_X6_29 (Or.inl rfl) (px_ltM (by decide)) (c48 _) (Nat.le_of_ble_eq_true rfl) (s48_29 _ _) ?_
  refine o_aload_n dX6_read_34 rfl ?_
  refine h_cVv (as := []) (S1 := []) (d' := 1) dX6_read_35 mf_X6_next ml_X6_185 mv_X6_next q6 rfl (hp_at (px_ltM (by decide)) (c48 _)) rfl (Nat.le_of_ble_eq_true rfl) rfl (Nat.le_of_ble_eq_true rfl) (fun b hb => k_X6_next hb) (fun b10 hb10 => ?_)
  refine o_aload_n dX6_read_38 rfl ?_
  refine o_aload_n dX6_read_39 rfl ?_
  refine o_bipush (v := 99) dX6_read_40 (by decide) ?_
  refine o_bipush (v := 111) dX6_read_42 (by decide) ?_
  refine o_bipush (v := 109) dX6_read_44 (by decide) ?_
  refine o_bipush (v := 112) dX6_read_46 (by decide) ?_
  refine o_bipush (v := 97) dX6_read_48 (by decide) ?_
  refine o_bipush (v := 110) dX6_read_50 (by decide) ?_
  refine o_bipush (v := 121) dX6_read_52 (by decide) ?_
  refine o_iconst (v := 0) dX6_read_54 (by decide) ?_
  refine h_cV0 (as := [.int 99, .int 111, .int 109, .int 112, .int 97, .int 110, .int 121, .int 0]) (S1 := [.ref 48]) (d' := 2) dX6_read_55 mf_X6_isWord ml_X6_188 mv_X6_isWord q6 rfl (hp_at (px_ltM (by decide)) (c48 _)) rfl (Nat.le_of_ble_eq_true rfl) rfl (Nat.le_of_ble_eq_true rfl) ⟨Nat.zero_le _, Nat.zero_le _⟩ (fun b hb => k_X6_isWord hb) (fun b11 hb11 => ?_)
  refine h_cVi (as := [.int b11]) (S1 := []) (d' := 40) dX6_read_58 mf_X6_part ml_X6_333 mv_X6_part q6 rfl (hp_at (px_ltM (by decide)) (c48 _)) rfl (Nat.le_of_ble_eq_true rfl) rfl (Nat.le_of_ble_eq_true rfl) (fun b hb => k_X6_part hb) (fun b12 hb12 => ?_)
  refine o_istore_n (L' := [some (.ref 48), some (.int x0), some (.int x1), some (.int b12.1), none, none]) dX6_read_61 (Nat.le_of_ble_eq_true rfl) rfl rfl ?_
  refine o_aload_n dX6_read_62 rfl ?_
  refine h_get (v := .int (b12.2 48 29)) dX6_read_63 q6 fl_X6_169 (by decide) (px_ltM (by decide)) (c48 _) rfl ?_
  refine o_ifeq (tgt := 73) dX6_read_66 (by decide) (fun u13 => ?_) (fun u13 => ?_)
  · refine o_aload_n dX6_read_73 rfl ?_
    refine o_aload_n dX6_read_74 rfl ?_
    refine o_bipush (v := 111) dX6_read_75 (by decide) ?_
    refine o_bipush (v := 97) dX6_read_77 (by decide) ?_
    refine o_bipush (v := 116) dX6_read_79 (by decide) ?_
    refine o_bipush (v := 104) dX6_read_81 (by decide) ?_
    refine o_iconst (v := 0) dX6_read_83 (by decide) ?_
    refine o_iconst (v := 0) dX6_read_84 (by decide) ?_
    refine o_iconst (v := 0) dX6_read_85 (by decide) ?_
    refine o_iconst (v := 0) dX6_read_86 (by decide) ?_
    refine h_cV0 (as := [.int 111, .int 97, .int 116, .int 104, .int 0, .int 0, .int 0, .int 0]) (S1 := [.ref 48]) (d' := 2) dX6_read_87 mf_X6_isWord ml_X6_188 mv_X6_isWord q6 rfl (hp_at (px_ltM (by decide)) (c48 _)) rfl (Nat.le_of_ble_eq_true rfl) rfl (Nat.le_of_ble_eq_true rfl) ⟨Nat.zero_le _, Nat.zero_le _⟩ (fun b hb => k_X6_isWord hb) (fun b14 hb14 => ?_)
    refine h_cVi (as := [.int b14]) (S1 := []) (d' := 40) dX6_read_90 mf_X6_part ml_X6_333 mv_X6_part q6 rfl (hp_at (px_ltM (by decide)) (c48 _)) rfl (Nat.le_of_ble_eq_true rfl) rfl (Nat.le_of_ble_eq_true rfl) (fun b hb => k_X6_part hb) (fun b15 hb15 => ?_)
    exact o_weak (L' := [some (.ref 48), none, some (.int x1), some (.int b12.1), none, none]) ⟨rfl, ⟨rfl, ⟨rfl, trivial⟩⟩⟩ (t_X6_read_93 T x1 b12.1 b15.1 b15.2)
  · refine o_iconst (v := 0) dX6_read_69 (by decide) ?_
    refine o_goto (tgt := 93) dX6_read_70 (by decide) ?_
    exact o_weak (L' := [some (.ref 48), none, some (.int x1), some (.int b12.1), none, none]) ⟨rfl, ⟨rfl, ⟨rfl, trivial⟩⟩⟩ (t_X6_read_93 T x1 b12.1 0 b12.2)
theorem k_X6_read {T : Nat} {st : px_S} {x0 : Int32} {x1 : Int32} {b : Int32 × px_S} (hf : f_X6_read T x0 x1 st = some b) : px_K (41) 0 0 m_X6_read [.ref 48, .int x0, .int x1] (HP (T + 2) st) ((px_gi (T + 2)) b).1 ((px_gi (T + 2)) b).2 := px_KofH hf mf_X6_read (Nat.le_of_ble_eq_true rfl) rfl (t_X6_read T x0 x1 st)
/-! ThreeOfThemModel.text()I: S, depth 42 -/
def f_X6_text_14 (T : Nat) : Nat → Int32 → px_S → Option (Int32 × px_S)
  | 0, _, _ => none
  | n + 1, y1, st => (if y1 < (st 48 6) then (if px_in y1 160 then (if px_in (((160 : Int32) * (st 48 3)) + y1) 960 then ((f_X6_text_14 T n) (y1 + 1) (up st 49 (((160 : Int32) * (st 48 3)) + y1).toNatClampNeg (st 51 y1.toNatClampNeg))) else none) else none) else (if px_in (st 48 3) 6 then ((f_X6_read T (st 48 3) 0 (up (up st 50 (st 48 3).toNatClampNeg (st 48 6)) 48 6 0)).bind fun b3 => (if (b3.2 48 29) = 0 then (some ((((b3.2 48 3) + 1) - 1), (up b3.2 48 3 ((b3.2 48 3) + 1)))) else (some ((((-100) : Int32) - (b3.2 48 30)), b3.2)))) else none))
set_option maxRecDepth 20000 in
theorem t_X6_text_14 (T : Nat) : ∀ (n : Nat) (y1 : Int32) (st : px_S), px_O (42, 0, 0, px_n (T + 2), m_X6_text) (px_gi (T + 2)) (f_X6_text_14 T n y1 st) 14 [some (.ref 48), some (.int y1)] [] (HP (T + 2) st) 0 0 := by
  intro n
  induction n with
  | zero => intro y1 st; rw [f_X6_text_14]; exact o_none
  | succ n ih =>
    intro y1 st
    rw [f_X6_text_14]
    refine o_iload_n dX6_text_14 rfl ?_
    refine o_aload_n dX6_text_15 rfl ?_
    refine h_get (v := .int (st 48 6)) dX6_text_16 q6 fl_X6_133 (by decide) (px_ltM (by decide)) (c48 _) rfl ?_
    refine o_icmpge (tgt := 49) dX6_text_19 (by decide) (fun u1 => ?_) (fun u1 => ?_)
    · refine o_aload_n dX6_text_49 rfl ?_
      refine h_get (v := .ref 50) dX6_text_50 q6 fl_X6_17 (by decide) (px_ltM (by decide)) (c48 _) rfl ?_
      refine o_aload_n dX6_text_53 rfl ?_
      refine h_get (v := .int (st 48 3)) dX6_text_54 q6 fl_X6_91 (by decide) (px_ltM (by decide)) (c48 _) rfl ?_
      refine o_aload_n dX6_text_57 rfl ?_
      refine h_get (v := .int (st 48 6)) dX6_text_58 q6 fl_X6_133 (by decide) (px_ltM (by decide)) (c48 _) rfl ?_
      refine h_iast (n := 6) dX6_text_61 (px_ltM (by decide)) c50 (fun u2 => ?_)
      refine o_aload_n dX6_text_62 rfl ?_
      refine o_iconst (v := 0) dX6_text_63 (by decide) ?_
      refine h_puti dX6_text_64 q6 fl_X6_133 pf_X6_6 (px_ltM (by decide)) (c48 _) (Nat.le_of_ble_eq_true rfl) (s48_6 _ _) ?_
      refine o_aload_n dX6_text_67 rfl ?_
      refine o_aload_n dX6_text_68 rfl ?_
      refine h_get (v := .int (st 48 3)) dX6_text_69 q6 fl_X6_91 (by decide) (px_ltM (by decide)) (c48 _) rfl ?_
      refine o_iconst (v := 0) dX6_text_72 (by decide) ?_
      refine h_cVi (as := [.int (st 48 3), .int 0]) (S1 := []) (d' := 41) dX6_text_73 mf_X6_read ml_X6_337 mv_X6_read q6 rfl (hp_at (px_ltM (by decide)) (c48 _)) rfl (Nat.le_of_ble_eq_true rfl) rfl (Nat.le_of_ble_eq_true rfl) (fun b hb => k_X6_read hb) (fun b3 hb3 => ?_)
      refine o_istore_n (L' := [some (.ref 48), some (.int b3.1)]) dX6_text_76 (Nat.le_of_ble_eq_true rfl) rfl rfl ?_
      refine o_aload_n dX6_text_77 rfl ?_
      refine h_get (v := .int (b3.2 48 29)) dX6_text_78 q6 fl_X6_169 (by decide) (px_ltM (by decide)) (c48 _) rfl ?_
      refine o_ifeq (tgt := 92) dX6_text_81 (by decide) (fun u4 => ?_) (fun u4 => ?_)
      · refine o_aload_n dX6_text_92 rfl ?_
        refine o_dup dX6_text_93 rfl ?_
        refine h_get (v := .int (b3.2 48 3)) dX6_text_94 q6 fl_X6_91 (by decide) (px_ltM (by decide)) (c48 _) rfl ?_
        refine o_iconst (v := 1) dX6_text_97 (by decide) ?_
        refine o_iadd dX6_text_98 ?_
        refine h_puti dX6_text_99 q6 fl_X6_91 pf_X6_3 (px_ltM (by decide)) (c48 _) (Nat.le_of_ble_eq_true rfl) (s48_3 _ _) ?_
        refine o_aload_n dX6_text_102 rfl ?_
        refine h_get (v := .int ((b3.2 48 3) + 1)) dX6_text_103 q6 fl_X6_91 (by decide) (px_ltM (by decide)) (c48 _) rfl ?_
        refine o_iconst (v := 1) dX6_text_106 (by decide) ?_
        refine o_isub dX6_text_107 ?_
        exact o_iret (rt := .int) rfl rfl dX6_text_108 rfl (Nat.zero_le _) (Nat.zero_le _)
      · refine o_bipush (v := (-100)) dX6_text_84 (by decide) ?_
        refine o_aload_n dX6_text_86 rfl ?_
        refine h_get (v := .int (b3.2 48 30)) dX6_text_87 q6 fl_X6_173 (by decide) (px_ltM (by decide)) (c48 _) rfl ?_
        refine o_isub dX6_text_90 ?_
        exact o_iret (rt := .int) rfl rfl dX6_text_91 rfl (Nat.zero_le _) (Nat.zero_le _)
    · refine o_aload_n dX6_text_22 rfl ?_
      refine h_get (v := .ref 49) dX6_text_23 q6 fl_X6_13 (by decide) (px_ltM (by decide)) (c48 _) rfl ?_
      refine o_sipush (v := 160) dX6_text_26 (by decide) ?_
      refine o_aload_n dX6_text_29 rfl ?_
      refine h_get (v := .int (st 48 3)) dX6_text_30 q6 fl_X6_91 (by decide) (px_ltM (by decide)) (c48 _) rfl ?_
      refine o_imul dX6_text_33 ?_
      refine o_iload_n dX6_text_34 rfl ?_
      refine o_iadd dX6_text_35 ?_
      refine o_aload_n dX6_text_36 rfl ?_
      refine h_get (v := .ref 51) dX6_text_37 q6 fl_X6_20 (by decide) (px_ltM (by decide)) (c48 _) rfl ?_
      refine o_iload_n dX6_text_40 rfl ?_
      refine h_iald (n := 160) dX6_text_41 (px_ltM (by decide)) (c51 _) (fun u5 => ?_)
      refine h_iast (n := 960) dX6_text_42 (px_ltM (by decide)) c49 (fun u6 => ?_)
      refine o_iinc (v := (y1 + 1)) (L' := [some (.ref 48), some (.int (y1 + 1))]) dX6_text_43 rfl rfl (Nat.le_of_ble_eq_true rfl) rfl rfl ?_
      refine o_goto (tgt := 14) dX6_text_46 (by decide) ?_
      exact (ih (y1 + 1) (up st 49 (((160 : Int32) * (st 48 3)) + y1).toNatClampNeg (st 51 y1.toNatClampNeg)))
def f_X6_text (T : Nat) (st : px_S) : Option (Int32 × px_S) := (if (st 48 3) = 6 then (some ((-4), st)) else (f_X6_text_14 T 1000 0 st))
set_option maxRecDepth 20000 in
theorem t_X6_text (T : Nat) (st : px_S) : px_O (42, 0, 0, px_n (T + 2), m_X6_text) (px_gi (T + 2)) (f_X6_text T st) 0 [some (.ref 48), none] [] (HP (T + 2) st) 0 0 := by
  rw [f_X6_text]
  refine o_aload_n dX6_text_0 rfl ?_
  refine h_get (v := .int (st 48 3)) dX6_text_1 q6 fl_X6_91 (by decide) (px_ltM (by decide)) (c48 _) rfl ?_
  refine o_bipush (v := 6) dX6_text_4 (by decide) ?_
  refine o_icmpne (tgt := 12) dX6_text_6 (by decide) (fun u7 => ?_) (fun u7 => ?_)
  · refine o_iconst (v := 0) dX6_text_12 (by decide) ?_
    refine o_istore_n (L' := [some (.ref 48), some (.int 0)]) dX6_text_13 (Nat.le_of_ble_eq_true rfl) rfl rfl ?_
    exact (t_X6_text_14 T 1000 0 st)
  · refine o_bipush (v := (-4)) dX6_text_9 (by decide) ?_
    exact o_iret (rt := .int) rfl rfl dX6_text_11 rfl (Nat.zero_le _) (Nat.zero_le _)
theorem k_X6_text {T : Nat} {st : px_S} {b : Int32 × px_S} (hf : f_X6_text T st = some b) : px_K (42) 0 0 m_X6_text [.ref 48] (HP (T + 2) st) ((px_gi (T + 2)) b).1 ((px_gi (T + 2)) b).2 := px_KofH hf mf_X6_text (Nat.le_of_ble_eq_true rfl) rfl (t_X6_text T st)
/-! ThreeOfThemModel.force(I)I: S, depth 1 -/
def f_X6_force (T : Nat) (x0 : Int32) (st : px_S) : Option (Int32 × px_S) := (if (p_X6_in x0.toInt64 0 ((st 48 3) - 1).toInt64) = 0 then (some ((-2), st)) else (some ((st 48 4), (up st 48 4 x0))))
set_option maxRecDepth 20000 in
theorem t_X6_force (T : Nat) (x0 : Int32) (st : px_S) : px_O (1, 0, 0, px_n (T + 2), m_X6_force) (px_gi (T + 2)) (f_X6_force T x0 st) 0 [some (.ref 48), some (.int x0), none] [] (HP (T + 2) st) 0 0 := by
  rw [f_X6_force]
  refine o_iload_n dX6_force_0 rfl ?_
  refine o_i2l dX6_force_1 ?_
  refine o_lconst (v := 0) dX6_force_2 (by decide) ?_
  refine o_aload_n dX6_force_3 rfl ?_
  refine h_get (v := .int (st 48 3)) dX6_force_4 q6 fl_X6_91 (by decide) (px_ltM (by decide)) (c48 _) rfl ?_
  refine o_iconst (v := 1) dX6_force_7 (by decide) ?_
  refine o_isub dX6_force_8 ?_
  refine o_i2l dX6_force_9 ?_
  refine h_cSP (as := [.long x0.toInt64, .long 0, .long ((st 48 3) - 1).toInt64]) (S1 := []) (d' := 0) dX6_force_10 mf_X6_in ml_X6_97 ms_X6_in rfl (Nat.le_of_ble_eq_true rfl) rfl (Nat.le_of_ble_eq_true rfl) ⟨Nat.zero_le _, Nat.zero_le _⟩ (k_X6_in) ?_
  refine o_ifne (tgt := 19) dX6_force_13 (by decide) (fun u1 => ?_) (fun u1 => ?_)
  · refine o_aload_n dX6_force_19 rfl ?_
    refine h_get (v := .int (st 48 4)) dX6_force_20 q6 fl_X6_341 (by decide) (px_ltM (by decide)) (c48 _) rfl ?_
    refine o_istore_n (L' := [some (.ref 48), some (.int x0), some (.int (st 48 4))]) dX6_force_23 (Nat.le_of_ble_eq_true rfl) rfl rfl ?_
    refine o_aload_n dX6_force_24 rfl ?_
    refine o_iload_n dX6_force_25 rfl ?_
    refine h_puti dX6_force_26 q6 fl_X6_341 pf_X6_4 (px_ltM (by decide)) (c48 _) (Nat.le_of_ble_eq_true rfl) (s48_4 _ _) ?_
    refine o_iload_n dX6_force_29 rfl ?_
    exact o_iret (rt := .int) rfl rfl dX6_force_30 rfl (Nat.zero_le _) (Nat.zero_le _)
  · refine o_bipush (v := (-2)) dX6_force_16 (by decide) ?_
    exact o_iret (rt := .int) rfl rfl dX6_force_18 rfl (Nat.zero_le _) (Nat.zero_le _)
theorem k_X6_force {T : Nat} {st : px_S} {x0 : Int32} {b : Int32 × px_S} (hf : f_X6_force T x0 st = some b) : px_K (1) 0 0 m_X6_force [.ref 48, .int x0] (HP (T + 2) st) ((px_gi (T + 2)) b).1 ((px_gi (T + 2)) b).2 := px_KofH hf mf_X6_force (Nat.le_of_ble_eq_true rfl) rfl (t_X6_force T x0 st)
/-! ThreeOfThemModel.says(IIII)I: S, depth 42 -/
def f_X6_says (T : Nat) (x0 : Int32) (x1 : Int32) (x2 : Int32) (x3 : Int32) (st : px_S) : Option (Int32 × px_S) := (if px_in (((7 : Int32) * x1) + x2) 49 then (if x3 = 0 then none else ((f_X6_read T (st 48 4) x0 (up (up (up (up (up (up st 48 16 (st 54 (((7 : Int32) * x1) + x2).toNatClampNeg)) 48 17 x3) 48 18 ((st 48 13) / x3)) 48 19 (st 48 15)) 48 20 x1) 48 21 x2)).bind fun b3 => (if x0 = 0 then (some ((p_X6_within b3.1 (-99) 99), b3.2)) else (if x0 = 1 then (some ((p_X6_within b3.1 0 99), b3.2)) else (if b3.1 = 0 then (some (0, b3.2)) else (some (1, b3.2))))))) else none)
set_option maxRecDepth 20000 in
theorem t_X6_says (T : Nat) (x0 : Int32) (x1 : Int32) (x2 : Int32) (x3 : Int32) (st : px_S) : px_O (42, 0, 0, px_n (T + 2), m_X6_says) (px_gi (T + 2)) (f_X6_says T x0 x1 x2 x3 st) 0 [some (.ref 48), some (.int x0), some (.int x1), some (.int x2), some (.int x3), none] [] (HP (T + 2) st) 0 0 := by
  rw [f_X6_says]
  refine o_aload_n dX6_says_0 rfl ?_
  refine o_aload_n dX6_says_1 rfl ?_
  refine h_get (v := .ref 54) dX6_says_2 q6 fl_X6_29 (by decide) (px_ltM (by decide)) (c48 _) rfl ?_
  refine o_bipush (v := 7) dX6_says_5 (by decide) ?_
  refine o_iload_n dX6_says_7 rfl ?_
  refine o_imul dX6_says_8 ?_
  refine o_iload_n dX6_says_9 rfl ?_
  refine o_iadd dX6_says_10 ?_
  refine h_iald (n := 49) dX6_says_11 (px_ltM (by decide)) (c54 _) (fun u1 => ?_)
  refine h_puti dX6_says_12 q6 fl_X6_192 pf_X6_16 (px_ltM (by decide)) (c48 _) (Nat.le_of_ble_eq_true rfl) (s48_16 _ _) ?_
  refine o_aload_n dX6_says_15 rfl ?_
  refine o_iload dX6_says_16 rfl ?_
  refine h_puti dX6_says_18 q6 fl_X6_195 pf_X6_17 (px_ltM (by decide)) (c48 _) (Nat.le_of_ble_eq_true rfl) (s48_17 _ _) ?_
  refine o_aload_n dX6_says_21 rfl ?_
  refine o_aload_n dX6_says_22 rfl ?_
  refine h_get (v := .int (st 48 13)) dX6_says_23 q6 fl_X6_35 (by decide) (px_ltM (by decide)) (c48 _) rfl ?_
  refine o_iload dX6_says_26 rfl ?_
  refine o_ite (fun _ => o_none) (fun u2 => ?_)
  refine o_idiv dX6_says_28 u2 ?_
  refine h_puti dX6_says_29 q6 fl_X6_198 pf_X6_18 (px_ltM (by decide)) (c48 _) (Nat.le_of_ble_eq_true rfl) (s48_18 _ _) ?_
  refine o_aload_n dX6_says_32 rfl ?_
  refine o_aload_n dX6_says_33 rfl ?_
  refine h_get (v := .int (st 48 15)) dX6_says_34 q6 fl_X6_128 (by decide) (px_ltM (by decide)) (c48 _) rfl ?_
  refine h_puti dX6_says_37 q6 fl_X6_201 pf_X6_19 (px_ltM (by decide)) (c48 _) (Nat.le_of_ble_eq_true rfl) (s48_19 _ _) ?_
  refine o_aload_n dX6_says_40 rfl ?_
  refine o_iload_n dX6_says_41 rfl ?_
  refine h_puti dX6_says_42 q6 fl_X6_204 pf_X6_20 (px_ltM (by decide)) (c48 _) (Nat.le_of_ble_eq_true rfl) (s48_20 _ _) ?_
  refine o_aload_n dX6_says_45 rfl ?_
  refine o_iload_n dX6_says_46 rfl ?_
  refine h_puti dX6_says_47 q6 fl_X6_207 pf_X6_21 (px_ltM (by decide)) (c48 _) (Nat.le_of_ble_eq_true rfl) (s48_21 _ _) ?_
  refine o_aload_n dX6_says_50 rfl ?_
  refine o_aload_n dX6_says_51 rfl ?_
  refine h_get (v := .int (st 48 4)) dX6_says_52 q6 fl_X6_341 (by decide) (px_ltM (by decide)) (c48 _) rfl ?_
  refine o_iload_n dX6_says_55 rfl ?_
  refine h_cVi (as := [.int (st 48 4), .int x0]) (S1 := []) (d' := 41) dX6_says_56 mf_X6_read ml_X6_337 mv_X6_read q6 rfl (hp_at (px_ltM (by decide)) (c48 _)) rfl (Nat.le_of_ble_eq_true rfl) rfl (Nat.le_of_ble_eq_true rfl) (fun b hb => k_X6_read hb) (fun b3 hb3 => ?_)
  refine o_istore (L' := [some (.ref 48), some (.int x0), some (.int x1), some (.int x2), some (.int x3), some (.int b3.1)]) dX6_says_59 (Nat.le_of_ble_eq_true rfl) rfl rfl ?_
  refine o_iload_n dX6_says_61 rfl ?_
  refine o_ifne (tgt := 77) dX6_says_62 (by decide) (fun u4 => ?_) (fun u4 => ?_)
  · refine o_iload_n dX6_says_77 rfl ?_
    refine o_iconst (v := 1) dX6_says_78 (by decide) ?_
    refine o_icmpne (tgt := 93) dX6_says_79 (by decide) (fun u5 => ?_) (fun u5 => ?_)
    · refine o_iload dX6_says_93 rfl ?_
      refine o_ifeq (tgt := 102) dX6_says_95 (by decide) (fun u6 => ?_) (fun u6 => ?_)
      · refine o_iconst (v := 0) dX6_says_102 (by decide) ?_
        exact o_iret (rt := .int) rfl rfl dX6_says_103 rfl (Nat.zero_le _) (Nat.zero_le _)
      · refine o_iconst (v := 1) dX6_says_98 (by decide) ?_
        refine o_goto (tgt := 103) dX6_says_99 (by decide) ?_
        exact o_iret (rt := .int) rfl rfl dX6_says_103 rfl (Nat.zero_le _) (Nat.zero_le _)
    · refine o_iload dX6_says_82 rfl ?_
      refine o_iconst (v := 0) dX6_says_84 (by decide) ?_
      refine o_bipush (v := 99) dX6_says_85 (by decide) ?_
      refine h_cSP (as := [.int b3.1, .int 0, .int 99]) (S1 := []) (d' := 0) dX6_says_87 mf_X6_within ml_X6_344 ms_X6_within rfl (Nat.le_of_ble_eq_true rfl) rfl (Nat.le_of_ble_eq_true rfl) ⟨Nat.zero_le _, Nat.zero_le _⟩ (k_X6_within) ?_
      refine o_goto (tgt := 103) dX6_says_90 (by decide) ?_
      exact o_iret (rt := .int) rfl rfl dX6_says_103 rfl (Nat.zero_le _) (Nat.zero_le _)
  · refine o_iload dX6_says_65 rfl ?_
    refine o_bipush (v := (-99)) dX6_says_67 (by decide) ?_
    refine o_bipush (v := 99) dX6_says_69 (by decide) ?_
    refine h_cSP (as := [.int b3.1, .int (-99), .int 99]) (S1 := []) (d' := 0) dX6_says_71 mf_X6_within ml_X6_344 ms_X6_within rfl (Nat.le_of_ble_eq_true rfl) rfl (Nat.le_of_ble_eq_true rfl) ⟨Nat.zero_le _, Nat.zero_le _⟩ (k_X6_within) ?_
    refine o_goto (tgt := 103) dX6_says_74 (by decide) ?_
    exact o_iret (rt := .int) rfl rfl dX6_says_103 rfl (Nat.zero_le _) (Nat.zero_le _)
theorem k_X6_says {T : Nat} {st : px_S} {x0 : Int32} {x1 : Int32} {x2 : Int32} {x3 : Int32} {b : Int32 × px_S} (hf : f_X6_says T x0 x1 x2 x3 st = some b) : px_K (42) 0 0 m_X6_says [.ref 48, .int x0, .int x1, .int x2, .int x3] (HP (T + 2) st) ((px_gi (T + 2)) b).1 ((px_gi (T + 2)) b).2 := px_KofH hf mf_X6_says (Nat.le_of_ble_eq_true rfl) rfl (t_X6_says T x0 x1 x2 x3 st)
/-! ThreeOfThemModel.goodOf(II)I: S, depth 43 -/
def f_X6_goodOf_16 (T : Nat) : Nat → Int32 → Int32 → Int32 → Int32 → Int32 → px_S → Option (Int32 × px_S)
  | 0, _, _, _, _, _, _ => none
  | n + 1, y1, y2, y3, y4, y5, st => (if y5 < (st 48 11) then (if y5 = y1 then ((f_X6_goodOf_16 T n) y1 y2 y3 y4 (y5 + 1) st) else (if ((y2 >>> (y5 &&& 31)) &&& 1) = 1 then ((f_X6_says T 0 y1 y5 y3 st).bind fun b4 => ((f_X6_brings T b4.2 y5 y3).bind fun b5 => ((f_X6_goodOf_16 T n) y1 y2 y3 (y4 + (b4.1 + b5)) (y5 + 1) b4.2))) else ((f_X6_goodOf_16 T n) y1 y2 y3 y4 (y5 + 1) st))) else (some (y4, st)))
set_option maxRecDepth 20000 in
theorem t_X6_goodOf_16 (T : Nat) : ∀ (n : Nat) (y1 : Int32) (y2 : Int32) (y3 : Int32) (y4 : Int32) (y5 : Int32) (st : px_S), px_O (43, 0, 0, px_n (T + 2), m_X6_goodOf) (px_gi (T + 2)) (f_X6_goodOf_16 T n y1 y2 y3 y4 y5 st) 16 [some (.ref 48), some (.int y1), some (.int y2), some (.int y3), some (.int y4), some (.int y5)] [] (HP (T + 2) st) 0 0 := by
  intro n
  induction n with
  | zero => intro y1 y2 y3 y4 y5 st; rw [f_X6_goodOf_16]; exact o_none
  | succ n ih =>
    intro y1 y2 y3 y4 y5 st
    rw [f_X6_goodOf_16]
    refine o_iload dX6_goodOf_16 rfl ?_
    refine o_aload_n dX6_goodOf_18 rfl ?_
    refine h_get (v := .int (st 48 11)) dX6_goodOf_19 q6 fl_X6_94 (by decide) (px_ltM (by decide)) (c48 _) rfl ?_
    refine o_icmpge (tgt := 69) dX6_goodOf_22 (by decide) (fun u1 => ?_) (fun u1 => ?_)
    · refine o_iload dX6_goodOf_69 rfl ?_
      exact o_iret (rt := .int) rfl rfl dX6_goodOf_71 rfl (Nat.zero_le _) (Nat.zero_le _)
    · refine o_iload dX6_goodOf_25 rfl ?_
      refine o_iload_n dX6_goodOf_27 rfl ?_
      refine o_icmpeq (tgt := 63) dX6_goodOf_28 (by decide) (fun u2 => ?_) (fun u2 => ?_)
      · refine o_iinc (v := (y5 + 1)) (L' := [some (.ref 48), some (.int y1), some (.int y2), some (.int y3), some (.int y4), some (.int (y5 + 1))]) dX6_goodOf_63 rfl rfl (Nat.le_of_ble_eq_true rfl) rfl rfl ?_
        refine o_goto (tgt := 16) dX6_goodOf_66 (by decide) ?_
        exact (ih y1 y2 y3 y4 (y5 + 1) st)
      · refine o_iload_n dX6_goodOf_31 rfl ?_
        refine o_iload dX6_goodOf_32 rfl ?_
        refine o_ishr dX6_goodOf_34 ?_
        refine o_iconst (v := 1) dX6_goodOf_35 (by decide) ?_
        refine o_iand dX6_goodOf_36 ?_
        refine o_iconst (v := 1) dX6_goodOf_37 (by decide) ?_
        refine o_icmpne (tgt := 63) dX6_goodOf_38 (by decide) (fun u3 => ?_) (fun u3 => ?_)
        · refine o_iinc (v := (y5 + 1)) (L' := [some (.ref 48), some (.int y1), some (.int y2), some (.int y3), some (.int y4), some (.int (y5 + 1))]) dX6_goodOf_63 rfl rfl (Nat.le_of_ble_eq_true rfl) rfl rfl ?_
          refine o_goto (tgt := 16) dX6_goodOf_66 (by decide) ?_
          exact (ih y1 y2 y3 y4 (y5 + 1) st)
        · refine o_iload dX6_goodOf_41 rfl ?_
          refine o_aload_n dX6_goodOf_43 rfl ?_
          refine o_iconst (v := 0) dX6_goodOf_44 (by decide) ?_
          refine o_iload_n dX6_goodOf_45 rfl ?_
          refine o_iload dX6_goodOf_46 rfl ?_
          refine o_iload_n dX6_goodOf_48 rfl ?_
          refine h_cVi (as := [.int 0, .int y1, .int y5, .int y3]) (S1 := [.int y4]) (d' := 42) dX6_goodOf_49 mf_X6_says ml_X6_351 mv_X6_says q6 rfl (hp_at (px_ltM (by decide)) (c48 _)) rfl (Nat.le_of_ble_eq_true rfl) rfl (Nat.le_of_ble_eq_true rfl) (fun b hb => k_X6_says hb) (fun b4 hb4 => ?_)
          refine o_aload_n dX6_goodOf_52 rfl ?_
          refine o_iload dX6_goodOf_53 rfl ?_
          refine o_iload_n dX6_goodOf_55 rfl ?_
          refine h_cV0 (as := [.int y5, .int y3]) (S1 := [.int b4.1, .int y4]) (d' := 0) dX6_goodOf_56 mf_X6_brings ml_X6_355 mv_X6_brings q6 rfl (hp_at (px_ltM (by decide)) (c48 _)) rfl (Nat.le_of_ble_eq_true rfl) rfl (Nat.le_of_ble_eq_true rfl) ⟨Nat.zero_le _, Nat.zero_le _⟩ (fun b hb => k_X6_brings hb) (fun b5 hb5 => ?_)
          refine o_iadd dX6_goodOf_59 ?_
          refine o_iadd dX6_goodOf_60 ?_
          refine o_istore (L' := [some (.ref 48), some (.int y1), some (.int y2), some (.int y3), some (.int (y4 + (b4.1 + b5))), some (.int y5)]) dX6_goodOf_61 (Nat.le_of_ble_eq_true rfl) rfl rfl ?_
          refine o_iinc (v := (y5 + 1)) (L' := [some (.ref 48), some (.int y1), some (.int y2), some (.int y3), some (.int (y4 + (b4.1 + b5))), some (.int (y5 + 1))]) dX6_goodOf_63 rfl rfl (Nat.le_of_ble_eq_true rfl) rfl rfl ?_
          refine o_goto (tgt := 16) dX6_goodOf_66 (by decide) ?_
          exact (ih y1 y2 y3 (y4 + (b4.1 + b5)) (y5 + 1) b4.2)
def f_X6_goodOf (T : Nat) (x0 : Int32) (x1 : Int32) (st : px_S) : Option (Int32 × px_S) := ((f_X6_bitsOf x1).bind fun b6 => (if b6 = 0 then none else (f_X6_goodOf_16 T 1000 x0 x1 b6 ((st 48 13) / b6) 0 st)))
set_option maxRecDepth 20000 in
theorem t_X6_goodOf (T : Nat) (x0 : Int32) (x1 : Int32) (st : px_S) : px_O (43, 0, 0, px_n (T + 2), m_X6_goodOf) (px_gi (T + 2)) (f_X6_goodOf T x0 x1 st) 0 [some (.ref 48), some (.int x0), some (.int x1), none, none, none] [] (HP (T + 2) st) 0 0 := by
  rw [f_X6_goodOf]
  refine o_iload_n dX6_goodOf_0 rfl ?_
  refine h_cS0 (as := [.int x1]) (S1 := []) (d' := 0) dX6_goodOf_1 mf_X6_bitsOf ml_X6_348 ms_X6_bitsOf rfl (Nat.le_of_ble_eq_true rfl) rfl (Nat.le_of_ble_eq_true rfl) ⟨Nat.zero_le _, Nat.zero_le _⟩ (fun b hb => k_X6_bitsOf hb) (fun b6 hb6 => ?_)
  refine o_istore_n (L' := [some (.ref 48), some (.int x0), some (.int x1), some (.int b6), none, none]) dX6_goodOf_4 (Nat.le_of_ble_eq_true rfl) rfl rfl ?_
  refine o_aload_n dX6_goodOf_5 rfl ?_
  refine h_get (v := .int (st 48 13)) dX6_goodOf_6 q6 fl_X6_35 (by decide) (px_ltM (by decide)) (c48 _) rfl ?_
  refine o_iload_n dX6_goodOf_9 rfl ?_
  refine o_ite (fun _ => o_none) (fun u7 => ?_)
  refine o_idiv dX6_goodOf_10 u7 ?_
  refine o_istore (L' := [some (.ref 48), some (.int x0), some (.int x1), some (.int b6), some (.int ((st 48 13) / b6)), none]) dX6_goodOf_11 (Nat.le_of_ble_eq_true rfl) rfl rfl ?_
  refine o_iconst (v := 0) dX6_goodOf_13 (by decide) ?_
  refine o_istore (L' := [some (.ref 48), some (.int x0), some (.int x1), some (.int b6), some (.int ((st 48 13) / b6)), some (.int 0)]) dX6_goodOf_14 (Nat.le_of_ble_eq_true rfl) rfl rfl ?_
  exact (t_X6_goodOf_16 T 1000 x0 x1 b6 ((st 48 13) / b6) 0 st)
theorem k_X6_goodOf {T : Nat} {st : px_S} {x0 : Int32} {x1 : Int32} {b : Int32 × px_S} (hf : f_X6_goodOf T x0 x1 st = some b) : px_K (43) 0 0 m_X6_goodOf [.ref 48, .int x0, .int x1] (HP (T + 2) st) ((px_gi (T + 2)) b).1 ((px_gi (T + 2)) b).2 := px_KofH hf mf_X6_goodOf (Nat.le_of_ble_eq_true rfl) rfl (t_X6_goodOf T x0 x1 st)
/-! ThreeOfThemModel.told(II)I: S, depth 44 -/
def f_X6_told_106 (T : Nat) (z0 : Int32) (z1 : Int32) (z2 : Int32) (st : px_S) : Option (Int32 × px_S) := ((f_X6_wants T st z2 z1 z0).bind fun b1 => (some (b1, st)))
set_option maxRecDepth 20000 in
theorem t_X6_told_106 (T : Nat) (z0 : Int32) (z1 : Int32) (z2 : Int32) (st : px_S) : px_O (44, 0, 0, px_n (T + 2), m_X6_told) (px_gi (T + 2)) (f_X6_told_106 T z0 z1 z2 st) 106 [none, none, none, none] [.int z0, .int z1, .int z2, .ref 48] (HP (T + 2) st) 0 0 := by
  rw [f_X6_told_106]
  refine h_cV0 (as := [.int z2, .int z1, .int z0]) (S1 := []) (d' := 0) dX6_told_106 mf_X6_wants ml_X6_361 mv_X6_wants q6 rfl (hp_at (px_ltM (by decide)) (c48 _)) rfl (Nat.le_of_ble_eq_true rfl) rfl (Nat.le_of_ble_eq_true rfl) ⟨Nat.zero_le _, Nat.zero_le _⟩ (fun b hb => k_X6_wants hb) (fun b1 hb1 => ?_)
  exact o_iret (rt := .int) rfl rfl dX6_told_109 rfl (Nat.zero_le _) (Nat.zero_le _)
def f_X6_told (T : Nat) (x0 : Int32) (x1 : Int32) (st : px_S) : Option (Int32 × px_S) := ((f_X6_isOne T st x0).bind fun b2 => (if b2 = 0 then (some ((-100000), st)) else (if (p_X6_in x1.toInt64 0 7) = 0 then (some ((-100000), st)) else ((f_X6_bitsOf (st 48 12)).bind fun b5 => (if x1 < 3 then (if x1 = 0 then (if px_in x0 7 then (some ((st 52 x0.toNatClampNeg), st)) else none) else (if x1 = 1 then (if px_in x0 7 then (some ((st 53 x0.toNatClampNeg), st)) else none) else (some ((((st 48 12) >>> (x0 &&& 31)) &&& 1), st)))) else (if x1 < 6 then (if x1 = 3 then ((f_X6_brings T st x0 b5).bind fun b15 => (some (b15, st))) else (if x1 = 5 then (f_X6_told_106 T 1 b5 x0 st) else (f_X6_told_106 T 0 b5 x0 st))) else (if x1 = 7 then (if px_in x0 7 then (some ((st 55 x0.toNatClampNeg), st)) else none) else ((f_X6_isIn T st x0).bind fun b9 => (if b9 = 0 then (some (0, st)) else ((f_X6_goodOf T x0 (st 48 12) st).bind fun b11 => (some (b11.1, b11.2))))))))))))
set_option maxRecDepth 20000 in
theorem t_X6_told (T : Nat) (x0 : Int32) (x1 : Int32) (st : px_S) : px_O (44, 0, 0, px_n (T + 2), m_X6_told) (px_gi (T + 2)) (f_X6_told T x0 x1 st) 0 [some (.ref 48), some (.int x0), some (.int x1), none] [] (HP (T + 2) st) 0 0 := by
  rw [f_X6_told]
  refine o_aload_n dX6_told_0 rfl ?_
  refine o_iload_n dX6_told_1 rfl ?_
  refine h_cV0 (as := [.int x0]) (S1 := []) (d' := 1) dX6_told_2 mf_X6_isOne ml_X6_101 mv_X6_isOne q6 rfl (hp_at (px_ltM (by decide)) (c48 _)) rfl (Nat.le_of_ble_eq_true rfl) rfl (Nat.le_of_ble_eq_true rfl) ⟨Nat.zero_le _, Nat.zero_le _⟩ (fun b hb => k_X6_isOne hb) (fun b2 hb2 => ?_)
  refine o_ifeq (tgt := 20) dX6_told_5 (by decide) (fun u3 => ?_) (fun u3 => ?_)
  · refine o_ldcw (v := (-100000)) dX6_told_20 cst_X6_360 ?_
    exact o_iret (rt := .int) rfl rfl dX6_told_23 rfl (Nat.zero_le _) (Nat.zero_le _)
  · refine o_iload_n dX6_told_8 rfl ?_
    refine o_i2l dX6_told_9 ?_
    refine o_lconst (v := 0) dX6_told_10 (by decide) ?_
    refine o_ldc2 (v := 7) dX6_told_11 cst_X6_358 ?_
    refine h_cSP (as := [.long x1.toInt64, .long 0, .long 7]) (S1 := []) (d' := 0) dX6_told_14 mf_X6_in ml_X6_97 ms_X6_in rfl (Nat.le_of_ble_eq_true rfl) rfl (Nat.le_of_ble_eq_true rfl) ⟨Nat.zero_le _, Nat.zero_le _⟩ (k_X6_in) ?_
    refine o_ifne (tgt := 24) dX6_told_17 (by decide) (fun u4 => ?_) (fun u4 => ?_)
    · refine o_aload_n dX6_told_24 rfl ?_
      refine h_get (v := .int (st 48 12)) dX6_told_25 q6 fl_X6_105 (by decide) (px_ltM (by decide)) (c48 _) rfl ?_
      refine h_cS0 (as := [.int (st 48 12)]) (S1 := []) (d' := 0) dX6_told_28 mf_X6_bitsOf ml_X6_348 ms_X6_bitsOf rfl (Nat.le_of_ble_eq_true rfl) rfl (Nat.le_of_ble_eq_true rfl) ⟨Nat.zero_le _, Nat.zero_le _⟩ (fun b hb => k_X6_bitsOf hb) (fun b5 hb5 => ?_)
      refine o_istore_n (L' := [some (.ref 48), some (.int x0), some (.int x1), some (.int b5)]) dX6_told_31 (Nat.le_of_ble_eq_true rfl) rfl rfl ?_
      refine o_iload_n dX6_told_32 rfl ?_
      refine o_iconst (v := 3) dX6_told_33 (by decide) ?_
      refine o_icmpge (tgt := 73) dX6_told_34 (by decide) (fun u6 => ?_) (fun u6 => ?_)
      · refine o_iload_n dX6_told_73 rfl ?_
        refine o_bipush (v := 6) dX6_told_74 (by decide) ?_
        refine o_icmpge (tgt := 110) dX6_told_76 (by decide) (fun u7 => ?_) (fun u7 => ?_)
        · refine o_iload_n dX6_told_110 rfl ?_
          refine o_bipush (v := 7) dX6_told_111 (by decide) ?_
          refine o_icmpne (tgt := 125) dX6_told_113 (by decide) (fun u8 => ?_) (fun u8 => ?_)
          · refine o_aload_n dX6_told_125 rfl ?_
            refine o_iload_n dX6_told_126 rfl ?_
            refine h_cV0 (as := [.int x0]) (S1 := []) (d' := 2) dX6_told_127 mf_X6_isIn ml_X6_365 mv_X6_isIn q6 rfl (hp_at (px_ltM (by decide)) (c48 _)) rfl (Nat.le_of_ble_eq_true rfl) rfl (Nat.le_of_ble_eq_true rfl) ⟨Nat.zero_le _, Nat.zero_le _⟩ (fun b hb => k_X6_isIn hb) (fun b9 hb9 => ?_)
            refine o_ifeq (tgt := 145) dX6_told_130 (by decide) (fun u10 => ?_) (fun u10 => ?_)
            · refine o_iconst (v := 0) dX6_told_145 (by decide) ?_
              exact o_iret (rt := .int) rfl rfl dX6_told_146 rfl (Nat.zero_le _) (Nat.zero_le _)
            · refine o_aload_n dX6_told_133 rfl ?_
              refine o_iload_n dX6_told_134 rfl ?_
              refine o_aload_n dX6_told_135 rfl ?_
              refine h_get (v := .int (st 48 12)) dX6_told_136 q6 fl_X6_105 (by decide) (px_ltM (by decide)) (c48 _) rfl ?_
              refine h_cVi (as := [.int x0, .int (st 48 12)]) (S1 := []) (d' := 43) dX6_told_139 mf_X6_goodOf ml_X6_368 mv_X6_goodOf q6 rfl (hp_at (px_ltM (by decide)) (c48 _)) rfl (Nat.le_of_ble_eq_true rfl) rfl (Nat.le_of_ble_eq_true rfl) (fun b hb => k_X6_goodOf hb) (fun b11 hb11 => ?_)
              refine o_goto (tgt := 146) dX6_told_142 (by decide) ?_
              exact o_iret (rt := .int) rfl rfl dX6_told_146 rfl (Nat.zero_le _) (Nat.zero_le _)
          · refine o_aload_n dX6_told_116 rfl ?_
            refine h_get (v := .ref 55) dX6_told_117 q6 fl_X6_32 (by decide) (px_ltM (by decide)) (c48 _) rfl ?_
            refine o_iload_n dX6_told_120 rfl ?_
            refine h_iald (n := 7) dX6_told_121 (px_ltM (by decide)) (c55 _) (fun u12 => ?_)
            refine o_goto (tgt := 146) dX6_told_122 (by decide) ?_
            exact o_iret (rt := .int) rfl rfl dX6_told_146 rfl (Nat.zero_le _) (Nat.zero_le _)
        · refine o_iload_n dX6_told_79 rfl ?_
          refine o_iconst (v := 3) dX6_told_80 (by decide) ?_
          refine o_icmpne (tgt := 93) dX6_told_81 (by decide) (fun u13 => ?_) (fun u13 => ?_)
          · refine o_aload_n dX6_told_93 rfl ?_
            refine o_iload_n dX6_told_94 rfl ?_
            refine o_iload_n dX6_told_95 rfl ?_
            refine o_iload_n dX6_told_96 rfl ?_
            refine o_iconst (v := 5) dX6_told_97 (by decide) ?_
            refine o_icmpne (tgt := 105) dX6_told_98 (by decide) (fun u14 => ?_) (fun u14 => ?_)
            · refine o_iconst (v := 0) dX6_told_105 (by decide) ?_
              exact o_weak (L' := [none, none, none, none]) trivial (t_X6_told_106 T 0 b5 x0 st)
            · refine o_iconst (v := 1) dX6_told_101 (by decide) ?_
              refine o_goto (tgt := 106) dX6_told_102 (by decide) ?_
              exact o_weak (L' := [none, none, none, none]) trivial (t_X6_told_106 T 1 b5 x0 st)
          · refine o_aload_n dX6_told_84 rfl ?_
            refine o_iload_n dX6_told_85 rfl ?_
            refine o_iload_n dX6_told_86 rfl ?_
            refine h_cV0 (as := [.int x0, .int b5]) (S1 := []) (d' := 0) dX6_told_87 mf_X6_brings ml_X6_355 mv_X6_brings q6 rfl (hp_at (px_ltM (by decide)) (c48 _)) rfl (Nat.le_of_ble_eq_true rfl) rfl (Nat.le_of_ble_eq_true rfl) ⟨Nat.zero_le _, Nat.zero_le _⟩ (fun b hb => k_X6_brings hb) (fun b15 hb15 => ?_)
            refine o_goto (tgt := 109) dX6_told_90 (by decide) ?_
            exact o_iret (rt := .int) rfl rfl dX6_told_109 rfl (Nat.zero_le _) (Nat.zero_le _)
      · refine o_iload_n dX6_told_37 rfl ?_
        refine o_ifne (tgt := 50) dX6_told_38 (by decide) (fun u16 => ?_) (fun u16 => ?_)
        · refine o_iload_n dX6_told_50 rfl ?_
          refine o_iconst (v := 1) dX6_told_51 (by decide) ?_
          refine o_icmpne (tgt := 64) dX6_told_52 (by decide) (fun u17 => ?_) (fun u17 => ?_)
          · refine o_aload_n dX6_told_64 rfl ?_
            refine h_get (v := .int (st 48 12)) dX6_told_65 q6 fl_X6_105 (by decide) (px_ltM (by decide)) (c48 _) rfl ?_
            refine o_iload_n dX6_told_68 rfl ?_
            refine o_ishr dX6_told_69 ?_
            refine o_iconst (v := 1) dX6_told_70 (by decide) ?_
            refine o_iand dX6_told_71 ?_
            exact o_iret (rt := .int) rfl rfl dX6_told_72 rfl (Nat.zero_le _) (Nat.zero_le _)
          · refine o_aload_n dX6_told_55 rfl ?_
            refine h_get (v := .ref 53) dX6_told_56 q6 fl_X6_26 (by decide) (px_ltM (by decide)) (c48 _) rfl ?_
            refine o_iload_n dX6_told_59 rfl ?_
            refine h_iald (n := 7) dX6_told_60 (px_ltM (by decide)) (c53 _) (fun u18 => ?_)
            refine o_goto (tgt := 72) dX6_told_61 (by decide) ?_
            exact o_iret (rt := .int) rfl rfl dX6_told_72 rfl (Nat.zero_le _) (Nat.zero_le _)
        · refine o_aload_n dX6_told_41 rfl ?_
          refine h_get (v := .ref 52) dX6_told_42 q6 fl_X6_23 (by decide) (px_ltM (by decide)) (c48 _) rfl ?_
          refine o_iload_n dX6_told_45 rfl ?_
          refine h_iald (n := 7) dX6_told_46 (px_ltM (by decide)) (c52 _) (fun u19 => ?_)
          refine o_goto (tgt := 72) dX6_told_47 (by decide) ?_
          exact o_iret (rt := .int) rfl rfl dX6_told_72 rfl (Nat.zero_le _) (Nat.zero_le _)
    · refine o_ldcw (v := (-100000)) dX6_told_20 cst_X6_360 ?_
      exact o_iret (rt := .int) rfl rfl dX6_told_23 rfl (Nat.zero_le _) (Nat.zero_le _)
theorem k_X6_told {T : Nat} {st : px_S} {x0 : Int32} {x1 : Int32} {b : Int32 × px_S} (hf : f_X6_told T x0 x1 st = some b) : px_K (44) 0 0 m_X6_told [.ref 48, .int x0, .int x1] (HP (T + 2) st) ((px_gi (T + 2)) b).1 ((px_gi (T + 2)) b).2 := px_KofH hf mf_X6_told (Nat.le_of_ble_eq_true rfl) rfl (t_X6_told T x0 x1 st)
/-! ThreeOfThemModel.looks(I)V: S, depth 44 -/
def f_X6_looks_40 (T : Nat) (k12 : Int32 → Int32 → Int32 → px_S → Option (px_S)) : Nat → Int32 → Int32 → Int32 → Int32 → Int32 → px_S → Option (px_S)
  | 0, _, _, _, _, _, _ => none
  | n + 1, y1, y2, y3, y4, y5, st => (if y5 < (st 48 11) then (if y5 = y3 then ((f_X6_looks_40 T k12 n) y1 y2 y3 y4 (y5 + 1) st) else (if ((y1 >>> (y5 &&& 31)) &&& 1) = 1 then ((f_X6_goodOf T y3 (y1 &&& (((1 : Int32) <<< (y5 &&& 31)) ^^^ (-1))) st).bind fun b4 => (if px_in (((7 : Int32) * y3) + y5) 49 then ((f_X6_says T 1 y3 y5 y2 (up b4.2 56 (((7 : Int32) * y3) + y5).toNatClampNeg (b4.1 - y4))).bind fun b6 => (if px_in (((7 : Int32) * y3) + y5) 49 then ((f_X6_says T 2 y3 y5 y2 (up b6.2 57 (((7 : Int32) * y3) + y5).toNatClampNeg b6.1)).bind fun b8 => (if px_in (((7 : Int32) * y3) + y5) 49 then ((f_X6_looks_40 T k12 n) y1 y2 y3 y4 (y5 + 1) (up b8.2 58 (((7 : Int32) * y3) + y5).toNatClampNeg b8.1)) else none)) else none)) else none)) else ((f_X6_looks_40 T k12 n) y1 y2 y3 y4 (y5 + 1) st))) else (k12 y1 y2 (y3 + 1) st))
set_option maxRecDepth 20000 in
theorem t_X6_looks_40 (T : Nat) (k12 : Int32 → Int32 → Int32 → px_S → Option (px_S)) (hk12 : ∀ (y1 : Int32) (y2 : Int32) (y3 : Int32) (st : px_S), px_O (44, 0, 0, px_n (T + 2), m_X6_looks) (px_gv (T + 2)) (k12 y1 y2 y3 st) 12 [some (.ref 48), some (.int y1), some (.int y2), some (.int y3), none, none] [] (HP (T + 2) st) 0 0) : ∀ (n : Nat) (y1 : Int32) (y2 : Int32) (y3 : Int32) (y4 : Int32) (y5 : Int32) (st : px_S), px_O (44, 0, 0, px_n (T + 2), m_X6_looks) (px_gv (T + 2)) (f_X6_looks_40 T k12 n y1 y2 y3 y4 y5 st) 40 [some (.ref 48), some (.int y1), some (.int y2), some (.int y3), some (.int y4), some (.int y5)] [] (HP (T + 2) st) 0 0 := by
  intro n
  induction n with
  | zero => intro y1 y2 y3 y4 y5 st; rw [f_X6_looks_40]; exact o_none
  | succ n ih =>
    intro y1 y2 y3 y4 y5 st
    rw [f_X6_looks_40]
    refine o_iload dX6_looks_40 rfl ?_
    refine o_aload_n dX6_looks_42 rfl ?_
    refine h_get (v := .int (st 48 11)) dX6_looks_43 q6 fl_X6_94 (by decide) (px_ltM (by decide)) (c48 _) rfl ?_
    refine o_icmpge (tgt := 141) dX6_looks_46 (by decide) (fun u1 => ?_) (fun u1 => ?_)
    · refine o_iinc (v := (y3 + 1)) (L' := [some (.ref 48), some (.int y1), some (.int y2), some (.int (y3 + 1)), some (.int y4), some (.int y5)]) dX6_looks_141 rfl rfl (Nat.le_of_ble_eq_true rfl) rfl rfl ?_
      refine o_goto (tgt := 12) dX6_looks_144 (by decide) ?_
      exact o_weak (L' := [some (.ref 48), some (.int y1), some (.int y2), some (.int (y3 + 1)), none, none]) ⟨rfl, ⟨rfl, ⟨rfl, ⟨rfl, trivial⟩⟩⟩⟩ (hk12 y1 y2 (y3 + 1) st)
    · refine o_iload dX6_looks_49 rfl ?_
      refine o_iload_n dX6_looks_51 rfl ?_
      refine o_icmpeq (tgt := 135) dX6_looks_52 (by decide) (fun u2 => ?_) (fun u2 => ?_)
      · refine o_iinc (v := (y5 + 1)) (L' := [some (.ref 48), some (.int y1), some (.int y2), some (.int y3), some (.int y4), some (.int (y5 + 1))]) dX6_looks_135 rfl rfl (Nat.le_of_ble_eq_true rfl) rfl rfl ?_
        refine o_goto (tgt := 40) dX6_looks_138 (by decide) ?_
        exact (ih y1 y2 y3 y4 (y5 + 1) st)
      · refine o_iload_n dX6_looks_55 rfl ?_
        refine o_iload dX6_looks_56 rfl ?_
        refine o_ishr dX6_looks_58 ?_
        refine o_iconst (v := 1) dX6_looks_59 (by decide) ?_
        refine o_iand dX6_looks_60 ?_
        refine o_iconst (v := 1) dX6_looks_61 (by decide) ?_
        refine o_icmpne (tgt := 135) dX6_looks_62 (by decide) (fun u3 => ?_) (fun u3 => ?_)
        · refine o_iinc (v := (y5 + 1)) (L' := [some (.ref 48), some (.int y1), some (.int y2), some (.int y3), some (.int y4), some (.int (y5 + 1))]) dX6_looks_135 rfl rfl (Nat.le_of_ble_eq_true rfl) rfl rfl ?_
          refine o_goto (tgt := 40) dX6_looks_138 (by decide) ?_
          exact (ih y1 y2 y3 y4 (y5 + 1) st)
        · refine o_aload_n dX6_looks_65 rfl ?_
          refine h_get (v := .ref 56) dX6_looks_66 q6 fl_X6_41 (by decide) (px_ltM (by decide)) (c48 _) rfl ?_
          refine o_bipush (v := 7) dX6_looks_69 (by decide) ?_
          refine o_iload_n dX6_looks_71 rfl ?_
          refine o_imul dX6_looks_72 ?_
          refine o_iload dX6_looks_73 rfl ?_
          refine o_iadd dX6_looks_75 ?_
          refine o_aload_n dX6_looks_76 rfl ?_
          refine o_iload_n dX6_looks_77 rfl ?_
          refine o_iload_n dX6_looks_78 rfl ?_
          refine o_iconst (v := 1) dX6_looks_79 (by decide) ?_
          refine o_iload dX6_looks_80 rfl ?_
          refine o_ishl dX6_looks_82 ?_
          refine o_iconst (v := (-1)) dX6_looks_83 (by decide) ?_
          refine o_ixor dX6_looks_84 ?_
          refine o_iand dX6_looks_85 ?_
          refine h_cVi (as := [.int y3, .int (y1 &&& (((1 : Int32) <<< (y5 &&& 31)) ^^^ (-1)))]) (S1 := [.int (((7 : Int32) * y3) + y5), .ref 56]) (d' := 43) dX6_looks_86 mf_X6_goodOf ml_X6_368 mv_X6_goodOf q6 rfl (hp_at (px_ltM (by decide)) (c48 _)) rfl (Nat.le_of_ble_eq_true rfl) rfl (Nat.le_of_ble_eq_true rfl) (fun b hb => k_X6_goodOf hb) (fun b4 hb4 => ?_)
          refine o_iload dX6_looks_89 rfl ?_
          refine o_isub dX6_looks_91 ?_
          refine h_iast (n := 49) dX6_looks_92 (px_ltM (by decide)) c56 (fun u5 => ?_)
          refine o_aload_n dX6_looks_93 rfl ?_
          refine h_get (v := .ref 57) dX6_looks_94 q6 fl_X6_44 (by decide) (px_ltM (by decide)) (c48 _) rfl ?_
          refine o_bipush (v := 7) dX6_looks_97 (by decide) ?_
          refine o_iload_n dX6_looks_99 rfl ?_
          refine o_imul dX6_looks_100 ?_
          refine o_iload dX6_looks_101 rfl ?_
          refine o_iadd dX6_looks_103 ?_
          refine o_aload_n dX6_looks_104 rfl ?_
          refine o_iconst (v := 1) dX6_looks_105 (by decide) ?_
          refine o_iload_n dX6_looks_106 rfl ?_
          refine o_iload dX6_looks_107 rfl ?_
          refine o_iload_n dX6_looks_109 rfl ?_
          refine h_cVi (as := [.int 1, .int y3, .int y5, .int y2]) (S1 := [.int (((7 : Int32) * y3) + y5), .ref 57]) (d' := 42) dX6_looks_110 mf_X6_says ml_X6_351 mv_X6_says q6 rfl (hp_at (px_ltM (by decide)) (c48 _)) rfl (Nat.le_of_ble_eq_true rfl) rfl (Nat.le_of_ble_eq_true rfl) (fun b hb => k_X6_says hb) (fun b6 hb6 => ?_)
          refine h_iast (n := 49) dX6_looks_113 (px_ltM (by decide)) c57 (fun u7 => ?_)
          refine o_aload_n dX6_looks_114 rfl ?_
          refine h_get (v := .ref 58) dX6_looks_115 q6 fl_X6_47 (by decide) (px_ltM (by decide)) (c48 _) rfl ?_
          refine o_bipush (v := 7) dX6_looks_118 (by decide) ?_
          refine o_iload_n dX6_looks_120 rfl ?_
          refine o_imul dX6_looks_121 ?_
          refine o_iload dX6_looks_122 rfl ?_
          refine o_iadd dX6_looks_124 ?_
          refine o_aload_n dX6_looks_125 rfl ?_
          refine o_iconst (v := 2) dX6_looks_126 (by decide) ?_
          refine o_iload_n dX6_looks_127 rfl ?_
          refine o_iload dX6_looks_128 rfl ?_
          refine o_iload_n dX6_looks_130 rfl ?_
          refine h_cVi (as := [.int 2, .int y3, .int y5, .int y2]) (S1 := [.int (((7 : Int32) * y3) + y5), .ref 58]) (d' := 42) dX6_looks_131 mf_X6_says ml_X6_351 mv_X6_says q6 rfl (hp_at (px_ltM (by decide)) (c48 _)) rfl (Nat.le_of_ble_eq_true rfl) rfl (Nat.le_of_ble_eq_true rfl) (fun b hb => k_X6_says hb) (fun b8 hb8 => ?_)
          refine h_iast (n := 49) dX6_looks_134 (px_ltM (by decide)) c58 (fun u9 => ?_)
          refine o_iinc (v := (y5 + 1)) (L' := [some (.ref 48), some (.int y1), some (.int y2), some (.int y3), some (.int y4), some (.int (y5 + 1))]) dX6_looks_135 rfl rfl (Nat.le_of_ble_eq_true rfl) rfl rfl ?_
          refine o_goto (tgt := 40) dX6_looks_138 (by decide) ?_
          exact (ih y1 y2 y3 y4 (y5 + 1) (up b8.2 58 (((7 : Int32) * y3) + y5).toNatClampNeg b8.1))
def f_X6_looks_12 (T : Nat) : Nat → Int32 → Int32 → Int32 → px_S → Option (px_S)
  | 0, _, _, _, _ => none
  | n + 1, y1, y2, y3, st => (if y3 < (st 48 11) then (if ((y1 >>> (y3 &&& 31)) &&& 1) = 1 then ((f_X6_goodOf T y3 y1 st).bind fun b12 => (f_X6_looks_40 T (f_X6_looks_12 T n) 1000 y1 y2 y3 b12.1 0 b12.2)) else ((f_X6_looks_12 T n) y1 y2 (y3 + 1) st)) else (some st))
set_option maxRecDepth 20000 in
theorem t_X6_looks_12 (T : Nat) : ∀ (n : Nat) (y1 : Int32) (y2 : Int32) (y3 : Int32) (st : px_S), px_O (44, 0, 0, px_n (T + 2), m_X6_looks) (px_gv (T + 2)) (f_X6_looks_12 T n y1 y2 y3 st) 12 [some (.ref 48), some (.int y1), some (.int y2), some (.int y3), none, none] [] (HP (T + 2) st) 0 0 := by
  intro n
  induction n with
  | zero => intro y1 y2 y3 st; rw [f_X6_looks_12]; exact o_none
  | succ n ih =>
    intro y1 y2 y3 st
    rw [f_X6_looks_12]
    refine o_iload_n dX6_looks_12 rfl ?_
    refine o_aload_n dX6_looks_13 rfl ?_
    refine h_get (v := .int (st 48 11)) dX6_looks_14 q6 fl_X6_94 (by decide) (px_ltM (by decide)) (c48 _) rfl ?_
    refine o_icmpge (tgt := 147) dX6_looks_17 (by decide) (fun u10 => ?_) (fun u10 => ?_)
    · exact o_vret rfl dX6_looks_147 rfl (Nat.zero_le _) (Nat.zero_le _)
    · refine o_iload_n dX6_looks_20 rfl ?_
      refine o_iload_n dX6_looks_21 rfl ?_
      refine o_ishr dX6_looks_22 ?_
      refine o_iconst (v := 1) dX6_looks_23 (by decide) ?_
      refine o_iand dX6_looks_24 ?_
      refine o_iconst (v := 1) dX6_looks_25 (by decide) ?_
      refine o_icmpne (tgt := 141) dX6_looks_26 (by decide) (fun u11 => ?_) (fun u11 => ?_)
      · refine o_iinc (v := (y3 + 1)) (L' := [some (.ref 48), some (.int y1), some (.int y2), some (.int (y3 + 1)), none, none]) dX6_looks_141 rfl rfl (Nat.le_of_ble_eq_true rfl) rfl rfl ?_
        refine o_goto (tgt := 12) dX6_looks_144 (by decide) ?_
        exact (ih y1 y2 (y3 + 1) st)
      · refine o_aload_n dX6_looks_29 rfl ?_
        refine o_iload_n dX6_looks_30 rfl ?_
        refine o_iload_n dX6_looks_31 rfl ?_
        refine h_cVi (as := [.int y3, .int y1]) (S1 := []) (d' := 43) dX6_looks_32 mf_X6_goodOf ml_X6_368 mv_X6_goodOf q6 rfl (hp_at (px_ltM (by decide)) (c48 _)) rfl (Nat.le_of_ble_eq_true rfl) rfl (Nat.le_of_ble_eq_true rfl) (fun b hb => k_X6_goodOf hb) (fun b12 hb12 => ?_)
        refine o_istore (L' := [some (.ref 48), some (.int y1), some (.int y2), some (.int y3), some (.int b12.1), none]) dX6_looks_35 (Nat.le_of_ble_eq_true rfl) rfl rfl ?_
        refine o_iconst (v := 0) dX6_looks_37 (by decide) ?_
        refine o_istore (L' := [some (.ref 48), some (.int y1), some (.int y2), some (.int y3), some (.int b12.1), some (.int 0)]) dX6_looks_38 (Nat.le_of_ble_eq_true rfl) rfl rfl ?_
        exact (t_X6_looks_40 T (f_X6_looks_12 T n) ih 1000 y1 y2 y3 b12.1 0 b12.2)
def f_X6_looks (T : Nat) (x0 : Int32) (st : px_S) : Option (px_S) := ((f_X6_bitsOf x0).bind fun b13 => (f_X6_looks_12 T 1000 x0 b13 0 (up st 48 31 x0)))
set_option maxRecDepth 20000 in
theorem t_X6_looks (T : Nat) (x0 : Int32) (st : px_S) : px_O (44, 0, 0, px_n (T + 2), m_X6_looks) (px_gv (T + 2)) (f_X6_looks T x0 st) 0 [some (.ref 48), some (.int x0), none, none, none, none] [] (HP (T + 2) st) 0 0 := by
  rw [f_X6_looks]
  refine o_aload_n dX6_looks_0 rfl ?_
  refine o_iload_n dX6_looks_1 rfl ?_
  refine h_puti dX6_looks_2 q6 fl_X6_371 pf_X6_31 (px_ltM (by decide)) (c48 _) (Nat.le_of_ble_eq_true rfl) (s48_31 _ _) ?_
  refine o_iload_n dX6_looks_5 rfl ?_
  refine h_cS0 (as := [.int x0]) (S1 := []) (d' := 0) dX6_looks_6 mf_X6_bitsOf ml_X6_348 ms_X6_bitsOf rfl (Nat.le_of_ble_eq_true rfl) rfl (Nat.le_of_ble_eq_true rfl) ⟨Nat.zero_le _, Nat.zero_le _⟩ (fun b hb => k_X6_bitsOf hb) (fun b13 hb13 => ?_)
  refine o_istore_n (L' := [some (.ref 48), some (.int x0), some (.int b13), none, none, none]) dX6_looks_9 (Nat.le_of_ble_eq_true rfl) rfl rfl ?_
  refine o_iconst (v := 0) dX6_looks_10 (by decide) ?_
  refine o_istore_n (L' := [some (.ref 48), some (.int x0), some (.int b13), some (.int 0), none, none]) dX6_looks_11 (Nat.le_of_ble_eq_true rfl) rfl rfl ?_
  exact (t_X6_looks_12 T 1000 x0 b13 0 (up st 48 31 x0))
theorem k_X6_looks {T : Nat} {st : px_S} {x0 : Int32} {b : px_S} (hf : f_X6_looks T x0 st = some b) : px_K (44) 0 0 m_X6_looks [.ref 48, .int x0] (HP (T + 2) st) ((px_gv (T + 2)) b).1 ((px_gv (T + 2)) b).2 := px_KofH hf mf_X6_looks (Nat.le_of_ble_eq_true rfl) rfl (t_X6_looks T x0 st)
/-! ThreeOfThemModel.wouldJoin(II)Z: R, depth 1 -/
def f_X6_wouldJoin_48 (T : Nat) (st : px_S) (y1 : Int32) (y3 : Int32) (z0 : Int32) (z1 : Int32) : Option (Int32) := ((f_X6_bitsOf (st 48 31)).bind fun b1 => ((f_X6_wants T st y1 b1 y3).bind fun b2 => (if (z1 - z0) < b2 then (some 0) else (some 1))))
set_option maxRecDepth 20000 in
theorem t_X6_wouldJoin_48 (T : Nat) (st : px_S) (y1 : Int32) (y3 : Int32) (z0 : Int32) (z1 : Int32) : px_O (1, 0, 0, px_n (T + 2), m_X6_wouldJoin) (px_g0 (HP (T + 2) st)) (f_X6_wouldJoin_48 T st y1 y3 z0 z1) 48 [some (.ref 48), some (.int y1), none, some (.int y3), none] [.int z0, .int z1] (HP (T + 2) st) 0 0 := by
  rw [f_X6_wouldJoin_48]
  refine o_isub dX6_wouldJoin_48 ?_
  refine o_aload_n dX6_wouldJoin_49 rfl ?_
  refine o_iload_n dX6_wouldJoin_50 rfl ?_
  refine o_aload_n dX6_wouldJoin_51 rfl ?_
  refine h_get (v := .int (st 48 31)) dX6_wouldJoin_52 q6 fl_X6_371 (by decide) (px_ltM (by decide)) (c48 _) rfl ?_
  refine h_cS0 (as := [.int (st 48 31)]) (S1 := [.int y1, .ref 48, .int (z1 - z0)]) (d' := 0) dX6_wouldJoin_55 mf_X6_bitsOf ml_X6_348 ms_X6_bitsOf rfl (Nat.le_of_ble_eq_true rfl) rfl (Nat.le_of_ble_eq_true rfl) ⟨Nat.zero_le _, Nat.zero_le _⟩ (fun b hb => k_X6_bitsOf hb) (fun b1 hb1 => ?_)
  refine o_iload_n dX6_wouldJoin_58 rfl ?_
  refine h_cV0 (as := [.int y1, .int b1, .int y3]) (S1 := [.int (z1 - z0)]) (d' := 0) dX6_wouldJoin_59 mf_X6_wants ml_X6_361 mv_X6_wants q6 rfl (hp_at (px_ltM (by decide)) (c48 _)) rfl (Nat.le_of_ble_eq_true rfl) rfl (Nat.le_of_ble_eq_true rfl) ⟨Nat.zero_le _, Nat.zero_le _⟩ (fun b hb => k_X6_wants hb) (fun b2 hb2 => ?_)
  refine o_icmplt (tgt := 69) dX6_wouldJoin_62 (by decide) (fun u3 => ?_) (fun u3 => ?_)
  · refine o_iconst (v := 0) dX6_wouldJoin_69 (by decide) ?_
    exact o_iret (rt := .boolean) rfl rfl dX6_wouldJoin_70 rfl (Nat.zero_le _) (Nat.zero_le _)
  · refine o_iconst (v := 1) dX6_wouldJoin_65 (by decide) ?_
    refine o_goto (tgt := 70) dX6_wouldJoin_66 (by decide) ?_
    exact o_iret (rt := .boolean) rfl rfl dX6_wouldJoin_70 rfl (Nat.zero_le _) (Nat.zero_le _)
def f_X6_wouldJoin (T : Nat) (st : px_S) (x0 : Int32) (x1 : Int32) : Option (Int32) := ((f_X6_areSworn T st x0 x1).bind fun b4 => (if px_in (((7 : Int32) * x0) + x1) 49 then (if (st 58 (((7 : Int32) * x0) + x1).toNatClampNeg) = 1 then (if px_in (((7 : Int32) * x0) + x1) 49 then (if b4 = 0 then (f_X6_wouldJoin_48 T st x0 b4 0 (st 56 (((7 : Int32) * x0) + x1).toNatClampNeg)) else (if px_in (((7 : Int32) * x0) + x1) 49 then (f_X6_wouldJoin_48 T st x0 b4 (st 57 (((7 : Int32) * x0) + x1).toNatClampNeg) (st 56 (((7 : Int32) * x0) + x1).toNatClampNeg)) else none)) else none) else (some 0)) else none))
set_option maxRecDepth 20000 in
theorem t_X6_wouldJoin (T : Nat) (st : px_S) (x0 : Int32) (x1 : Int32) : px_O (1, 0, 0, px_n (T + 2), m_X6_wouldJoin) (px_g0 (HP (T + 2) st)) (f_X6_wouldJoin T st x0 x1) 0 [some (.ref 48), some (.int x0), some (.int x1), none, none] [] (HP (T + 2) st) 0 0 := by
  rw [f_X6_wouldJoin]
  refine o_aload_n dX6_wouldJoin_0 rfl ?_
  refine o_iload_n dX6_wouldJoin_1 rfl ?_
  refine o_iload_n dX6_wouldJoin_2 rfl ?_
  refine h_cV0 (as := [.int x0, .int x1]) (S1 := []) (d' := 0) dX6_wouldJoin_3 mf_X6_areSworn ml_X6_112 mv_X6_areSworn q6 rfl (hp_at (px_ltM (by decide)) (c48 _)) rfl (Nat.le_of_ble_eq_true rfl) rfl (Nat.le_of_ble_eq_true rfl) ⟨Nat.zero_le _, Nat.zero_le _⟩ (fun b hb => k_X6_areSworn hb) (fun b4 hb4 => ?_)
  refine o_istore_n (L' := [some (.ref 48), some (.int x0), some (.int x1), some (.int b4), none]) dX6_wouldJoin_6 (Nat.le_of_ble_eq_true rfl) rfl rfl ?_
  refine o_bipush (v := 7) dX6_wouldJoin_7 (by decide) ?_
  refine o_iload_n dX6_wouldJoin_9 rfl ?_
  refine o_imul dX6_wouldJoin_10 ?_
  refine o_iload_n dX6_wouldJoin_11 rfl ?_
  refine o_iadd dX6_wouldJoin_12 ?_
  refine o_istore (L' := [some (.ref 48), some (.int x0), some (.int x1), some (.int b4), some (.int (((7 : Int32) * x0) + x1))]) dX6_wouldJoin_13 (Nat.le_of_ble_eq_true rfl) rfl rfl ?_
  refine o_aload_n dX6_wouldJoin_15 rfl ?_
  refine h_get (v := .ref 58) dX6_wouldJoin_16 q6 fl_X6_47 (by decide) (px_ltM (by decide)) (c48 _) rfl ?_
  refine o_iload dX6_wouldJoin_19 rfl ?_
  refine h_iald (n := 49) dX6_wouldJoin_21 (px_ltM (by decide)) (c58 _) (fun u5 => ?_)
  refine o_iconst (v := 1) dX6_wouldJoin_22 (by decide) ?_
  refine o_icmpne (tgt := 69) dX6_wouldJoin_23 (by decide) (fun u6 => ?_) (fun u6 => ?_)
  · refine o_iconst (v := 0) dX6_wouldJoin_69 (by decide) ?_
    exact o_iret (rt := .boolean) rfl rfl dX6_wouldJoin_70 rfl (Nat.zero_le _) (Nat.zero_le _)
  · refine o_aload_n dX6_wouldJoin_26 rfl ?_
    refine h_get (v := .ref 56) dX6_wouldJoin_27 q6 fl_X6_41 (by decide) (px_ltM (by decide)) (c48 _) rfl ?_
    refine o_iload dX6_wouldJoin_30 rfl ?_
    refine h_iald (n := 49) dX6_wouldJoin_32 (px_ltM (by decide)) (c56 _) (fun u7 => ?_)
    refine o_iload_n dX6_wouldJoin_33 rfl ?_
    refine o_ifeq (tgt := 47) dX6_wouldJoin_34 (by decide) (fun u8 => ?_) (fun u8 => ?_)
    · refine o_iconst (v := 0) dX6_wouldJoin_47 (by decide) ?_
      exact o_weak (L' := [some (.ref 48), some (.int x0), none, some (.int b4), none]) ⟨rfl, ⟨rfl, ⟨rfl, trivial⟩⟩⟩ (t_X6_wouldJoin_48 T st x0 b4 0 (st 56 (((7 : Int32) * x0) + x1).toNatClampNeg))
    · refine o_aload_n dX6_wouldJoin_37 rfl ?_
      refine h_get (v := .ref 57) dX6_wouldJoin_38 q6 fl_X6_44 (by decide) (px_ltM (by decide)) (c48 _) rfl ?_
      refine o_iload dX6_wouldJoin_41 rfl ?_
      refine h_iald (n := 49) dX6_wouldJoin_43 (px_ltM (by decide)) (c57 _) (fun u9 => ?_)
      refine o_goto (tgt := 48) dX6_wouldJoin_44 (by decide) ?_
      exact o_weak (L' := [some (.ref 48), some (.int x0), none, some (.int b4), none]) ⟨rfl, ⟨rfl, ⟨rfl, trivial⟩⟩⟩ (t_X6_wouldJoin_48 T st x0 b4 (st 57 (((7 : Int32) * x0) + x1).toNatClampNeg) (st 56 (((7 : Int32) * x0) + x1).toNatClampNeg))
theorem k_X6_wouldJoin_o {T : Nat} {st : px_S} {x0 : Int32} {x1 : Int32} {b : Int32} (hf : f_X6_wouldJoin T st x0 x1 = some b) : px_K (1) 0 0 m_X6_wouldJoin [.ref 48, .int x0, .int x1] (HP (T + 2) st) (some (.int b)) (HP (T + 2) st) := px_KofH (g := px_g0 (HP (T + 2) st)) hf mf_X6_wouldJoin (Nat.le_of_ble_eq_true rfl) rfl (t_X6_wouldJoin T st x0 x1)
theorem k_X6_wouldJoin {T : Nat} {st : px_S} {x0 : Int32} {x1 : Int32} {b : Int32} (hf : f_X6_wouldJoin T st x0 x1 = some b) : px_K (1) 0 0 m_X6_wouldJoin [.ref 48, .int x0, .int x1] (HP (T + 2) st) (some (.int b)) (HP (T + 2) st) := k_X6_wouldJoin_o hf
/-! ThreeOfThemModel.isBand(III)Z: R, depth 1 -/
def f_X6_isBand (T : Nat) (st : px_S) (x0 : Int32) (x1 : Int32) (x2 : Int32) : Option (Int32) := (if (x0 &&& (x2 ^^^ (-1))) = 0 then ((f_X6_bitsOf x0).bind fun b2 => (if b2 = (st 48 14) then (if ((x2 >>> (x1 &&& 31)) &&& 1) = 1 then (if ((x0 >>> (x1 &&& 31)) &&& 1) = 0 then (some 1) else (some 0)) else (some 0)) else (some 0))) else (some 0))
set_option maxRecDepth 20000 in
theorem t_X6_isBand (T : Nat) (st : px_S) (x0 : Int32) (x1 : Int32) (x2 : Int32) : px_O (1, 0, 0, px_n (T + 2), m_X6_isBand) (px_g0 (HP (T + 2) st)) (f_X6_isBand T st x0 x1 x2) 0 [some (.ref 48), some (.int x0), some (.int x1), some (.int x2)] [] (HP (T + 2) st) 0 0 := by
  rw [f_X6_isBand]
  refine o_iload_n dX6_isBand_0 rfl ?_
  refine o_iload_n dX6_isBand_1 rfl ?_
  refine o_iconst (v := (-1)) dX6_isBand_2 (by decide) ?_
  refine o_ixor dX6_isBand_3 ?_
  refine o_iand dX6_isBand_4 ?_
  refine o_ifne (tgt := 40) dX6_isBand_5 (by decide) (fun u1 => ?_) (fun u1 => ?_)
  · refine o_iconst (v := 0) dX6_isBand_40 (by decide) ?_
    exact o_iret (rt := .boolean) rfl rfl dX6_isBand_41 rfl (Nat.zero_le _) (Nat.zero_le _)
  · refine o_iload_n dX6_isBand_8 rfl ?_
    refine h_cS0 (as := [.int x0]) (S1 := []) (d' := 0) dX6_isBand_9 mf_X6_bitsOf ml_X6_348 ms_X6_bitsOf rfl (Nat.le_of_ble_eq_true rfl) rfl (Nat.le_of_ble_eq_true rfl) ⟨Nat.zero_le _, Nat.zero_le _⟩ (fun b hb => k_X6_bitsOf hb) (fun b2 hb2 => ?_)
    refine o_aload_n dX6_isBand_12 rfl ?_
    refine h_get (v := .int (st 48 14)) dX6_isBand_13 q6 fl_X6_38 (by decide) (px_ltM (by decide)) (c48 _) rfl ?_
    refine o_icmpne (tgt := 40) dX6_isBand_16 (by decide) (fun u3 => ?_) (fun u3 => ?_)
    · refine o_iconst (v := 0) dX6_isBand_40 (by decide) ?_
      exact o_iret (rt := .boolean) rfl rfl dX6_isBand_41 rfl (Nat.zero_le _) (Nat.zero_le _)
    · refine o_iload_n dX6_isBand_19 rfl ?_
      refine o_iload_n dX6_isBand_20 rfl ?_
      refine o_ishr dX6_isBand_21 ?_
      refine o_iconst (v := 1) dX6_isBand_22 (by decide) ?_
      refine o_iand dX6_isBand_23 ?_
      refine o_iconst (v := 1) dX6_isBand_24 (by decide) ?_
      refine o_icmpne (tgt := 40) dX6_isBand_25 (by decide) (fun u4 => ?_) (fun u4 => ?_)
      · refine o_iconst (v := 0) dX6_isBand_40 (by decide) ?_
        exact o_iret (rt := .boolean) rfl rfl dX6_isBand_41 rfl (Nat.zero_le _) (Nat.zero_le _)
      · refine o_iload_n dX6_isBand_28 rfl ?_
        refine o_iload_n dX6_isBand_29 rfl ?_
        refine o_ishr dX6_isBand_30 ?_
        refine o_iconst (v := 1) dX6_isBand_31 (by decide) ?_
        refine o_iand dX6_isBand_32 ?_
        refine o_ifne (tgt := 40) dX6_isBand_33 (by decide) (fun u5 => ?_) (fun u5 => ?_)
        · refine o_iconst (v := 0) dX6_isBand_40 (by decide) ?_
          exact o_iret (rt := .boolean) rfl rfl dX6_isBand_41 rfl (Nat.zero_le _) (Nat.zero_le _)
        · refine o_iconst (v := 1) dX6_isBand_36 (by decide) ?_
          refine o_goto (tgt := 41) dX6_isBand_37 (by decide) ?_
          exact o_iret (rt := .boolean) rfl rfl dX6_isBand_41 rfl (Nat.zero_le _) (Nat.zero_le _)
theorem k_X6_isBand_o {T : Nat} {st : px_S} {x0 : Int32} {x1 : Int32} {x2 : Int32} {b : Int32} (hf : f_X6_isBand T st x0 x1 x2 = some b) : px_K (1) 0 0 m_X6_isBand [.ref 48, .int x0, .int x1, .int x2] (HP (T + 2) st) (some (.int b)) (HP (T + 2) st) := px_KofH (g := px_g0 (HP (T + 2) st)) hf mf_X6_isBand (Nat.le_of_ble_eq_true rfl) rfl (t_X6_isBand T st x0 x1 x2)
theorem k_X6_isBand {T : Nat} {st : px_S} {x0 : Int32} {x1 : Int32} {x2 : Int32} {b : Int32} (hf : f_X6_isBand T st x0 x1 x2 = some b) : px_K (1) 0 0 m_X6_isBand [.ref 48, .int x0, .int x1, .int x2] (HP (T + 2) st) (some (.int b)) (HP (T + 2) st) := k_X6_isBand_o hf
/-! ThreeOfThemModel.allWould(II)Z: R, depth 2 -/
def f_X6_allWould_2 (T : Nat) (st : px_S) : Nat → Int32 → Int32 → Int32 → Option (Int32)
  | 0, _, _, _ => none
  | n + 1, y1, y2, y3 => (if y3 < (st 48 11) then (if ((y1 >>> (y3 &&& 31)) &&& 1) = 1 then ((f_X6_wouldJoin T st y3 y2).bind fun b3 => (if b3 = 0 then (some 0) else ((f_X6_allWould_2 T st n) y1 y2 (y3 + 1)))) else ((f_X6_allWould_2 T st n) y1 y2 (y3 + 1))) else (some 1))
set_option maxRecDepth 20000 in
theorem t_X6_allWould_2 (T : Nat) (st : px_S) : ∀ (n : Nat) (y1 : Int32) (y2 : Int32) (y3 : Int32), px_O (2, 0, 0, px_n (T + 2), m_X6_allWould) (px_g0 (HP (T + 2) st)) (f_X6_allWould_2 T st n y1 y2 y3) 2 [some (.ref 48), some (.int y1), some (.int y2), some (.int y3)] [] (HP (T + 2) st) 0 0 := by
  intro n
  induction n with
  | zero => intro y1 y2 y3; rw [f_X6_allWould_2]; exact o_none
  | succ n ih =>
    intro y1 y2 y3
    rw [f_X6_allWould_2]
    refine o_iload_n dX6_allWould_2 rfl ?_
    refine o_aload_n dX6_allWould_3 rfl ?_
    refine h_get (v := .int (st 48 11)) dX6_allWould_4 q6 fl_X6_94 (by decide) (px_ltM (by decide)) (c48 _) rfl ?_
    refine o_icmpge (tgt := 36) dX6_allWould_7 (by decide) (fun u1 => ?_) (fun u1 => ?_)
    · refine o_iconst (v := 1) dX6_allWould_36 (by decide) ?_
      exact o_iret (rt := .boolean) rfl rfl dX6_allWould_37 rfl (Nat.zero_le _) (Nat.zero_le _)
    · refine o_iload_n dX6_allWould_10 rfl ?_
      refine o_iload_n dX6_allWould_11 rfl ?_
      refine o_ishr dX6_allWould_12 ?_
      refine o_iconst (v := 1) dX6_allWould_13 (by decide) ?_
      refine o_iand dX6_allWould_14 ?_
      refine o_iconst (v := 1) dX6_allWould_15 (by decide) ?_
      refine o_icmpne (tgt := 30) dX6_allWould_16 (by decide) (fun u2 => ?_) (fun u2 => ?_)
      · refine o_iinc (v := (y3 + 1)) (L' := [some (.ref 48), some (.int y1), some (.int y2), some (.int (y3 + 1))]) dX6_allWould_30 rfl rfl (Nat.le_of_ble_eq_true rfl) rfl rfl ?_
        refine o_goto (tgt := 2) dX6_allWould_33 (by decide) ?_
        exact (ih y1 y2 (y3 + 1))
      · refine o_aload_n dX6_allWould_19 rfl ?_
        refine o_iload_n dX6_allWould_20 rfl ?_
        refine o_iload_n dX6_allWould_21 rfl ?_
        refine h_cV0 (as := [.int y3, .int y2]) (S1 := []) (d' := 1) dX6_allWould_22 mf_X6_wouldJoin ml_X6_374 mv_X6_wouldJoin q6 rfl (hp_at (px_ltM (by decide)) (c48 _)) rfl (Nat.le_of_ble_eq_true rfl) rfl (Nat.le_of_ble_eq_true rfl) ⟨Nat.zero_le _, Nat.zero_le _⟩ (fun b hb => k_X6_wouldJoin hb) (fun b3 hb3 => ?_)
        refine o_ifne (tgt := 30) dX6_allWould_25 (by decide) (fun u4 => ?_) (fun u4 => ?_)
        · refine o_iinc (v := (y3 + 1)) (L' := [some (.ref 48), some (.int y1), some (.int y2), some (.int (y3 + 1))]) dX6_allWould_30 rfl rfl (Nat.le_of_ble_eq_true rfl) rfl rfl ?_
          refine o_goto (tgt := 2) dX6_allWould_33 (by decide) ?_
          exact (ih y1 y2 (y3 + 1))
        · refine o_iconst (v := 0) dX6_allWould_28 (by decide) ?_
          exact o_iret (rt := .boolean) rfl rfl dX6_allWould_29 rfl (Nat.zero_le _) (Nat.zero_le _)
def f_X6_allWould (T : Nat) (st : px_S) (x0 : Int32) (x1 : Int32) : Option (Int32) := (f_X6_allWould_2 T st 1000 x0 x1 0)
set_option maxRecDepth 20000 in
theorem t_X6_allWould (T : Nat) (st : px_S) (x0 : Int32) (x1 : Int32) : px_O (2, 0, 0, px_n (T + 2), m_X6_allWould) (px_g0 (HP (T + 2) st)) (f_X6_allWould T st x0 x1) 0 [some (.ref 48), some (.int x0), some (.int x1), none] [] (HP (T + 2) st) 0 0 := by
  rw [f_X6_allWould]
  refine o_iconst (v := 0) dX6_allWould_0 (by decide) ?_
  refine o_istore_n (L' := [some (.ref 48), some (.int x0), some (.int x1), some (.int 0)]) dX6_allWould_1 (Nat.le_of_ble_eq_true rfl) rfl rfl ?_
  exact (t_X6_allWould_2 T st 1000 x0 x1 0)
theorem k_X6_allWould_o {T : Nat} {st : px_S} {x0 : Int32} {x1 : Int32} {b : Int32} (hf : f_X6_allWould T st x0 x1 = some b) : px_K (2) 0 0 m_X6_allWould [.ref 48, .int x0, .int x1] (HP (T + 2) st) (some (.int b)) (HP (T + 2) st) := px_KofH (g := px_g0 (HP (T + 2) st)) hf mf_X6_allWould (Nat.le_of_ble_eq_true rfl) rfl (t_X6_allWould T st x0 x1)
theorem k_X6_allWould {T : Nat} {st : px_S} {x0 : Int32} {x1 : Int32} {b : Int32} (hf : f_X6_allWould T st x0 x1 = some b) : px_K (2) 0 0 m_X6_allWould [.ref 48, .int x0, .int x1] (HP (T + 2) st) (some (.int b)) (HP (T + 2) st) := k_X6_allWould_o hf
/-! ThreeOfThemModel.goesThrough()V: S, depth 3 -/
def f_X6_goesThrough_29 (T : Nat) (k17 : Int32 → px_S → Option (px_S)) : Nat → Int32 → Int32 → px_S → Option (px_S)
  | 0, _, _, _ => none
  | n + 1, y1, y2, st => (if y2 < (st 48 11) then ((f_X6_isBand T st y1 y2 (st 48 31)).bind fun b2 => (if b2 = 0 then ((f_X6_goesThrough_29 T k17 n) y1 (y2 + 1) st) else ((f_X6_allWould T st y1 y2).bind fun b4 => (if b4 = 0 then ((f_X6_goesThrough_29 T k17 n) y1 (y2 + 1) st) else (if (st 48 35) = (-1) then ((f_X6_goesThrough_29 T k17 n) y1 (y2 + 1) (up (up (up st 48 37 ((st 48 37) + 1)) 48 35 y1) 48 36 y2)) else ((f_X6_goesThrough_29 T k17 n) y1 (y2 + 1) (up st 48 37 ((st 48 37) + 1)))))))) else (k17 (y1 + 1) st))
set_option maxRecDepth 20000 in
theorem t_X6_goesThrough_29 (T : Nat) (k17 : Int32 → px_S → Option (px_S)) (hk17 : ∀ (y1 : Int32) (st : px_S), px_O (3, 0, 0, px_n (T + 2), m_X6_goesThrough) (px_gv (T + 2)) (k17 y1 st) 17 [some (.ref 48), some (.int y1), none] [] (HP (T + 2) st) 0 0) : ∀ (n : Nat) (y1 : Int32) (y2 : Int32) (st : px_S), px_O (3, 0, 0, px_n (T + 2), m_X6_goesThrough) (px_gv (T + 2)) (f_X6_goesThrough_29 T k17 n y1 y2 st) 29 [some (.ref 48), some (.int y1), some (.int y2)] [] (HP (T + 2) st) 0 0 := by
  intro n
  induction n with
  | zero => intro y1 y2 st; rw [f_X6_goesThrough_29]; exact o_none
  | succ n ih =>
    intro y1 y2 st
    rw [f_X6_goesThrough_29]
    refine o_iload_n dX6_goesThrough_29 rfl ?_
    refine o_aload_n dX6_goesThrough_30 rfl ?_
    refine h_get (v := .int (st 48 11)) dX6_goesThrough_31 q6 fl_X6_94 (by decide) (px_ltM (by decide)) (c48 _) rfl ?_
    refine o_icmpge (tgt := 93) dX6_goesThrough_34 (by decide) (fun u1 => ?_) (fun u1 => ?_)
    · refine o_iinc (v := (y1 + 1)) (L' := [some (.ref 48), some (.int (y1 + 1)), some (.int y2)]) dX6_goesThrough_93 rfl rfl (Nat.le_of_ble_eq_true rfl) rfl rfl ?_
      refine o_goto (tgt := 17) dX6_goesThrough_96 (by decide) ?_
      exact o_weak (L' := [some (.ref 48), some (.int (y1 + 1)), none]) ⟨rfl, ⟨rfl, trivial⟩⟩ (hk17 (y1 + 1) st)
    · refine o_aload_n dX6_goesThrough_37 rfl ?_
      refine o_iload_n dX6_goesThrough_38 rfl ?_
      refine o_iload_n dX6_goesThrough_39 rfl ?_
      refine o_aload_n dX6_goesThrough_40 rfl ?_
      refine h_get (v := .int (st 48 31)) dX6_goesThrough_41 q6 fl_X6_371 (by decide) (px_ltM (by decide)) (c48 _) rfl ?_
      refine h_cV0 (as := [.int y1, .int y2, .int (st 48 31)]) (S1 := []) (d' := 1) dX6_goesThrough_44 mf_X6_isBand ml_X6_386 mv_X6_isBand q6 rfl (hp_at (px_ltM (by decide)) (c48 _)) rfl (Nat.le_of_ble_eq_true rfl) rfl (Nat.le_of_ble_eq_true rfl) ⟨Nat.zero_le _, Nat.zero_le _⟩ (fun b hb => k_X6_isBand hb) (fun b2 hb2 => ?_)
      refine o_ifeq (tgt := 87) dX6_goesThrough_47 (by decide) (fun u3 => ?_) (fun u3 => ?_)
      · refine o_iinc (v := (y2 + 1)) (L' := [some (.ref 48), some (.int y1), some (.int (y2 + 1))]) dX6_goesThrough_87 rfl rfl (Nat.le_of_ble_eq_true rfl) rfl rfl ?_
        refine o_goto (tgt := 29) dX6_goesThrough_90 (by decide) ?_
        exact (ih y1 (y2 + 1) st)
      · refine o_aload_n dX6_goesThrough_50 rfl ?_
        refine o_iload_n dX6_goesThrough_51 rfl ?_
        refine o_iload_n dX6_goesThrough_52 rfl ?_
        refine h_cV0 (as := [.int y1, .int y2]) (S1 := []) (d' := 2) dX6_goesThrough_53 mf_X6_allWould ml_X6_390 mv_X6_allWould q6 rfl (hp_at (px_ltM (by decide)) (c48 _)) rfl (Nat.le_of_ble_eq_true rfl) rfl (Nat.le_of_ble_eq_true rfl) ⟨Nat.zero_le _, Nat.zero_le _⟩ (fun b hb => k_X6_allWould hb) (fun b4 hb4 => ?_)
        refine o_ifeq (tgt := 87) dX6_goesThrough_56 (by decide) (fun u5 => ?_) (fun u5 => ?_)
        · refine o_iinc (v := (y2 + 1)) (L' := [some (.ref 48), some (.int y1), some (.int (y2 + 1))]) dX6_goesThrough_87 rfl rfl (Nat.le_of_ble_eq_true rfl) rfl rfl ?_
          refine o_goto (tgt := 29) dX6_goesThrough_90 (by decide) ?_
          exact (ih y1 (y2 + 1) st)
        · refine o_aload_n dX6_goesThrough_59 rfl ?_
          refine o_dup dX6_goesThrough_60 rfl ?_
          refine h_get (v := .int (st 48 37)) dX6_goesThrough_61 q6 fl_X6_383 (by decide) (px_ltM (by decide)) (c48 _) rfl ?_
          refine o_iconst (v := 1) dX6_goesThrough_64 (by decide) ?_
          refine o_iadd dX6_goesThrough_65 ?_
          refine h_puti dX6_goesThrough_66 q6 fl_X6_383 pf_X6_37 (px_ltM (by decide)) (c48 _) (Nat.le_of_ble_eq_true rfl) (s48_37 _ _) ?_
          refine o_aload_n dX6_goesThrough_69 rfl ?_
          refine h_get (v := .int (st 48 35)) dX6_goesThrough_70 q6 fl_X6_377 (by decide) (px_ltM (by decide)) (c48 _) rfl ?_
          refine o_iconst (v := (-1)) dX6_goesThrough_73 (by decide) ?_
          refine o_icmpne (tgt := 87) dX6_goesThrough_74 (by decide) (fun u6 => ?_) (fun u6 => ?_)
          · refine o_iinc (v := (y2 + 1)) (L' := [some (.ref 48), some (.int y1), some (.int (y2 + 1))]) dX6_goesThrough_87 rfl rfl (Nat.le_of_ble_eq_true rfl) rfl rfl ?_
            refine o_goto (tgt := 29) dX6_goesThrough_90 (by decide) ?_
            exact (ih y1 (y2 + 1) (up st 48 37 ((st 48 37) + 1)))
          · refine o_aload_n dX6_goesThrough_77 rfl ?_
            refine o_iload_n dX6_goesThrough_78 rfl ?_
            refine h_puti dX6_goesThrough_79 q6 fl_X6_377 pf_X6_35 (px_ltM (by decide)) (c48 _) (Nat.le_of_ble_eq_true rfl) (s48_35 _ _) ?_
            refine o_aload_n dX6_goesThrough_82 rfl ?_
            refine o_iload_n dX6_goesThrough_83 rfl ?_
            refine h_puti dX6_goesThrough_84 q6 fl_X6_380 pf_X6_36 (px_ltM (by decide)) (c48 _) (Nat.le_of_ble_eq_true rfl) (s48_36 _ _) ?_
            refine o_iinc (v := (y2 + 1)) (L' := [some (.ref 48), some (.int y1), some (.int (y2 + 1))]) dX6_goesThrough_87 rfl rfl (Nat.le_of_ble_eq_true rfl) rfl rfl ?_
            refine o_goto (tgt := 29) dX6_goesThrough_90 (by decide) ?_
            exact (ih y1 (y2 + 1) (up (up (up st 48 37 ((st 48 37) + 1)) 48 35 y1) 48 36 y2))
def f_X6_goesThrough_17 (T : Nat) : Nat → Int32 → px_S → Option (px_S)
  | 0, _, _ => none
  | n + 1, y1, st => (if y1 < ((1 : Int32) <<< ((st 48 11) &&& 31)) then (f_X6_goesThrough_29 T (f_X6_goesThrough_17 T n) 1000 y1 0 st) else (some st))
set_option maxRecDepth 20000 in
theorem t_X6_goesThrough_17 (T : Nat) : ∀ (n : Nat) (y1 : Int32) (st : px_S), px_O (3, 0, 0, px_n (T + 2), m_X6_goesThrough) (px_gv (T + 2)) (f_X6_goesThrough_17 T n y1 st) 17 [some (.ref 48), some (.int y1), none] [] (HP (T + 2) st) 0 0 := by
  intro n
  induction n with
  | zero => intro y1 st; rw [f_X6_goesThrough_17]; exact o_none
  | succ n ih =>
    intro y1 st
    rw [f_X6_goesThrough_17]
    refine o_iload_n dX6_goesThrough_17 rfl ?_
    refine o_iconst (v := 1) dX6_goesThrough_18 (by decide) ?_
    refine o_aload_n dX6_goesThrough_19 rfl ?_
    refine h_get (v := .int (st 48 11)) dX6_goesThrough_20 q6 fl_X6_94 (by decide) (px_ltM (by decide)) (c48 _) rfl ?_
    refine o_ishl dX6_goesThrough_23 ?_
    refine o_icmpge (tgt := 99) dX6_goesThrough_24 (by decide) (fun u7 => ?_) (fun u7 => ?_)
    · exact o_vret rfl dX6_goesThrough_99 rfl (Nat.zero_le _) (Nat.zero_le _)
    · refine o_iconst (v := 0) dX6_goesThrough_27 (by decide) ?_
      refine o_istore_n (L' := [some (.ref 48), some (.int y1), some (.int 0)]) dX6_goesThrough_28 (Nat.le_of_ble_eq_true rfl) rfl rfl ?_
      exact (t_X6_goesThrough_29 T (f_X6_goesThrough_17 T n) ih 1000 y1 0 st)
def f_X6_goesThrough (T : Nat) (st : px_S) : Option (px_S) := (f_X6_goesThrough_17 T 1000 1 (up (up (up st 48 35 (-1)) 48 36 (-1)) 48 37 0))
set_option maxRecDepth 20000 in
theorem t_X6_goesThrough (T : Nat) (st : px_S) : px_O (3, 0, 0, px_n (T + 2), m_X6_goesThrough) (px_gv (T + 2)) (f_X6_goesThrough T st) 0 [some (.ref 48), none, none] [] (HP (T + 2) st) 0 0 := by
  rw [f_X6_goesThrough]
  refine o_aload_n dX6_goesThrough_0 rfl ?_
  refine o_iconst (v := (-1)) dX6_goesThrough_1 (by decide) ?_
  refine h_puti dX6_goesThrough_2 q6 fl_X6_377 pf_X6_35 (px_ltM (by decide)) (c48 _) (Nat.le_of_ble_eq_true rfl) (s48_35 _ _) ?_
  refine o_aload_n dX6_goesThrough_5 rfl ?_
  refine o_iconst (v := (-1)) dX6_goesThrough_6 (by decide) ?_
  refine h_puti dX6_goesThrough_7 q6 fl_X6_380 pf_X6_36 (px_ltM (by decide)) (c48 _) (Nat.le_of_ble_eq_true rfl) (s48_36 _ _) ?_
  refine o_aload_n dX6_goesThrough_10 rfl ?_
  refine o_iconst (v := 0) dX6_goesThrough_11 (by decide) ?_
  refine h_puti dX6_goesThrough_12 q6 fl_X6_383 pf_X6_37 (px_ltM (by decide)) (c48 _) (Nat.le_of_ble_eq_true rfl) (s48_37 _ _) ?_
  refine o_iconst (v := 1) dX6_goesThrough_15 (by decide) ?_
  refine o_istore_n (L' := [some (.ref 48), some (.int 1), none]) dX6_goesThrough_16 (Nat.le_of_ble_eq_true rfl) rfl rfl ?_
  exact (t_X6_goesThrough_17 T 1000 1 (up (up (up st 48 35 (-1)) 48 36 (-1)) 48 37 0))
theorem k_X6_goesThrough {T : Nat} {st : px_S} {b : px_S} (hf : f_X6_goesThrough T st = some b) : px_K (3) 0 0 m_X6_goesThrough [.ref 48] (HP (T + 2) st) ((px_gv (T + 2)) b).1 ((px_gv (T + 2)) b).2 := px_KofH hf mf_X6_goesThrough (Nat.le_of_ble_eq_true rfl) rfl (t_X6_goesThrough T st)
/-! ThreeOfThemModel.isSafe(I)Z: R, depth 3 -/
def f_X6_isSafe_2 (T : Nat) (st : px_S) : Nat → Int32 → Int32 → Option (Int32)
  | 0, _, _ => none
  | n + 1, y1, y2 => (if y2 < ((1 : Int32) <<< ((st 48 11) &&& 31)) then ((f_X6_isBand T st y2 y1 (st 48 31)).bind fun b2 => (if b2 = 0 then ((f_X6_isSafe_2 T st n) y1 (y2 + 1)) else ((f_X6_allWould T st y2 y1).bind fun b4 => (if b4 = 0 then ((f_X6_isSafe_2 T st n) y1 (y2 + 1)) else (some 0))))) else (some 1))
set_option maxRecDepth 20000 in
theorem t_X6_isSafe_2 (T : Nat) (st : px_S) : ∀ (n : Nat) (y1 : Int32) (y2 : Int32), px_O (3, 0, 0, px_n (T + 2), m_X6_isSafe) (px_g0 (HP (T + 2) st)) (f_X6_isSafe_2 T st n y1 y2) 2 [some (.ref 48), some (.int y1), some (.int y2)] [] (HP (T + 2) st) 0 0 := by
  intro n
  induction n with
  | zero => intro y1 y2; rw [f_X6_isSafe_2]; exact o_none
  | succ n ih =>
    intro y1 y2
    rw [f_X6_isSafe_2]
    refine o_iload_n dX6_isSafe_2 rfl ?_
    refine o_iconst (v := 1) dX6_isSafe_3 (by decide) ?_
    refine o_aload_n dX6_isSafe_4 rfl ?_
    refine h_get (v := .int (st 48 11)) dX6_isSafe_5 q6 fl_X6_94 (by decide) (px_ltM (by decide)) (c48 _) rfl ?_
    refine o_ishl dX6_isSafe_8 ?_
    refine o_icmpge (tgt := 42) dX6_isSafe_9 (by decide) (fun u1 => ?_) (fun u1 => ?_)
    · refine o_iconst (v := 1) dX6_isSafe_42 (by decide) ?_
      exact o_iret (rt := .boolean) rfl rfl dX6_isSafe_43 rfl (Nat.zero_le _) (Nat.zero_le _)
    · refine o_aload_n dX6_isSafe_12 rfl ?_
      refine o_iload_n dX6_isSafe_13 rfl ?_
      refine o_iload_n dX6_isSafe_14 rfl ?_
      refine o_aload_n dX6_isSafe_15 rfl ?_
      refine h_get (v := .int (st 48 31)) dX6_isSafe_16 q6 fl_X6_371 (by decide) (px_ltM (by decide)) (c48 _) rfl ?_
      refine h_cV0 (as := [.int y2, .int y1, .int (st 48 31)]) (S1 := []) (d' := 1) dX6_isSafe_19 mf_X6_isBand ml_X6_386 mv_X6_isBand q6 rfl (hp_at (px_ltM (by decide)) (c48 _)) rfl (Nat.le_of_ble_eq_true rfl) rfl (Nat.le_of_ble_eq_true rfl) ⟨Nat.zero_le _, Nat.zero_le _⟩ (fun b hb => k_X6_isBand hb) (fun b2 hb2 => ?_)
      refine o_ifeq (tgt := 36) dX6_isSafe_22 (by decide) (fun u3 => ?_) (fun u3 => ?_)
      · refine o_iinc (v := (y2 + 1)) (L' := [some (.ref 48), some (.int y1), some (.int (y2 + 1))]) dX6_isSafe_36 rfl rfl (Nat.le_of_ble_eq_true rfl) rfl rfl ?_
        refine o_goto (tgt := 2) dX6_isSafe_39 (by decide) ?_
        exact (ih y1 (y2 + 1))
      · refine o_aload_n dX6_isSafe_25 rfl ?_
        refine o_iload_n dX6_isSafe_26 rfl ?_
        refine o_iload_n dX6_isSafe_27 rfl ?_
        refine h_cV0 (as := [.int y2, .int y1]) (S1 := []) (d' := 2) dX6_isSafe_28 mf_X6_allWould ml_X6_390 mv_X6_allWould q6 rfl (hp_at (px_ltM (by decide)) (c48 _)) rfl (Nat.le_of_ble_eq_true rfl) rfl (Nat.le_of_ble_eq_true rfl) ⟨Nat.zero_le _, Nat.zero_le _⟩ (fun b hb => k_X6_allWould hb) (fun b4 hb4 => ?_)
        refine o_ifeq (tgt := 36) dX6_isSafe_31 (by decide) (fun u5 => ?_) (fun u5 => ?_)
        · refine o_iinc (v := (y2 + 1)) (L' := [some (.ref 48), some (.int y1), some (.int (y2 + 1))]) dX6_isSafe_36 rfl rfl (Nat.le_of_ble_eq_true rfl) rfl rfl ?_
          refine o_goto (tgt := 2) dX6_isSafe_39 (by decide) ?_
          exact (ih y1 (y2 + 1))
        · refine o_iconst (v := 0) dX6_isSafe_34 (by decide) ?_
          exact o_iret (rt := .boolean) rfl rfl dX6_isSafe_35 rfl (Nat.zero_le _) (Nat.zero_le _)
def f_X6_isSafe (T : Nat) (st : px_S) (x0 : Int32) : Option (Int32) := (f_X6_isSafe_2 T st 1000 x0 1)
set_option maxRecDepth 20000 in
theorem t_X6_isSafe (T : Nat) (st : px_S) (x0 : Int32) : px_O (3, 0, 0, px_n (T + 2), m_X6_isSafe) (px_g0 (HP (T + 2) st)) (f_X6_isSafe T st x0) 0 [some (.ref 48), some (.int x0), none] [] (HP (T + 2) st) 0 0 := by
  rw [f_X6_isSafe]
  refine o_iconst (v := 1) dX6_isSafe_0 (by decide) ?_
  refine o_istore_n (L' := [some (.ref 48), some (.int x0), some (.int 1)]) dX6_isSafe_1 (Nat.le_of_ble_eq_true rfl) rfl rfl ?_
  exact (t_X6_isSafe_2 T st 1000 x0 1)
theorem k_X6_isSafe_o {T : Nat} {st : px_S} {x0 : Int32} {b : Int32} (hf : f_X6_isSafe T st x0 = some b) : px_K (3) 0 0 m_X6_isSafe [.ref 48, .int x0] (HP (T + 2) st) (some (.int b)) (HP (T + 2) st) := px_KofH (g := px_g0 (HP (T + 2) st)) hf mf_X6_isSafe (Nat.le_of_ble_eq_true rfl) rfl (t_X6_isSafe T st x0)
theorem k_X6_isSafe {T : Nat} {st : px_S} {x0 : Int32} {b : Int32} (hf : f_X6_isSafe T st x0 = some b) : px_K (3) 0 0 m_X6_isSafe [.ref 48, .int x0] (HP (T + 2) st) (some (.int b)) (HP (T + 2) st) := k_X6_isSafe_o hf
/-! ThreeOfThemModel.isRest()Z: S, depth 4 -/
def f_X6_isRest (T : Nat) (st : px_S) : Option (Int32 × px_S) := ((f_X6_goesThrough T st).bind fun b1 => (if (b1 48 37) = 0 then (some (1, b1)) else (some (0, b1))))
set_option maxRecDepth 20000 in
theorem t_X6_isRest (T : Nat) (st : px_S) : px_O (4, 0, 0, px_n (T + 2), m_X6_isRest) (px_gi (T + 2)) (f_X6_isRest T st) 0 [some (.ref 48)] [] (HP (T + 2) st) 0 0 := by
  rw [f_X6_isRest]
  refine o_aload_n dX6_isRest_0 rfl ?_
  refine h_cVv (as := []) (S1 := []) (d' := 3) dX6_isRest_1 mf_X6_goesThrough ml_X6_393 mv_X6_goesThrough q6 rfl (hp_at (px_ltM (by decide)) (c48 _)) rfl (Nat.le_of_ble_eq_true rfl) rfl (Nat.le_of_ble_eq_true rfl) (fun b hb => k_X6_goesThrough hb) (fun b1 hb1 => ?_)
  refine o_aload_n dX6_isRest_4 rfl ?_
  refine h_get (v := .int (b1 48 37)) dX6_isRest_5 q6 fl_X6_383 (by decide) (px_ltM (by decide)) (c48 _) rfl ?_
  refine o_ifne (tgt := 15) dX6_isRest_8 (by decide) (fun u2 => ?_) (fun u2 => ?_)
  · refine o_iconst (v := 0) dX6_isRest_15 (by decide) ?_
    exact o_iret (rt := .boolean) rfl rfl dX6_isRest_16 rfl (Nat.zero_le _) (Nat.zero_le _)
  · refine o_iconst (v := 1) dX6_isRest_11 (by decide) ?_
    refine o_goto (tgt := 16) dX6_isRest_12 (by decide) ?_
    exact o_iret (rt := .boolean) rfl rfl dX6_isRest_16 rfl (Nat.zero_le _) (Nat.zero_le _)
theorem k_X6_isRest {T : Nat} {st : px_S} {b : Int32 × px_S} (hf : f_X6_isRest T st = some b) : px_K (4) 0 0 m_X6_isRest [.ref 48] (HP (T + 2) st) ((px_gi (T + 2)) b).1 ((px_gi (T + 2)) b).2 := px_KofH hf mf_X6_isRest (Nat.le_of_ble_eq_true rfl) rfl (t_X6_isRest T st)
/-! ThreeOfThemModel.would(II)I: S, depth 45 -/
def f_X6_would (T : Nat) (x0 : Int32) (x1 : Int32) (st : px_S) : Option (Int32 × px_S) := (if (p_X6_in x0.toInt64 1 (((1 : Int32) <<< ((st 48 11) &&& 31)) - 1).toInt64) = 0 then (some ((-2), st)) else ((f_X6_isOne T st x1).bind fun b2 => (if b2 = 0 then (some ((-2), st)) else ((f_X6_isBand T st x0 x1 (st 48 12)).bind fun b4 => (if b4 = 0 then (some ((-2), st)) else ((f_X6_looks T (st 48 12) st).bind fun b6 => ((f_X6_allWould T b6 x0 x1).bind fun b7 => (if b7 = 0 then (some (0, b6)) else (some (1, b6))))))))))
set_option maxRecDepth 20000 in
theorem t_X6_would (T : Nat) (x0 : Int32) (x1 : Int32) (st : px_S) : px_O (45, 0, 0, px_n (T + 2), m_X6_would) (px_gi (T + 2)) (f_X6_would T x0 x1 st) 0 [some (.ref 48), some (.int x0), some (.int x1)] [] (HP (T + 2) st) 0 0 := by
  rw [f_X6_would]
  refine o_iload_n dX6_would_0 rfl ?_
  refine o_i2l dX6_would_1 ?_
  refine o_lconst (v := 1) dX6_would_2 (by decide) ?_
  refine o_iconst (v := 1) dX6_would_3 (by decide) ?_
  refine o_aload_n dX6_would_4 rfl ?_
  refine h_get (v := .int (st 48 11)) dX6_would_5 q6 fl_X6_94 (by decide) (px_ltM (by decide)) (c48 _) rfl ?_
  refine o_ishl dX6_would_8 ?_
  refine o_iconst (v := 1) dX6_would_9 (by decide) ?_
  refine o_isub dX6_would_10 ?_
  refine o_i2l dX6_would_11 ?_
  refine h_cSP (as := [.long x0.toInt64, .long 1, .long (((1 : Int32) <<< ((st 48 11) &&& 31)) - 1).toInt64]) (S1 := []) (d' := 0) dX6_would_12 mf_X6_in ml_X6_97 ms_X6_in rfl (Nat.le_of_ble_eq_true rfl) rfl (Nat.le_of_ble_eq_true rfl) ⟨Nat.zero_le _, Nat.zero_le _⟩ (k_X6_in) ?_
  refine o_ifeq (tgt := 39) dX6_would_15 (by decide) (fun u1 => ?_) (fun u1 => ?_)
  · refine o_bipush (v := (-2)) dX6_would_39 (by decide) ?_
    exact o_iret (rt := .int) rfl rfl dX6_would_41 rfl (Nat.zero_le _) (Nat.zero_le _)
  · refine o_aload_n dX6_would_18 rfl ?_
    refine o_iload_n dX6_would_19 rfl ?_
    refine h_cV0 (as := [.int x1]) (S1 := []) (d' := 1) dX6_would_20 mf_X6_isOne ml_X6_101 mv_X6_isOne q6 rfl (hp_at (px_ltM (by decide)) (c48 _)) rfl (Nat.le_of_ble_eq_true rfl) rfl (Nat.le_of_ble_eq_true rfl) ⟨Nat.zero_le _, Nat.zero_le _⟩ (fun b hb => k_X6_isOne hb) (fun b2 hb2 => ?_)
    refine o_ifeq (tgt := 39) dX6_would_23 (by decide) (fun u3 => ?_) (fun u3 => ?_)
    · refine o_bipush (v := (-2)) dX6_would_39 (by decide) ?_
      exact o_iret (rt := .int) rfl rfl dX6_would_41 rfl (Nat.zero_le _) (Nat.zero_le _)
    · refine o_aload_n dX6_would_26 rfl ?_
      refine o_iload_n dX6_would_27 rfl ?_
      refine o_iload_n dX6_would_28 rfl ?_
      refine o_aload_n dX6_would_29 rfl ?_
      refine h_get (v := .int (st 48 12)) dX6_would_30 q6 fl_X6_105 (by decide) (px_ltM (by decide)) (c48 _) rfl ?_
      refine h_cV0 (as := [.int x0, .int x1, .int (st 48 12)]) (S1 := []) (d' := 1) dX6_would_33 mf_X6_isBand ml_X6_386 mv_X6_isBand q6 rfl (hp_at (px_ltM (by decide)) (c48 _)) rfl (Nat.le_of_ble_eq_true rfl) rfl (Nat.le_of_ble_eq_true rfl) ⟨Nat.zero_le _, Nat.zero_le _⟩ (fun b hb => k_X6_isBand hb) (fun b4 hb4 => ?_)
      refine o_ifne (tgt := 42) dX6_would_36 (by decide) (fun u5 => ?_) (fun u5 => ?_)
      · refine o_aload_n dX6_would_42 rfl ?_
        refine o_aload_n dX6_would_43 rfl ?_
        refine h_get (v := .int (st 48 12)) dX6_would_44 q6 fl_X6_105 (by decide) (px_ltM (by decide)) (c48 _) rfl ?_
        refine h_cVv (as := [.int (st 48 12)]) (S1 := []) (d' := 44) dX6_would_47 mf_X6_looks ml_X6_396 mv_X6_looks q6 rfl (hp_at (px_ltM (by decide)) (c48 _)) rfl (Nat.le_of_ble_eq_true rfl) rfl (Nat.le_of_ble_eq_true rfl) (fun b hb => k_X6_looks hb) (fun b6 hb6 => ?_)
        refine o_aload_n dX6_would_50 rfl ?_
        refine o_iload_n dX6_would_51 rfl ?_
        refine o_iload_n dX6_would_52 rfl ?_
        refine h_cV0 (as := [.int x0, .int x1]) (S1 := []) (d' := 2) dX6_would_53 mf_X6_allWould ml_X6_390 mv_X6_allWould q6 rfl (hp_at (px_ltM (by decide)) (c48 _)) rfl (Nat.le_of_ble_eq_true rfl) rfl (Nat.le_of_ble_eq_true rfl) ⟨Nat.zero_le _, Nat.zero_le _⟩ (fun b hb => k_X6_allWould hb) (fun b7 hb7 => ?_)
        refine o_ifeq (tgt := 63) dX6_would_56 (by decide) (fun u8 => ?_) (fun u8 => ?_)
        · refine o_iconst (v := 0) dX6_would_63 (by decide) ?_
          exact o_iret (rt := .int) rfl rfl dX6_would_64 rfl (Nat.zero_le _) (Nat.zero_le _)
        · refine o_iconst (v := 1) dX6_would_59 (by decide) ?_
          refine o_goto (tgt := 64) dX6_would_60 (by decide) ?_
          exact o_iret (rt := .int) rfl rfl dX6_would_64 rfl (Nat.zero_le _) (Nat.zero_le _)
      · refine o_bipush (v := (-2)) dX6_would_39 (by decide) ?_
        exact o_iret (rt := .int) rfl rfl dX6_would_41 rfl (Nat.zero_le _) (Nat.zero_le _)
theorem k_X6_would {T : Nat} {st : px_S} {x0 : Int32} {x1 : Int32} {b : Int32 × px_S} (hf : f_X6_would T x0 x1 st = some b) : px_K (45) 0 0 m_X6_would [.ref 48, .int x0, .int x1] (HP (T + 2) st) ((px_gi (T + 2)) b).1 ((px_gi (T + 2)) b).2 := px_KofH hf mf_X6_would (Nat.le_of_ble_eq_true rfl) rfl (t_X6_would T x0 x1 st)
/-! ThreeOfThemModel.now(I)I: S, depth 45 -/
def f_X6_now (T : Nat) (x0 : Int32) (st : px_S) : Option (Int32 × px_S) := (if (p_X6_in x0.toInt64 0 2) = 0 then (some ((-2), st)) else ((f_X6_looks T (st 48 12) st).bind fun b2 => ((f_X6_goesThrough T b2).bind fun b3 => (if x0 = 0 then (some ((b3 48 35), b3)) else (if x0 = 1 then (some ((b3 48 36), b3)) else (some ((b3 48 37), b3)))))))
set_option maxRecDepth 20000 in
theorem t_X6_now (T : Nat) (x0 : Int32) (st : px_S) : px_O (45, 0, 0, px_n (T + 2), m_X6_now) (px_gi (T + 2)) (f_X6_now T x0 st) 0 [some (.ref 48), some (.int x0)] [] (HP (T + 2) st) 0 0 := by
  rw [f_X6_now]
  refine o_iload_n dX6_now_0 rfl ?_
  refine o_i2l dX6_now_1 ?_
  refine o_lconst (v := 0) dX6_now_2 (by decide) ?_
  refine o_ldc2 (v := 2) dX6_now_3 cst_X6_122 ?_
  refine h_cSP (as := [.long x0.toInt64, .long 0, .long 2]) (S1 := []) (d' := 0) dX6_now_6 mf_X6_in ml_X6_97 ms_X6_in rfl (Nat.le_of_ble_eq_true rfl) rfl (Nat.le_of_ble_eq_true rfl) ⟨Nat.zero_le _, Nat.zero_le _⟩ (k_X6_in) ?_
  refine o_ifne (tgt := 15) dX6_now_9 (by decide) (fun u1 => ?_) (fun u1 => ?_)
  · refine o_aload_n dX6_now_15 rfl ?_
    refine o_aload_n dX6_now_16 rfl ?_
    refine h_get (v := .int (st 48 12)) dX6_now_17 q6 fl_X6_105 (by decide) (px_ltM (by decide)) (c48 _) rfl ?_
    refine h_cVv (as := [.int (st 48 12)]) (S1 := []) (d' := 44) dX6_now_20 mf_X6_looks ml_X6_396 mv_X6_looks q6 rfl (hp_at (px_ltM (by decide)) (c48 _)) rfl (Nat.le_of_ble_eq_true rfl) rfl (Nat.le_of_ble_eq_true rfl) (fun b hb => k_X6_looks hb) (fun b2 hb2 => ?_)
    refine o_aload_n dX6_now_23 rfl ?_
    refine h_cVv (as := []) (S1 := []) (d' := 3) dX6_now_24 mf_X6_goesThrough ml_X6_393 mv_X6_goesThrough q6 rfl (hp_at (px_ltM (by decide)) (c48 _)) rfl (Nat.le_of_ble_eq_true rfl) rfl (Nat.le_of_ble_eq_true rfl) (fun b hb => k_X6_goesThrough hb) (fun b3 hb3 => ?_)
    refine o_iload_n dX6_now_27 rfl ?_
    refine o_ifne (tgt := 38) dX6_now_28 (by decide) (fun u4 => ?_) (fun u4 => ?_)
    · refine o_iload_n dX6_now_38 rfl ?_
      refine o_iconst (v := 1) dX6_now_39 (by decide) ?_
      refine o_icmpne (tgt := 50) dX6_now_40 (by decide) (fun u5 => ?_) (fun u5 => ?_)
      · refine o_aload_n dX6_now_50 rfl ?_
        refine h_get (v := .int (b3 48 37)) dX6_now_51 q6 fl_X6_383 (by decide) (px_ltM (by decide)) (c48 _) rfl ?_
        exact o_iret (rt := .int) rfl rfl dX6_now_54 rfl (Nat.zero_le _) (Nat.zero_le _)
      · refine o_aload_n dX6_now_43 rfl ?_
        refine h_get (v := .int (b3 48 36)) dX6_now_44 q6 fl_X6_380 (by decide) (px_ltM (by decide)) (c48 _) rfl ?_
        refine o_goto (tgt := 54) dX6_now_47 (by decide) ?_
        exact o_iret (rt := .int) rfl rfl dX6_now_54 rfl (Nat.zero_le _) (Nat.zero_le _)
    · refine o_aload_n dX6_now_31 rfl ?_
      refine h_get (v := .int (b3 48 35)) dX6_now_32 q6 fl_X6_377 (by decide) (px_ltM (by decide)) (c48 _) rfl ?_
      refine o_goto (tgt := 54) dX6_now_35 (by decide) ?_
      exact o_iret (rt := .int) rfl rfl dX6_now_54 rfl (Nat.zero_le _) (Nat.zero_le _)
  · refine o_bipush (v := (-2)) dX6_now_12 (by decide) ?_
    exact o_iret (rt := .int) rfl rfl dX6_now_14 rfl (Nat.zero_le _) (Nat.zero_le _)
theorem k_X6_now {T : Nat} {st : px_S} {x0 : Int32} {b : Int32 × px_S} (hf : f_X6_now T x0 st = some b) : px_K (45) 0 0 m_X6_now [.ref 48, .int x0] (HP (T + 2) st) ((px_gi (T + 2)) b).1 ((px_gi (T + 2)) b).2 := px_KofH hf mf_X6_now (Nat.le_of_ble_eq_true rfl) rfl (t_X6_now T x0 st)
