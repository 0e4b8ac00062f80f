def px_setT (T : Nat) (s : px_S) : px_S := up (up s 36 (s 0 6).toNatClampNeg (nI (px_n T))) 0 6 ((s 0 6) + 1)
def f_X5_text (T : Nat) (st : px_S) : Option ((Int32 × px_S) ⊕ (Int32 × px_S)) :=
  (if (st 0 6) < 6 then ((f_X2_compile T st).bind fun r => (match r with
    | .inl s => ((f_X2_place T s).bind fun p => ((f_X2_clear T s).bind fun s2 => some (.inl ((-100) - p, s2))))
    | .inr s => ((f_X2_place (T + 1) s).bind fun p => ((f_X2_clear (T + 1) s).bind fun s2 => (if (T ≠ 1 ∧ px_n T < 900) ∧ px_in (s2 0 6) 6 then some (.inr (((s2 0 6) + 1) - 1, px_setT T s2)) else none))))) else some (.inl ((-4), st)))
def px_gt (T : Nat) (b : (Int32 × px_S) ⊕ (Int32 × px_S)) : Option Value × List px_C := match b with
  | .inl s => (some (.int s.1), HP T s.2)
  | .inr s => (some (.int s.1), HP (T + 1) s.2)
set_option maxRecDepth 20000 in
theorem t_X5_text (T : Nat) (st : px_S) : px_O (123, 2, 163, px_n T, m_X5_text) (px_gt T) (f_X5_text T st) 0 [some (.ref 0), none, none] [] (HP T st) 0 0 := by
  rw [f_X5_text]
  refine o_aload_n dX5_text_0 rfl ?_
  refine h_get (v := .int (st 0 6)) dX5_text_1 q5 fl_X5_66 (by decide) (px_lt (by decide)) (c0 _) rfl ?_
  refine o_bipush (v := 6) dX5_text_4 (by decide) ?_
  refine o_icmplt (tgt := 12) dX5_text_6 (by decide) (fun u1 => ?_) (fun u1 => ?_)
  rotate_left
  · refine o_bipush (v := (-4)) dX5_text_9 (by decide) ?_
    exact o_iret (rt := .int) rfl rfl dX5_text_11 rfl (Nat.le_of_ble_eq_true rfl) (Nat.le_of_ble_eq_true rfl)
  refine o_aload_n dX5_text_12 rfl ?_
  refine h_get (v := .ref 31) dX5_text_13 q5 fl_X5_29 (by decide) (px_lt (by decide)) (c0 _) rfl ?_
  refine o_bindv (fun r hr => ?_)
  have hl := hp_len T st
  refine o_callV (M' := m_X2_compile) (as := []) (S1 := []) (rv := (px_gc T r).1) (h' := (px_gc T r).2) (mc' := 2) (ms' := 163) (d' := 122) dX5_text_16 mf_X2_compile ml_X5_62 mv_X2_compile.1 mv_X2_compile.2 q2 rfl (hp_at (px_lt (by decide)) (c31 _)) rfl (k_X2_compile hr) (Nat.le_of_ble_eq_true rfl) rfl (Nat.le_of_ble_eq_true rfl) ⟨(Nat.le_of_ble_eq_true rfl), (Nat.le_of_ble_eq_true rfl)⟩ (px_oL (N := px_n T) (L := [some (.ref 0), none, none]) hl ⟨Nat.lt_of_lt_of_le (by decide) (px_n_ge T), trivial⟩) (px_oS (N := px_n T) (S := []) hl trivial) ?_
  cases r with
  | inl s =>
    refine o_heap (show (px_gc T (.inl s)).2 = HP T s from rfl) ?_
    refine o_astore_nN (L' := [some (.ref 0), some .null, none]) dX5_text_19 (Nat.le_of_ble_eq_true rfl) rfl rfl ?_
    refine o_aload_n dX5_text_20 rfl ?_
    refine h_get (v := .ref 31) dX5_text_21 q5 fl_X5_29 (by decide) (px_lt (by decide)) (c0 _) rfl ?_
    refine h_cV0 (as := []) (S1 := []) (d' := 0) dX5_text_24 mf_X2_place ml_X5_166 mv_X2_place q2 rfl (hp_at (px_lt (by decide)) (c31 _)) rfl (Nat.le_of_ble_eq_true rfl) rfl (Nat.le_of_ble_eq_true rfl) ⟨(Nat.le_of_ble_eq_true rfl), (Nat.le_of_ble_eq_true rfl)⟩ (fun b hb => k_X2_place hb) (fun p hp => ?_)
    refine o_istore_n (L' := [some (.ref 0), some (.null), some (.int p)]) dX5_text_27 (Nat.le_of_ble_eq_true rfl) rfl rfl ?_
    refine o_aload_n dX5_text_28 rfl ?_
    refine h_get (v := .ref 31) dX5_text_29 q5 fl_X5_29 (by decide) (px_lt (by decide)) (c0 _) rfl ?_
    refine o_cV (g' := px_gv T) (as := []) (S1 := []) (d' := 0) dX5_text_32 mf_X2_clear ml_X5_70 mv_X2_clear.1 mv_X2_clear.2 q2 rfl (hp_at (px_lt (by decide)) (c31 _)) rfl (fun b hb => k_X2_clear hb) (Nat.le_of_ble_eq_true rfl) rfl (Nat.le_of_ble_eq_true rfl) ⟨(Nat.le_of_ble_eq_true rfl), (Nat.le_of_ble_eq_true rfl)⟩ (fun b _ => (hp_len _ _).trans (hp_len _ _).symm) (fun s2 hs2 => ?_)
    refine o_heap (show (px_gv T s2).2 = HP T s2 from rfl) ?_
    refine o_aload_nN dX5_text_35 rfl ?_
    refine o_ifnonnullN dX5_text_36 ?_
    refine o_bipush (v := (-100)) dX5_text_39 (by decide) ?_
    refine o_iload_n dX5_text_41 rfl ?_
    refine o_isub dX5_text_42 ?_
    exact o_iret (rt := .int) rfl rfl dX5_text_43 rfl (Nat.le_of_ble_eq_true rfl) (Nat.le_of_ble_eq_true rfl)
  | inr s =>
    refine o_heap (show (px_gc T (.inr s)).2 = HP (T + 1) s from rfl) ?_
    refine o_astore_n (L' := [some (.ref 0), some (.ref (px_n T)), none]) dX5_text_19 (Nat.le_of_ble_eq_true rfl) rfl rfl ?_
    refine o_aload_n dX5_text_20 rfl ?_
    refine h_get (v := .ref 31) dX5_text_21 q5 fl_X5_29 (by decide) (px_lt (by decide)) (c0 _) rfl ?_
    refine h_cV0 (as := []) (S1 := []) (d' := 0) dX5_text_24 mf_X2_place ml_X5_166 mv_X2_place q2 rfl (hp_at (px_lt (by decide)) (c31 _)) rfl (Nat.le_of_ble_eq_true rfl) rfl (Nat.le_of_ble_eq_true rfl) ⟨(Nat.le_of_ble_eq_true rfl), (Nat.le_of_ble_eq_true rfl)⟩ (fun b hb => k_X2_place hb) (fun p hp => ?_)
    refine o_istore_n (L' := [some (.ref 0), some (.ref (px_n T)), some (.int p)]) dX5_text_27 (Nat.le_of_ble_eq_true rfl) rfl rfl ?_
    refine o_aload_n dX5_text_28 rfl ?_
    refine h_get (v := .ref 31) dX5_text_29 q5 fl_X5_29 (by decide) (px_lt (by decide)) (c0 _) rfl ?_
    refine o_cV (g' := px_gv (T + 1)) (as := []) (S1 := []) (d' := 0) dX5_text_32 mf_X2_clear ml_X5_70 mv_X2_clear.1 mv_X2_clear.2 q2 rfl (hp_at (px_lt (by decide)) (c31 _)) rfl (fun b hb => k_X2_clear hb) (Nat.le_of_ble_eq_true rfl) rfl (Nat.le_of_ble_eq_true rfl) ⟨(Nat.le_of_ble_eq_true rfl), (Nat.le_of_ble_eq_true rfl)⟩ (fun b _ => (hp_len _ _).trans (hp_len _ _).symm) (fun s2 hs2 => ?_)
    refine o_heap (show (px_gv (T + 1) s2).2 = HP (T + 1) s2 from rfl) ?_
    refine o_ite (fun u2 => ?_) (fun _ => o_none)
    obtain ⟨⟨hT, hN⟩, hin⟩ := u2
    refine o_aload_n dX5_text_35 rfl ?_
    refine o_ifnonnull (tgt := 44) dX5_text_36 (by decide) ?_
    refine o_aload_n dX5_text_44 rfl ?_
    refine h_get (v := .ref 36) dX5_text_45 q5 fl_X5_35 (by decide) (px_lt (by decide)) (c0 _) rfl ?_
    refine o_aload_n dX5_text_48 rfl ?_
    refine h_get (v := .int (s2 0 6)) dX5_text_49 q5 fl_X5_66 (by decide) (px_lt (by decide)) (c0 _) rfl ?_
    refine o_aload_n dX5_text_52 rfl ?_
    have e1 : (nI (px_n T)).toNatClampNeg = px_n T := nI_clamp (by omega)
    have e2 : ¬ nI (px_n T) < 0 := nI_pos (by omega)
    refine o_aast (ci := 4) (n := 6) (f := fun j => if j < 6 then px_on (s2 36 j) else none) (Or.inl ⟨rfl, rfl⟩) dX5_text_53 (hp_at (px_lt (by decide)) rfl) (hp_at (c := px_text (px_n T) (s2 (px_n T))) (by rw [px_n_succ hT]; omega) (px_cell_t hT _)) (px_in_vp hin) (h' := HP (T + 1) (up s2 36 (s2 0 6).toNatClampNeg (nI (px_n T)))) (hp_set (T + 1) s2 (w := upd (s2 36) (s2 0 6).toNatClampNeg (nI (px_n T))) (by
      show Sum.inr (Sum.inr (2, 6, fun j => if j < 6 then px_on (upd (s2 36) (s2 0 6).toNatClampNeg (nI (px_n T)) j) else none)) = _
      have e3 : (fun j => if j < 6 then px_on (upd (s2 36) (s2 0 6).toNatClampNeg (nI (px_n T)) j) else none) = va_up (fun j => if j < 6 then px_on (s2 36 j) else none) (s2 0 6).toNatClampNeg (some (px_n T)) := by
        funext j
        by_cases hj : j = (s2 0 6).toNatClampNeg
        · rw [hj, if_pos hin.2]
          simp only [va_up, upd, if_true]
          rw [px_on, if_neg e2, e1]
        · simp only [va_up, upd, hj, if_false]
      rw [e3])) ?_
    refine o_aload_n dX5_text_54 rfl ?_
    refine o_dup dX5_text_55 rfl ?_
    refine h_get (v := .int (s2 0 6)) dX5_text_56 q5 fl_X5_66 (by decide) (px_lt (by decide)) (c0 _) rfl ?_
    refine o_iconst (v := 1) dX5_text_59 (by decide) ?_
    refine o_iadd dX5_text_60 ?_
    refine h_puti dX5_text_61 q5 fl_X5_66 pf_X5_6 (px_lt (by decide)) (c0 _) (Nat.le_of_ble_eq_true rfl) (s0_6 _ _) ?_
    refine o_aload_n dX5_text_64 rfl ?_
    refine h_get (v := .int (s2 0 6 + 1)) dX5_text_65 q5 fl_X5_66 (by decide) (px_lt (by decide)) (c0 _) rfl ?_
    refine o_iconst (v := 1) dX5_text_68 (by decide) ?_
    refine o_isub dX5_text_69 ?_
    exact o_iret (rt := .int) rfl rfl dX5_text_70 rfl (Nat.le_of_ble_eq_true rfl) (Nat.le_of_ble_eq_true rfl)
theorem k_X5_text {T : Nat} {st : px_S} {b : (Int32 × px_S) ⊕ (Int32 × px_S)} (hf : f_X5_text T st = some b) : px_K 123 2 163 m_X5_text [.ref 0] (HP T st) (px_gt T b).1 (px_gt T b).2 := px_KofH hf mf_X5_text (Nat.le_of_ble_eq_true rfl) rfl (t_X5_text T st)
