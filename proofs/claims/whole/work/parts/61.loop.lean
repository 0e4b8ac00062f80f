/-- what one call of the law does to the picture -/
def px_ops (T : Nat) (st : px_S) (ag : px_ag) (T2 : Nat) (st2 : px_S) : Prop :=
  (∀ k : Nat, k < 29 → ag 0 &&& 31 = nI k → (match k with
  | 0 => px_op0 T st ag T2 st2
  | 1 => px_op1 T st ag T2 st2
  | 2 => px_op2 T st ag T2 st2
  | 3 => px_op3 T st ag T2 st2
  | 4 => px_op4 T st ag T2 st2
  | 5 => px_op5 T st ag T2 st2
  | 6 => px_op6 T st ag T2 st2
  | 7 => px_op7 T st ag T2 st2
  | 8 => px_op8 T st ag T2 st2
  | 9 => px_op9 T st ag T2 st2
  | 10 => px_op10 T st ag T2 st2
  | 11 => px_op11 T st ag T2 st2
  | 12 => px_op12 T st ag T2 st2
  | 13 => px_op13 T st ag T2 st2
  | 14 => px_op14 T st ag T2 st2
  | 15 => px_op15 T st ag T2 st2
  | 16 => px_op16 T st ag T2 st2
  | 17 => px_op17 T st ag T2 st2
  | 18 => px_op18 T st ag T2 st2
  | 19 => px_op19 T st ag T2 st2
  | 20 => px_op20 T st ag T2 st2
  | 21 => px_op21 T st ag T2 st2
  | 22 => px_op22 T st ag T2 st2
  | 23 => px_op23 T st ag T2 st2
  | 24 => px_op24 T st ag T2 st2
  | 25 => px_op25 T st ag T2 st2
  | 26 => px_op26 T st ag T2 st2
  | 27 => px_op27 T st ag T2 st2
  | 28 => px_op28 T st ag T2 st2
  | _ => True)) ∧ ((∀ k : Nat, k < 29 → ag 0 &&& 31 ≠ nI k) → T2 = T ∧ st2 = st)
theorem px_cmp6 {L j : Nat} (hL : L ≤ 3072) (hj : j ≤ 4000) : nI L - 6 < nI j ↔ L < j + 6 := by
  have e1 : (nI L - nI 6).toInt = (L : Int) - (6 : Nat) := pk_sub_toInt (by omega) (by decide)
  have e2 : (nI L - 6).toInt = (L : Int) - 6 := e1
  rw [Int32.lt_iff_toInt_lt, e2, nI_toInt (by omega)]
  omega
theorem px_n_5 {T : Nat} (h : T ≤ 5) : px_n (T + 2) ≤ 900 := by unfold px_n; rw [if_neg (by omega), if_neg (by omega)]; omega
theorem nI_inj32 {a b : Nat} (ha : a < 2 ^ 31) (hb : b < 2 ^ 31) (h : nI a = nI b) : a = b := by
  have := congrArg Int32.toNatClampNeg h
  rwa [nI_clamp ha, nI_clamp hb] at this
set_option maxRecDepth 20000 in
theorem law_loop {b L : Nat} {xs : Nat → Int32} (hL : L ≤ 3072) (Inv : Nat → px_S → Prop) (hle : ∀ T st, Inv T st → T ≤ 5) (hstep : ∀ T st (ag : px_ag), Inv T st → ∃ T2 st2, px_ops T st ag T2 st2 ∧ Inv T2 st2) : ∀ (n q T : Nat) (st : px_S), 512 ≤ n + q → 6 * q ≤ L → Inv T st → px_Y b L xs 18 [some (.ref 4000), some (.ref 0), some (.ref 48), some (.int (nI (6 * q)))] [] (HP (T + 2) st) (100 + 2 * q) (8000 + 163 * q) := by
  intro n
  induction n with
  | zero =>
    intro q T st hn hq hI
    refine y_iload dL_law_18 rfl ?_
    refine y_aload dL_law_19 rfl ?_
    refine y_slen dL_law_20 ?_
    refine y_bipush (v := 6) dL_law_21 (by decide) ?_
    refine y_isub dL_law_23 ?_
    refine y_gt_t (tgt := 1098) dL_law_24 (by decide) ((px_cmp6 hL (by omega)).mpr (by omega)) ?_
    refine y_iconst (v := 1) dL_law_1098 (by decide) ?_
    exact y_ret dL_law_1099 (by omega) (by omega)
  | succ n ih =>
    intro q T st hn hq hI
    refine y_iload dL_law_18 rfl ?_
    refine y_aload dL_law_19 rfl ?_
    refine y_slen dL_law_20 ?_
    refine y_bipush (v := 6) dL_law_21 (by decide) ?_
    refine y_isub dL_law_23 ?_
    by_cases hx : L < 6 * q + 6
    · refine y_gt_t (tgt := 1098) dL_law_24 (by decide) ((px_cmp6 hL (by omega)).mpr (by omega)) ?_
      refine y_iconst (v := 1) dL_law_1098 (by decide) ?_
      exact y_ret dL_law_1099 (by omega) (by omega)
    refine y_gt_f (tgt := 1098) dL_law_24 (by decide) (fun z => hx ((px_cmp6 hL (by omega)).mp z)) ?_
    refine y_aload dL_law_27 rfl ?_
    refine y_iload dL_law_28 rfl ?_
    refine y_sld (6 * q) (by omega) (by omega) rfl dL_law_29 ?_
    refine y_bipush (v := 31) dL_law_30 (by decide) ?_
    refine y_iand dL_law_32 ?_
    obtain ⟨T2, st2, hops, hI2⟩ := hstep T st (fun k => xs (6 * q + k)) hI
    have hT2 := px_n_5 (hle T2 st2 hI2)
    have K : px_Y b L xs 1092 [some (.ref 4000), some (.ref 0), some (.ref 48), some (.int (nI (6 * q)))] [] (HP (T2 + 2) st2) (100 + 2 * q + 2) (8000 + 163 * q + 163) := by
      refine y_iinc (v := nI (6 * (q + 1))) (L' := [some (.ref 4000), some (.ref 0), some (.ref 48), some (.int (nI (6 * (q + 1))))]) dL_law_1092 rfl (nI_add (6 * q) 6) (by decide) rfl rfl ?_
      refine y_goto (tgt := 18) dL_law_1095 (by decide) ?_
      exact y_widen (by omega) (by omega) (ih (q + 1) T2 st2 (by omega) (by omega) hI2)
    obtain ⟨k, hk, ek⟩ := pk_andE (xs (6 * q)) (m := 31) 5 (by decide)
    match k, hk, ek with
    | 0, _, ek =>
      refine y_tabIn (tgt := 164) dL_law_33 (by rw [ek]; decide) (by rw [ek]; decide) (by rw [ek]; rfl) (by decide) ?_
      exact y_case0 (by omega) (by omega) hT2 (hops.1 0 (by decide) ek) (by omega) (by omega) K
    | 1, _, ek =>
      refine y_tabIn (tgt := 197) dL_law_33 (by rw [ek]; decide) (by rw [ek]; decide) (by rw [ek]; rfl) (by decide) ?_
      exact y_case1 (by omega) (by omega) hT2 (hops.1 1 (by decide) ek) (by omega) (by omega) K
    | 2, _, ek =>
      refine y_tabIn (tgt := 240) dL_law_33 (by rw [ek]; decide) (by rw [ek]; decide) (by rw [ek]; rfl) (by decide) ?_
      exact y_case2 (by omega) (by omega) hT2 (hops.1 2 (by decide) ek) (by omega) (by omega) K
    | 3, _, ek =>
      refine y_tabIn (tgt := 283) dL_law_33 (by rw [ek]; decide) (by rw [ek]; decide) (by rw [ek]; rfl) (by decide) ?_
      exact y_case3 (by omega) (by omega) hT2 (hops.1 3 (by decide) ek) (by omega) (by omega) K
    | 4, _, ek =>
      refine y_tabIn (tgt := 326) dL_law_33 (by rw [ek]; decide) (by rw [ek]; decide) (by rw [ek]; rfl) (by decide) ?_
      exact y_case4 (by omega) (by omega) hT2 (hops.1 4 (by decide) ek) (by omega) (by omega) K
    | 5, _, ek =>
      refine y_tabIn (tgt := 359) dL_law_33 (by rw [ek]; decide) (by rw [ek]; decide) (by rw [ek]; rfl) (by decide) ?_
      exact y_case5 (by omega) (by omega) hT2 (hops.1 5 (by decide) ek) (by omega) (by omega) K
    | 6, _, ek =>
      refine y_tabIn (tgt := 382) dL_law_33 (by rw [ek]; decide) (by rw [ek]; decide) (by rw [ek]; rfl) (by decide) ?_
      exact y_case6 (by omega) (by omega) hT2 (hops.1 6 (by decide) ek) (by omega) (by omega) K
    | 7, _, ek =>
      refine y_tabIn (tgt := 395) dL_law_33 (by rw [ek]; decide) (by rw [ek]; decide) (by rw [ek]; rfl) (by decide) ?_
      exact y_case7 (by omega) (by omega) hT2 (hops.1 7 (by decide) ek) (by omega) (by omega) K
    | 8, _, ek =>
      refine y_tabIn (tgt := 418) dL_law_33 (by rw [ek]; decide) (by rw [ek]; decide) (by rw [ek]; rfl) (by decide) ?_
      exact y_case8 (by omega) (by omega) hT2 (hops.1 8 (by decide) ek) (by omega) (by omega) K
    | 9, _, ek =>
      refine y_tabIn (tgt := 451) dL_law_33 (by rw [ek]; decide) (by rw [ek]; decide) (by rw [ek]; rfl) (by decide) ?_
      exact y_case9 (by omega) (by omega) hT2 (hops.1 9 (by decide) ek) (by omega) (by omega) K
    | 10, _, ek =>
      refine y_tabIn (tgt := 474) dL_law_33 (by rw [ek]; decide) (by rw [ek]; decide) (by rw [ek]; rfl) (by decide) ?_
      exact y_case10 (by omega) (by omega) hT2 (hops.1 10 (by decide) ek) (by omega) (by omega) K
    | 11, _, ek =>
      refine y_tabIn (tgt := 507) dL_law_33 (by rw [ek]; decide) (by rw [ek]; decide) (by rw [ek]; rfl) (by decide) ?_
      exact y_case11 (by omega) (by omega) hT2 (hops.1 11 (by decide) ek) (by omega) (by omega) K
    | 12, _, ek =>
      refine y_tabIn (tgt := 530) dL_law_33 (by rw [ek]; decide) (by rw [ek]; decide) (by rw [ek]; rfl) (by decide) ?_
      exact y_case12 (by omega) (by omega) hT2 (hops.1 12 (by decide) ek) (by omega) (by omega) K
    | 13, _, ek =>
      refine y_tabIn (tgt := 563) dL_law_33 (by rw [ek]; decide) (by rw [ek]; decide) (by rw [ek]; rfl) (by decide) ?_
      exact y_case13 (by omega) (by omega) hT2 (hops.1 13 (by decide) ek) (by omega) (by omega) K
    | 14, _, ek =>
      refine y_tabIn (tgt := 576) dL_law_33 (by rw [ek]; decide) (by rw [ek]; decide) (by rw [ek]; rfl) (by decide) ?_
      exact y_case14 (by omega) (by omega) hT2 (hops.1 14 (by decide) ek) (by omega) (by omega) K
    | 15, _, ek =>
      refine y_tabIn (tgt := 599) dL_law_33 (by rw [ek]; decide) (by rw [ek]; decide) (by rw [ek]; rfl) (by decide) ?_
      exact y_case15 (by omega) (by omega) hT2 (hops.1 15 (by decide) ek) (by omega) (by omega) K
    | 16, _, ek =>
      refine y_tabIn (tgt := 622) dL_law_33 (by rw [ek]; decide) (by rw [ek]; decide) (by rw [ek]; rfl) (by decide) ?_
      exact y_case16 (by omega) (by omega) hT2 (hops.1 16 (by decide) ek) (by omega) (by omega) K
    | 17, _, ek =>
      refine y_tabIn (tgt := 655) dL_law_33 (by rw [ek]; decide) (by rw [ek]; decide) (by rw [ek]; rfl) (by decide) ?_
      exact y_case17 (by omega) (by omega) hT2 (hops.1 17 (by decide) ek) (by omega) (by omega) K
    | 18, _, ek =>
      refine y_tabIn (tgt := 678) dL_law_33 (by rw [ek]; decide) (by rw [ek]; decide) (by rw [ek]; rfl) (by decide) ?_
      exact y_case18 (by omega) (by omega) hT2 (hops.1 18 (by decide) ek) (by omega) (by omega) K
    | 19, _, ek =>
      refine y_tabIn (tgt := 711) dL_law_33 (by rw [ek]; decide) (by rw [ek]; decide) (by rw [ek]; rfl) (by decide) ?_
      exact y_case19 (by omega) (by omega) hT2 (hops.1 19 (by decide) ek) (by omega) (by omega) K
    | 20, _, ek =>
      refine y_tabIn (tgt := 744) dL_law_33 (by rw [ek]; decide) (by rw [ek]; decide) (by rw [ek]; rfl) (by decide) ?_
      exact y_case20 (by omega) (by omega) hT2 (hops.1 20 (by decide) ek) (by omega) (by omega) K
    | 21, _, ek =>
      refine y_tabIn (tgt := 808) dL_law_33 (by rw [ek]; decide) (by rw [ek]; decide) (by rw [ek]; rfl) (by decide) ?_
      exact y_case21 (by omega) (by omega) hT2 (hops.1 21 (by decide) ek) (by omega) (by omega) K
    | 22, _, ek =>
      refine y_tabIn (tgt := 821) dL_law_33 (by rw [ek]; decide) (by rw [ek]; decide) (by rw [ek]; rfl) (by decide) ?_
      exact y_case22 (by omega) (by omega) hT2 (hops.1 22 (by decide) ek) (by omega) (by omega) K
    | 23, _, ek =>
      refine y_tabIn (tgt := 834) dL_law_33 (by rw [ek]; decide) (by rw [ek]; decide) (by rw [ek]; rfl) (by decide) ?_
      exact y_case23 (by omega) (by omega) hT2 (hops.1 23 (by decide) ek) (by omega) (by omega) K
    | 24, _, ek =>
      refine y_tabIn (tgt := 857) dL_law_33 (by rw [ek]; decide) (by rw [ek]; decide) (by rw [ek]; rfl) (by decide) ?_
      exact y_case24 (by omega) (by omega) hT2 (hops.1 24 (by decide) ek) (by omega) (by omega) K
    | 25, _, ek =>
      refine y_tabIn (tgt := 900) dL_law_33 (by rw [ek]; decide) (by rw [ek]; decide) (by rw [ek]; rfl) (by decide) ?_
      exact y_case25 (by omega) (by omega) hT2 (hops.1 25 (by decide) ek) (by omega) (by omega) K
    | 26, _, ek =>
      refine y_tabIn (tgt := 943) dL_law_33 (by rw [ek]; decide) (by rw [ek]; decide) (by rw [ek]; rfl) (by decide) ?_
      exact y_case26 (by omega) (by omega) hT2 (hops.1 26 (by decide) ek) (by omega) (by omega) K
    | 27, _, ek =>
      refine y_tabIn (tgt := 1006) dL_law_33 (by rw [ek]; decide) (by rw [ek]; decide) (by rw [ek]; rfl) (by decide) ?_
      exact y_case27 (by omega) (by omega) hT2 (hops.1 27 (by decide) ek) (by omega) (by omega) K
    | 28, _, ek =>
      refine y_tabIn (tgt := 1059) dL_law_33 (by rw [ek]; decide) (by rw [ek]; decide) (by rw [ek]; rfl) (by decide) ?_
      exact y_case28 (by omega) (by omega) hT2 (hops.1 28 (by decide) ek) (by omega) (by omega) K
    | k + 29, hk, ek =>
      obtain ⟨rfl, rfl⟩ := hops.2 (fun i hi z => by
        have := nI_inj32 (by omega) (by omega) (ek.symm.trans z)
        omega)
      refine y_tabOut (tgt := 1092) dL_law_33 (by rw [ek, nI_toInt (by omega)]; omega) (by decide) ?_
      exact y_widen (by omega) (by omega) K
set_option maxRecDepth 20000 in
theorem law_entry {b L : Nat} {xs : Nat → Int32} (hL : L ≤ 3072) (Inv : Nat → px_S → Prop) (hle : ∀ T st, Inv T st → T ≤ 5) (hstep : ∀ T st (ag : px_ag), Inv T st → ∃ T2 st2, px_ops T st ag T2 st2 ∧ Inv T2 st2) {s1 s2 : px_S} (h5 : f_X5_init = some s1) (hok : px_ok 1 s1) (h6 : f_X6_init s1 = some s2) (hI : Inv 0 s2) : px_Y b L xs 0 [some (.ref 4000), none, none, none] [] [] 0 0 := by
  refine y_new (N := 0) (h' := [.inl (5, px_b5)]) dL_law_0 nw5 cl_L_7 (by decide) (by decide) rfl (by decide) (fun c hc => by cases hc) (fun v hv => by
    simp at hv; subst hv
    intro k hk; cases hk; decide) (fun v hv => by cases hv) rfl ?_
  refine y_dup dL_law_3 rfl ?_
  refine y_callI (M' := m_X5_init) (as := []) (S1 := [.ref 0]) (rv := none) (h' := HP 1 s1) (mc' := 47) (ms' := 2681) (d' := 123) dL_law_4 mf_X5_init ml_L_9 mi_X5_init rfl rfl rfl (k_X5_init h5) (by decide) rfl (Nat.le_of_ble_eq_true rfl) ⟨(Nat.le_of_ble_eq_true rfl), (Nat.le_of_ble_eq_true rfl)⟩ (fun v hv => by
    simp at hv; subst hv
    intro k hk; cases hk
    right; simp only [hp_len]; decide) (fun v hv => by
    simp at hv; subst hv
    intro k hk; cases hk
    left; decide) ?_
  refine y_astore (L' := [some (.ref 4000), some (.ref 0), none, none]) dL_law_7 rfl rfl ?_
  have hl1 : (HP 1 s1).length = 48 := hp_len 1 s1
  refine y_new (N := 48) (h' := HP 1 s1 ++ [.inl (6, px_b6)]) dL_law_8 nw6 cl_L_10 (Nat.le_of_ble_eq_true rfl) (Nat.le_of_ble_eq_true rfl) hl1 (by decide) (hp_wf hok) (fun v hv => by
    simp at hv
    rcases hv with rfl | rfl <;> (intro k hk; cases hk; decide)) (fun v hv => by cases hv) rfl ?_
  refine y_dup dL_law_11 rfl ?_
  have hl2 : (HP 1 s1 ++ ([.inl (6, px_b6)] : List px_C)).length = 49 := by rw [List.length_append, hl1]; rfl
  refine y_callI (M' := m_X6_init) (as := []) (S1 := [.ref 48]) (rv := none) (h' := HP 2 s2) (mc' := 21) (ms' := 2737) (d' := 3) dL_law_12 mf_X6_init ml_L_12 mi_X6_init rfl rfl rfl (k_X6_init hok h6) (by decide) rfl (Nat.le_of_ble_eq_true rfl) ⟨(Nat.le_of_ble_eq_true rfl), (Nat.le_of_ble_eq_true rfl)⟩ (fun v hv => by
    simp at hv
    rcases hv with rfl | rfl
    · intro k hk; cases hk
      right; simp only [hp_len]; decide
    · intro k hk; cases hk
      left; rw [hl2]; decide) (fun v hv => by
    simp at hv; subst hv
    intro k hk; cases hk
    left; rw [hl2]; decide) ?_
  refine y_astore (L' := [some (.ref 4000), some (.ref 0), some (.ref 48), none]) dL_law_15 rfl rfl ?_
  refine y_iconst (v := 0) dL_law_16 (by decide) ?_
  refine y_istore (L' := [some (.ref 4000), some (.ref 0), some (.ref 48), some (.int 0)]) dL_law_17 rfl rfl ?_
  exact y_widen (Nat.le_of_ble_eq_true rfl) (Nat.le_of_ble_eq_true rfl) (law_loop hL Inv hle hstep 512 0 0 s2 (by omega) (by omega) hI)
