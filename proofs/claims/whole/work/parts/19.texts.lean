theorem w_sval : Cond.fieldLink "java/lang/String" 9 "java/lang/String" "value" "[B" ∈ px_T := px_Tm 1467 (by decide +kernel) rfl
theorem w_scod : Cond.fieldLink "java/lang/String" 15 "java/lang/String" "coder" "B" ∈ px_T := px_Tm 1468 (by decide +kernel) rfl
theorem w_scom : Cond.fieldLink "java/lang/String" 38 "java/lang/String" "COMPACT_STRINGS" "Z" ∈ px_T := px_Tm 224 (by decide +kernel) rfl
theorem w_ssio : Cond.fieldLink "java/lang/String" 1053 "jdk/internal/util/Preconditions" "SIOOBE_FORMATTER" "Ljava/util/function/BiFunction;" ∈ px_T := px_Tm 240 (by decide +kernel) rfl
section PXT
variable {β : Type} {Z : px_Z} {g : β → Option Value × List px_C} {res A B : Option β} {pc idx : Nat} {L : List (Option Value)} {S S1 : List Value} {h : List px_C} {kc ks : Nat}
theorem o_ldcS (i : Nat) (hi : i < 13) (hd : decode Z.2.2.2.2.2.1 pc = .ok (.ldc idx, 2)) (hown : px_own i = Z.2.2.2.2.1.cls) (hidx : px_idx i = idx) (K : px_O Z g res (pc + 2) L (.ref (1000 + i) :: S) h kc ks) : px_O Z g res pc L S h kc ks := by
  intro b hb p l e s m args below meth c D ty r0 adV r H locs ls C X Lc
  have K2 := K b hb p l e s m args below meth c D ty r0 adV r H locs ls C X Lc
  rw [List.map_cons, px_v_ref, X.1.1 (1000 + i) (Or.inr (Nat.le_trans X.1.2.2 (by omega)))] at K2
  have hZ := X.2.2.1.2.2.1 i hi
  rw [hown, hidx] at hZ
  exact va_ldcS C.1 C.2.1 C.2.2.2.2.1 hZ hd K2
theorem o_sval (i : Nat) (hi : i < 13) (hd : decode Z.2.2.2.2.2.1 pc = .ok (.getfield 9, 3)) (hc : Z.2.2.2.2.1.cls = "java/lang/String") (K : px_O Z g res (pc + 3) L (.ref (3000 + i) :: S) h kc ks) : px_O Z g res pc L (.ref (1000 + i) :: S) h kc ks := by
  intro b hb p l e s m args below meth c D ty r0 adV r H locs ls C X Lc
  have K2 := K b hb p l e s m args below meth c D ty r0 adV r H locs ls C X Lc
  rw [List.map_cons, px_v_ref, X.1.1 (3000 + i) (Or.inr (Nat.le_trans X.1.2.2 (by omega)))] at K2
  rw [List.map_cons, px_v_ref, X.1.1 (1000 + i) (Or.inr (Nat.le_trans X.1.2.2 (by omega)))]
  exact vk_getf C.1 C.2.1 (X.2.2.1.2.1.1 i hi).2.2.1 X.2.2.2.2.2 C.2.2.2.2.1 (by rw [hc]; exact C.2.2.2.2.2.1 _ (List.mem_cons_of_mem _ w_sval)) (fun _ z => z) hd K2
theorem o_scod (i : Nat) (hi : i < 13) (hd : decode Z.2.2.2.2.2.1 pc = .ok (.getfield 15, 3)) (hc : Z.2.2.2.2.1.cls = "java/lang/String") (K : px_O Z g res (pc + 3) L (.int 0 :: S) h kc ks) : px_O Z g res pc L (.ref (1000 + i) :: S) h kc ks := by
  intro b hb p l e s m args below meth c D ty r0 adV r H locs ls C X Lc
  have K2 := K b hb p l e s m args below meth c D ty r0 adV r H locs ls C X Lc
  rw [List.map_cons, px_v_ref, X.1.1 (1000 + i) (Or.inr (Nat.le_trans X.1.2.2 (by omega)))]
  exact vk_getf C.1 C.2.1 (X.2.2.1.2.1.1 i hi).2.1 X.2.2.2.2.2 C.2.2.2.2.1 (by rw [hc]; exact C.2.2.2.2.2.1 _ (List.mem_cons_of_mem _ w_scod)) (fun _ z => z) hd K2
theorem o_scom (hd : decode Z.2.2.2.2.2.1 pc = .ok (.getstatic 38, 3)) (hc : Z.2.2.2.2.1.cls = "java/lang/String") (K : px_O Z g res (pc + 3) L (.int 1 :: S) h kc ks) : px_O Z g res pc L S h kc ks := by
  intro b hb p l e s m args below meth c D ty r0 adV r H locs ls C X Lc
  have K2 := K b hb p l e s m args below meth c D ty r0 adV r H locs ls C X Lc
  exact va_gets C.1 C.2.1 X.2.2.1.2.2.2.2.2.1 X.2.2.2.2.2 C.2.2.2.2.1 (by rw [hc]; exact C.2.2.2.2.2.1 _ (List.mem_cons_of_mem _ w_scom)) (fun _ z => z) hd K2
theorem o_ssio (hd : decode Z.2.2.2.2.2.1 pc = .ok (.getstatic 1053, 3)) (hc : Z.2.2.2.2.1.cls = "java/lang/String") (K0 : px_O Z g res (pc + 3) L (.null :: S) h kc ks) (K : px_O Z g res (pc + 3) L (.ref 2001 :: S) h kc ks) : px_O Z g res pc L S h kc ks := by
  intro b hb p l e s m args below meth c D ty r0 adV r H locs ls C X Lc
  have K2 := K b hb p l e s m args below meth c D ty r0 adV r H locs ls C X Lc
  have K3 := K0 b hb p l e s m args below meth c D ty r0 adV r H locs ls C X Lc
  rw [List.map_cons, px_v_ref, X.1.1 2001 (Or.inr (Nat.le_trans X.1.2.2 (by omega)))] at K2
  rcases X.2.2.1.2.2.2.2.2.2.1 with z | z
  · exact va_gets C.1 C.2.1 z X.2.2.2.2.2 C.2.2.2.2.1 (by rw [hc]; exact C.2.2.2.2.2.1 _ (List.mem_cons_of_mem _ w_ssio)) (fun _ z => z) hd K3
  · exact va_gets C.1 C.2.1 z X.2.2.2.2.2 C.2.2.2.2.1 (by rw [hc]; exact C.2.2.2.2.2.1 _ (List.mem_cons_of_mem _ w_ssio)) (fun _ z => z) hd K2
theorem o_slen (i : Nat) (hi : i < 13) (hd : decode Z.2.2.2.2.2.1 pc = .ok (.arraylength, 1)) (K : px_O Z g res (pc + 1) L (.int (nI (px_len.getD i 0)) :: S) h kc ks) : px_O Z g res pc L (.ref (3000 + i) :: S) h kc ks := by
  intro b hb p l e s m args below meth c D ty r0 adV r H locs ls C X Lc
  have K2 := K b hb p l e s m args below meth c D ty r0 adV r H locs ls C X Lc
  rw [List.map_cons, px_v_ref, X.1.1 (3000 + i) (Or.inr (Nat.le_trans X.1.2.2 (by omega)))]
  exact va_tlen C.1 C.2.1 (X.2.2.1.2.1.1 i hi).2.2.2 X.2.2.2.2.2 rfl hd K2
theorem o_sbyt (i : Nat) (hi : i < 13) {j : Int32} (hj : px_in j (px_len.getD i 0)) (hd : decode Z.2.2.2.2.2.1 pc = .ok (.baload, 1)) (K : px_O Z g res (pc + 1) L (.int ((px_byt.getD i []).getD j.toNatClampNeg 0) :: S) h kc ks) : px_O Z g res pc L (.int j :: .ref (3000 + i) :: S) h kc ks := by
  intro b hb p l e s m args below meth c D ty r0 adV r H locs ls C X Lc
  have K2 := K b hb p l e s m args below meth c D ty r0 adV r H locs ls C X Lc
  simp only [List.map_cons, px_v_ref, px_v_int, X.1.1 (3000 + i) (Or.inr (Nat.le_trans X.1.2.2 (by omega)))] at K2 ⊢
  exact va_tb C.1 C.2.1 (X.2.2.1.2.1.1 i hi).2.2.2 X.2.2.2.2.2 (px_in_vp hj) rfl hd K2
theorem o_i2c {x v : Int32} (hd : decode Z.2.2.2.2.2.1 pc = .ok (.i2c, 1)) (hv : (x.toUInt32 % 65536).toInt32 = v) (K : px_O Z g res (pc + 1) L (.int v :: S) h kc ks) : px_O Z g res pc L (.int x :: S) h kc ks := by
  intro b hb p l e s m args below meth c D ty r0 adV r H locs ls C X Lc
  exact lv_i2c C.1 C.2.1 hd hv (K b hb p l e s m args below meth c D ty r0 adV r H locs ls C X Lc)
theorem o_callVS {M' : px_M} {n d' : Nat} {as : List Value} {rv : Option Value} (i : Nat) (hi : i < 13) (hd : decode Z.2.2.2.2.2.1 pc = .ok (.invokevirtual idx, 3)) (hm : px_MF M' n) (hl : Cond.methodLink Z.2.2.2.2.1.cls idx M'.1 ∈ px_T) (hv : px_MV M') (hcl : M'.1.cls = "java/lang/String") (hn : as.length = n) (hK : px_K d' 0 0 M' (.ref (1000 + i) :: as) h rv h) (hdd : d' + 1 ≤ Z.1) (hS : S = as.reverse ++ .ref (1000 + i) :: S1) (hw : (S1.map fun v => v.category).sum ≤ 8) (hf : kc ≤ Z.2.1 ∧ ks ≤ Z.2.2.1) (K : px_O Z g res (pc + 3) L (rv.toList ++ S1) h kc ks) : px_O Z g res pc L S h kc ks := by
  intro b hb p l e s m args below meth c D ty r0 adV r H locs ls C X Lc
  subst hS
  have hts := C.2.2.2.2.2.1
  have rest : ((S1.map (px_v r)).map fun v => v.category).sum ≤ 8 := by rw [px_sum]; exact hw
  refine px_after (h' := h) (rv := rv) (rest := S1.map (px_v r)) (va_runV (As := as.map (px_v r)) ⟨C.1, C.2.1, C.2.2.2.1, C.2.2.2.2.1, hts⟩ (hK l D ty r adV H.size) (cwV (C := M'.1.cls) n hts (fun w hw => by
    rcases List.mem_append.mp hw with e | e
    · rcases List.mem_cons.mp e with e | e
      · subst e; exact px_goodT hl _
      · rcases List.mem_cons.mp e with e | e
        · subst e; exact px_goodT hv.1 _
        · rcases List.mem_cons.mp e with e | e
          · subst e; exact px_goodT hv.2 _
          · rw [List.mem_singleton] at e; subst e; exact px_goodT hm.2.1 _
    · exact px_good hm w e) rfl rfl rfl ⟨rfl, hm.2.2.1⟩ (px_room hdd hm.2.2.2.1)) ⟨px_P_blind D ty r adV (.ref (1000 + i) :: as) h H.size, (by
      have z := vk_recv (i := i) X.2.2.1.2.1 hi X.2.2.2.2.2
      rw [← X.1.1 (1000 + i) (Or.inr (Nat.le_trans X.1.2.2 (by omega)))] at z
      rw [hcl]; exact z), px_pre X⟩ rfl (by rw [List.length_map]; exact hn) Lc.1 (by simp [px_v_ref]) (lv_room rest) hd hf) X (fun r' H1 locs1 hr X' => ?_)
  have hr' : r' = r := funext fun k => hr k (Nat.lt_or_ge k _)
  subst hr'
  have e2 : (rv.map (px_v r')).toList ++ S1.map (px_v r') = (rv.toList ++ S1).map (px_v r') := by
    rw [List.map_append]
    cases rv <;> rfl
  rw [e2]
  exact K b hb _ _ _ _ _ _ _ _ _ _ _ _ _ _ _ _ _ C X' Lc
end PXT
/-! String.coder, isLatin1, length of a text constant -/
theorem k_scoder {h : List px_C} (i : Nat) (hi : i < 13) : px_K 0 0 0 m_J0_coder_7d493 [.ref (1000 + i)] h (some (.int 0)) h := by
  refine px_Kof (g := px_g0 h) (f := some 0) (b := 0) rfl mf_J0_coder_7d493 (Nat.le_of_ble_eq_true rfl) (L := [some (.ref (1000 + i))]) rfl ?_
  refine o_scom dJ0_coder_7d493_0 rfl ?_
  refine o_ifeq_f (tgt := 13) dJ0_coder_7d493_3 (by decide) (by decide) ?_
  refine o_aload_n dJ0_coder_7d493_6 rfl ?_
  refine o_scod i hi dJ0_coder_7d493_7 rfl ?_
  refine o_goto (tgt := 14) dJ0_coder_7d493_10 (by decide) ?_
  exact o_iret (rt := .byte) rfl rfl dJ0_coder_7d493_14 rfl (Nat.zero_le _) (Nat.zero_le _)
theorem k_slatin {h : List px_C} (i : Nat) (hi : i < 13) : px_K 0 0 0 m_J0_isLatin1_aae02 [.ref (1000 + i)] h (some (.int 1)) h := by
  refine px_Kof (g := px_g0 h) (f := some 1) (b := 1) rfl mf_J0_isLatin1_aae02 (Nat.le_of_ble_eq_true rfl) (L := [some (.ref (1000 + i))]) rfl ?_
  refine o_scom dJ0_isLatin1_aae02_0 rfl ?_
  refine o_ifeq_f (tgt := 17) dJ0_isLatin1_aae02_3 (by decide) (by decide) ?_
  refine o_aload_n dJ0_isLatin1_aae02_6 rfl ?_
  refine o_scod i hi dJ0_isLatin1_aae02_7 rfl ?_
  refine o_ifne_f (tgt := 17) dJ0_isLatin1_aae02_10 (by decide) rfl ?_
  refine o_iconst (v := 1) dJ0_isLatin1_aae02_13 (by decide) ?_
  refine o_goto (tgt := 18) dJ0_isLatin1_aae02_14 (by decide) ?_
  exact o_iret (rt := .boolean) rfl rfl dJ0_isLatin1_aae02_18 rfl (Nat.zero_le _) (Nat.zero_le _)
theorem px_len_lt : ∀ i, i < 13 → px_len.getD i 0 < 2 ^ 31 := by decide +kernel
theorem k_slen {h : List px_C} (i : Nat) (hi : i < 13) : px_K 1 0 0 m_J0_length_8abf5 [.ref (1000 + i)] h (some (.int (nI (px_len.getD i 0)))) h := by
  refine px_Kof (g := px_g0 h) (f := some (nI (px_len.getD i 0))) rfl mf_J0_length_8abf5 (Nat.le_of_ble_eq_true rfl) (L := [some (.ref (1000 + i))]) rfl ?_
  refine o_aload_n dJ0_length_8abf5_0 rfl ?_
  refine o_sval i hi dJ0_length_8abf5_1 rfl ?_
  refine o_slen i hi dJ0_length_8abf5_4 ?_
  refine o_aload_n dJ0_length_8abf5_5 rfl ?_
  refine o_callVS (as := []) (S1 := [.int (nI (px_len.getD i 0))]) i hi dJ0_length_8abf5_6 mf_J0_coder_7d493 ml_J0_335 mv_J0_coder_7d493 rfl rfl (k_scoder i hi) (Nat.le_of_ble_eq_true rfl) rfl (Nat.le_of_ble_eq_true rfl) ⟨Nat.zero_le _, Nat.zero_le _⟩ ?_
  refine o_ishr dJ0_length_8abf5_9 ?_
  have e : nI (px_len.getD i 0) >>> ((0 : Int32) &&& 31) = nI (px_len.getD i 0) := sc_shr0 (px_len_lt i hi)
  rw [e]
  exact o_iret (rt := .int) rfl rfl dJ0_length_8abf5_10 rfl (Nat.zero_le _) (Nat.zero_le _)
/-! String.charAt of a text constant -/
def px_ch (i j : Nat) : Int32 := (px_byt.getD i []).getD j 0 &&& 255
theorem k_pcheck {h : List px_C} {x y : Int32} (v : Value) (hv : v = .null ∨ v = .ref 2001) (h1 : ¬ x < 0) (h2 : x < y) : px_K 0 0 0 m_J3_checkIndex_8e157 [.int x, .int y, v] h (some (.int x)) h := by
  refine px_Kof (g := px_g0 h) (f := some x) rfl mf_J3_checkIndex_8e157 (by rcases hv with rfl | rfl <;> exact (Nat.le_of_ble_eq_true rfl)) (L := [some (.int x), some (.int y), some v]) (by rcases hv with rfl | rfl <;> rfl) ?_
  refine o_iload_n dJ3_checkIndex_8e157_0 rfl ?_
  refine o_iflt_f (tgt := 9) dJ3_checkIndex_8e157_1 (by decide) h1 ?_
  refine o_iload_n dJ3_checkIndex_8e157_4 rfl ?_
  refine o_iload_n dJ3_checkIndex_8e157_5 rfl ?_
  refine o_icmplt_t (tgt := 16) dJ3_checkIndex_8e157_6 (by decide) h2 ?_
  refine o_iload_n dJ3_checkIndex_8e157_16 rfl ?_
  exact o_iret (rt := .int) rfl rfl dJ3_checkIndex_8e157_17 rfl (Nat.zero_le _) (Nat.zero_le _)
theorem k_scheck {h : List px_C} {x y : Int32} (h1 : ¬ x < 0) (h2 : x < y) : px_K 1 0 0 m_J0_checkIndex_df160 [.int x, .int y] h none h := by
  refine px_Kof (g := fun _ : Unit => (none, h)) (f := some ()) (b := ()) rfl mf_J0_checkIndex_df160 (Nat.le_of_ble_eq_true rfl) (L := [some (.int x), some (.int y)]) rfl ?_
  refine o_iload_n dJ0_checkIndex_df160_0 rfl ?_
  refine o_iload_n dJ0_checkIndex_df160_1 rfl ?_
  refine o_ssio dJ0_checkIndex_df160_2 rfl ?_ ?_
  · refine h_cSP (as := [.int x, .int y, .null]) (S1 := []) (d' := 0) (v := x) dJ0_checkIndex_df160_5 mf_J3_checkIndex_8e157 ml_J0_1059 ms_J3_checkIndex_8e157 rfl (Nat.le_of_ble_eq_true rfl) rfl (Nat.le_of_ble_eq_true rfl) ⟨Nat.zero_le _, Nat.zero_le _⟩ (k_pcheck .null (Or.inl rfl) h1 h2) ?_
    refine o_pop dJ0_checkIndex_df160_8 rfl ?_
    exact o_vret rfl dJ0_checkIndex_df160_9 rfl (Nat.zero_le _) (Nat.zero_le _)
  · refine h_cSP (as := [.int x, .int y, .ref 2001]) (S1 := []) (d' := 0) (v := x) dJ0_checkIndex_df160_5 mf_J3_checkIndex_8e157 ml_J0_1059 ms_J3_checkIndex_8e157 rfl (Nat.le_of_ble_eq_true rfl) rfl (Nat.le_of_ble_eq_true rfl) ⟨Nat.zero_le _, Nat.zero_le _⟩ (k_pcheck (.ref 2001) (Or.inr rfl) h1 h2) ?_
    refine o_pop dJ0_checkIndex_df160_8 rfl ?_
    exact o_vret rfl dJ0_checkIndex_df160_9 rfl (Nat.zero_le _) (Nat.zero_le _)
theorem px_in_lt {j : Int32} {n : Nat} (hn : n < 2 ^ 31) (hj : px_in j n) : ¬ j < 0 ∧ j < nI n := by
  have h1 : ¬ j < 0 := Int32.not_lt.mpr hj.1
  obtain ⟨k, hk, rfl⟩ := nI_of h1
  refine ⟨h1, nI_lt ?_ hn⟩
  have := hj.2
  rwa [nI_clamp hk] at this
theorem k_s1char {h : List px_C} {j : Int32} (i : Nat) (hi : i < 13) (hj : px_in j (px_len.getD i 0)) : px_K 2 0 0 m_J1_charAt_3b067 [.ref (3000 + i), .int j] h (some (.int (px_ch i j.toNatClampNeg))) h := by
  refine px_Kof (g := px_g0 h) (f := some (px_ch i j.toNatClampNeg)) rfl mf_J1_charAt_3b067 (Nat.le_of_ble_eq_true rfl) (L := [some (.ref (3000 + i)), some (.int j)]) rfl ?_
  refine o_iload_n dJ1_charAt_3b067_0 rfl ?_
  refine o_aload_n dJ1_charAt_3b067_1 rfl ?_
  refine o_slen i hi dJ1_charAt_3b067_2 ?_
  refine o_callS (M' := m_J0_checkIndex_df160) (as := [.int j, .int (nI (px_len.getD i 0))]) (S1 := []) (rv := none) (h' := h) dJ1_charAt_3b067_3 mf_J0_checkIndex_df160 ml_J1_9 ms_J0_checkIndex_df160 rfl (k_scheck (px_in_lt (px_len_lt i hi) hj).1 (px_in_lt (px_len_lt i hi) hj).2) (Nat.le_of_ble_eq_true rfl) rfl (Nat.le_of_ble_eq_true rfl) ⟨Nat.le_refl _, Nat.le_refl _⟩ (fun v _ => px_ov_same _ v) (fun v _ => px_ov_same _ v) ?_
  refine o_aload_n dJ1_charAt_3b067_6 rfl ?_
  refine o_iload_n dJ1_charAt_3b067_7 rfl ?_
  refine o_sbyt i hi hj dJ1_charAt_3b067_8 ?_
  refine o_sipush (v := 255) dJ1_charAt_3b067_9 (by decide) ?_
  refine o_iand dJ1_charAt_3b067_12 ?_
  refine o_i2c (v := px_ch i j.toNatClampNeg) dJ1_charAt_3b067_13 (sc_c2 _) ?_
  exact o_iret (rt := .char) rfl (sc_nar _) dJ1_charAt_3b067_14 rfl (Nat.zero_le _) (Nat.zero_le _)
theorem k_schar {h : List px_C} {j : Int32} (i : Nat) (hi : i < 13) (hj : px_in j (px_len.getD i 0)) : px_K 3 0 0 m_J0_charAt_5068e [.ref (1000 + i), .int j] h (some (.int (px_ch i j.toNatClampNeg))) h := by
  refine px_Kof (g := px_g0 h) (f := some (px_ch i j.toNatClampNeg)) rfl mf_J0_charAt_5068e (Nat.le_of_ble_eq_true rfl) (L := [some (.ref (1000 + i)), some (.int j)]) rfl ?_
  refine o_aload_n dJ0_charAt_5068e_0 rfl ?_
  refine o_callVS (as := []) (S1 := []) i hi dJ0_charAt_5068e_1 mf_J0_isLatin1_aae02 ml_J0_492 mv_J0_isLatin1_aae02 rfl rfl (k_slatin i hi) (Nat.le_of_ble_eq_true rfl) rfl (Nat.le_of_ble_eq_true rfl) ⟨Nat.zero_le _, Nat.zero_le _⟩ ?_
  refine o_ifeq_f (tgt := 16) dJ0_charAt_5068e_4 (by decide) (show ¬ (1 : Int32) = 0 by decide) ?_
  refine o_aload_n dJ0_charAt_5068e_7 rfl ?_
  refine o_sval i hi dJ0_charAt_5068e_8 rfl ?_
  refine o_iload_n dJ0_charAt_5068e_11 rfl ?_
  refine h_cSP (as := [.ref (3000 + i), .int j]) (S1 := []) (d' := 2) (v := px_ch i j.toNatClampNeg) dJ0_charAt_5068e_12 mf_J1_charAt_3b067 ml_J0_495 ms_J1_charAt_3b067 rfl (Nat.le_of_ble_eq_true rfl) rfl (Nat.le_of_ble_eq_true rfl) ⟨Nat.zero_le _, Nat.zero_le _⟩ (k_s1char i hi hj) ?_
  exact o_iret (rt := .char) rfl (sc_nar _) dJ0_charAt_5068e_15 rfl (Nat.zero_le _) (Nat.zero_le _)
/-! Arrays.fill -/
theorem t_fill {h0 : List px_C} {a n : Nat} {f : Nat → Int32} {v : Int32} (hn : n ≤ 100000) (ha : a < h0.length) (h1 : List px_C) (he : h1 = h0.set a (.inr (.inl (0, n, fun j => if j < n then v else f j)))) : ∀ (k i : Nat) (h : List px_C), i + k = n → h = h0.set a (.inr (.inl (0, n, fun j => if j < i then v else f j))) →
    px_O (0, 0, 0, h0.length, m_J7_fill_53178) (fun _ : Unit => (none, h1)) (some ()) 5 [some (.ref a), some (.int v), some (.int (nI i)), some (.int (nI n))] [] h 0 0 := by
  intro k
  induction k with
  | zero =>
    intro i h hi hh
    have e : i = n := by omega
    subst e
    refine o_iload_n dJ7_fill_53178_5 rfl ?_
    refine o_iload_n dJ7_fill_53178_6 rfl ?_
    refine o_icmpge_t (tgt := 20) dJ7_fill_53178_7 (by decide) (nI_nlt (Nat.le_refl _) (by omega)) ?_
    exact o_vret rfl dJ7_fill_53178_20 (by rw [he, hh]) (Nat.zero_le _) (Nat.zero_le _)
  | succ k ih =>
    intro i h hi hh
    refine o_iload_n dJ7_fill_53178_5 rfl ?_
    refine o_iload_n dJ7_fill_53178_6 rfl ?_
    refine o_icmpge_f (tgt := 20) dJ7_fill_53178_7 (by decide) (nI_lt (by omega) (by omega)) ?_
    refine o_aload_n dJ7_fill_53178_10 rfl ?_
    refine o_iload_n dJ7_fill_53178_11 rfl ?_
    refine o_iload_n dJ7_fill_53178_12 rfl ?_
    refine o_iast (n := n) (f := fun j => if j < i then v else f j) dJ7_fill_53178_13 (by rw [hh, List.getElem?_set_self ha]) (vp_in_nI (by omega) (by omega)) rfl ?_
    refine o_iinc (v := nI (i + 1)) (L' := [some (.ref a), some (.int v), some (.int (nI (i + 1))), some (.int (nI n))]) dJ7_fill_53178_14 rfl (nI_succ i).symm (Nat.le_of_ble_eq_true rfl) rfl rfl ?_
    refine o_goto (tgt := 5) dJ7_fill_53178_17 (by decide) ?_
    refine ih (i + 1) _ (by omega) ?_
    rw [hh, List.set_set, nI_clamp (by omega)]
    congr 4
    refine congrArg (Prod.mk n) ?_
    funext j
    by_cases hj : j = i
    · subst hj; simp [upd]
    · by_cases h2 : j < i
      · have h3 : j < i + 1 := by omega
        simp [upd, hj, h2, h3]
      · have h3 : ¬ j < i + 1 := by omega
        simp [upd, hj, h2, h3]
theorem k_fill {h : List px_C} {a n : Nat} {f : Nat → Int32} {v : Int32} (hn : n ≤ 100000) (hc : h[a]? = some (.inr (.inl (0, n, f)))) : px_K 0 0 0 m_J7_fill_53178 [.ref a, .int v] h none (h.set a (.inr (.inl (0, n, fun j => if j < n then v else f j)))) := by
  have ha : a < h.length := (List.getElem?_eq_some_iff.mp hc).1
  refine px_Kof (g := fun _ : Unit => (none, h.set a (.inr (.inl (0, n, fun j => if j < n then v else f j))))) (f := some ()) (b := ()) rfl mf_J7_fill_53178 (Nat.le_of_ble_eq_true rfl) (L := [some (.ref a), some (.int v), none, none]) rfl ?_
  refine o_iconst (v := 0) dJ7_fill_53178_0 (by decide) ?_
  refine o_istore_n (L' := [some (.ref a), some (.int v), some (.int 0), none]) dJ7_fill_53178_1 (Nat.le_of_ble_eq_true rfl) rfl rfl ?_
  refine o_aload_n dJ7_fill_53178_2 rfl ?_
  refine o_alen (Or.inl rfl) dJ7_fill_53178_3 hc rfl ?_
  refine o_istore_n (L' := [some (.ref a), some (.int v), some (.int 0), some (.int (nI n))]) dJ7_fill_53178_4 (Nat.le_of_ble_eq_true rfl) rfl rfl ?_
  refine t_fill (f := f) hn ha _ rfl n 0 h (by omega) ?_
  have e : (fun j => if j < 0 then v else f j) = f := by funext j; simp
  rw [e]
  apply List.ext_getElem?
  intro i
  rw [List.getElem?_set]
  by_cases hi : a = i
  · subst hi; rw [if_pos rfl, if_pos ha, hc]
  · simp [hi]
section PXF
variable {β : Type} {Z : px_Z} {g : β → Option Value × List px_C} {res A B : Option β} {pc idx : Nat} {L : List (Option Value)} {S S1 : List Value} {h : List px_C} {kc ks : Nat}
theorem h_slen (i : Nat) (hi : i < 13) (hd : decode Z.2.2.2.2.2.1 pc = .ok (.invokevirtual idx, 3)) (hl : Cond.methodLink Z.2.2.2.2.1.cls idx m_J0_length_8abf5.1 ∈ px_T) (hdd : 2 ≤ Z.1) (hS : S = .ref (1000 + i) :: S1) (hw : (S1.map fun v => v.category).sum ≤ 8) (hf : kc ≤ Z.2.1 ∧ ks ≤ Z.2.2.1) (K : px_O Z g res (pc + 3) L (.int (nI (px_len.getD i 0)) :: S1) h kc ks) : px_O Z g res pc L S h kc ks :=
  o_callVS (as := []) i hi hd mf_J0_length_8abf5 hl mv_J0_length_8abf5 rfl rfl (k_slen i hi) hdd hS hw hf K
theorem h_schr (i : Nat) (hi : i < 13) {j : Int32} (hd : decode Z.2.2.2.2.2.1 pc = .ok (.invokevirtual idx, 3)) (hl : Cond.methodLink Z.2.2.2.2.1.cls idx m_J0_charAt_5068e.1 ∈ px_T) (hdd : 4 ≤ Z.1) (hS : S = .int j :: .ref (1000 + i) :: S1) (hw : (S1.map fun v => v.category).sum ≤ 8) (hf : kc ≤ Z.2.1 ∧ ks ≤ Z.2.2.1) (K : px_in j (px_len.getD i 0) → px_O Z g A (pc + 3) L (.int (px_ch i j.toNatClampNeg) :: S1) h kc ks) : px_O Z g (if px_in j (px_len.getD i 0) then A else none) pc L S h kc ks :=
  o_ite (fun hj => o_callVS (as := [.int j]) i hi hd mf_J0_charAt_5068e hl mv_J0_charAt_5068e rfl rfl (k_schar i hi hj) hdd hS hw hf (K hj)) (fun _ => o_none)
theorem h_fill {T a n : Nat} {st : px_S} {v : Int32} (hd : decode Z.2.2.2.2.2.1 pc = .ok (.invokestatic idx, 3)) (hm : px_MF m_J7_fill_53178 2) (hl : Cond.methodLink Z.2.2.2.2.1.cls idx m_J7_fill_53178.1 ∈ px_T) (hst : Cond.static m_J7_fill_53178.1 ∈ px_T) (hdd : 1 ≤ Z.1) (hS : S = .int v :: .ref a :: S1) (hw : (S1.map fun v => v.category).sum ≤ 8) (ha : a < px_n T) (hc : ∀ w, px_cell a w = px_ia n w) (hn : n ≤ 100000) (K : px_O Z g res (pc + 3) L S1 (HP T (upr st a (fun _ => v))) 0 0) : px_O Z g res pc L S (HP T st) 0 0 := by
  refine o_callS (mc' := 0) (ms' := 0) (as := [.ref a, .int v]) (rv := none) (h' := HP T (upr st a (fun _ => v))) hd hm hl hst rfl ?_ hdd hS hw ⟨Nat.zero_le _, Nat.zero_le _⟩ (by rw [hp_len, hp_len]; exact fun v _ => px_ov_same _ v) (by rw [hp_len, hp_len]; exact fun v _ => px_ov_same _ v) K
  rw [← hp_set T st (c := .inr (.inl (0, n, fun j => if j < n then v else px_nm n (st a) j))) (by
    rw [hc]
    have e : px_nm n (fun _ => v) = fun j => if j < n then v else px_nm n (st a) j := by
      funext j
      by_cases hj : j < n <;> simp [px_nm, hj]
    show Sum.inr (Sum.inl (0, n, px_nm n (fun _ => v))) = _
    rw [e])]
  exact k_fill hn (by rw [hp_get st ha, hc])
end PXF
def px_let (st : px_S) {β : Type} (F : px_S → Option β) : Option β := F st
theorem o_let {β : Type} {Z : px_Z} {g : β → Option Value × List px_C} {pc : Nat} {L : List (Option Value)} {S : List Value} {T : Nat} {st : px_S} {kc ks : Nat} {F : px_S → Option β} (K : ∀ s1, px_O Z g (F s1) pc L S (HP T s1) kc ks) : px_O Z g (px_let st F) pc L S (HP T st) kc ks := K st
