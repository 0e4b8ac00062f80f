def px_Y (b L : Nat) (xs : Nat → Int32) (pc : Nat) (Lo : List (Option Value)) (S : List Value) (h : List px_C) (kc ks : Nat) : Prop :=
  ∀ (p : Program) (l : Launch) (e : Env) (s : State) (m : MethodId) (below : List Frame) (meth : Method) (c : Code) (D : va_G) (ty : Nat → ClassId) (r0 adV r : Nat → Nat) (H : Heap) (locs : List Loc) (ls : Array Slot),
    lw_At p s m meth c b L xs → px_wd D ty r0 adV r 0 s h H locs → r 4000 = b → px_L r ls 4 Lo → W p l e room_1 s m #[Value.ref b] below meth c H locs kc ks (lw_Z below #[Value.ref b] s) (F0 m pc ls (S.map (px_v r)))
section PXY
variable {b L : Nat} {xs : Nat → Int32} {pc idx : Nat} {Lo : List (Option Value)} {S S1 : List Value} {h h' : List px_C} {kc ks : Nat}
theorem y_iconst {n : Int} {v : Int32} (hd : decode code pc = .ok (.iconst n, 1)) (hv : Int32.ofInt n = v) (K : px_Y b L xs (pc + 1) Lo (.int v :: S) h kc ks) : px_Y b L xs pc Lo S h kc ks := by
  intro p l e s m below meth c D ty r0 adV r H locs ls C X hb4 Lc
  exact lv_iconst C.1 C.2.1 hd hv (K p l e s m below meth c D ty r0 adV r H locs ls C X hb4 Lc)
theorem y_bipush {n : Int} {v : Int32} (hd : decode code pc = .ok (.bipush n, 2)) (hv : (Int8.ofInt n).toInt32 = v) (K : px_Y b L xs (pc + 2) Lo (.int v :: S) h kc ks) : px_Y b L xs pc Lo S h kc ks := by
  intro p l e s m below meth c D ty r0 adV r H locs ls C X hb4 Lc
  exact lv_bipush C.1 C.2.1 hd hv (K p l e s m below meth c D ty r0 adV r H locs ls C X hb4 Lc)
theorem y_iload {k : Fin 4} {x : Int32} (hd : decode code pc = .ok (.iload_n k, 1)) (hl : Lo[(k : Nat)]? = some (some (.int x))) (K : px_Y b L xs (pc + 1) Lo (.int x :: S) h kc ks) : px_Y b L xs pc Lo S h kc ks := by
  intro p l e s m below meth c D ty r0 adV r H locs ls C X hb4 Lc
  exact lv_iload_n C.1 C.2.1 hd rfl (Lc.2.2 _ _ hl) (K p l e s m below meth c D ty r0 adV r H locs ls C X hb4 Lc)
theorem y_aload {k : Fin 4} {x : Nat} (hd : decode code pc = .ok (.aload_n k, 1)) (hl : Lo[(k : Nat)]? = some (some (.ref x))) (K : px_Y b L xs (pc + 1) Lo (.ref x :: S) h kc ks) : px_Y b L xs pc Lo S h kc ks := by
  intro p l e s m below meth c D ty r0 adV r H locs ls C X hb4 Lc
  exact lv_aload_n C.1 C.2.1 hd rfl (Lc.2.2 _ _ hl) (K p l e s m below meth c D ty r0 adV r H locs ls C X hb4 Lc)
theorem y_istore {k : Fin 4} {x : Int32} {L' : List (Option Value)} (hd : decode code pc = .ok (.istore_n k, 1)) (hw : px_nl Lo k = true) (hL : Lo.set k (some (.int x)) = L') (K : px_Y b L xs (pc + 1) L' S h kc ks) : px_Y b L xs pc Lo (.int x :: S) h kc ks := by
  intro p l e s m below meth c D ty r0 adV r H locs ls C X hb4 Lc
  subst hL
  exact lv_istore_n C.1 C.2.1 hd rfl (px_L_has Lc) k.2 rfl (fun ls' h9 => K p l e s m below meth c D ty r0 adV r H locs ls' C X hb4 (px_L_set1 (v := .int x) hw h9))
theorem y_astore {k : Fin 4} {x : Nat} {L' : List (Option Value)} (hd : decode code pc = .ok (.astore_n k, 1)) (hw : px_nl Lo k = true) (hL : Lo.set k (some (.ref x)) = L') (K : px_Y b L xs (pc + 1) L' S h kc ks) : px_Y b L xs pc Lo (.ref x :: S) h kc ks := by
  intro p l e s m below meth c D ty r0 adV r H locs ls C X hb4 Lc
  subst hL
  exact lv_astore_n C.1 C.2.1 hd rfl (px_L_has Lc) k.2 rfl (fun ls' h9 => K p l e s m below meth c D ty r0 adV r H locs ls' C X hb4 (px_L_set1 (v := .ref x) hw h9))
theorem y_iinc {k : Nat} {n : Int} {x v : Int32} {L' : List (Option Value)} (hd : decode code pc = .ok (.iinc k n, 3)) (hx : Lo[k]? = some (some (.int x))) (hv : x + Int32.ofInt n = v) (hn : k < 4) (hw : px_nl Lo k = true) (hL : Lo.set k (some (.int v)) = L') (K : px_Y b L xs (pc + 3) L' S h kc ks) : px_Y b L xs pc Lo S h kc ks := by
  intro p l e s m below meth c D ty r0 adV r H locs ls C X hb4 Lc
  subst hL
  have hh : lv_has ls 4 ((k, .int x) :: px_ll r Lo) := ⟨(px_L_has Lc).1, (px_L_has Lc).2.1, fun q hq => by
    rcases List.mem_cons.mp hq with e | e
    · rw [e]; exact Lc.2.2 _ _ hx
    · exact (px_L_has Lc).2.2 q e⟩
  exact lv_iinc (lv' := (k, .int v) :: (px_ll r Lo).filter (fun q => !(q.1 == k) && !(q.1 + 1 == k && q.2.category == 2))) C.1 C.2.1 hd hh (k := 0) rfl hv hn (by simp) (fun ls' h9 => K p l e s m below meth c D ty r0 adV r H locs ls' C X hb4 (px_L_set1 (v := .int v) hw h9))
theorem y_goto {off : Int} {tgt : Nat} (hd : decode code pc = .ok (.goto off, 3)) (ht : (pc : Int) + off = (tgt : Int)) (K : px_Y b L xs tgt Lo S h kc ks) : px_Y b L xs pc Lo S h kc ks := by
  intro p l e s m below meth c D ty r0 adV r H locs ls C X hb4 Lc
  exact lv_goto C.1 C.2.1 hd ht (K p l e s m below meth c D ty r0 adV r H locs ls C X hb4 Lc)
theorem y_dup {v : Value} (hd : decode code pc = .ok (.dup, 1)) (hv : v.category = 1) (K : px_Y b L xs (pc + 1) Lo (v :: v :: S) h kc ks) : px_Y b L xs pc Lo (v :: S) h kc ks := by
  intro p l e s m below meth c D ty r0 adV r H locs ls C X hb4 Lc
  exact lv_dup C.1 C.2.1 hd (by rw [px_v_cat]; exact hv) (K p l e s m below meth c D ty r0 adV r H locs ls C X hb4 Lc)
theorem y_gt_t {x y : Int32} {off : Int} {tgt : Nat} (hd : decode code pc = .ok (.if_icmp .gt off, 3)) (ht : (pc : Int) + off = (tgt : Int)) (hq : y < x) (K : px_Y b L xs tgt Lo S h kc ks) : px_Y b L xs pc Lo (.int y :: .int x :: S) h kc ks := by
  intro p l e s m below meth c D ty r0 adV r H locs ls C X hb4 Lc
  exact lv_icmp_gt C.1 C.2.1 hd ht (fun _ => K p l e s m below meth c D ty r0 adV r H locs ls C X hb4 Lc) (fun q => absurd hq q)
theorem y_gt_f {x y : Int32} {off : Int} {tgt : Nat} (hd : decode code pc = .ok (.if_icmp .gt off, 3)) (ht : (pc : Int) + off = (tgt : Int)) (hq : ¬ y < x) (K : px_Y b L xs (pc + 3) Lo S h kc ks) : px_Y b L xs pc Lo (.int y :: .int x :: S) h kc ks := by
  intro p l e s m below meth c D ty r0 adV r H locs ls C X hb4 Lc
  exact lv_icmp_gt C.1 C.2.1 hd ht (fun q => absurd q hq) (fun _ => K p l e s m below meth c D ty r0 adV r H locs ls C X hb4 Lc)
theorem y_eq_t {x y : Int32} {off : Int} {tgt : Nat} (hd : decode code pc = .ok (.if_icmp .eq off, 3)) (ht : (pc : Int) + off = (tgt : Int)) (hq : x = y) (K : px_Y b L xs tgt Lo S h kc ks) : px_Y b L xs pc Lo (.int y :: .int x :: S) h kc ks := by
  intro p l e s m below meth c D ty r0 adV r H locs ls C X hb4 Lc
  exact lv_icmp_eq C.1 C.2.1 hd ht (fun _ => K p l e s m below meth c D ty r0 adV r H locs ls C X hb4 Lc) (fun q => absurd hq q)
theorem y_ifeq_t {x : Int32} {off : Int} {tgt : Nat} (hd : decode code pc = .ok (.ifCond .eq off, 3)) (ht : (pc : Int) + off = (tgt : Int)) (hq : x = 0) (K : px_Y b L xs tgt Lo S h kc ks) : px_Y b L xs pc Lo (.int x :: S) h kc ks := by
  intro p l e s m below meth c D ty r0 adV r H locs ls C X hb4 Lc
  exact lv_if_eq C.1 C.2.1 hd ht (fun _ => K p l e s m below meth c D ty r0 adV r H locs ls C X hb4 Lc) (fun q => absurd hq q)
theorem y_tabOut {dflt lo hi : Int} {offs : Array Int} {len : Nat} {x : Int32} {tgt : Nat} (hd : decode code pc = .ok (.tableswitch dflt lo hi offs, len)) (hq : x.toInt < lo ∨ hi < x.toInt) (ht : (pc : Int) + dflt = (tgt : Int)) (K : px_Y b L xs tgt Lo S h kc ks) : px_Y b L xs pc Lo (.int x :: S) h kc ks := by
  intro p l e s m below meth c D ty r0 adV r H locs ls C X hb4 Lc
  exact lv_tableOut C.1 C.2.1 hd hq ht (K p l e s m below meth c D ty r0 adV r H locs ls C X hb4 Lc)
theorem y_tabIn {dflt lo hi : Int} {offs : Array Int} {len : Nat} {x : Int32} {off : Int} {tgt : Nat} (hd : decode code pc = .ok (.tableswitch dflt lo hi offs, len)) (h1 : ¬ x.toInt < lo) (h2 : ¬ hi < x.toInt) (ho : offs[(x.toInt - lo).toNat]? = some off) (ht : (pc : Int) + off = (tgt : Int)) (K : px_Y b L xs tgt Lo S h kc ks) : px_Y b L xs pc Lo (.int x :: S) h kc ks := by
  intro p l e s m below meth c D ty r0 adV r H locs ls C X hb4 Lc
  exact lv_tableIn C.1 C.2.1 hd h1 h2 ho ht (K p l e s m below meth c D ty r0 adV r H locs ls C X hb4 Lc)
theorem px_nA {r0 : Nat → Nat} {s : State} {q : Nat} (h : q < s.heap.size) : ¬ px_A r0 0 s.heap.size q := by
  rintro (⟨k, hk, -⟩ | z)
  · omega
  · omega
theorem y_sld {x : Int32} (k : Nat) (hk : k < L) (hL : L < 2 ^ 31) (hx : x = nI k) (hd : decode code pc = .ok (.iaload, 1)) (K : px_Y b L xs (pc + 1) Lo (.int (xs k) :: S) h kc ks) : px_Y b L xs pc Lo (.int x :: .ref 4000 :: S) h kc ks := by
  intro p l e s m below meth c D ty r0 adV r H locs ls C X hb4 Lc
  subst hx
  have K2 := K p l e s m below meth c D ty r0 adV r H locs ls C X hb4 Lc
  simp only [List.map_cons, px_v_ref, px_v_int, hb4] at K2 ⊢
  refine va_sld C.1 C.2.1 C.2.2.2.2.2.2.1 C.2.2.2.2.2.2.2.1 (px_nA C.2.2.2.2.2.2.2.1) X.2.2.2.2.2 (vp_in_nI hk (by omega)) hd ?_
  rw [nI_clamp (by omega)]
  exact K2
theorem y_slen (hd : decode code pc = .ok (.arraylength, 1)) (K : px_Y b L xs (pc + 1) Lo (.int (nI L) :: S) h kc ks) : px_Y b L xs pc Lo (.ref 4000 :: S) h kc ks := by
  intro p l e s m below meth c D ty r0 adV r H locs ls C X hb4 Lc
  have K2 := K p l e s m below meth c D ty r0 adV r H locs ls C X hb4 Lc
  simp only [List.map_cons, px_v_ref, px_v_int, hb4] at K2 ⊢
  exact va_slen C.1 C.2.1 C.2.2.2.2.2.2.1 C.2.2.2.2.2.2.2.1 (px_nA C.2.2.2.2.2.2.2.1) X.2.2.2.2.2 hd K2
theorem y_widen {kc' ks' : Nat} (h1 : kc ≤ kc') (h2 : ks ≤ ks') (K : px_Y b L xs pc Lo S h kc' ks') : px_Y b L xs pc Lo S h kc ks := by
  intro p l e s m below meth c D ty r0 adV r H locs ls C X hb4 Lc
  exact W.widen h1 h2 (K p l e s m below meth c D ty r0 adV r H locs ls C X hb4 Lc)
theorem y_heap (he : h = h') (K : px_Y b L xs pc Lo S h' kc ks) : px_Y b L xs pc Lo S h kc ks := he ▸ K
theorem y_weak {L' : List (Option Value)} (hl : px_le L' Lo) (K : px_Y b L xs pc L' S h kc ks) : px_Y b L xs pc Lo S h kc ks := by
  intro p l e s m below meth c D ty r0 adV r H locs ls C X hb4 Lc
  exact K p l e s m below meth c D ty r0 adV r H locs ls C X hb4 ⟨Lc.1, Lc.2.1, fun i v hv => Lc.2.2 i v (px_le_at _ _ i v hl hv)⟩
theorem y_ret (hd : decode code pc = .ok (.ireturn, 1)) (h1 : kc ≤ 600000) (h2 : ks ≤ 7302249) : px_Y b L xs pc Lo [.int 1] h kc ks := by
  intro p l e s m below meth c D ty r0 adV r H locs ls C X hb4 Lc
  refine va_forget (fun q hq => ?_) ?_
  · rcases X.2.2.2.2.2.2.2 q hq with ⟨k, hk, -⟩ | z
    · omega
    · exact z
  refine W.widen h1 h2 ?_
  exact lw_ret C.1 C.2.1 C.2.2.1 C.2.2.2.2.2.2.2.2.1 hd
theorem px_hown {p : Program} {s : State} {m : MethodId} {meth : Method} {c : Code} (C : lw_At p s m meth c b L xs) : s.vm.findClass RL = some m.cls := C.2.2.2.2.1
theorem px_htsT {p : Program} {s : State} {m : MethodId} {meth : Method} {c : Code} (C : lw_At p s m meth c b L xs) {w : Cond} (hw : w ∈ px_T) : w.before #[Value.ref b] s = true := C.2.2.2.2.2.1 w (px_T_good hw).1
theorem px_goodL {M' : px_M} {n : Nat} (hm : px_MF M' n) : GoodIn lw_tbl (px_ws M') := fun w hw => by
  rcases List.mem_cons.mp hw with e | e
  · subst e; exact px_T_good hm.1
  · exact px_T_good e
theorem px_roomL {d' mc' ms' n : Nat} (hd : d' ≤ 1000) (hn : n ≤ 50) : (px_rm d' mc' ms').frames + 1 ≤ room_1.frames ∧ 8 + (n + 11) + (px_rm d' mc' ms').locals ≤ room_1.locals := by
  refine ⟨?_, ?_⟩
  · show d' + 1 ≤ 2048; omega
  · show 8 + (n + 11) + 80 * d' ≤ 84000; omega
variable {M' : px_M} {n d' mc' ms' a ci : Nat} {as : List Value} {rv : Option Value} {fs : List Value} {q : vw_C}
theorem y_callV (hd : decode code pc = .ok (.invokevirtual idx, 3)) (hm : px_MF M' n) (hl : Cond.methodLink RL idx M'.1 ∈ px_T) (hv : px_MV M') (hq : vwCl[ci]? = some q) (hqc : q.1 = M'.1.cls) (hc : h[a]? = some (.inl (ci, fs))) (hn : as.length = n) (hK : px_K d' mc' ms' M' (.ref a :: as) h rv h') (hdd : d' ≤ 1000) (hS : S = as.reverse ++ .ref a :: S1) (hw : (S1.map fun v => v.category).sum ≤ 8) (hf : kc + mc' ≤ 600000 ∧ ks + ms' ≤ 7302249) (oL : ∀ v, some v ∈ Lo → px_ov h.length h'.length v) (oS : ∀ v ∈ S1, px_ov h.length h'.length v) (K : px_Y b L xs (pc + 3) Lo (rv.toList ++ S1) h' (kc + mc') (ks + ms')) : px_Y b L xs pc Lo S h kc ks := by
  intro p l e s m below meth c D ty r0 adV r H locs ls C X hb4 Lc
  subst hS
  have rest : ((S1.map (px_v r)).map fun v => v.category).sum ≤ 8 := by rw [px_sum]; exact hw
  refine px_after (h' := h') (rv := rv) (rest := S1.map (px_v r)) (va_runV (As := as.map (px_v r)) ⟨C.1, C.2.1, C.2.2.2.1, px_hown C, C.2.2.2.2.2.1⟩ (hK l D ty r adV H.size) (cwV (C := M'.1.cls) n C.2.2.2.2.2.1 (fun w hw => by
    rcases List.mem_append.mp hw with e | e
    · rcases List.mem_cons.mp e with e | e
      · subst e; exact px_T_good hl
      · rcases List.mem_cons.mp e with e | e
        · subst e; exact px_T_good hv.1
        · rcases List.mem_cons.mp e with e | e
          · subst e; exact px_T_good hv.2
          · rw [List.mem_singleton] at e; subst e; exact px_T_good hm.2.1
    · exact px_goodL hm w e) rfl rfl rfl ⟨rfl, hm.2.2.1⟩ (px_roomL hdd hm.2.2.2.1)) ⟨px_P_blind D ty r adV (.ref a :: as) h H.size, (by rw [← hqc]; exact va_recv X.2.1 X.2.2.2.1 hq (px_w_get hc)), px_pre X⟩ rfl (by rw [List.length_map]; exact hn) Lc.1 (by simp [px_v_ref]) (lv_room rest) hd hf) X (fun r' H1 locs1 hr X' => ?_)
  have e2 : (rv.map (px_v r')).toList ++ S1.map (px_v r) = (rv.toList ++ S1).map (px_v r') := by
    rw [List.map_append, px_ov_S hr oS]
    cases rv <;> rfl
  rw [e2]
  exact K p l e s m below meth c D ty r0 adV r' H1 locs1 ls C X' (by rw [hr 4000 (Or.inr (Nat.le_trans X'.1.2.2 (by decide)))]; exact hb4) (px_ov_L hr oL Lc)
theorem y_callI (hd : decode code pc = .ok (.invokespecial idx, 3)) (hm : px_MF M' n) (hl : Cond.methodLink RL idx M'.1 ∈ px_T) (hin : Cond.instanceMethod M'.1 ∈ px_T) (hini : M'.1.name = "<init>") (hret : M'.2.2.2 = none) (hn : as.length = n) (hK : px_K d' mc' ms' M' (.ref a :: as) h rv h') (hdd : d' ≤ 1000) (hS : S = as.reverse ++ .ref a :: S1) (hw : (S1.map fun v => v.category).sum ≤ 8) (hf : kc + mc' ≤ 600000 ∧ ks + ms' ≤ 7302249) (oL : ∀ v, some v ∈ Lo → px_ov h.length h'.length v) (oS : ∀ v ∈ S1, px_ov h.length h'.length v) (K : px_Y b L xs (pc + 3) Lo (rv.toList ++ S1) h' (kc + mc') (ks + ms')) : px_Y b L xs pc Lo S h kc ks := by
  intro p l e s m below meth c D ty r0 adV r H locs ls C X hb4 Lc
  subst hS
  have rest : ((S1.map (px_v r)).map fun v => v.category).sum ≤ 8 := by rw [px_sum]; exact hw
  refine px_after (h' := h') (rv := rv) (rest := S1.map (px_v r)) (va_runI (As := as.map (px_v r)) ⟨C.1, C.2.1, C.2.2.2.1, px_hown C, C.2.2.2.2.2.1⟩ (hK l D ty r adV H.size) (cwI (bytes := M'.2.1) (maxL := M'.2.2.1) (ws' := px_T) n C.2.2.2.2.2.1 (px_goodL hm) (by rw [← hret]; rfl) rfl rfl (px_htsT C hm.2.1) (px_htsT C hl) (px_htsT C hin) hini hm.2.2.1 (px_roomL hdd hm.2.2.2.1)) ⟨px_P_blind D ty r adV (.ref a :: as) h H.size, px_pre X⟩ rfl (by rw [List.length_map]; exact hn) Lc.1 (by simp [px_v_ref]) (lv_room rest) hd hf) X (fun r' H1 locs1 hr X' => ?_)
  have e2 : (rv.map (px_v r')).toList ++ S1.map (px_v r) = (rv.toList ++ S1).map (px_v r') := by
    rw [List.map_append, px_ov_S hr oS]
    cases rv <;> rfl
  rw [e2]
  exact K p l e s m below meth c D ty r0 adV r' H1 locs1 ls C X' (by rw [hr 4000 (Or.inr (Nat.le_trans X'.1.2.2 (by decide)))]; exact hb4) (px_ov_L hr oL Lc)
theorem y_new {N : Nat} (hd : decode code pc = .ok (.new idx, 3)) (hq : px_NW ci q fs) (hcl : Cond.classLink RL idx q.1 ∈ px_T) (hcells : kc + 1 ≤ 600000) (hslots : ks + q.2.2 ≤ 7302249) (hN : h.length = N) (hlt : N < 1000) (wf : px_wf h) (fL : ∀ v, some v ∈ Lo → px_fv N v) (fS : ∀ v ∈ S, px_fv N v) (hh : h ++ [.inl (ci, fs)] = h') (K : px_Y b L xs (pc + 3) Lo (.ref N :: S) h' (kc + 1) (ks + q.2.2)) : px_Y b L xs pc Lo S h kc ks := by
  intro p l e s m below meth c D ty r0 adV r H locs ls C X hb4 Lc
  subst hN; subst hh
  obtain ⟨z1, z2, z3, ⟨ty0, z4, z5⟩, z6⟩ := hq
  have e0 : fs.map (px_v r) = fs := by
    refine (List.map_congr_left (fun v hv => ?_)).trans (List.map_id' fs)
    cases v with
    | ref k => exact absurd rfl (z6 _ hv k)
    | _ => rfl
  refine va_new (own := RL) (C := q.1) (T := q.2.1) (N := q.2.2) (ci := ci) (fs := fs) C.1 C.2.1 C.2.2.2.2.2.1 (fun w hw => (px_T_good ((px_cls ci q z1).1 w hw)).1) ty0 z4 (px_hown C) (px_htsT C hcl) (px_htsT C z2) (px_htsT C z3) X.2.1 X.2.2.2.1 X.2.2.2.2.1 X.2.2.2.2.2 (fun _ z => Or.inr z) z1 z5 hcells hslots hd (fun q1 H1 y1 y2 y3 => ?_)
  have e1 : px_c r ty (.inl (ci, fs)) = .inr (ci, fs) := by simp only [px_c, e0]
  have K2 := K p l e s m below meth c D ty r0 adV (va_up r h.length q1) H1 locs ls C (px_wd_push (c := .inl (ci, fs)) X (fun x hx => px_rl_fr (wf x hx)) (fun v hv k hk => absurd hk (z6 v hv k)) (by rw [e1]; exact y1) (by rw [e1]; exact y2) y3 hlt) (by rw [va_up_ne _ _ (by omega)]; exact hb4) (px_fv_L fL Lc)
  rw [List.map_cons, ← px_fv_S fS, px_v_ref] at K2
  simp only [va_up_self] at K2
  exact K2
theorem y_iadd {x y : Int32} (hd : decode code pc = .ok (.iadd, 1)) (K : px_Y b L xs (pc + 1) Lo (.int (x + y) :: S) h kc ks) : px_Y b L xs pc Lo (.int y :: .int x :: S) h kc ks := by
  intro p l e s m below meth c D ty r0 adV r H locs ls C X hb4 Lc
  exact lv_iadd C.1 C.2.1 hd (K p l e s m below meth c D ty r0 adV r H locs ls C X hb4 Lc)
theorem y_isub {x y : Int32} (hd : decode code pc = .ok (.isub, 1)) (K : px_Y b L xs (pc + 1) Lo (.int (x - y) :: S) h kc ks) : px_Y b L xs pc Lo (.int y :: .int x :: S) h kc ks := by
  intro p l e s m below meth c D ty r0 adV r H locs ls C X hb4 Lc
  exact lv_isub C.1 C.2.1 hd (K p l e s m below meth c D ty r0 adV r H locs ls C X hb4 Lc)
theorem y_iand {x y : Int32} (hd : decode code pc = .ok (.iand, 1)) (K : px_Y b L xs (pc + 1) Lo (.int (x &&& y) :: S) h kc ks) : px_Y b L xs pc Lo (.int y :: .int x :: S) h kc ks := by
  intro p l e s m below meth c D ty r0 adV r H locs ls C X hb4 Lc
  exact lv_iand C.1 C.2.1 hd (K p l e s m below meth c D ty r0 adV r H locs ls C X hb4 Lc)
theorem y_lcmp {x y : Int64} (hd : decode code pc = .ok (.lcmp, 1)) (K : px_Y b L xs (pc + 1) Lo (.int (lg_cmp x y) :: S) h kc ks) : px_Y b L xs pc Lo (.long y :: .long x :: S) h kc ks := by
  intro p l e s m below meth c D ty r0 adV r H locs ls C X hb4 Lc
  exact W.lcmp C.1 C.2.1 hd (K p l e s m below meth c D ty r0 adV r H locs ls C X hb4 Lc)
end PXY
theorem px_ovL {n n2 N N2 j : Nat} (h70 : 70 ≤ n) (hn2 : n2 ≤ 900) (e1 : N = n) (e2 : N2 = n2) : ∀ v, some v ∈ [some (Value.ref 4000), some (.ref 0), some (.ref 48), some (.int (nI j))] → px_ov N N2 v := by
  intro v hv k hk
  subst hk
  simp at hv
  rcases hv with rfl | rfl | rfl
  · exact Or.inr (show N2 ≤ 4000 by omega)
  · exact Or.inl (show 0 < N by omega)
  · exact Or.inl (show 48 < N by omega)
/-- the ints of one call -/
abbrev px_ag : Type := Nat → Int32
/-- inmate -/
def px_op0 (T : Nat) (st : px_S) (ag : px_ag) (T2 : Nat) (st2 : px_S) : Prop := T2 = T ∧ ∃ (v : Int32) (s1 : px_S), (f_X5_inmate (T + 2) (ag 1) (ag 2) st = some (v, s1)) ∧ f_X6_inmate T (ag 1) (ag 2) s1 = some (v, st2)
set_option maxRecDepth 20000 in
theorem y_case0 {b L : Nat} {xs : Nat → Int32} {j T T2 kc ks : Nat} {st st2 : px_S} (hj : j + 6 ≤ L) (hL : L < 2 ^ 31) (hT : px_n (T2 + 2) ≤ 900) (hop : px_op0 T st (fun k => xs (j + k)) T2 st2) (hkc : kc + 2 ≤ 600000) (hks : ks + 163 ≤ 7302249) (K : px_Y b L xs 1092 [some (.ref 4000), some (.ref 0), some (.ref 48), some (.int (nI j))] [] (HP (T2 + 2) st2) (kc + 2) (ks + 163)) : px_Y b L xs 164 [some (.ref 4000), some (.ref 0), some (.ref 48), some (.int (nI j))] [] (HP (T + 2) st) kc ks := by
  obtain ⟨rfl, v, s1, h1, h2⟩ := hop
  have hK1 := k_X5_inmate h1
  have hK2 := k_X6_inmate h2
  refine y_aload dL_law_164 rfl ?_
  refine y_aload dL_law_165 rfl ?_
  refine y_iload dL_law_166 rfl ?_
  refine y_iconst (v := 1) dL_law_167 (by decide) ?_
  refine y_iadd dL_law_168 ?_
  refine y_sld (j + 1) (by omega) hL (nI_add j 1) dL_law_169 ?_
  refine y_aload dL_law_170 rfl ?_
  refine y_iload dL_law_171 rfl ?_
  refine y_iconst (v := 2) dL_law_172 (by decide) ?_
  refine y_iadd dL_law_173 ?_
  refine y_sld (j + 2) (by omega) hL (nI_add j 2) dL_law_174 ?_
  refine y_callV (as := [.int (xs (j + 1)), .int (xs (j + 2))]) (S1 := []) (rv := some (.int v)) (h' := (HP (T2 + 2) s1)) (mc' := 0) (ms' := 0) (d' := 2) dL_law_175 mf_X5_inmate ml_L_13 mv_X5_inmate q5 rfl (hp_at (px_lt (by decide)) (c0 _)) rfl hK1 (by decide) rfl (Nat.le_of_ble_eq_true rfl) (by omega) (fun v9 _ => by simp only [hp_len]; exact px_ov_same _ v9) (fun v9 _ => by simp only [hp_len]; exact px_ov_same _ v9) ?_
  refine y_aload dL_law_178 rfl ?_
  refine y_aload dL_law_179 rfl ?_
  refine y_iload dL_law_180 rfl ?_
  refine y_iconst (v := 1) dL_law_181 (by decide) ?_
  refine y_iadd dL_law_182 ?_
  refine y_sld (j + 1) (by omega) hL (nI_add j 1) dL_law_183 ?_
  refine y_aload dL_law_184 rfl ?_
  refine y_iload dL_law_185 rfl ?_
  refine y_iconst (v := 2) dL_law_186 (by decide) ?_
  refine y_iadd dL_law_187 ?_
  refine y_sld (j + 2) (by omega) hL (nI_add j 2) dL_law_188 ?_
  refine y_callV (as := [.int (xs (j + 1)), .int (xs (j + 2))]) (S1 := [.int v]) (rv := some (.int v)) (h' := (HP (T2 + 2) st2)) (mc' := 0) (ms' := 0) (d' := 1) dL_law_189 mf_X6_inmate ml_L_17 mv_X6_inmate q6 rfl (hp_at (px_ltM (by decide)) (c48 _)) rfl hK2 (by decide) rfl (Nat.le_of_ble_eq_true rfl) (by omega) (fun v9 _ => by simp only [hp_len]; exact px_ov_same _ v9) (fun v9 _ => by simp only [hp_len]; exact px_ov_same _ v9) ?_
  refine y_eq_t (tgt := 1092) dL_law_192 (by decide) rfl ?_
  exact y_widen (by omega) (by omega) K
/-- like -/
def px_op1 (T : Nat) (st : px_S) (ag : px_ag) (T2 : Nat) (st2 : px_S) : Prop := T2 = T ∧ ∃ (v : Int32) (s1 : px_S), (f_X5_like (T + 2) (ag 1) (ag 2) (ag 3) st = some (v, s1)) ∧ f_X6_like T (ag 1) (ag 2) (ag 3) s1 = some (v, st2)
set_option maxRecDepth 20000 in
theorem y_case1 {b L : Nat} {xs : Nat → Int32} {j T T2 kc ks : Nat} {st st2 : px_S} (hj : j + 6 ≤ L) (hL : L < 2 ^ 31) (hT : px_n (T2 + 2) ≤ 900) (hop : px_op1 T st (fun k => xs (j + k)) T2 st2) (hkc : kc + 2 ≤ 600000) (hks : ks + 163 ≤ 7302249) (K : px_Y b L xs 1092 [some (.ref 4000), some (.ref 0), some (.ref 48), some (.int (nI j))] [] (HP (T2 + 2) st2) (kc + 2) (ks + 163)) : px_Y b L xs 197 [some (.ref 4000), some (.ref 0), some (.ref 48), some (.int (nI j))] [] (HP (T + 2) st) kc ks := by
  obtain ⟨rfl, v, s1, h1, h2⟩ := hop
  have hK1 := k_X5_like h1
  have hK2 := k_X6_like h2
  refine y_aload dL_law_197 rfl ?_
  refine y_aload dL_law_198 rfl ?_
  refine y_iload dL_law_199 rfl ?_
  refine y_iconst (v := 1) dL_law_200 (by decide) ?_
  refine y_iadd dL_law_201 ?_
  refine y_sld (j + 1) (by omega) hL (nI_add j 1) dL_law_202 ?_
  refine y_aload dL_law_203 rfl ?_
  refine y_iload dL_law_204 rfl ?_
  refine y_iconst (v := 2) dL_law_205 (by decide) ?_
  refine y_iadd dL_law_206 ?_
  refine y_sld (j + 2) (by omega) hL (nI_add j 2) dL_law_207 ?_
  refine y_aload dL_law_208 rfl ?_
  refine y_iload dL_law_209 rfl ?_
  refine y_iconst (v := 3) dL_law_210 (by decide) ?_
  refine y_iadd dL_law_211 ?_
  refine y_sld (j + 3) (by omega) hL (nI_add j 3) dL_law_212 ?_
  refine y_callV (as := [.int (xs (j + 1)), .int (xs (j + 2)), .int (xs (j + 3))]) (S1 := []) (rv := some (.int v)) (h' := (HP (T2 + 2) s1)) (mc' := 0) (ms' := 0) (d' := 2) dL_law_213 mf_X5_like ml_L_18 mv_X5_like q5 rfl (hp_at (px_lt (by decide)) (c0 _)) rfl hK1 (by decide) rfl (Nat.le_of_ble_eq_true rfl) (by omega) (fun v9 _ => by simp only [hp_len]; exact px_ov_same _ v9) (fun v9 _ => by simp only [hp_len]; exact px_ov_same _ v9) ?_
  refine y_aload dL_law_216 rfl ?_
  refine y_aload dL_law_217 rfl ?_
  refine y_iload dL_law_218 rfl ?_
  refine y_iconst (v := 1) dL_law_219 (by decide) ?_
  refine y_iadd dL_law_220 ?_
  refine y_sld (j + 1) (by omega) hL (nI_add j 1) dL_law_221 ?_
  refine y_aload dL_law_222 rfl ?_
  refine y_iload dL_law_223 rfl ?_
  refine y_iconst (v := 2) dL_law_224 (by decide) ?_
  refine y_iadd dL_law_225 ?_
  refine y_sld (j + 2) (by omega) hL (nI_add j 2) dL_law_226 ?_
  refine y_aload dL_law_227 rfl ?_
  refine y_iload dL_law_228 rfl ?_
  refine y_iconst (v := 3) dL_law_229 (by decide) ?_
  refine y_iadd dL_law_230 ?_
  refine y_sld (j + 3) (by omega) hL (nI_add j 3) dL_law_231 ?_
  refine y_callV (as := [.int (xs (j + 1)), .int (xs (j + 2)), .int (xs (j + 3))]) (S1 := [.int v]) (rv := some (.int v)) (h' := (HP (T2 + 2) st2)) (mc' := 0) (ms' := 0) (d' := 2) dL_law_232 mf_X6_like ml_L_22 mv_X6_like q6 rfl (hp_at (px_ltM (by decide)) (c48 _)) rfl hK2 (by decide) rfl (Nat.le_of_ble_eq_true rfl) (by omega) (fun v9 _ => by simp only [hp_len]; exact px_ov_same _ v9) (fun v9 _ => by simp only [hp_len]; exact px_ov_same _ v9) ?_
  refine y_eq_t (tgt := 1092) dL_law_235 (by decide) rfl ?_
  exact y_widen (by omega) (by omega) K
/-- swear -/
def px_op2 (T : Nat) (st : px_S) (ag : px_ag) (T2 : Nat) (st2 : px_S) : Prop := T2 = T ∧ ∃ (v : Int32) (s1 : px_S), (f_X5_swear (T + 2) (ag 1) (ag 2) (ag 3) st = some (v, s1)) ∧ f_X6_swear T (ag 1) (ag 2) (ag 3) s1 = some (v, st2)
set_option maxRecDepth 20000 in
theorem y_case2 {b L : Nat} {xs : Nat → Int32} {j T T2 kc ks : Nat} {st st2 : px_S} (hj : j + 6 ≤ L) (hL : L < 2 ^ 31) (hT : px_n (T2 + 2) ≤ 900) (hop : px_op2 T st (fun k => xs (j + k)) T2 st2) (hkc : kc + 2 ≤ 600000) (hks : ks + 163 ≤ 7302249) (K : px_Y b L xs 1092 [some (.ref 4000), some (.ref 0), some (.ref 48), some (.int (nI j))] [] (HP (T2 + 2) st2) (kc + 2) (ks + 163)) : px_Y b L xs 240 [some (.ref 4000), some (.ref 0), some (.ref 48), some (.int (nI j))] [] (HP (T + 2) st) kc ks := by
  obtain ⟨rfl, v, s1, h1, h2⟩ := hop
  have hK1 := k_X5_swear h1
  have hK2 := k_X6_swear h2
  refine y_aload dL_law_240 rfl ?_
  refine y_aload dL_law_241 rfl ?_
  refine y_iload dL_law_242 rfl ?_
  refine y_iconst (v := 1) dL_law_243 (by decide) ?_
  refine y_iadd dL_law_244 ?_
  refine y_sld (j + 1) (by omega) hL (nI_add j 1) dL_law_245 ?_
  refine y_aload dL_law_246 rfl ?_
  refine y_iload dL_law_247 rfl ?_
  refine y_iconst (v := 2) dL_law_248 (by decide) ?_
  refine y_iadd dL_law_249 ?_
  refine y_sld (j + 2) (by omega) hL (nI_add j 2) dL_law_250 ?_
  refine y_aload dL_law_251 rfl ?_
  refine y_iload dL_law_252 rfl ?_
  refine y_iconst (v := 3) dL_law_253 (by decide) ?_
  refine y_iadd dL_law_254 ?_
  refine y_sld (j + 3) (by omega) hL (nI_add j 3) dL_law_255 ?_
  refine y_callV (as := [.int (xs (j + 1)), .int (xs (j + 2)), .int (xs (j + 3))]) (S1 := []) (rv := some (.int v)) (h' := (HP (T2 + 2) s1)) (mc' := 0) (ms' := 0) (d' := 2) dL_law_256 mf_X5_swear ml_L_23 mv_X5_swear q5 rfl (hp_at (px_lt (by decide)) (c0 _)) rfl hK1 (by decide) rfl (Nat.le_of_ble_eq_true rfl) (by omega) (fun v9 _ => by simp only [hp_len]; exact px_ov_same _ v9) (fun v9 _ => by simp only [hp_len]; exact px_ov_same _ v9) ?_
  refine y_aload dL_law_259 rfl ?_
  refine y_aload dL_law_260 rfl ?_
  refine y_iload dL_law_261 rfl ?_
  refine y_iconst (v := 1) dL_law_262 (by decide) ?_
  refine y_iadd dL_law_263 ?_
  refine y_sld (j + 1) (by omega) hL (nI_add j 1) dL_law_264 ?_
  refine y_aload dL_law_265 rfl ?_
  refine y_iload dL_law_266 rfl ?_
  refine y_iconst (v := 2) dL_law_267 (by decide) ?_
  refine y_iadd dL_law_268 ?_
  refine y_sld (j + 2) (by omega) hL (nI_add j 2) dL_law_269 ?_
  refine y_aload dL_law_270 rfl ?_
  refine y_iload dL_law_271 rfl ?_
  refine y_iconst (v := 3) dL_law_272 (by decide) ?_
  refine y_iadd dL_law_273 ?_
  refine y_sld (j + 3) (by omega) hL (nI_add j 3) dL_law_274 ?_
  refine y_callV (as := [.int (xs (j + 1)), .int (xs (j + 2)), .int (xs (j + 3))]) (S1 := [.int v]) (rv := some (.int v)) (h' := (HP (T2 + 2) st2)) (mc' := 0) (ms' := 0) (d' := 2) dL_law_275 mf_X6_swear ml_L_26 mv_X6_swear q6 rfl (hp_at (px_ltM (by decide)) (c48 _)) rfl hK2 (by decide) rfl (Nat.le_of_ble_eq_true rfl) (by omega) (fun v9 _ => by simp only [hp_len]; exact px_ov_same _ v9) (fun v9 _ => by simp only [hp_len]; exact px_ov_same _ v9) ?_
  refine y_eq_t (tgt := 1092) dL_law_278 (by decide) rfl ?_
  exact y_widen (by omega) (by omega) K
/-- set -/
def px_op3 (T : Nat) (st : px_S) (ag : px_ag) (T2 : Nat) (st2 : px_S) : Prop := T2 = T ∧ ∃ (v : Int32) (s1 : px_S), (f_X5_set (T + 2) (ag 1) (ag 2) (ag 3) st = some (v, s1)) ∧ f_X6_set T (ag 1) (ag 2) (ag 3) s1 = some (v, st2)
set_option maxRecDepth 20000 in
theorem y_case3 {b L : Nat} {xs : Nat → Int32} {j T T2 kc ks : Nat} {st st2 : px_S} (hj : j + 6 ≤ L) (hL : L < 2 ^ 31) (hT : px_n (T2 + 2) ≤ 900) (hop : px_op3 T st (fun k => xs (j + k)) T2 st2) (hkc : kc + 2 ≤ 600000) (hks : ks + 163 ≤ 7302249) (K : px_Y b L xs 1092 [some (.ref 4000), some (.ref 0), some (.ref 48), some (.int (nI j))] [] (HP (T2 + 2) st2) (kc + 2) (ks + 163)) : px_Y b L xs 283 [some (.ref 4000), some (.ref 0), some (.ref 48), some (.int (nI j))] [] (HP (T + 2) st) kc ks := by
  obtain ⟨rfl, v, s1, h1, h2⟩ := hop
  have hK1 := k_X5_set h1
  have hK2 := k_X6_set h2
  refine y_aload dL_law_283 rfl ?_
  refine y_aload dL_law_284 rfl ?_
  refine y_iload dL_law_285 rfl ?_
  refine y_iconst (v := 1) dL_law_286 (by decide) ?_
  refine y_iadd dL_law_287 ?_
  refine y_sld (j + 1) (by omega) hL (nI_add j 1) dL_law_288 ?_
  refine y_aload dL_law_289 rfl ?_
  refine y_iload dL_law_290 rfl ?_
  refine y_iconst (v := 2) dL_law_291 (by decide) ?_
  refine y_iadd dL_law_292 ?_
  refine y_sld (j + 2) (by omega) hL (nI_add j 2) dL_law_293 ?_
  refine y_aload dL_law_294 rfl ?_
  refine y_iload dL_law_295 rfl ?_
  refine y_iconst (v := 3) dL_law_296 (by decide) ?_
  refine y_iadd dL_law_297 ?_
  refine y_sld (j + 3) (by omega) hL (nI_add j 3) dL_law_298 ?_
  refine y_callV (as := [.int (xs (j + 1)), .int (xs (j + 2)), .int (xs (j + 3))]) (S1 := []) (rv := some (.int v)) (h' := (HP (T2 + 2) s1)) (mc' := 0) (ms' := 0) (d' := 3) dL_law_299 mf_X5_set ml_L_27 mv_X5_set q5 rfl (hp_at (px_lt (by decide)) (c0 _)) rfl hK1 (by decide) rfl (Nat.le_of_ble_eq_true rfl) (by omega) (fun v9 _ => by simp only [hp_len]; exact px_ov_same _ v9) (fun v9 _ => by simp only [hp_len]; exact px_ov_same _ v9) ?_
  refine y_aload dL_law_302 rfl ?_
  refine y_aload dL_law_303 rfl ?_
  refine y_iload dL_law_304 rfl ?_
  refine y_iconst (v := 1) dL_law_305 (by decide) ?_
  refine y_iadd dL_law_306 ?_
  refine y_sld (j + 1) (by omega) hL (nI_add j 1) dL_law_307 ?_
  refine y_aload dL_law_308 rfl ?_
  refine y_iload dL_law_309 rfl ?_
  refine y_iconst (v := 2) dL_law_310 (by decide) ?_
  refine y_iadd dL_law_311 ?_
  refine y_sld (j + 2) (by omega) hL (nI_add j 2) dL_law_312 ?_
  refine y_aload dL_law_313 rfl ?_
  refine y_iload dL_law_314 rfl ?_
  refine y_iconst (v := 3) dL_law_315 (by decide) ?_
  refine y_iadd dL_law_316 ?_
  refine y_sld (j + 3) (by omega) hL (nI_add j 3) dL_law_317 ?_
  refine y_callV (as := [.int (xs (j + 1)), .int (xs (j + 2)), .int (xs (j + 3))]) (S1 := [.int v]) (rv := some (.int v)) (h' := (HP (T2 + 2) st2)) (mc' := 0) (ms' := 0) (d' := 2) dL_law_318 mf_X6_set ml_L_30 mv_X6_set q6 rfl (hp_at (px_ltM (by decide)) (c48 _)) rfl hK2 (by decide) rfl (Nat.le_of_ble_eq_true rfl) (by omega) (fun v9 _ => by simp only [hp_len]; exact px_ov_same _ v9) (fun v9 _ => by simp only [hp_len]; exact px_ov_same _ v9) ?_
  refine y_eq_t (tgt := 1092) dL_law_321 (by decide) rfl ?_
  exact y_widen (by omega) (by omega) K
/-- told -/
def px_op4 (T : Nat) (st : px_S) (ag : px_ag) (T2 : Nat) (st2 : px_S) : Prop := T2 = T ∧ ∃ (v : Int32) (s1 : px_S), (f_X5_told (T + 2) (ag 1) (ag 2) st = some (v, s1)) ∧ f_X6_told T (ag 1) (ag 2) s1 = some (v, st2)
set_option maxRecDepth 20000 in
theorem y_case4 {b L : Nat} {xs : Nat → Int32} {j T T2 kc ks : Nat} {st st2 : px_S} (hj : j + 6 ≤ L) (hL : L < 2 ^ 31) (hT : px_n (T2 + 2) ≤ 900) (hop : px_op4 T st (fun k => xs (j + k)) T2 st2) (hkc : kc + 2 ≤ 600000) (hks : ks + 163 ≤ 7302249) (K : px_Y b L xs 1092 [some (.ref 4000), some (.ref 0), some (.ref 48), some (.int (nI j))] [] (HP (T2 + 2) st2) (kc + 2) (ks + 163)) : px_Y b L xs 326 [some (.ref 4000), some (.ref 0), some (.ref 48), some (.int (nI j))] [] (HP (T + 2) st) kc ks := by
  obtain ⟨rfl, v, s1, h1, h2⟩ := hop
  have hK1 := k_X5_told h1
  have hK2 := k_X6_told h2
  refine y_aload dL_law_326 rfl ?_
  refine y_aload dL_law_327 rfl ?_
  refine y_iload dL_law_328 rfl ?_
  refine y_iconst (v := 1) dL_law_329 (by decide) ?_
  refine y_iadd dL_law_330 ?_
  refine y_sld (j + 1) (by omega) hL (nI_add j 1) dL_law_331 ?_
  refine y_aload dL_law_332 rfl ?_
  refine y_iload dL_law_333 rfl ?_
  refine y_iconst (v := 2) dL_law_334 (by decide) ?_
  refine y_iadd dL_law_335 ?_
  refine y_sld (j + 2) (by omega) hL (nI_add j 2) dL_law_336 ?_
  refine y_callV (as := [.int (xs (j + 1)), .int (xs (j + 2))]) (S1 := []) (rv := some (.int v)) (h' := (HP (T2 + 2) s1)) (mc' := 0) (ms' := 0) (d' := 8) dL_law_337 mf_X5_told ml_L_31 mv_X5_told q5 rfl (hp_at (px_lt (by decide)) (c0 _)) rfl hK1 (by decide) rfl (Nat.le_of_ble_eq_true rfl) (by omega) (fun v9 _ => by simp only [hp_len]; exact px_ov_same _ v9) (fun v9 _ => by simp only [hp_len]; exact px_ov_same _ v9) ?_
  refine y_aload dL_law_340 rfl ?_
  refine y_aload dL_law_341 rfl ?_
  refine y_iload dL_law_342 rfl ?_
  refine y_iconst (v := 1) dL_law_343 (by decide) ?_
  refine y_iadd dL_law_344 ?_
  refine y_sld (j + 1) (by omega) hL (nI_add j 1) dL_law_345 ?_
  refine y_aload dL_law_346 rfl ?_
  refine y_iload dL_law_347 rfl ?_
  refine y_iconst (v := 2) dL_law_348 (by decide) ?_
  refine y_iadd dL_law_349 ?_
  refine y_sld (j + 2) (by omega) hL (nI_add j 2) dL_law_350 ?_
  refine y_callV (as := [.int (xs (j + 1)), .int (xs (j + 2))]) (S1 := [.int v]) (rv := some (.int v)) (h' := (HP (T2 + 2) st2)) (mc' := 0) (ms' := 0) (d' := 44) dL_law_351 mf_X6_told ml_L_34 mv_X6_told q6 rfl (hp_at (px_ltM (by decide)) (c48 _)) rfl hK2 (by decide) rfl (Nat.le_of_ble_eq_true rfl) (by omega) (fun v9 _ => by simp only [hp_len]; exact px_ov_same _ v9) (fun v9 _ => by simp only [hp_len]; exact px_ov_same _ v9) ?_
  refine y_eq_t (tgt := 1092) dL_law_354 (by decide) rfl ?_
  exact y_widen (by omega) (by omega) K
/-- feed -/
def px_op5 (T : Nat) (st : px_S) (ag : px_ag) (T2 : Nat) (st2 : px_S) : Prop := T2 = T ∧ ∃ (v : Int32) (s1 : px_S), (f_X5_feed (T + 2) (ag 1) st = some (v, s1)) ∧ f_X6_feed T (ag 1) s1 = some (v, st2)
set_option maxRecDepth 20000 in
theorem y_case5 {b L : Nat} {xs : Nat → Int32} {j T T2 kc ks : Nat} {st st2 : px_S} (hj : j + 6 ≤ L) (hL : L < 2 ^ 31) (hT : px_n (T2 + 2) ≤ 900) (hop : px_op5 T st (fun k => xs (j + k)) T2 st2) (hkc : kc + 2 ≤ 600000) (hks : ks + 163 ≤ 7302249) (K : px_Y b L xs 1092 [some (.ref 4000), some (.ref 0), some (.ref 48), some (.int (nI j))] [] (HP (T2 + 2) st2) (kc + 2) (ks + 163)) : px_Y b L xs 359 [some (.ref 4000), some (.ref 0), some (.ref 48), some (.int (nI j))] [] (HP (T + 2) st) kc ks := by
  obtain ⟨rfl, v, s1, h1, h2⟩ := hop
  have hK1 := k_X5_feed h1
  have hK2 := k_X6_feed h2
  refine y_aload dL_law_359 rfl ?_
  refine y_aload dL_law_360 rfl ?_
  refine y_iload dL_law_361 rfl ?_
  refine y_iconst (v := 1) dL_law_362 (by decide) ?_
  refine y_iadd dL_law_363 ?_
  refine y_sld (j + 1) (by omega) hL (nI_add j 1) dL_law_364 ?_
  refine y_callV (as := [.int (xs (j + 1))]) (S1 := []) (rv := some (.int v)) (h' := (HP (T2 + 2) s1)) (mc' := 0) (ms' := 0) (d' := 1) dL_law_365 mf_X5_feed ml_L_35 mv_X5_feed q5 rfl (hp_at (px_lt (by decide)) (c0 _)) rfl hK1 (by decide) rfl (Nat.le_of_ble_eq_true rfl) (by omega) (fun v9 _ => by simp only [hp_len]; exact px_ov_same _ v9) (fun v9 _ => by simp only [hp_len]; exact px_ov_same _ v9) ?_
  refine y_aload dL_law_368 rfl ?_
  refine y_aload dL_law_369 rfl ?_
  refine y_iload dL_law_370 rfl ?_
  refine y_iconst (v := 1) dL_law_371 (by decide) ?_
  refine y_iadd dL_law_372 ?_
  refine y_sld (j + 1) (by omega) hL (nI_add j 1) dL_law_373 ?_
  refine y_callV (as := [.int (xs (j + 1))]) (S1 := [.int v]) (rv := some (.int v)) (h' := (HP (T2 + 2) st2)) (mc' := 0) (ms' := 0) (d' := 1) dL_law_374 mf_X6_feed ml_L_39 mv_X6_feed q6 rfl (hp_at (px_ltM (by decide)) (c48 _)) rfl hK2 (by decide) rfl (Nat.le_of_ble_eq_true rfl) (by omega) (fun v9 _ => by simp only [hp_len]; exact px_ov_same _ v9) (fun v9 _ => by simp only [hp_len]; exact px_ov_same _ v9) ?_
  refine y_eq_t (tgt := 1092) dL_law_377 (by decide) rfl ?_
  exact y_widen (by omega) (by omega) K
/-- text -/
def px_op6 (T : Nat) (st : px_S) (ag : px_ag) (T2 : Nat) (st2 : px_S) : Prop := (∃ (v : Int32) (s1 : px_S), f_X5_text (T + 2) st = some (.inl (v, s1)) ∧ T2 = T ∧ f_X6_text T s1 = some (v, st2)) ∨ (∃ (v : Int32) (s1 : px_S), f_X5_text (T + 2) st = some (.inr (v, s1)) ∧ T2 = T + 1 ∧ f_X6_text (T + 1) s1 = some (v, st2))
set_option maxRecDepth 20000 in
theorem y_case6 {b L : Nat} {xs : Nat → Int32} {j T T2 kc ks : Nat} {st st2 : px_S} (hj : j + 6 ≤ L) (hL : L < 2 ^ 31) (hT : px_n (T2 + 2) ≤ 900) (hop : px_op6 T st (fun k => xs (j + k)) T2 st2) (hkc : kc + 2 ≤ 600000) (hks : ks + 163 ≤ 7302249) (K : px_Y b L xs 1092 [some (.ref 4000), some (.ref 0), some (.ref 48), some (.int (nI j))] [] (HP (T2 + 2) st2) (kc + 2) (ks + 163)) : px_Y b L xs 382 [some (.ref 4000), some (.ref 0), some (.ref 48), some (.int (nI j))] [] (HP (T + 2) st) kc ks := by
  rcases hop with ⟨v, s1, h1, rfl, h2⟩ | ⟨v, s1, h1, rfl, h2⟩
  · have hK1 := k_X5_text h1
    have hK2 := k_X6_text h2
    refine y_aload dL_law_382 rfl ?_
    refine y_callV (as := []) (S1 := []) (rv := some (.int v)) (h' := (HP (T2 + 2) s1)) (mc' := 2) (ms' := 163) (d' := 123) dL_law_383 mf_X5_text ml_L_40 mv_X5_text q5 rfl (hp_at (px_lt (by decide)) (c0 _)) rfl hK1 (by decide) rfl (Nat.le_of_ble_eq_true rfl) (by omega) (fun v9 h9 => px_ovL (n := px_n (T2 + 2)) (n2 := px_n (T2 + 2)) (by unfold px_n; rw [if_neg (by omega), if_neg (by omega)]; omega) hT (hp_len _ _) (hp_len _ _) v9 h9) (fun v9 h9 => by cases h9) ?_
    refine y_aload dL_law_386 rfl ?_
    refine y_callV (as := []) (S1 := [.int v]) (rv := some (.int v)) (h' := (HP (T2 + 2) st2)) (mc' := 0) (ms' := 0) (d' := 42) dL_law_387 mf_X6_text ml_L_44 mv_X6_text q6 rfl (hp_at (px_ltM (by decide)) (c48 _)) rfl hK2 (by decide) rfl (Nat.le_of_ble_eq_true rfl) (by omega) (fun v9 _ => by simp only [hp_len]; exact px_ov_same _ v9) (fun v9 _ => by simp only [hp_len]; exact px_ov_same _ v9) ?_
    refine y_eq_t (tgt := 1092) dL_law_390 (by decide) rfl ?_
    exact y_widen (by omega) (by omega) K
  · have hK1 := k_X5_text h1
    have hK2 := k_X6_text h2
    refine y_aload dL_law_382 rfl ?_
    refine y_callV (as := []) (S1 := []) (rv := some (.int v)) (h' := (HP (T + 1 + 2) s1)) (mc' := 2) (ms' := 163) (d' := 123) dL_law_383 mf_X5_text ml_L_40 mv_X5_text q5 rfl (hp_at (px_lt (by decide)) (c0 _)) rfl hK1 (by decide) rfl (Nat.le_of_ble_eq_true rfl) (by omega) (fun v9 h9 => px_ovL (n := px_n (T + 2)) (n2 := px_n (T + 1 + 2)) (by unfold px_n; rw [if_neg (by omega), if_neg (by omega)]; omega) hT (hp_len _ _) (hp_len _ _) v9 h9) (fun v9 h9 => by cases h9) ?_
    refine y_aload dL_law_386 rfl ?_
    refine y_callV (as := []) (S1 := [.int v]) (rv := some (.int v)) (h' := (HP ((T + 1) + 2) st2)) (mc' := 0) (ms' := 0) (d' := 42) dL_law_387 mf_X6_text ml_L_44 mv_X6_text q6 rfl (hp_at (px_ltM (by decide)) (c48 _)) rfl hK2 (by decide) rfl (Nat.le_of_ble_eq_true rfl) (by omega) (fun v9 _ => by simp only [hp_len]; exact px_ov_same _ v9) (fun v9 _ => by simp only [hp_len]; exact px_ov_same _ v9) ?_
    refine y_eq_t (tgt := 1092) dL_law_390 (by decide) rfl ?_
    exact y_widen (by omega) (by omega) K
/-- force -/
def px_op7 (T : Nat) (st : px_S) (ag : px_ag) (T2 : Nat) (st2 : px_S) : Prop := T2 = T ∧ ∃ (v : Int32) (s1 : px_S), (f_X5_force (T + 2) (ag 1) st = some (v, s1)) ∧ f_X6_force T (ag 1) s1 = some (v, st2)
set_option maxRecDepth 20000 in
theorem y_case7 {b L : Nat} {xs : Nat → Int32} {j T T2 kc ks : Nat} {st st2 : px_S} (hj : j + 6 ≤ L) (hL : L < 2 ^ 31) (hT : px_n (T2 + 2) ≤ 900) (hop : px_op7 T st (fun k => xs (j + k)) T2 st2) (hkc : kc + 2 ≤ 600000) (hks : ks + 163 ≤ 7302249) (K : px_Y b L xs 1092 [some (.ref 4000), some (.ref 0), some (.ref 48), some (.int (nI j))] [] (HP (T2 + 2) st2) (kc + 2) (ks + 163)) : px_Y b L xs 395 [some (.ref 4000), some (.ref 0), some (.ref 48), some (.int (nI j))] [] (HP (T + 2) st) kc ks := by
  obtain ⟨rfl, v, s1, h1, h2⟩ := hop
  have hK1 := k_X5_force h1
  have hK2 := k_X6_force h2
  refine y_aload dL_law_395 rfl ?_
  refine y_aload dL_law_396 rfl ?_
  refine y_iload dL_law_397 rfl ?_
  refine y_iconst (v := 1) dL_law_398 (by decide) ?_
  refine y_iadd dL_law_399 ?_
  refine y_sld (j + 1) (by omega) hL (nI_add j 1) dL_law_400 ?_
  refine y_callV (as := [.int (xs (j + 1))]) (S1 := []) (rv := some (.int v)) (h' := (HP (T2 + 2) s1)) (mc' := 0) (ms' := 0) (d' := 0) dL_law_401 mf_X5_force ml_L_45 mv_X5_force q5 rfl (hp_at (px_lt (by decide)) (c0 _)) rfl hK1 (by decide) rfl (Nat.le_of_ble_eq_true rfl) (by omega) (fun v9 _ => by simp only [hp_len]; exact px_ov_same _ v9) (fun v9 _ => by simp only [hp_len]; exact px_ov_same _ v9) ?_
  refine y_aload dL_law_404 rfl ?_
  refine y_aload dL_law_405 rfl ?_
  refine y_iload dL_law_406 rfl ?_
  refine y_iconst (v := 1) dL_law_407 (by decide) ?_
  refine y_iadd dL_law_408 ?_
  refine y_sld (j + 1) (by omega) hL (nI_add j 1) dL_law_409 ?_
  refine y_callV (as := [.int (xs (j + 1))]) (S1 := [.int v]) (rv := some (.int v)) (h' := (HP (T2 + 2) st2)) (mc' := 0) (ms' := 0) (d' := 1) dL_law_410 mf_X6_force ml_L_48 mv_X6_force q6 rfl (hp_at (px_ltM (by decide)) (c48 _)) rfl hK2 (by decide) rfl (Nat.le_of_ble_eq_true rfl) (by omega) (fun v9 _ => by simp only [hp_len]; exact px_ov_same _ v9) (fun v9 _ => by simp only [hp_len]; exact px_ov_same _ v9) ?_
  refine y_eq_t (tgt := 1092) dL_law_413 (by decide) rfl ?_
  exact y_widen (by omega) (by omega) K
/-- would -/
def px_op8 (T : Nat) (st : px_S) (ag : px_ag) (T2 : Nat) (st2 : px_S) : Prop := T2 = T ∧ ∃ (v : Int32) (s1 : px_S), (f_X5_would (T + 2) (ag 1) (ag 2) st = some (v, s1)) ∧ f_X6_would T (ag 1) (ag 2) s1 = some (v, st2)
set_option maxRecDepth 20000 in
theorem y_case8 {b L : Nat} {xs : Nat → Int32} {j T T2 kc ks : Nat} {st st2 : px_S} (hj : j + 6 ≤ L) (hL : L < 2 ^ 31) (hT : px_n (T2 + 2) ≤ 900) (hop : px_op8 T st (fun k => xs (j + k)) T2 st2) (hkc : kc + 2 ≤ 600000) (hks : ks + 163 ≤ 7302249) (K : px_Y b L xs 1092 [some (.ref 4000), some (.ref 0), some (.ref 48), some (.int (nI j))] [] (HP (T2 + 2) st2) (kc + 2) (ks + 163)) : px_Y b L xs 418 [some (.ref 4000), some (.ref 0), some (.ref 48), some (.int (nI j))] [] (HP (T + 2) st) kc ks := by
  obtain ⟨rfl, v, s1, h1, h2⟩ := hop
  have hK1 := k_X5_would h1
  have hK2 := k_X6_would h2
  refine y_aload dL_law_418 rfl ?_
  refine y_aload dL_law_419 rfl ?_
  refine y_iload dL_law_420 rfl ?_
  refine y_iconst (v := 1) dL_law_421 (by decide) ?_
  refine y_iadd dL_law_422 ?_
  refine y_sld (j + 1) (by omega) hL (nI_add j 1) dL_law_423 ?_
  refine y_aload dL_law_424 rfl ?_
  refine y_iload dL_law_425 rfl ?_
  refine y_iconst (v := 2) dL_law_426 (by decide) ?_
  refine y_iadd dL_law_427 ?_
  refine y_sld (j + 2) (by omega) hL (nI_add j 2) dL_law_428 ?_
  refine y_callV (as := [.int (xs (j + 1)), .int (xs (j + 2))]) (S1 := []) (rv := some (.int v)) (h' := (HP (T2 + 2) s1)) (mc' := 0) (ms' := 0) (d' := 10) dL_law_429 mf_X5_would ml_L_49 mv_X5_would q5 rfl (hp_at (px_lt (by decide)) (c0 _)) rfl hK1 (by decide) rfl (Nat.le_of_ble_eq_true rfl) (by omega) (fun v9 _ => by simp only [hp_len]; exact px_ov_same _ v9) (fun v9 _ => by simp only [hp_len]; exact px_ov_same _ v9) ?_
  refine y_aload dL_law_432 rfl ?_
  refine y_aload dL_law_433 rfl ?_
  refine y_iload dL_law_434 rfl ?_
  refine y_iconst (v := 1) dL_law_435 (by decide) ?_
  refine y_iadd dL_law_436 ?_
  refine y_sld (j + 1) (by omega) hL (nI_add j 1) dL_law_437 ?_
  refine y_aload dL_law_438 rfl ?_
  refine y_iload dL_law_439 rfl ?_
  refine y_iconst (v := 2) dL_law_440 (by decide) ?_
  refine y_iadd dL_law_441 ?_
  refine y_sld (j + 2) (by omega) hL (nI_add j 2) dL_law_442 ?_
  refine y_callV (as := [.int (xs (j + 1)), .int (xs (j + 2))]) (S1 := [.int v]) (rv := some (.int v)) (h' := (HP (T2 + 2) st2)) (mc' := 0) (ms' := 0) (d' := 45) dL_law_443 mf_X6_would ml_L_52 mv_X6_would q6 rfl (hp_at (px_ltM (by decide)) (c48 _)) rfl hK2 (by decide) rfl (Nat.le_of_ble_eq_true rfl) (by omega) (fun v9 _ => by simp only [hp_len]; exact px_ov_same _ v9) (fun v9 _ => by simp only [hp_len]; exact px_ov_same _ v9) ?_
  refine y_eq_t (tgt := 1092) dL_law_446 (by decide) rfl ?_
  exact y_widen (by omega) (by omega) K
/-- now -/
def px_op9 (T : Nat) (st : px_S) (ag : px_ag) (T2 : Nat) (st2 : px_S) : Prop := T2 = T ∧ ∃ (v : Int32) (s1 : px_S), (f_X5_now (T + 2) (ag 1) st = some (v, s1)) ∧ f_X6_now T (ag 1) s1 = some (v, st2)
set_option maxRecDepth 20000 in
theorem y_case9 {b L : Nat} {xs : Nat → Int32} {j T T2 kc ks : Nat} {st st2 : px_S} (hj : j + 6 ≤ L) (hL : L < 2 ^ 31) (hT : px_n (T2 + 2) ≤ 900) (hop : px_op9 T st (fun k => xs (j + k)) T2 st2) (hkc : kc + 2 ≤ 600000) (hks : ks + 163 ≤ 7302249) (K : px_Y b L xs 1092 [some (.ref 4000), some (.ref 0), some (.ref 48), some (.int (nI j))] [] (HP (T2 + 2) st2) (kc + 2) (ks + 163)) : px_Y b L xs 451 [some (.ref 4000), some (.ref 0), some (.ref 48), some (.int (nI j))] [] (HP (T + 2) st) kc ks := by
  obtain ⟨rfl, v, s1, h1, h2⟩ := hop
  have hK1 := k_X5_now h1
  have hK2 := k_X6_now h2
  refine y_aload dL_law_451 rfl ?_
  refine y_aload dL_law_452 rfl ?_
  refine y_iload dL_law_453 rfl ?_
  refine y_iconst (v := 1) dL_law_454 (by decide) ?_
  refine y_iadd dL_law_455 ?_
  refine y_sld (j + 1) (by omega) hL (nI_add j 1) dL_law_456 ?_
  refine y_callV (as := [.int (xs (j + 1))]) (S1 := []) (rv := some (.int v)) (h' := (HP (T2 + 2) s1)) (mc' := 0) (ms' := 0) (d' := 10) dL_law_457 mf_X5_now ml_L_53 mv_X5_now q5 rfl (hp_at (px_lt (by decide)) (c0 _)) rfl hK1 (by decide) rfl (Nat.le_of_ble_eq_true rfl) (by omega) (fun v9 _ => by simp only [hp_len]; exact px_ov_same _ v9) (fun v9 _ => by simp only [hp_len]; exact px_ov_same _ v9) ?_
  refine y_aload dL_law_460 rfl ?_
  refine y_aload dL_law_461 rfl ?_
  refine y_iload dL_law_462 rfl ?_
  refine y_iconst (v := 1) dL_law_463 (by decide) ?_
  refine y_iadd dL_law_464 ?_
  refine y_sld (j + 1) (by omega) hL (nI_add j 1) dL_law_465 ?_
  refine y_callV (as := [.int (xs (j + 1))]) (S1 := [.int v]) (rv := some (.int v)) (h' := (HP (T2 + 2) st2)) (mc' := 0) (ms' := 0) (d' := 45) dL_law_466 mf_X6_now ml_L_56 mv_X6_now q6 rfl (hp_at (px_ltM (by decide)) (c48 _)) rfl hK2 (by decide) rfl (Nat.le_of_ble_eq_true rfl) (by omega) (fun v9 _ => by simp only [hp_len]; exact px_ov_same _ v9) (fun v9 _ => by simp only [hp_len]; exact px_ov_same _ v9) ?_
  refine y_eq_t (tgt := 1092) dL_law_469 (by decide) rfl ?_
  exact y_widen (by omega) (by omega) K
/-- turnOut -/
def px_op10 (T : Nat) (st : px_S) (ag : px_ag) (T2 : Nat) (st2 : px_S) : Prop := T2 = T ∧ ∃ (v : Int32) (s1 : px_S), (f_X5_turnOut (T + 2) (ag 1) (ag 2) st = some (v, s1)) ∧ f_X6_turnOut T (ag 1) (ag 2) s1 = some (v, st2)
set_option maxRecDepth 20000 in
theorem y_case10 {b L : Nat} {xs : Nat → Int32} {j T T2 kc ks : Nat} {st st2 : px_S} (hj : j + 6 ≤ L) (hL : L < 2 ^ 31) (hT : px_n (T2 + 2) ≤ 900) (hop : px_op10 T st (fun k => xs (j + k)) T2 st2) (hkc : kc + 2 ≤ 600000) (hks : ks + 163 ≤ 7302249) (K : px_Y b L xs 1092 [some (.ref 4000), some (.ref 0), some (.ref 48), some (.int (nI j))] [] (HP (T2 + 2) st2) (kc + 2) (ks + 163)) : px_Y b L xs 474 [some (.ref 4000), some (.ref 0), some (.ref 48), some (.int (nI j))] [] (HP (T + 2) st) kc ks := by
  obtain ⟨rfl, v, s1, h1, h2⟩ := hop
  have hK1 := k_X5_turnOut h1
  have hK2 := k_X6_turnOut h2
  refine y_aload dL_law_474 rfl ?_
  refine y_aload dL_law_475 rfl ?_
  refine y_iload dL_law_476 rfl ?_
  refine y_iconst (v := 1) dL_law_477 (by decide) ?_
  refine y_iadd dL_law_478 ?_
  refine y_sld (j + 1) (by omega) hL (nI_add j 1) dL_law_479 ?_
  refine y_aload dL_law_480 rfl ?_
  refine y_iload dL_law_481 rfl ?_
  refine y_iconst (v := 2) dL_law_482 (by decide) ?_
  refine y_iadd dL_law_483 ?_
  refine y_sld (j + 2) (by omega) hL (nI_add j 2) dL_law_484 ?_
  refine y_callV (as := [.int (xs (j + 1)), .int (xs (j + 2))]) (S1 := []) (rv := some (.int v)) (h' := (HP (T2 + 2) s1)) (mc' := 0) (ms' := 0) (d' := 10) dL_law_485 mf_X5_turnOut ml_L_57 mv_X5_turnOut q5 rfl (hp_at (px_lt (by decide)) (c0 _)) rfl hK1 (by decide) rfl (Nat.le_of_ble_eq_true rfl) (by omega) (fun v9 _ => by simp only [hp_len]; exact px_ov_same _ v9) (fun v9 _ => by simp only [hp_len]; exact px_ov_same _ v9) ?_
  refine y_aload dL_law_488 rfl ?_
  refine y_aload dL_law_489 rfl ?_
  refine y_iload dL_law_490 rfl ?_
  refine y_iconst (v := 1) dL_law_491 (by decide) ?_
  refine y_iadd dL_law_492 ?_
  refine y_sld (j + 1) (by omega) hL (nI_add j 1) dL_law_493 ?_
  refine y_aload dL_law_494 rfl ?_
  refine y_iload dL_law_495 rfl ?_
  refine y_iconst (v := 2) dL_law_496 (by decide) ?_
  refine y_iadd dL_law_497 ?_
  refine y_sld (j + 2) (by omega) hL (nI_add j 2) dL_law_498 ?_
  refine y_callV (as := [.int (xs (j + 1)), .int (xs (j + 2))]) (S1 := [.int v]) (rv := some (.int v)) (h' := (HP (T2 + 2) st2)) (mc' := 0) (ms' := 0) (d' := 46) dL_law_499 mf_X6_turnOut ml_L_60 mv_X6_turnOut q6 rfl (hp_at (px_ltM (by decide)) (c48 _)) rfl hK2 (by decide) rfl (Nat.le_of_ble_eq_true rfl) (by omega) (fun v9 _ => by simp only [hp_len]; exact px_ov_same _ v9) (fun v9 _ => by simp only [hp_len]; exact px_ov_same _ v9) ?_
  refine y_eq_t (tgt := 1092) dL_law_502 (by decide) rfl ?_
  exact y_widen (by omega) (by omega) K
/-- goOn -/
def px_op11 (T : Nat) (st : px_S) (ag : px_ag) (T2 : Nat) (st2 : px_S) : Prop := T2 = T ∧ ∃ (v : Int32) (s1 : px_S), (f_X5_goOn (T + 2) (ag 1) st = some (v, s1)) ∧ f_X6_goOn T (ag 1) s1 = some (v, st2)
set_option maxRecDepth 20000 in
theorem y_case11 {b L : Nat} {xs : Nat → Int32} {j T T2 kc ks : Nat} {st st2 : px_S} (hj : j + 6 ≤ L) (hL : L < 2 ^ 31) (hT : px_n (T2 + 2) ≤ 900) (hop : px_op11 T st (fun k => xs (j + k)) T2 st2) (hkc : kc + 2 ≤ 600000) (hks : ks + 163 ≤ 7302249) (K : px_Y b L xs 1092 [some (.ref 4000), some (.ref 0), some (.ref 48), some (.int (nI j))] [] (HP (T2 + 2) st2) (kc + 2) (ks + 163)) : px_Y b L xs 507 [some (.ref 4000), some (.ref 0), some (.ref 48), some (.int (nI j))] [] (HP (T + 2) st) kc ks := by
  obtain ⟨rfl, v, s1, h1, h2⟩ := hop
  have hK1 := k_X5_goOn h1
  have hK2 := k_X6_goOn h2
  refine y_aload dL_law_507 rfl ?_
  refine y_aload dL_law_508 rfl ?_
  refine y_iload dL_law_509 rfl ?_
  refine y_iconst (v := 1) dL_law_510 (by decide) ?_
  refine y_iadd dL_law_511 ?_
  refine y_sld (j + 1) (by omega) hL (nI_add j 1) dL_law_512 ?_
  refine y_callV (as := [.int (xs (j + 1))]) (S1 := []) (rv := some (.int v)) (h' := (HP (T2 + 2) s1)) (mc' := 0) (ms' := 0) (d' := 10) dL_law_513 mf_X5_goOn ml_L_61 mv_X5_goOn q5 rfl (hp_at (px_lt (by decide)) (c0 _)) rfl hK1 (by decide) rfl (Nat.le_of_ble_eq_true rfl) (by omega) (fun v9 _ => by simp only [hp_len]; exact px_ov_same _ v9) (fun v9 _ => by simp only [hp_len]; exact px_ov_same _ v9) ?_
  refine y_aload dL_law_516 rfl ?_
  refine y_aload dL_law_517 rfl ?_
  refine y_iload dL_law_518 rfl ?_
  refine y_iconst (v := 1) dL_law_519 (by decide) ?_
  refine y_iadd dL_law_520 ?_
  refine y_sld (j + 1) (by omega) hL (nI_add j 1) dL_law_521 ?_
  refine y_callV (as := [.int (xs (j + 1))]) (S1 := [.int v]) (rv := some (.int v)) (h' := (HP (T2 + 2) st2)) (mc' := 0) (ms' := 0) (d' := 45) dL_law_522 mf_X6_goOn ml_L_64 mv_X6_goOn q6 rfl (hp_at (px_ltM (by decide)) (c48 _)) rfl hK2 (by decide) rfl (Nat.le_of_ble_eq_true rfl) (by omega) (fun v9 _ => by simp only [hp_len]; exact px_ov_same _ v9) (fun v9 _ => by simp only [hp_len]; exact px_ov_same _ v9) ?_
  refine y_eq_t (tgt := 1092) dL_law_525 (by decide) rfl ?_
  exact y_widen (by omega) (by omega) K
/-- end -/
def px_op12 (T : Nat) (st : px_S) (ag : px_ag) (T2 : Nat) (st2 : px_S) : Prop := T2 = T ∧ ∃ (v : Int32) (s1 : px_S), (f_X5_end (T + 2) (ag 1) (ag 2) st = some (v, s1)) ∧ f_X6_end T (ag 1) (ag 2) s1 = some (v, st2)
set_option maxRecDepth 20000 in
theorem y_case12 {b L : Nat} {xs : Nat → Int32} {j T T2 kc ks : Nat} {st st2 : px_S} (hj : j + 6 ≤ L) (hL : L < 2 ^ 31) (hT : px_n (T2 + 2) ≤ 900) (hop : px_op12 T st (fun k => xs (j + k)) T2 st2) (hkc : kc + 2 ≤ 600000) (hks : ks + 163 ≤ 7302249) (K : px_Y b L xs 1092 [some (.ref 4000), some (.ref 0), some (.ref 48), some (.int (nI j))] [] (HP (T2 + 2) st2) (kc + 2) (ks + 163)) : px_Y b L xs 530 [some (.ref 4000), some (.ref 0), some (.ref 48), some (.int (nI j))] [] (HP (T + 2) st) kc ks := by
  obtain ⟨rfl, v, s1, h1, h2⟩ := hop
  have hK1 := k_X5_end h1
  have hK2 := k_X6_end h2
  refine y_aload dL_law_530 rfl ?_
  refine y_aload dL_law_531 rfl ?_
  refine y_iload dL_law_532 rfl ?_
  refine y_iconst (v := 1) dL_law_533 (by decide) ?_
  refine y_iadd dL_law_534 ?_
  refine y_sld (j + 1) (by omega) hL (nI_add j 1) dL_law_535 ?_
  refine y_aload dL_law_536 rfl ?_
  refine y_iload dL_law_537 rfl ?_
  refine y_iconst (v := 2) dL_law_538 (by decide) ?_
  refine y_iadd dL_law_539 ?_
  refine y_sld (j + 2) (by omega) hL (nI_add j 2) dL_law_540 ?_
  refine y_callV (as := [.int (xs (j + 1)), .int (xs (j + 2))]) (S1 := []) (rv := some (.int v)) (h' := (HP (T2 + 2) s1)) (mc' := 0) (ms' := 0) (d' := 10) dL_law_541 mf_X5_end ml_L_65 mv_X5_end q5 rfl (hp_at (px_lt (by decide)) (c0 _)) rfl hK1 (by decide) rfl (Nat.le_of_ble_eq_true rfl) (by omega) (fun v9 _ => by simp only [hp_len]; exact px_ov_same _ v9) (fun v9 _ => by simp only [hp_len]; exact px_ov_same _ v9) ?_
  refine y_aload dL_law_544 rfl ?_
  refine y_aload dL_law_545 rfl ?_
  refine y_iload dL_law_546 rfl ?_
  refine y_iconst (v := 1) dL_law_547 (by decide) ?_
  refine y_iadd dL_law_548 ?_
  refine y_sld (j + 1) (by omega) hL (nI_add j 1) dL_law_549 ?_
  refine y_aload dL_law_550 rfl ?_
  refine y_iload dL_law_551 rfl ?_
  refine y_iconst (v := 2) dL_law_552 (by decide) ?_
  refine y_iadd dL_law_553 ?_
  refine y_sld (j + 2) (by omega) hL (nI_add j 2) dL_law_554 ?_
  refine y_callV (as := [.int (xs (j + 1)), .int (xs (j + 2))]) (S1 := [.int v]) (rv := some (.int v)) (h' := (HP (T2 + 2) st2)) (mc' := 0) (ms' := 0) (d' := 46) dL_law_555 mf_X6_end ml_L_68 mv_X6_end q6 rfl (hp_at (px_ltM (by decide)) (c48 _)) rfl hK2 (by decide) rfl (Nat.le_of_ble_eq_true rfl) (by omega) (fun v9 _ => by simp only [hp_len]; exact px_ov_same _ v9) (fun v9 _ => by simp only [hp_len]; exact px_ov_same _ v9) ?_
  refine y_eq_t (tgt := 1092) dL_law_558 (by decide) rfl ?_
  exact y_widen (by omega) (by omega) K
/-- safe -/
def px_op13 (T : Nat) (st : px_S) (ag : px_ag) (T2 : Nat) (st2 : px_S) : Prop := T2 = T ∧ ∃ (v : Int32) (s1 : px_S), (f_X5_safe (T + 2) st = some (v, s1)) ∧ f_X6_safe T s1 = some (v, st2)
set_option maxRecDepth 20000 in
theorem y_case13 {b L : Nat} {xs : Nat → Int32} {j T T2 kc ks : Nat} {st st2 : px_S} (hj : j + 6 ≤ L) (hL : L < 2 ^ 31) (hT : px_n (T2 + 2) ≤ 900) (hop : px_op13 T st (fun k => xs (j + k)) T2 st2) (hkc : kc + 2 ≤ 600000) (hks : ks + 163 ≤ 7302249) (K : px_Y b L xs 1092 [some (.ref 4000), some (.ref 0), some (.ref 48), some (.int (nI j))] [] (HP (T2 + 2) st2) (kc + 2) (ks + 163)) : px_Y b L xs 563 [some (.ref 4000), some (.ref 0), some (.ref 48), some (.int (nI j))] [] (HP (T + 2) st) kc ks := by
  obtain ⟨rfl, v, s1, h1, h2⟩ := hop
  have hK1 := k_X5_safe h1
  have hK2 := k_X6_safe h2
  refine y_aload dL_law_563 rfl ?_
  refine y_callV (as := []) (S1 := []) (rv := some (.int v)) (h' := (HP (T2 + 2) s1)) (mc' := 0) (ms' := 0) (d' := 10) dL_law_564 mf_X5_safe ml_L_69 mv_X5_safe q5 rfl (hp_at (px_lt (by decide)) (c0 _)) rfl hK1 (by decide) rfl (Nat.le_of_ble_eq_true rfl) (by omega) (fun v9 _ => by simp only [hp_len]; exact px_ov_same _ v9) (fun v9 _ => by simp only [hp_len]; exact px_ov_same _ v9) ?_
  refine y_aload dL_law_567 rfl ?_
  refine y_callV (as := []) (S1 := [.int v]) (rv := some (.int v)) (h' := (HP (T2 + 2) st2)) (mc' := 0) (ms' := 0) (d' := 45) dL_law_568 mf_X6_safe ml_L_72 mv_X6_safe q6 rfl (hp_at (px_ltM (by decide)) (c48 _)) rfl hK2 (by decide) rfl (Nat.le_of_ble_eq_true rfl) (by omega) (fun v9 _ => by simp only [hp_len]; exact px_ov_same _ v9) (fun v9 _ => by simp only [hp_len]; exact px_ov_same _ v9) ?_
  refine y_eq_t (tgt := 1092) dL_law_571 (by decide) rfl ?_
  exact y_widen (by omega) (by omega) K
/-- sworn -/
def px_op14 (T : Nat) (st : px_S) (ag : px_ag) (T2 : Nat) (st2 : px_S) : Prop := T2 = T ∧ ∃ (v : Int32) (s1 : px_S), (f_X5_sworn (T + 2) (ag 1) st = some (v, s1)) ∧ f_X6_sworn T (ag 1) s1 = some (v, st2)
set_option maxRecDepth 20000 in
theorem y_case14 {b L : Nat} {xs : Nat → Int32} {j T T2 kc ks : Nat} {st st2 : px_S} (hj : j + 6 ≤ L) (hL : L < 2 ^ 31) (hT : px_n (T2 + 2) ≤ 900) (hop : px_op14 T st (fun k => xs (j + k)) T2 st2) (hkc : kc + 2 ≤ 600000) (hks : ks + 163 ≤ 7302249) (K : px_Y b L xs 1092 [some (.ref 4000), some (.ref 0), some (.ref 48), some (.int (nI j))] [] (HP (T2 + 2) st2) (kc + 2) (ks + 163)) : px_Y b L xs 576 [some (.ref 4000), some (.ref 0), some (.ref 48), some (.int (nI j))] [] (HP (T + 2) st) kc ks := by
  obtain ⟨rfl, v, s1, h1, h2⟩ := hop
  have hK1 := k_X5_sworn h1
  have hK2 := k_X6_sworn h2
  refine y_aload dL_law_576 rfl ?_
  refine y_aload dL_law_577 rfl ?_
  refine y_iload dL_law_578 rfl ?_
  refine y_iconst (v := 1) dL_law_579 (by decide) ?_
  refine y_iadd dL_law_580 ?_
  refine y_sld (j + 1) (by omega) hL (nI_add j 1) dL_law_581 ?_
  refine y_callV (as := [.int (xs (j + 1))]) (S1 := []) (rv := some (.int v)) (h' := (HP (T2 + 2) s1)) (mc' := 0) (ms' := 0) (d' := 10) dL_law_582 mf_X5_sworn ml_L_73 mv_X5_sworn q5 rfl (hp_at (px_lt (by decide)) (c0 _)) rfl hK1 (by decide) rfl (Nat.le_of_ble_eq_true rfl) (by omega) (fun v9 _ => by simp only [hp_len]; exact px_ov_same _ v9) (fun v9 _ => by simp only [hp_len]; exact px_ov_same _ v9) ?_
  refine y_aload dL_law_585 rfl ?_
  refine y_aload dL_law_586 rfl ?_
  refine y_iload dL_law_587 rfl ?_
  refine y_iconst (v := 1) dL_law_588 (by decide) ?_
  refine y_iadd dL_law_589 ?_
  refine y_sld (j + 1) (by omega) hL (nI_add j 1) dL_law_590 ?_
  refine y_callV (as := [.int (xs (j + 1))]) (S1 := [.int v]) (rv := some (.int v)) (h' := (HP (T2 + 2) st2)) (mc' := 0) (ms' := 0) (d' := 45) dL_law_591 mf_X6_sworn ml_L_76 mv_X6_sworn q6 rfl (hp_at (px_ltM (by decide)) (c48 _)) rfl hK2 (by decide) rfl (Nat.le_of_ble_eq_true rfl) (by omega) (fun v9 _ => by simp only [hp_len]; exact px_ov_same _ v9) (fun v9 _ => by simp only [hp_len]; exact px_ov_same _ v9) ?_
  refine y_eq_t (tgt := 1092) dL_law_594 (by decide) rfl ?_
  exact y_widen (by omega) (by omega) K
/-- oaths -/
def px_op15 (T : Nat) (st : px_S) (ag : px_ag) (T2 : Nat) (st2 : px_S) : Prop := T2 = T ∧ ∃ (v : Int32) (s1 : px_S), (f_X5_oaths (T + 2) (ag 1) st = some (v, s1)) ∧ f_X6_oaths T (ag 1) s1 = some (v, st2)
set_option maxRecDepth 20000 in
theorem y_case15 {b L : Nat} {xs : Nat → Int32} {j T T2 kc ks : Nat} {st st2 : px_S} (hj : j + 6 ≤ L) (hL : L < 2 ^ 31) (hT : px_n (T2 + 2) ≤ 900) (hop : px_op15 T st (fun k => xs (j + k)) T2 st2) (hkc : kc + 2 ≤ 600000) (hks : ks + 163 ≤ 7302249) (K : px_Y b L xs 1092 [some (.ref 4000), some (.ref 0), some (.ref 48), some (.int (nI j))] [] (HP (T2 + 2) st2) (kc + 2) (ks + 163)) : px_Y b L xs 599 [some (.ref 4000), some (.ref 0), some (.ref 48), some (.int (nI j))] [] (HP (T + 2) st) kc ks := by
  obtain ⟨rfl, v, s1, h1, h2⟩ := hop
  have hK1 := k_X5_oaths h1
  have hK2 := k_X6_oaths h2
  refine y_aload dL_law_599 rfl ?_
  refine y_aload dL_law_600 rfl ?_
  refine y_iload dL_law_601 rfl ?_
  refine y_iconst (v := 1) dL_law_602 (by decide) ?_
  refine y_iadd dL_law_603 ?_
  refine y_sld (j + 1) (by omega) hL (nI_add j 1) dL_law_604 ?_
  refine y_callV (as := [.int (xs (j + 1))]) (S1 := []) (rv := some (.int v)) (h' := (HP (T2 + 2) s1)) (mc' := 0) (ms' := 0) (d' := 10) dL_law_605 mf_X5_oaths ml_L_77 mv_X5_oaths q5 rfl (hp_at (px_lt (by decide)) (c0 _)) rfl hK1 (by decide) rfl (Nat.le_of_ble_eq_true rfl) (by omega) (fun v9 _ => by simp only [hp_len]; exact px_ov_same _ v9) (fun v9 _ => by simp only [hp_len]; exact px_ov_same _ v9) ?_
  refine y_aload dL_law_608 rfl ?_
  refine y_aload dL_law_609 rfl ?_
  refine y_iload dL_law_610 rfl ?_
  refine y_iconst (v := 1) dL_law_611 (by decide) ?_
  refine y_iadd dL_law_612 ?_
  refine y_sld (j + 1) (by omega) hL (nI_add j 1) dL_law_613 ?_
  refine y_callV (as := [.int (xs (j + 1))]) (S1 := [.int v]) (rv := some (.int v)) (h' := (HP (T2 + 2) st2)) (mc' := 0) (ms' := 0) (d' := 46) dL_law_614 mf_X6_oaths ml_L_80 mv_X6_oaths q6 rfl (hp_at (px_ltM (by decide)) (c48 _)) rfl hK2 (by decide) rfl (Nat.le_of_ble_eq_true rfl) (by omega) (fun v9 _ => by simp only [hp_len]; exact px_ov_same _ v9) (fun v9 _ => by simp only [hp_len]; exact px_ov_same _ v9) ?_
  refine y_eq_t (tgt := 1092) dL_law_617 (by decide) rfl ?_
  exact y_widen (by omega) (by omega) K
/-- shield -/
def px_op16 (T : Nat) (st : px_S) (ag : px_ag) (T2 : Nat) (st2 : px_S) : Prop := T2 = T ∧ ∃ (v : Int32) (s1 : px_S), (f_X5_shield (T + 2) (ag 1) (ag 2) st = some (v, s1)) ∧ f_X6_shield T (ag 1) (ag 2) s1 = some (v, st2)
set_option maxRecDepth 20000 in
theorem y_case16 {b L : Nat} {xs : Nat → Int32} {j T T2 kc ks : Nat} {st st2 : px_S} (hj : j + 6 ≤ L) (hL : L < 2 ^ 31) (hT : px_n (T2 + 2) ≤ 900) (hop : px_op16 T st (fun k => xs (j + k)) T2 st2) (hkc : kc + 2 ≤ 600000) (hks : ks + 163 ≤ 7302249) (K : px_Y b L xs 1092 [some (.ref 4000), some (.ref 0), some (.ref 48), some (.int (nI j))] [] (HP (T2 + 2) st2) (kc + 2) (ks + 163)) : px_Y b L xs 622 [some (.ref 4000), some (.ref 0), some (.ref 48), some (.int (nI j))] [] (HP (T + 2) st) kc ks := by
  obtain ⟨rfl, v, s1, h1, h2⟩ := hop
  have hK1 := k_X5_shield h1
  have hK2 := k_X6_shield h2
  refine y_aload dL_law_622 rfl ?_
  refine y_aload dL_law_623 rfl ?_
  refine y_iload dL_law_624 rfl ?_
  refine y_iconst (v := 1) dL_law_625 (by decide) ?_
  refine y_iadd dL_law_626 ?_
  refine y_sld (j + 1) (by omega) hL (nI_add j 1) dL_law_627 ?_
  refine y_aload dL_law_628 rfl ?_
  refine y_iload dL_law_629 rfl ?_
  refine y_iconst (v := 2) dL_law_630 (by decide) ?_
  refine y_iadd dL_law_631 ?_
  refine y_sld (j + 2) (by omega) hL (nI_add j 2) dL_law_632 ?_
  refine y_callV (as := [.int (xs (j + 1)), .int (xs (j + 2))]) (S1 := []) (rv := some (.int v)) (h' := (HP (T2 + 2) s1)) (mc' := 0) (ms' := 0) (d' := 9) dL_law_633 mf_X5_shield ml_L_81 mv_X5_shield q5 rfl (hp_at (px_lt (by decide)) (c0 _)) rfl hK1 (by decide) rfl (Nat.le_of_ble_eq_true rfl) (by omega) (fun v9 _ => by simp only [hp_len]; exact px_ov_same _ v9) (fun v9 _ => by simp only [hp_len]; exact px_ov_same _ v9) ?_
  refine y_aload dL_law_636 rfl ?_
  refine y_aload dL_law_637 rfl ?_
  refine y_iload dL_law_638 rfl ?_
  refine y_iconst (v := 1) dL_law_639 (by decide) ?_
  refine y_iadd dL_law_640 ?_
  refine y_sld (j + 1) (by omega) hL (nI_add j 1) dL_law_641 ?_
  refine y_aload dL_law_642 rfl ?_
  refine y_iload dL_law_643 rfl ?_
  refine y_iconst (v := 2) dL_law_644 (by decide) ?_
  refine y_iadd dL_law_645 ?_
  refine y_sld (j + 2) (by omega) hL (nI_add j 2) dL_law_646 ?_
  refine y_callV (as := [.int (xs (j + 1)), .int (xs (j + 2))]) (S1 := [.int v]) (rv := some (.int v)) (h' := (HP (T2 + 2) st2)) (mc' := 0) (ms' := 0) (d' := 45) dL_law_647 mf_X6_shield ml_L_84 mv_X6_shield q6 rfl (hp_at (px_ltM (by decide)) (c48 _)) rfl hK2 (by decide) rfl (Nat.le_of_ble_eq_true rfl) (by omega) (fun v9 _ => by simp only [hp_len]; exact px_ov_same _ v9) (fun v9 _ => by simp only [hp_len]; exact px_ov_same _ v9) ?_
  refine y_eq_t (tgt := 1092) dL_law_650 (by decide) rfl ?_
  exact y_widen (by omega) (by omega) K
/-- holds -/
def px_op17 (T : Nat) (st : px_S) (ag : px_ag) (T2 : Nat) (st2 : px_S) : Prop := T2 = T ∧ ∃ (v : Int32) (s1 : px_S), (f_X5_holds (T + 2) (ag 1) st = some (v, s1)) ∧ f_X6_holds T (ag 1) s1 = some (v, st2)
set_option maxRecDepth 20000 in
theorem y_case17 {b L : Nat} {xs : Nat → Int32} {j T T2 kc ks : Nat} {st st2 : px_S} (hj : j + 6 ≤ L) (hL : L < 2 ^ 31) (hT : px_n (T2 + 2) ≤ 900) (hop : px_op17 T st (fun k => xs (j + k)) T2 st2) (hkc : kc + 2 ≤ 600000) (hks : ks + 163 ≤ 7302249) (K : px_Y b L xs 1092 [some (.ref 4000), some (.ref 0), some (.ref 48), some (.int (nI j))] [] (HP (T2 + 2) st2) (kc + 2) (ks + 163)) : px_Y b L xs 655 [some (.ref 4000), some (.ref 0), some (.ref 48), some (.int (nI j))] [] (HP (T + 2) st) kc ks := by
  obtain ⟨rfl, v, s1, h1, h2⟩ := hop
  have hK1 := k_X5_holds h1
  have hK2 := k_X6_holds h2
  refine y_aload dL_law_655 rfl ?_
  refine y_aload dL_law_656 rfl ?_
  refine y_iload dL_law_657 rfl ?_
  refine y_iconst (v := 1) dL_law_658 (by decide) ?_
  refine y_iadd dL_law_659 ?_
  refine y_sld (j + 1) (by omega) hL (nI_add j 1) dL_law_660 ?_
  refine y_callV (as := [.int (xs (j + 1))]) (S1 := []) (rv := some (.int v)) (h' := (HP (T2 + 2) s1)) (mc' := 0) (ms' := 0) (d' := 10) dL_law_661 mf_X5_holds ml_L_85 mv_X5_holds q5 rfl (hp_at (px_lt (by decide)) (c0 _)) rfl hK1 (by decide) rfl (Nat.le_of_ble_eq_true rfl) (by omega) (fun v9 _ => by simp only [hp_len]; exact px_ov_same _ v9) (fun v9 _ => by simp only [hp_len]; exact px_ov_same _ v9) ?_
  refine y_aload dL_law_664 rfl ?_
  refine y_aload dL_law_665 rfl ?_
  refine y_iload dL_law_666 rfl ?_
  refine y_iconst (v := 1) dL_law_667 (by decide) ?_
  refine y_iadd dL_law_668 ?_
  refine y_sld (j + 1) (by omega) hL (nI_add j 1) dL_law_669 ?_
  refine y_callV (as := [.int (xs (j + 1))]) (S1 := [.int v]) (rv := some (.int v)) (h' := (HP (T2 + 2) st2)) (mc' := 0) (ms' := 0) (d' := 45) dL_law_670 mf_X6_holds ml_L_88 mv_X6_holds q6 rfl (hp_at (px_ltM (by decide)) (c48 _)) rfl hK2 (by decide) rfl (Nat.le_of_ble_eq_true rfl) (by omega) (fun v9 _ => by simp only [hp_len]; exact px_ov_same _ v9) (fun v9 _ => by simp only [hp_len]; exact px_ov_same _ v9) ?_
  refine y_eq_t (tgt := 1092) dL_law_673 (by decide) rfl ?_
  exact y_widen (by omega) (by omega) K
/-- who -/
def px_op18 (T : Nat) (st : px_S) (ag : px_ag) (T2 : Nat) (st2 : px_S) : Prop := T2 = T ∧ ∃ (v : Int32) (s1 : px_S), (f_X5_who (T + 2) (ag 1) (ag 2) st = some (v, s1)) ∧ f_X6_who T (ag 1) (ag 2) s1 = some (v, st2)
set_option maxRecDepth 20000 in
theorem y_case18 {b L : Nat} {xs : Nat → Int32} {j T T2 kc ks : Nat} {st st2 : px_S} (hj : j + 6 ≤ L) (hL : L < 2 ^ 31) (hT : px_n (T2 + 2) ≤ 900) (hop : px_op18 T st (fun k => xs (j + k)) T2 st2) (hkc : kc + 2 ≤ 600000) (hks : ks + 163 ≤ 7302249) (K : px_Y b L xs 1092 [some (.ref 4000), some (.ref 0), some (.ref 48), some (.int (nI j))] [] (HP (T2 + 2) st2) (kc + 2) (ks + 163)) : px_Y b L xs 678 [some (.ref 4000), some (.ref 0), some (.ref 48), some (.int (nI j))] [] (HP (T + 2) st) kc ks := by
  obtain ⟨rfl, v, s1, h1, h2⟩ := hop
  have hK1 := k_X5_who h1
  have hK2 := k_X6_who h2
  refine y_aload dL_law_678 rfl ?_
  refine y_aload dL_law_679 rfl ?_
  refine y_iload dL_law_680 rfl ?_
  refine y_iconst (v := 1) dL_law_681 (by decide) ?_
  refine y_iadd dL_law_682 ?_
  refine y_sld (j + 1) (by omega) hL (nI_add j 1) dL_law_683 ?_
  refine y_aload dL_law_684 rfl ?_
  refine y_iload dL_law_685 rfl ?_
  refine y_iconst (v := 2) dL_law_686 (by decide) ?_
  refine y_iadd dL_law_687 ?_
  refine y_sld (j + 2) (by omega) hL (nI_add j 2) dL_law_688 ?_
  refine y_callV (as := [.int (xs (j + 1)), .int (xs (j + 2))]) (S1 := []) (rv := some (.int v)) (h' := (HP (T2 + 2) s1)) (mc' := 0) (ms' := 0) (d' := 10) dL_law_689 mf_X5_who ml_L_89 mv_X5_who q5 rfl (hp_at (px_lt (by decide)) (c0 _)) rfl hK1 (by decide) rfl (Nat.le_of_ble_eq_true rfl) (by omega) (fun v9 _ => by simp only [hp_len]; exact px_ov_same _ v9) (fun v9 _ => by simp only [hp_len]; exact px_ov_same _ v9) ?_
  refine y_aload dL_law_692 rfl ?_
  refine y_aload dL_law_693 rfl ?_
  refine y_iload dL_law_694 rfl ?_
  refine y_iconst (v := 1) dL_law_695 (by decide) ?_
  refine y_iadd dL_law_696 ?_
  refine y_sld (j + 1) (by omega) hL (nI_add j 1) dL_law_697 ?_
  refine y_aload dL_law_698 rfl ?_
  refine y_iload dL_law_699 rfl ?_
  refine y_iconst (v := 2) dL_law_700 (by decide) ?_
  refine y_iadd dL_law_701 ?_
  refine y_sld (j + 2) (by omega) hL (nI_add j 2) dL_law_702 ?_
  refine y_callV (as := [.int (xs (j + 1)), .int (xs (j + 2))]) (S1 := [.int v]) (rv := some (.int v)) (h' := (HP (T2 + 2) st2)) (mc' := 0) (ms' := 0) (d' := 45) dL_law_703 mf_X6_who ml_L_92 mv_X6_who q6 rfl (hp_at (px_ltM (by decide)) (c48 _)) rfl hK2 (by decide) rfl (Nat.le_of_ble_eq_true rfl) (by omega) (fun v9 _ => by simp only [hp_len]; exact px_ov_same _ v9) (fun v9 _ => by simp only [hp_len]; exact px_ov_same _ v9) ?_
  refine y_eq_t (tgt := 1092) dL_law_706 (by decide) rfl ?_
  exact y_widen (by omega) (by omega) K
/-- drawn -/
def px_op19 (T : Nat) (st : px_S) (ag : px_ag) (T2 : Nat) (st2 : px_S) : Prop := T2 = T ∧ ∃ (v : Int32) (s1 : px_S), (f_X5_drawn (T + 2) (ag 1) (ag 2) st = some (v, s1)) ∧ f_X6_drawn T (ag 1) (ag 2) s1 = some (v, st2)
set_option maxRecDepth 20000 in
theorem y_case19 {b L : Nat} {xs : Nat → Int32} {j T T2 kc ks : Nat} {st st2 : px_S} (hj : j + 6 ≤ L) (hL : L < 2 ^ 31) (hT : px_n (T2 + 2) ≤ 900) (hop : px_op19 T st (fun k => xs (j + k)) T2 st2) (hkc : kc + 2 ≤ 600000) (hks : ks + 163 ≤ 7302249) (K : px_Y b L xs 1092 [some (.ref 4000), some (.ref 0), some (.ref 48), some (.int (nI j))] [] (HP (T2 + 2) st2) (kc + 2) (ks + 163)) : px_Y b L xs 711 [some (.ref 4000), some (.ref 0), some (.ref 48), some (.int (nI j))] [] (HP (T + 2) st) kc ks := by
  obtain ⟨rfl, v, s1, h1, h2⟩ := hop
  have hK1 := k_X5_drawn h1
  have hK2 := k_X6_drawn h2
  refine y_aload dL_law_711 rfl ?_
  refine y_aload dL_law_712 rfl ?_
  refine y_iload dL_law_713 rfl ?_
  refine y_iconst (v := 1) dL_law_714 (by decide) ?_
  refine y_iadd dL_law_715 ?_
  refine y_sld (j + 1) (by omega) hL (nI_add j 1) dL_law_716 ?_
  refine y_aload dL_law_717 rfl ?_
  refine y_iload dL_law_718 rfl ?_
  refine y_iconst (v := 2) dL_law_719 (by decide) ?_
  refine y_iadd dL_law_720 ?_
  refine y_sld (j + 2) (by omega) hL (nI_add j 2) dL_law_721 ?_
  refine y_callV (as := [.int (xs (j + 1)), .int (xs (j + 2))]) (S1 := []) (rv := some (.int v)) (h' := (HP (T2 + 2) s1)) (mc' := 0) (ms' := 0) (d' := 10) dL_law_722 mf_X5_drawn ml_L_93 mv_X5_drawn q5 rfl (hp_at (px_lt (by decide)) (c0 _)) rfl hK1 (by decide) rfl (Nat.le_of_ble_eq_true rfl) (by omega) (fun v9 _ => by simp only [hp_len]; exact px_ov_same _ v9) (fun v9 _ => by simp only [hp_len]; exact px_ov_same _ v9) ?_
  refine y_aload dL_law_725 rfl ?_
  refine y_aload dL_law_726 rfl ?_
  refine y_iload dL_law_727 rfl ?_
  refine y_iconst (v := 1) dL_law_728 (by decide) ?_
  refine y_iadd dL_law_729 ?_
  refine y_sld (j + 1) (by omega) hL (nI_add j 1) dL_law_730 ?_
  refine y_aload dL_law_731 rfl ?_
  refine y_iload dL_law_732 rfl ?_
  refine y_iconst (v := 2) dL_law_733 (by decide) ?_
  refine y_iadd dL_law_734 ?_
  refine y_sld (j + 2) (by omega) hL (nI_add j 2) dL_law_735 ?_
  refine y_callV (as := [.int (xs (j + 1)), .int (xs (j + 2))]) (S1 := [.int v]) (rv := some (.int v)) (h' := (HP (T2 + 2) st2)) (mc' := 0) (ms' := 0) (d' := 47) dL_law_736 mf_X6_drawn ml_L_96 mv_X6_drawn q6 rfl (hp_at (px_ltM (by decide)) (c48 _)) rfl hK2 (by decide) rfl (Nat.le_of_ble_eq_true rfl) (by omega) (fun v9 _ => by simp only [hp_len]; exact px_ov_same _ v9) (fun v9 _ => by simp only [hp_len]; exact px_ov_same _ v9) ?_
  refine y_eq_t (tgt := 1092) dL_law_739 (by decide) rfl ?_
  exact y_widen (by omega) (by omega) K
/-- chance -/
def px_op20 (T : Nat) (st : px_S) (ag : px_ag) (T2 : Nat) (st2 : px_S) : Prop := T2 = T ∧ ∃ (v : Int64) (s1 : px_S), (f_X5_chance (T + 2) (ag 1) (ag 2) (ag 3) (ag 4) (ag 5) st = some (v, s1)) ∧ f_X6_chance T (ag 1) (ag 2) (ag 3) (ag 4) (ag 5) s1 = some (v, st2)
set_option maxRecDepth 20000 in
theorem y_case20 {b L : Nat} {xs : Nat → Int32} {j T T2 kc ks : Nat} {st st2 : px_S} (hj : j + 6 ≤ L) (hL : L < 2 ^ 31) (hT : px_n (T2 + 2) ≤ 900) (hop : px_op20 T st (fun k => xs (j + k)) T2 st2) (hkc : kc + 2 ≤ 600000) (hks : ks + 163 ≤ 7302249) (K : px_Y b L xs 1092 [some (.ref 4000), some (.ref 0), some (.ref 48), some (.int (nI j))] [] (HP (T2 + 2) st2) (kc + 2) (ks + 163)) : px_Y b L xs 744 [some (.ref 4000), some (.ref 0), some (.ref 48), some (.int (nI j))] [] (HP (T + 2) st) kc ks := by
  obtain ⟨rfl, v, s1, h1, h2⟩ := hop
  have hK1 := k_X5_chance h1
  have hK2 := k_X6_chance h2
  refine y_aload dL_law_744 rfl ?_
  refine y_aload dL_law_745 rfl ?_
  refine y_iload dL_law_746 rfl ?_
  refine y_iconst (v := 1) dL_law_747 (by decide) ?_
  refine y_iadd dL_law_748 ?_
  refine y_sld (j + 1) (by omega) hL (nI_add j 1) dL_law_749 ?_
  refine y_aload dL_law_750 rfl ?_
  refine y_iload dL_law_751 rfl ?_
  refine y_iconst (v := 2) dL_law_752 (by decide) ?_
  refine y_iadd dL_law_753 ?_
  refine y_sld (j + 2) (by omega) hL (nI_add j 2) dL_law_754 ?_
  refine y_aload dL_law_755 rfl ?_
  refine y_iload dL_law_756 rfl ?_
  refine y_iconst (v := 3) dL_law_757 (by decide) ?_
  refine y_iadd dL_law_758 ?_
  refine y_sld (j + 3) (by omega) hL (nI_add j 3) dL_law_759 ?_
  refine y_aload dL_law_760 rfl ?_
  refine y_iload dL_law_761 rfl ?_
  refine y_iconst (v := 4) dL_law_762 (by decide) ?_
  refine y_iadd dL_law_763 ?_
  refine y_sld (j + 4) (by omega) hL (nI_add j 4) dL_law_764 ?_
  refine y_aload dL_law_765 rfl ?_
  refine y_iload dL_law_766 rfl ?_
  refine y_iconst (v := 5) dL_law_767 (by decide) ?_
  refine y_iadd dL_law_768 ?_
  refine y_sld (j + 5) (by omega) hL (nI_add j 5) dL_law_769 ?_
  refine y_callV (as := [.int (xs (j + 1)), .int (xs (j + 2)), .int (xs (j + 3)), .int (xs (j + 4)), .int (xs (j + 5))]) (S1 := []) (rv := some (.long v)) (h' := (HP (T2 + 2) s1)) (mc' := 0) (ms' := 0) (d' := 10) dL_law_770 mf_X5_chance ml_L_97 mv_X5_chance q5 rfl (hp_at (px_lt (by decide)) (c0 _)) rfl hK1 (by decide) rfl (Nat.le_of_ble_eq_true rfl) (by omega) (fun v9 _ => by simp only [hp_len]; exact px_ov_same _ v9) (fun v9 _ => by simp only [hp_len]; exact px_ov_same _ v9) ?_
  refine y_aload dL_law_773 rfl ?_
  refine y_aload dL_law_774 rfl ?_
  refine y_iload dL_law_775 rfl ?_
  refine y_iconst (v := 1) dL_law_776 (by decide) ?_
  refine y_iadd dL_law_777 ?_
  refine y_sld (j + 1) (by omega) hL (nI_add j 1) dL_law_778 ?_
  refine y_aload dL_law_779 rfl ?_
  refine y_iload dL_law_780 rfl ?_
  refine y_iconst (v := 2) dL_law_781 (by decide) ?_
  refine y_iadd dL_law_782 ?_
  refine y_sld (j + 2) (by omega) hL (nI_add j 2) dL_law_783 ?_
  refine y_aload dL_law_784 rfl ?_
  refine y_iload dL_law_785 rfl ?_
  refine y_iconst (v := 3) dL_law_786 (by decide) ?_
  refine y_iadd dL_law_787 ?_
  refine y_sld (j + 3) (by omega) hL (nI_add j 3) dL_law_788 ?_
  refine y_aload dL_law_789 rfl ?_
  refine y_iload dL_law_790 rfl ?_
  refine y_iconst (v := 4) dL_law_791 (by decide) ?_
  refine y_iadd dL_law_792 ?_
  refine y_sld (j + 4) (by omega) hL (nI_add j 4) dL_law_793 ?_
  refine y_aload dL_law_794 rfl ?_
  refine y_iload dL_law_795 rfl ?_
  refine y_iconst (v := 5) dL_law_796 (by decide) ?_
  refine y_iadd dL_law_797 ?_
  refine y_sld (j + 5) (by omega) hL (nI_add j 5) dL_law_798 ?_
  refine y_callV (as := [.int (xs (j + 1)), .int (xs (j + 2)), .int (xs (j + 3)), .int (xs (j + 4)), .int (xs (j + 5))]) (S1 := [.long v]) (rv := some (.long v)) (h' := (HP (T2 + 2) st2)) (mc' := 0) (ms' := 0) (d' := 47) dL_law_799 mf_X6_chance ml_L_101 mv_X6_chance q6 rfl (hp_at (px_ltM (by decide)) (c48 _)) rfl hK2 (by decide) rfl (Nat.le_of_ble_eq_true rfl) (by omega) (fun v9 _ => by simp only [hp_len]; exact px_ov_same _ v9) (fun v9 _ => by simp only [hp_len]; exact px_ov_same _ v9) ?_
  refine y_lcmp dL_law_802 ?_
  refine y_ifeq_t (tgt := 1092) dL_law_803 (by decide) (by simp [lg_cmp]) ?_
  exact y_widen (by omega) (by omega) K
/-- image -/
def px_op21 (T : Nat) (st : px_S) (ag : px_ag) (T2 : Nat) (st2 : px_S) : Prop := T2 = T ∧ ∃ (v : Int32) (s1 : px_S), (f_X5_image (T + 2) st = some (v, s1)) ∧ f_X6_image T s1 = some (v, st2)
set_option maxRecDepth 20000 in
theorem y_case21 {b L : Nat} {xs : Nat → Int32} {j T T2 kc ks : Nat} {st st2 : px_S} (hj : j + 6 ≤ L) (hL : L < 2 ^ 31) (hT : px_n (T2 + 2) ≤ 900) (hop : px_op21 T st (fun k => xs (j + k)) T2 st2) (hkc : kc + 2 ≤ 600000) (hks : ks + 163 ≤ 7302249) (K : px_Y b L xs 1092 [some (.ref 4000), some (.ref 0), some (.ref 48), some (.int (nI j))] [] (HP (T2 + 2) st2) (kc + 2) (ks + 163)) : px_Y b L xs 808 [some (.ref 4000), some (.ref 0), some (.ref 48), some (.int (nI j))] [] (HP (T + 2) st) kc ks := by
  obtain ⟨rfl, v, s1, h1, h2⟩ := hop
  have hK1 := k_X5_image h1
  have hK2 := k_X6_image h2
  refine y_aload dL_law_808 rfl ?_
  refine y_callV (as := []) (S1 := []) (rv := some (.int v)) (h' := (HP (T2 + 2) s1)) (mc' := 0) (ms' := 0) (d' := 2) dL_law_809 mf_X5_image ml_L_102 mv_X5_image q5 rfl (hp_at (px_lt (by decide)) (c0 _)) rfl hK1 (by decide) rfl (Nat.le_of_ble_eq_true rfl) (by omega) (fun v9 _ => by simp only [hp_len]; exact px_ov_same _ v9) (fun v9 _ => by simp only [hp_len]; exact px_ov_same _ v9) ?_
  refine y_aload dL_law_812 rfl ?_
  refine y_callV (as := []) (S1 := [.int v]) (rv := some (.int v)) (h' := (HP (T2 + 2) st2)) (mc' := 0) (ms' := 0) (d' := 0) dL_law_813 mf_X6_image ml_L_105 mv_X6_image q6 rfl (hp_at (px_ltM (by decide)) (c48 _)) rfl hK2 (by decide) rfl (Nat.le_of_ble_eq_true rfl) (by omega) (fun v9 _ => by simp only [hp_len]; exact px_ov_same _ v9) (fun v9 _ => by simp only [hp_len]; exact px_ov_same _ v9) ?_
  refine y_eq_t (tgt := 1092) dL_law_816 (by decide) rfl ?_
  exact y_widen (by omega) (by omega) K
/-- back -/
def px_op22 (T : Nat) (st : px_S) (ag : px_ag) (T2 : Nat) (st2 : px_S) : Prop := T2 = T ∧ ∃ (v : Int32) (s1 : px_S), (f_X5_back (T + 2) st = some (v, s1)) ∧ f_X6_back T s1 = some (v, st2)
set_option maxRecDepth 20000 in
theorem y_case22 {b L : Nat} {xs : Nat → Int32} {j T T2 kc ks : Nat} {st st2 : px_S} (hj : j + 6 ≤ L) (hL : L < 2 ^ 31) (hT : px_n (T2 + 2) ≤ 900) (hop : px_op22 T st (fun k => xs (j + k)) T2 st2) (hkc : kc + 2 ≤ 600000) (hks : ks + 163 ≤ 7302249) (K : px_Y b L xs 1092 [some (.ref 4000), some (.ref 0), some (.ref 48), some (.int (nI j))] [] (HP (T2 + 2) st2) (kc + 2) (ks + 163)) : px_Y b L xs 821 [some (.ref 4000), some (.ref 0), some (.ref 48), some (.int (nI j))] [] (HP (T + 2) st) kc ks := by
  obtain ⟨rfl, v, s1, h1, h2⟩ := hop
  have hK1 := k_X5_back h1
  have hK2 := k_X6_back h2
  refine y_aload dL_law_821 rfl ?_
  refine y_callV (as := []) (S1 := []) (rv := some (.int v)) (h' := (HP (T2 + 2) s1)) (mc' := 0) (ms' := 0) (d' := 2) dL_law_822 mf_X5_back ml_L_106 mv_X5_back q5 rfl (hp_at (px_lt (by decide)) (c0 _)) rfl hK1 (by decide) rfl (Nat.le_of_ble_eq_true rfl) (by omega) (fun v9 _ => by simp only [hp_len]; exact px_ov_same _ v9) (fun v9 _ => by simp only [hp_len]; exact px_ov_same _ v9) ?_
  refine y_aload dL_law_825 rfl ?_
  refine y_callV (as := []) (S1 := [.int v]) (rv := some (.int v)) (h' := (HP (T2 + 2) st2)) (mc' := 0) (ms' := 0) (d' := 0) dL_law_826 mf_X6_back ml_L_109 mv_X6_back q6 rfl (hp_at (px_ltM (by decide)) (c48 _)) rfl hK2 (by decide) rfl (Nat.le_of_ble_eq_true rfl) (by omega) (fun v9 _ => by simp only [hp_len]; exact px_ov_same _ v9) (fun v9 _ => by simp only [hp_len]; exact px_ov_same _ v9) ?_
  refine y_eq_t (tgt := 1092) dL_law_829 (by decide) rfl ?_
  exact y_widen (by omega) (by omega) K
/-- count -/
def px_op23 (T : Nat) (st : px_S) (ag : px_ag) (T2 : Nat) (st2 : px_S) : Prop := T2 = T ∧ ∃ (v : Int32) (s1 : px_S), (f_X5_count (T + 2) st (ag 1) = some v ∧ s1 = st) ∧ f_X6_count T s1 (ag 1) = some v ∧ st2 = s1
set_option maxRecDepth 20000 in
theorem y_case23 {b L : Nat} {xs : Nat → Int32} {j T T2 kc ks : Nat} {st st2 : px_S} (hj : j + 6 ≤ L) (hL : L < 2 ^ 31) (hT : px_n (T2 + 2) ≤ 900) (hop : px_op23 T st (fun k => xs (j + k)) T2 st2) (hkc : kc + 2 ≤ 600000) (hks : ks + 163 ≤ 7302249) (K : px_Y b L xs 1092 [some (.ref 4000), some (.ref 0), some (.ref 48), some (.int (nI j))] [] (HP (T2 + 2) st2) (kc + 2) (ks + 163)) : px_Y b L xs 834 [some (.ref 4000), some (.ref 0), some (.ref 48), some (.int (nI j))] [] (HP (T + 2) st) kc ks := by
  obtain ⟨rfl, v, s1, h1, h2⟩ := hop
  obtain ⟨h1, e1⟩ := h1
  obtain ⟨h2, e2⟩ := h2
  rw [e1] at h2
  rw [e2] at K
  rw [e1] at K
  have hK1 := k_X5_count h1
  have hK2 := k_X6_count h2
  refine y_aload dL_law_834 rfl ?_
  refine y_aload dL_law_835 rfl ?_
  refine y_iload dL_law_836 rfl ?_
  refine y_iconst (v := 1) dL_law_837 (by decide) ?_
  refine y_iadd dL_law_838 ?_
  refine y_sld (j + 1) (by omega) hL (nI_add j 1) dL_law_839 ?_
  refine y_callV (as := [.int (xs (j + 1))]) (S1 := []) (rv := some (.int v)) (h' := (HP (T2 + 2) st)) (mc' := 0) (ms' := 0) (d' := 2) dL_law_840 mf_X5_count ml_L_110 mv_X5_count q5 rfl (hp_at (px_lt (by decide)) (c0 _)) rfl hK1 (by decide) rfl (Nat.le_of_ble_eq_true rfl) (by omega) (fun v9 _ => by simp only [hp_len]; exact px_ov_same _ v9) (fun v9 _ => by simp only [hp_len]; exact px_ov_same _ v9) ?_
  refine y_aload dL_law_843 rfl ?_
  refine y_aload dL_law_844 rfl ?_
  refine y_iload dL_law_845 rfl ?_
  refine y_iconst (v := 1) dL_law_846 (by decide) ?_
  refine y_iadd dL_law_847 ?_
  refine y_sld (j + 1) (by omega) hL (nI_add j 1) dL_law_848 ?_
  refine y_callV (as := [.int (xs (j + 1))]) (S1 := [.int v]) (rv := some (.int v)) (h' := (HP (T2 + 2) st)) (mc' := 0) (ms' := 0) (d' := 1) dL_law_849 mf_X6_count ml_L_113 mv_X6_count q6 rfl (hp_at (px_ltM (by decide)) (c48 _)) rfl hK2 (by decide) rfl (Nat.le_of_ble_eq_true rfl) (by omega) (fun v9 _ => by simp only [hp_len]; exact px_ov_same _ v9) (fun v9 _ => by simp only [hp_len]; exact px_ov_same _ v9) ?_
  refine y_eq_t (tgt := 1092) dL_law_852 (by decide) rfl ?_
  exact y_widen (by omega) (by omega) K
/-- sheet -/
def px_op24 (T : Nat) (st : px_S) (ag : px_ag) (T2 : Nat) (st2 : px_S) : Prop := T2 = T ∧ ∃ (v : Int32) (s1 : px_S), (f_X5_sheet (T + 2) (ag 1) (ag 2) (ag 3) st = some (v, s1)) ∧ f_X6_sheet T (ag 1) (ag 2) (ag 3) s1 = some (v, st2)
set_option maxRecDepth 20000 in
theorem y_case24 {b L : Nat} {xs : Nat → Int32} {j T T2 kc ks : Nat} {st st2 : px_S} (hj : j + 6 ≤ L) (hL : L < 2 ^ 31) (hT : px_n (T2 + 2) ≤ 900) (hop : px_op24 T st (fun k => xs (j + k)) T2 st2) (hkc : kc + 2 ≤ 600000) (hks : ks + 163 ≤ 7302249) (K : px_Y b L xs 1092 [some (.ref 4000), some (.ref 0), some (.ref 48), some (.int (nI j))] [] (HP (T2 + 2) st2) (kc + 2) (ks + 163)) : px_Y b L xs 857 [some (.ref 4000), some (.ref 0), some (.ref 48), some (.int (nI j))] [] (HP (T + 2) st) kc ks := by
  obtain ⟨rfl, v, s1, h1, h2⟩ := hop
  have hK1 := k_X5_sheet h1
  have hK2 := k_X6_sheet h2
  refine y_aload dL_law_857 rfl ?_
  refine y_aload dL_law_858 rfl ?_
  refine y_iload dL_law_859 rfl ?_
  refine y_iconst (v := 1) dL_law_860 (by decide) ?_
  refine y_iadd dL_law_861 ?_
  refine y_sld (j + 1) (by omega) hL (nI_add j 1) dL_law_862 ?_
  refine y_aload dL_law_863 rfl ?_
  refine y_iload dL_law_864 rfl ?_
  refine y_iconst (v := 2) dL_law_865 (by decide) ?_
  refine y_iadd dL_law_866 ?_
  refine y_sld (j + 2) (by omega) hL (nI_add j 2) dL_law_867 ?_
  refine y_aload dL_law_868 rfl ?_
  refine y_iload dL_law_869 rfl ?_
  refine y_iconst (v := 3) dL_law_870 (by decide) ?_
  refine y_iadd dL_law_871 ?_
  refine y_sld (j + 3) (by omega) hL (nI_add j 3) dL_law_872 ?_
  refine y_callV (as := [.int (xs (j + 1)), .int (xs (j + 2)), .int (xs (j + 3))]) (S1 := []) (rv := some (.int v)) (h' := (HP (T2 + 2) s1)) (mc' := 0) (ms' := 0) (d' := 2) dL_law_873 mf_X5_sheet ml_L_114 mv_X5_sheet q5 rfl (hp_at (px_lt (by decide)) (c0 _)) rfl hK1 (by decide) rfl (Nat.le_of_ble_eq_true rfl) (by omega) (fun v9 _ => by simp only [hp_len]; exact px_ov_same _ v9) (fun v9 _ => by simp only [hp_len]; exact px_ov_same _ v9) ?_
  refine y_aload dL_law_876 rfl ?_
  refine y_aload dL_law_877 rfl ?_
  refine y_iload dL_law_878 rfl ?_
  refine y_iconst (v := 1) dL_law_879 (by decide) ?_
  refine y_iadd dL_law_880 ?_
  refine y_sld (j + 1) (by omega) hL (nI_add j 1) dL_law_881 ?_
  refine y_aload dL_law_882 rfl ?_
  refine y_iload dL_law_883 rfl ?_
  refine y_iconst (v := 2) dL_law_884 (by decide) ?_
  refine y_iadd dL_law_885 ?_
  refine y_sld (j + 2) (by omega) hL (nI_add j 2) dL_law_886 ?_
  refine y_aload dL_law_887 rfl ?_
  refine y_iload dL_law_888 rfl ?_
  refine y_iconst (v := 3) dL_law_889 (by decide) ?_
  refine y_iadd dL_law_890 ?_
  refine y_sld (j + 3) (by omega) hL (nI_add j 3) dL_law_891 ?_
  refine y_callV (as := [.int (xs (j + 1)), .int (xs (j + 2)), .int (xs (j + 3))]) (S1 := [.int v]) (rv := some (.int v)) (h' := (HP (T2 + 2) st2)) (mc' := 0) (ms' := 0) (d' := 2) dL_law_892 mf_X6_sheet ml_L_117 mv_X6_sheet q6 rfl (hp_at (px_ltM (by decide)) (c48 _)) rfl hK2 (by decide) rfl (Nat.le_of_ble_eq_true rfl) (by omega) (fun v9 _ => by simp only [hp_len]; exact px_ov_same _ v9) (fun v9 _ => by simp only [hp_len]; exact px_ov_same _ v9) ?_
  refine y_eq_t (tgt := 1092) dL_law_895 (by decide) rfl ?_
  exact y_widen (by omega) (by omega) K
/-- cell -/
def px_op25 (T : Nat) (st : px_S) (ag : px_ag) (T2 : Nat) (st2 : px_S) : Prop := T2 = T ∧ ∃ (v : Int32) (s1 : px_S), (f_X5_cell (T + 2) (ag 1) (ag 2) (ag 3) st = some (v, s1)) ∧ f_X6_cell T (ag 1) (ag 2) (ag 3) s1 = some (v, st2)
set_option maxRecDepth 20000 in
theorem y_case25 {b L : Nat} {xs : Nat → Int32} {j T T2 kc ks : Nat} {st st2 : px_S} (hj : j + 6 ≤ L) (hL : L < 2 ^ 31) (hT : px_n (T2 + 2) ≤ 900) (hop : px_op25 T st (fun k => xs (j + k)) T2 st2) (hkc : kc + 2 ≤ 600000) (hks : ks + 163 ≤ 7302249) (K : px_Y b L xs 1092 [some (.ref 4000), some (.ref 0), some (.ref 48), some (.int (nI j))] [] (HP (T2 + 2) st2) (kc + 2) (ks + 163)) : px_Y b L xs 900 [some (.ref 4000), some (.ref 0), some (.ref 48), some (.int (nI j))] [] (HP (T + 2) st) kc ks := by
  obtain ⟨rfl, v, s1, h1, h2⟩ := hop
  have hK1 := k_X5_cell h1
  have hK2 := k_X6_cell h2
  refine y_aload dL_law_900 rfl ?_
  refine y_aload dL_law_901 rfl ?_
  refine y_iload dL_law_902 rfl ?_
  refine y_iconst (v := 1) dL_law_903 (by decide) ?_
  refine y_iadd dL_law_904 ?_
  refine y_sld (j + 1) (by omega) hL (nI_add j 1) dL_law_905 ?_
  refine y_aload dL_law_906 rfl ?_
  refine y_iload dL_law_907 rfl ?_
  refine y_iconst (v := 2) dL_law_908 (by decide) ?_
  refine y_iadd dL_law_909 ?_
  refine y_sld (j + 2) (by omega) hL (nI_add j 2) dL_law_910 ?_
  refine y_aload dL_law_911 rfl ?_
  refine y_iload dL_law_912 rfl ?_
  refine y_iconst (v := 3) dL_law_913 (by decide) ?_
  refine y_iadd dL_law_914 ?_
  refine y_sld (j + 3) (by omega) hL (nI_add j 3) dL_law_915 ?_
  refine y_callV (as := [.int (xs (j + 1)), .int (xs (j + 2)), .int (xs (j + 3))]) (S1 := []) (rv := some (.int v)) (h' := (HP (T2 + 2) s1)) (mc' := 0) (ms' := 0) (d' := 1) dL_law_916 mf_X5_cell ml_L_118 mv_X5_cell q5 rfl (hp_at (px_lt (by decide)) (c0 _)) rfl hK1 (by decide) rfl (Nat.le_of_ble_eq_true rfl) (by omega) (fun v9 _ => by simp only [hp_len]; exact px_ov_same _ v9) (fun v9 _ => by simp only [hp_len]; exact px_ov_same _ v9) ?_
  refine y_aload dL_law_919 rfl ?_
  refine y_aload dL_law_920 rfl ?_
  refine y_iload dL_law_921 rfl ?_
  refine y_iconst (v := 1) dL_law_922 (by decide) ?_
  refine y_iadd dL_law_923 ?_
  refine y_sld (j + 1) (by omega) hL (nI_add j 1) dL_law_924 ?_
  refine y_aload dL_law_925 rfl ?_
  refine y_iload dL_law_926 rfl ?_
  refine y_iconst (v := 2) dL_law_927 (by decide) ?_
  refine y_iadd dL_law_928 ?_
  refine y_sld (j + 2) (by omega) hL (nI_add j 2) dL_law_929 ?_
  refine y_aload dL_law_930 rfl ?_
  refine y_iload dL_law_931 rfl ?_
  refine y_iconst (v := 3) dL_law_932 (by decide) ?_
  refine y_iadd dL_law_933 ?_
  refine y_sld (j + 3) (by omega) hL (nI_add j 3) dL_law_934 ?_
  refine y_callV (as := [.int (xs (j + 1)), .int (xs (j + 2)), .int (xs (j + 3))]) (S1 := [.int v]) (rv := some (.int v)) (h' := (HP (T2 + 2) st2)) (mc' := 0) (ms' := 0) (d' := 2) dL_law_935 mf_X6_cell ml_L_121 mv_X6_cell q6 rfl (hp_at (px_ltM (by decide)) (c48 _)) rfl hK2 (by decide) rfl (Nat.le_of_ble_eq_true rfl) (by omega) (fun v9 _ => by simp only [hp_len]; exact px_ov_same _ v9) (fun v9 _ => by simp only [hp_len]; exact px_ov_same _ v9) ?_
  refine y_eq_t (tgt := 1092) dL_law_938 (by decide) rfl ?_
  exact y_widen (by omega) (by omega) K
/-- copy -/
def px_op26 (T : Nat) (st : px_S) (ag : px_ag) (T2 : Nat) (st2 : px_S) : Prop := T2 = T ∧ ∃ (v : Int32) (s1 : px_S), (f_X5_copy (T + 2) (ag 1) (ag 2) (ag 3) (ag 4) (ag 5) st = some (v, s1)) ∧ f_X6_copy T (ag 1) (ag 2) (ag 3) (ag 4) (ag 5) s1 = some (v, st2)
set_option maxRecDepth 20000 in
theorem y_case26 {b L : Nat} {xs : Nat → Int32} {j T T2 kc ks : Nat} {st st2 : px_S} (hj : j + 6 ≤ L) (hL : L < 2 ^ 31) (hT : px_n (T2 + 2) ≤ 900) (hop : px_op26 T st (fun k => xs (j + k)) T2 st2) (hkc : kc + 2 ≤ 600000) (hks : ks + 163 ≤ 7302249) (K : px_Y b L xs 1092 [some (.ref 4000), some (.ref 0), some (.ref 48), some (.int (nI j))] [] (HP (T2 + 2) st2) (kc + 2) (ks + 163)) : px_Y b L xs 943 [some (.ref 4000), some (.ref 0), some (.ref 48), some (.int (nI j))] [] (HP (T + 2) st) kc ks := by
  obtain ⟨rfl, v, s1, h1, h2⟩ := hop
  have hK1 := k_X5_copy h1
  have hK2 := k_X6_copy h2
  refine y_aload dL_law_943 rfl ?_
  refine y_aload dL_law_944 rfl ?_
  refine y_iload dL_law_945 rfl ?_
  refine y_iconst (v := 1) dL_law_946 (by decide) ?_
  refine y_iadd dL_law_947 ?_
  refine y_sld (j + 1) (by omega) hL (nI_add j 1) dL_law_948 ?_
  refine y_aload dL_law_949 rfl ?_
  refine y_iload dL_law_950 rfl ?_
  refine y_iconst (v := 2) dL_law_951 (by decide) ?_
  refine y_iadd dL_law_952 ?_
  refine y_sld (j + 2) (by omega) hL (nI_add j 2) dL_law_953 ?_
  refine y_aload dL_law_954 rfl ?_
  refine y_iload dL_law_955 rfl ?_
  refine y_iconst (v := 3) dL_law_956 (by decide) ?_
  refine y_iadd dL_law_957 ?_
  refine y_sld (j + 3) (by omega) hL (nI_add j 3) dL_law_958 ?_
  refine y_aload dL_law_959 rfl ?_
  refine y_iload dL_law_960 rfl ?_
  refine y_iconst (v := 4) dL_law_961 (by decide) ?_
  refine y_iadd dL_law_962 ?_
  refine y_sld (j + 4) (by omega) hL (nI_add j 4) dL_law_963 ?_
  refine y_aload dL_law_964 rfl ?_
  refine y_iload dL_law_965 rfl ?_
  refine y_iconst (v := 5) dL_law_966 (by decide) ?_
  refine y_iadd dL_law_967 ?_
  refine y_sld (j + 5) (by omega) hL (nI_add j 5) dL_law_968 ?_
  refine y_callV (as := [.int (xs (j + 1)), .int (xs (j + 2)), .int (xs (j + 3)), .int (xs (j + 4)), .int (xs (j + 5))]) (S1 := []) (rv := some (.int v)) (h' := (HP (T2 + 2) s1)) (mc' := 0) (ms' := 0) (d' := 1) dL_law_969 mf_X5_copy ml_L_122 mv_X5_copy q5 rfl (hp_at (px_lt (by decide)) (c0 _)) rfl hK1 (by decide) rfl (Nat.le_of_ble_eq_true rfl) (by omega) (fun v9 _ => by simp only [hp_len]; exact px_ov_same _ v9) (fun v9 _ => by simp only [hp_len]; exact px_ov_same _ v9) ?_
  refine y_aload dL_law_972 rfl ?_
  refine y_aload dL_law_973 rfl ?_
  refine y_iload dL_law_974 rfl ?_
  refine y_iconst (v := 1) dL_law_975 (by decide) ?_
  refine y_iadd dL_law_976 ?_
  refine y_sld (j + 1) (by omega) hL (nI_add j 1) dL_law_977 ?_
  refine y_aload dL_law_978 rfl ?_
  refine y_iload dL_law_979 rfl ?_
  refine y_iconst (v := 2) dL_law_980 (by decide) ?_
  refine y_iadd dL_law_981 ?_
  refine y_sld (j + 2) (by omega) hL (nI_add j 2) dL_law_982 ?_
  refine y_aload dL_law_983 rfl ?_
  refine y_iload dL_law_984 rfl ?_
  refine y_iconst (v := 3) dL_law_985 (by decide) ?_
  refine y_iadd dL_law_986 ?_
  refine y_sld (j + 3) (by omega) hL (nI_add j 3) dL_law_987 ?_
  refine y_aload dL_law_988 rfl ?_
  refine y_iload dL_law_989 rfl ?_
  refine y_iconst (v := 4) dL_law_990 (by decide) ?_
  refine y_iadd dL_law_991 ?_
  refine y_sld (j + 4) (by omega) hL (nI_add j 4) dL_law_992 ?_
  refine y_aload dL_law_993 rfl ?_
  refine y_iload dL_law_994 rfl ?_
  refine y_iconst (v := 5) dL_law_995 (by decide) ?_
  refine y_iadd dL_law_996 ?_
  refine y_sld (j + 5) (by omega) hL (nI_add j 5) dL_law_997 ?_
  refine y_callV (as := [.int (xs (j + 1)), .int (xs (j + 2)), .int (xs (j + 3)), .int (xs (j + 4)), .int (xs (j + 5))]) (S1 := [.int v]) (rv := some (.int v)) (h' := (HP (T2 + 2) st2)) (mc' := 0) (ms' := 0) (d' := 2) dL_law_998 mf_X6_copy ml_L_126 mv_X6_copy q6 rfl (hp_at (px_ltM (by decide)) (c48 _)) rfl hK2 (by decide) rfl (Nat.le_of_ble_eq_true rfl) (by omega) (fun v9 _ => by simp only [hp_len]; exact px_ov_same _ v9) (fun v9 _ => by simp only [hp_len]; exact px_ov_same _ v9) ?_
  refine y_eq_t (tgt := 1092) dL_law_1001 (by decide) rfl ?_
  exact y_widen (by omega) (by omega) K
/-- likes -/
def px_op27 (T : Nat) (st : px_S) (ag : px_ag) (T2 : Nat) (st2 : px_S) : Prop := T2 = T ∧ ∃ (v : Int32) (s1 : px_S), (f_X5_likes (T + 2) (ag 1) (ag 2) (ag 3) (ag 4) st = some (v, s1)) ∧ f_X6_likes T (ag 1) (ag 2) (ag 3) (ag 4) s1 = some (v, st2)
set_option maxRecDepth 20000 in
theorem y_case27 {b L : Nat} {xs : Nat → Int32} {j T T2 kc ks : Nat} {st st2 : px_S} (hj : j + 6 ≤ L) (hL : L < 2 ^ 31) (hT : px_n (T2 + 2) ≤ 900) (hop : px_op27 T st (fun k => xs (j + k)) T2 st2) (hkc : kc + 2 ≤ 600000) (hks : ks + 163 ≤ 7302249) (K : px_Y b L xs 1092 [some (.ref 4000), some (.ref 0), some (.ref 48), some (.int (nI j))] [] (HP (T2 + 2) st2) (kc + 2) (ks + 163)) : px_Y b L xs 1006 [some (.ref 4000), some (.ref 0), some (.ref 48), some (.int (nI j))] [] (HP (T + 2) st) kc ks := by
  obtain ⟨rfl, v, s1, h1, h2⟩ := hop
  have hK1 := k_X5_likes h1
  have hK2 := k_X6_likes h2
  refine y_aload dL_law_1006 rfl ?_
  refine y_aload dL_law_1007 rfl ?_
  refine y_iload dL_law_1008 rfl ?_
  refine y_iconst (v := 1) dL_law_1009 (by decide) ?_
  refine y_iadd dL_law_1010 ?_
  refine y_sld (j + 1) (by omega) hL (nI_add j 1) dL_law_1011 ?_
  refine y_aload dL_law_1012 rfl ?_
  refine y_iload dL_law_1013 rfl ?_
  refine y_iconst (v := 2) dL_law_1014 (by decide) ?_
  refine y_iadd dL_law_1015 ?_
  refine y_sld (j + 2) (by omega) hL (nI_add j 2) dL_law_1016 ?_
  refine y_aload dL_law_1017 rfl ?_
  refine y_iload dL_law_1018 rfl ?_
  refine y_iconst (v := 3) dL_law_1019 (by decide) ?_
  refine y_iadd dL_law_1020 ?_
  refine y_sld (j + 3) (by omega) hL (nI_add j 3) dL_law_1021 ?_
  refine y_aload dL_law_1022 rfl ?_
  refine y_iload dL_law_1023 rfl ?_
  refine y_iconst (v := 4) dL_law_1024 (by decide) ?_
  refine y_iadd dL_law_1025 ?_
  refine y_sld (j + 4) (by omega) hL (nI_add j 4) dL_law_1026 ?_
  refine y_callV (as := [.int (xs (j + 1)), .int (xs (j + 2)), .int (xs (j + 3)), .int (xs (j + 4))]) (S1 := []) (rv := some (.int v)) (h' := (HP (T2 + 2) s1)) (mc' := 0) (ms' := 0) (d' := 4) dL_law_1027 mf_X5_likes ml_L_127 mv_X5_likes q5 rfl (hp_at (px_lt (by decide)) (c0 _)) rfl hK1 (by decide) rfl (Nat.le_of_ble_eq_true rfl) (by omega) (fun v9 _ => by simp only [hp_len]; exact px_ov_same _ v9) (fun v9 _ => by simp only [hp_len]; exact px_ov_same _ v9) ?_
  refine y_aload dL_law_1030 rfl ?_
  refine y_aload dL_law_1031 rfl ?_
  refine y_iload dL_law_1032 rfl ?_
  refine y_iconst (v := 1) dL_law_1033 (by decide) ?_
  refine y_iadd dL_law_1034 ?_
  refine y_sld (j + 1) (by omega) hL (nI_add j 1) dL_law_1035 ?_
  refine y_aload dL_law_1036 rfl ?_
  refine y_iload dL_law_1037 rfl ?_
  refine y_iconst (v := 2) dL_law_1038 (by decide) ?_
  refine y_iadd dL_law_1039 ?_
  refine y_sld (j + 2) (by omega) hL (nI_add j 2) dL_law_1040 ?_
  refine y_aload dL_law_1041 rfl ?_
  refine y_iload dL_law_1042 rfl ?_
  refine y_iconst (v := 3) dL_law_1043 (by decide) ?_
  refine y_iadd dL_law_1044 ?_
  refine y_sld (j + 3) (by omega) hL (nI_add j 3) dL_law_1045 ?_
  refine y_aload dL_law_1046 rfl ?_
  refine y_iload dL_law_1047 rfl ?_
  refine y_iconst (v := 4) dL_law_1048 (by decide) ?_
  refine y_iadd dL_law_1049 ?_
  refine y_sld (j + 4) (by omega) hL (nI_add j 4) dL_law_1050 ?_
  refine y_callV (as := [.int (xs (j + 1)), .int (xs (j + 2)), .int (xs (j + 3)), .int (xs (j + 4))]) (S1 := [.int v]) (rv := some (.int v)) (h' := (HP (T2 + 2) st2)) (mc' := 0) (ms' := 0) (d' := 3) dL_law_1051 mf_X6_likes ml_L_131 mv_X6_likes q6 rfl (hp_at (px_ltM (by decide)) (c48 _)) rfl hK2 (by decide) rfl (Nat.le_of_ble_eq_true rfl) (by omega) (fun v9 _ => by simp only [hp_len]; exact px_ov_same _ v9) (fun v9 _ => by simp only [hp_len]; exact px_ov_same _ v9) ?_
  refine y_eq_t (tgt := 1092) dL_law_1054 (by decide) rfl ?_
  exact y_widen (by omega) (by omega) K
/-- taken -/
def px_op28 (T : Nat) (st : px_S) (ag : px_ag) (T2 : Nat) (st2 : px_S) : Prop := T2 = T ∧ ∃ (v : Int32) (s1 : px_S), (f_X5_taken (T + 2) st (ag 1) (ag 2) = some v ∧ s1 = st) ∧ f_X6_taken T s1 (ag 1) (ag 2) = some v ∧ st2 = s1
set_option maxRecDepth 20000 in
theorem y_case28 {b L : Nat} {xs : Nat → Int32} {j T T2 kc ks : Nat} {st st2 : px_S} (hj : j + 6 ≤ L) (hL : L < 2 ^ 31) (hT : px_n (T2 + 2) ≤ 900) (hop : px_op28 T st (fun k => xs (j + k)) T2 st2) (hkc : kc + 2 ≤ 600000) (hks : ks + 163 ≤ 7302249) (K : px_Y b L xs 1092 [some (.ref 4000), some (.ref 0), some (.ref 48), some (.int (nI j))] [] (HP (T2 + 2) st2) (kc + 2) (ks + 163)) : px_Y b L xs 1059 [some (.ref 4000), some (.ref 0), some (.ref 48), some (.int (nI j))] [] (HP (T + 2) st) kc ks := by
  obtain ⟨rfl, v, s1, h1, h2⟩ := hop
  obtain ⟨h1, e1⟩ := h1
  obtain ⟨h2, e2⟩ := h2
  rw [e1] at h2
  rw [e2] at K
  rw [e1] at K
  have hK1 := k_X5_taken h1
  have hK2 := k_X6_taken h2
  refine y_aload dL_law_1059 rfl ?_
  refine y_aload dL_law_1060 rfl ?_
  refine y_iload dL_law_1061 rfl ?_
  refine y_iconst (v := 1) dL_law_1062 (by decide) ?_
  refine y_iadd dL_law_1063 ?_
  refine y_sld (j + 1) (by omega) hL (nI_add j 1) dL_law_1064 ?_
  refine y_aload dL_law_1065 rfl ?_
  refine y_iload dL_law_1066 rfl ?_
  refine y_iconst (v := 2) dL_law_1067 (by decide) ?_
  refine y_iadd dL_law_1068 ?_
  refine y_sld (j + 2) (by omega) hL (nI_add j 2) dL_law_1069 ?_
  refine y_callV (as := [.int (xs (j + 1)), .int (xs (j + 2))]) (S1 := []) (rv := some (.int v)) (h' := (HP (T2 + 2) st)) (mc' := 0) (ms' := 0) (d' := 1) dL_law_1070 mf_X5_taken ml_L_132 mv_X5_taken q5 rfl (hp_at (px_lt (by decide)) (c0 _)) rfl hK1 (by decide) rfl (Nat.le_of_ble_eq_true rfl) (by omega) (fun v9 _ => by simp only [hp_len]; exact px_ov_same _ v9) (fun v9 _ => by simp only [hp_len]; exact px_ov_same _ v9) ?_
  refine y_aload dL_law_1073 rfl ?_
  refine y_aload dL_law_1074 rfl ?_
  refine y_iload dL_law_1075 rfl ?_
  refine y_iconst (v := 1) dL_law_1076 (by decide) ?_
  refine y_iadd dL_law_1077 ?_
  refine y_sld (j + 1) (by omega) hL (nI_add j 1) dL_law_1078 ?_
  refine y_aload dL_law_1079 rfl ?_
  refine y_iload dL_law_1080 rfl ?_
  refine y_iconst (v := 2) dL_law_1081 (by decide) ?_
  refine y_iadd dL_law_1082 ?_
  refine y_sld (j + 2) (by omega) hL (nI_add j 2) dL_law_1083 ?_
  refine y_callV (as := [.int (xs (j + 1)), .int (xs (j + 2))]) (S1 := [.int v]) (rv := some (.int v)) (h' := (HP (T2 + 2) st)) (mc' := 0) (ms' := 0) (d' := 2) dL_law_1084 mf_X6_taken ml_L_135 mv_X6_taken q6 rfl (hp_at (px_ltM (by decide)) (c48 _)) rfl hK2 (by decide) rfl (Nat.le_of_ble_eq_true rfl) (by omega) (fun v9 _ => by simp only [hp_len]; exact px_ov_same _ v9) (fun v9 _ => by simp only [hp_len]; exact px_ov_same _ v9) ?_
  refine y_eq_t (tgt := 1092) dL_law_1087 (by decide) rfl ?_
  exact y_widen (by omega) (by omega) K
