theorem px_wd_push {D : va_G} {ty : Nat → ClassId} {r0 adV r : Nat → Nat} {n0 : Nat} {s : State} {h : List px_C} {H H1 : Heap} {locs locs1 : List Loc} {q : Nat} {c : px_C} (X : px_wd D ty r0 adV r n0 s h H locs) (hf : ∀ x ∈ h, px_fr h.length x) (hc : px_fr h.length c) (y1 : va_P D vwCl (px_w r ty h ++ [(q, px_c r ty c)]) H1) (y2 : va_D (px_A r0 n0 s.heap.size) (px_w r ty h ++ [(q, px_c r ty c)])) (y3 : va_S (px_A r0 n0 s.heap.size) s.heap H1 locs1) (hlt : h.length < 1000) : px_wd D ty r0 adV (va_up r h.length q) n0 s (h ++ [c]) H1 locs1 := by
  obtain ⟨x1, x2, x3, x4, x5, x6⟩ := X
  rw [px_w_push hf hc] at y1 y2
  have hl : (h ++ [c]).length = h.length + 1 := by simp
  have hx1 := x1.2.1
  refine ⟨⟨fun k hk => ?_, by rw [hl]; omega, by rw [hl]; omega⟩, x2, x3, y1, y2, y3⟩
  rw [hl] at hk
  have hx := x1.2.1
  rw [va_up_ne _ _ (by omega)]
  exact x1.1 k (by omega)
theorem px_fv_S {r : Nat → Nat} {n q : Nat} {S : List Value} (hS : ∀ v ∈ S, px_fv n v) : S.map (px_v r) = S.map (px_v (va_up r n q)) := List.map_congr_left (fun v hv => (px_v_up (hS v hv)).symm)
theorem px_fv_L {r : Nat → Nat} {n q nL : Nat} {L : List (Option Value)} {ls : Array Slot} (h : ∀ v, some v ∈ L → px_fv n v) (hl : px_L r ls nL L) : px_L (va_up r n q) ls nL L :=
  ⟨hl.1, hl.2.1, fun i v hv => by rw [px_v_up (h v (List.mem_of_getElem? hv))]; exact hl.2.2 i v hv⟩
section PXN
variable {β : Type} {Z : px_Z} {g : β → Option Value × List px_C} {res A B : Option β} {pc idx : Nat} {L : List (Option Value)} {S S1 : List Value} {h : List px_C} {kc ks : Nat}
theorem o_new {ci : Nat} {q : vw_C} {fs : List Value} {ty0 : Nat → FieldType} (hd : decode Z.2.2.2.2.2.1 pc = .ok (.new idx, 3)) (hq : vwCl[ci]? = some q) (hcl : Cond.classLink Z.2.2.2.2.1.cls idx q.1 ∈ px_T) (hin : Cond.instantiable q.1 q.2.2 ∈ px_T) (hini : Cond.initialized q.1 ∈ px_T) (hty : ∀ k, k < q.2.2 → parseFieldDescriptor (q.2.1 k).2.2.1 = some (ty0 k)) (hfs : ∀ j, j < q.2.2 → defaultValue (ty0 j) = vp_V fs j) (hfr : ∀ v ∈ fs, ∀ k, v ≠ .ref k) (hcells : kc + 1 ≤ Z.2.1) (hslots : ks + q.2.2 ≤ Z.2.2.1) (hlt : h.length < 1000) (hh : ∀ x ∈ h, px_fr h.length x) (oL : ∀ v, some v ∈ L → px_fv h.length v) (oS : ∀ v ∈ S, px_fv h.length v) (K : px_O Z g res (pc + 3) L (.ref h.length :: S) (h ++ [.inl (ci, fs)]) (kc + 1) (ks + q.2.2)) : px_O Z g res pc L S h kc ks := by
  intro b hb p l e s m args below meth c D ty r0 adV r H locs ls C X Lc
  have e0 : fs.map (px_v r) = fs := by
    refine (List.map_congr_left (fun v hv => ?_)).trans (List.map_id' fs)
    cases v with
    | ref k => exact absurd rfl (hfr _ hv k)
    | _ => rfl
  refine va_new (C := q.1) (T := q.2.1) (N := q.2.2) (ci := ci) (fs := fs) C.1 C.2.1 C.2.2.2.2.2.1 (fun w hw => List.mem_cons_of_mem _ ((px_cls ci q hq).1 w hw)) ty0 hty C.2.2.2.2.1 (C.2.2.2.2.2.1 _ (List.mem_cons_of_mem _ hcl)) (C.2.2.2.2.2.1 _ (List.mem_cons_of_mem _ hin)) (C.2.2.2.2.2.1 _ (List.mem_cons_of_mem _ hini)) X.2.1 X.2.2.2.1 X.2.2.2.2.1 X.2.2.2.2.2 (fun _ z => Or.inr z) hq hfs hcells hslots hd (fun q1 H1 y1 y2 y3 => ?_)
  have e1 : px_c r ty (.inl (ci, fs)) = .inr (ci, fs) := by simp only [px_c, e0]
  have K2 := K b hb p l e s m args below meth c D ty r0 adV (va_up r h.length q1) H1 locs ls C (px_wd_push (c := .inl (ci, fs)) X hh (fun v hv k hk => absurd hk (hfr v hv k)) (by rw [e1]; exact y1) (by rw [e1]; exact y2) y3 hlt) (px_fv_L oL Lc)
  rw [List.map_cons, ← px_fv_S oS, px_v_ref] at K2
  simp only [va_up_self] at K2
  exact K2
theorem o_newi {n : Int32} {N : Nat} (hd : decode Z.2.2.2.2.2.1 pc = .ok (.newarray .int, 2)) (hw : Cond.arrayClass .int ∈ px_T) (hn : ¬ n < 0) (hN : n.toNatClampNeg = N) (hby : N ≤ 100000) (hcells : kc + 1 ≤ Z.2.1) (hslots : ks + N ≤ Z.2.2.1) (hlt : h.length < 1000) (hh : ∀ x ∈ h, px_fr h.length x) (oL : ∀ v, some v ∈ L → px_fv h.length v) (oS : ∀ v ∈ S, px_fv h.length v) (K : px_O Z g res (pc + 2) L (.ref h.length :: S) (h ++ [.inr (.inl (0, N, fun _ => 0))]) (kc + 1) (ks + N)) : px_O Z g res pc L (.int n :: S) h kc ks := by
  intro b hb p l e s m args below meth c D ty r0 adV r H locs ls C X Lc
  refine va_newa (atype := .int) (ty := .int) (a0 := (N, .inl (fun _ => 0))) C.1 C.2.1 (C.2.2.2.2.2.1 _ (List.mem_cons_of_mem _ hw)) rfl X.2.1 X.2.2.2.1 X.2.2.2.2.1 X.2.2.2.2.2 (fun _ z => Or.inr z) (fun cA => rfl) hn hN (by show N * 4 ≤ _; omega) hcells hslots hd (fun q1 cA H1 y0 y1 y2 y3 => ?_)
  have ec : cA = ty 0 := by
    have z1 := (y0.2 4 (cA, .int) rfl).2
    have z2 := (X.2.1.2 0 (ty 0, .int) rfl).2
    exact Option.some.inj (z1.symm.trans z2)
  subst ec
  have K2 := K b hb p l e s m args below meth c D ty r0 adV (va_up r h.length q1) H1 locs ls C (px_wd_push (c := .inr (.inl (0, N, fun _ => 0))) X hh trivial y1 y2 y3 hlt) (px_fv_L oL Lc)
  rw [List.map_cons, ← px_fv_S oS, px_v_ref] at K2
  simp only [va_up_self] at K2
  exact K2
theorem o_newz {n : Int32} {N : Nat} (hd : decode Z.2.2.2.2.2.1 pc = .ok (.newarray .boolean, 2)) (hw : Cond.arrayClass .boolean ∈ px_T) (hn : ¬ n < 0) (hN : n.toNatClampNeg = N) (hby : N ≤ 100000) (hcells : kc + 1 ≤ Z.2.1) (hslots : ks + N ≤ Z.2.2.1) (hlt : h.length < 1000) (hh : ∀ x ∈ h, px_fr h.length x) (oL : ∀ v, some v ∈ L → px_fv h.length v) (oS : ∀ v ∈ S, px_fv h.length v) (K : px_O Z g res (pc + 2) L (.ref h.length :: S) (h ++ [.inr (.inl (1, N, fun _ => 0))]) (kc + 1) (ks + N)) : px_O Z g res pc L (.int n :: S) h kc ks := by
  intro b hb p l e s m args below meth c D ty r0 adV r H locs ls C X Lc
  refine va_newa (atype := .boolean) (ty := .boolean) (a0 := (N, .inl (fun _ => 0))) C.1 C.2.1 (C.2.2.2.2.2.1 _ (List.mem_cons_of_mem _ hw)) rfl X.2.1 X.2.2.2.1 X.2.2.2.2.1 X.2.2.2.2.2 (fun _ z => Or.inr z) (fun cA => rfl) hn hN (by show N * 1 ≤ _; omega) hcells hslots hd (fun q1 cA H1 y0 y1 y2 y3 => ?_)
  have ec : cA = ty 1 := by
    have z1 := (y0.2 4 (cA, .boolean) rfl).2
    have z2 := (X.2.1.2 1 (ty 1, .boolean) rfl).2
    exact Option.some.inj (z1.symm.trans z2)
  subst ec
  have K2 := K b hb p l e s m args below meth c D ty r0 adV (va_up r h.length q1) H1 locs ls C (px_wd_push (c := .inr (.inl (1, N, fun _ => 0))) X hh trivial y1 y2 y3 hlt) (px_fv_L oL Lc)
  rw [List.map_cons, ← px_fv_S oS, px_v_ref] at K2
  simp only [va_up_self] at K2
  exact K2
theorem o_anew2 {n : Int32} {N : Nat} (hd : decode Z.2.2.2.2.2.1 pc = .ok (.anewarray idx, 3)) (hcl : Cond.classLink Z.2.2.2.2.1.cls idx "ThreeOfThem$Text" ∈ px_T) (hn : ¬ n < 0) (hN : n.toNatClampNeg = N) (hby : N ≤ 100000) (hcells : kc + 1 ≤ Z.2.1) (hslots : ks + N ≤ Z.2.2.1) (hlt : h.length < 1000) (hh : ∀ x ∈ h, px_fr h.length x) (oL : ∀ v, some v ∈ L → px_fv h.length v) (oS : ∀ v ∈ S, px_fv h.length v) (K : px_O Z g res (pc + 3) L (.ref h.length :: S) (h ++ [.inr (.inr (2, N, fun _ => none))]) (kc + 1) (ks + N)) : px_O Z g res pc L (.int n :: S) h kc ks := by
  intro b hb p l e s m args below meth c D ty r0 adV r H locs ls C X Lc
  refine va_newq C.1 C.2.1 C.2.2.2.2.1 (C.2.2.2.2.2.1 _ (List.mem_cons_of_mem _ hcl)) X.2.2.1.2.2.2.2.2.2.2.1 X.2.1 X.2.2.2.1 X.2.2.2.2.1 X.2.2.2.2.2 (fun _ z => Or.inr z) hn hN (by omega) hcells hslots hd (fun q1 cA H1 y0 y1 y2 y3 => ?_)
  have ec : cA = ty 2 := by
    obtain ⟨_, _, _, _, _, z1⟩ := (y0.2 4 (cA, .object "ThreeOfThem$Text") rfl).2
    obtain ⟨_, _, _, _, _, z2⟩ := (X.2.1.2 2 (ty 2, .object "ThreeOfThem$Text") rfl).2
    exact Option.some.inj (z1.symm.trans z2)
  subst ec
  have K2 := K b hb p l e s m args below meth c D ty r0 adV (va_up r h.length q1) H1 locs ls C (px_wd_push (c := .inr (.inr (2, N, fun _ => none))) X hh (fun j k z => by cases z) y1 y2 y3 hlt) (px_fv_L oL Lc)
  rw [List.map_cons, ← px_fv_S oS, px_v_ref] at K2
  simp only [va_up_self] at K2
  exact K2
theorem o_anew3 {n : Int32} {N : Nat} (hd : decode Z.2.2.2.2.2.1 pc = .ok (.anewarray idx, 3)) (hcl : Cond.classLink Z.2.2.2.2.1.cls idx "ThreeOfThem$Sheet" ∈ px_T) (hn : ¬ n < 0) (hN : n.toNatClampNeg = N) (hby : N ≤ 100000) (hcells : kc + 1 ≤ Z.2.1) (hslots : ks + N ≤ Z.2.2.1) (hlt : h.length < 1000) (hh : ∀ x ∈ h, px_fr h.length x) (oL : ∀ v, some v ∈ L → px_fv h.length v) (oS : ∀ v ∈ S, px_fv h.length v) (K : px_O Z g res (pc + 3) L (.ref h.length :: S) (h ++ [.inr (.inr (3, N, fun _ => none))]) (kc + 1) (ks + N)) : px_O Z g res pc L (.int n :: S) h kc ks := by
  intro b hb p l e s m args below meth c D ty r0 adV r H locs ls C X Lc
  refine va_newq C.1 C.2.1 C.2.2.2.2.1 (C.2.2.2.2.2.1 _ (List.mem_cons_of_mem _ hcl)) X.2.2.1.2.2.2.2.2.2.2.2 X.2.1 X.2.2.2.1 X.2.2.2.2.1 X.2.2.2.2.2 (fun _ z => Or.inr z) hn hN (by omega) hcells hslots hd (fun q1 cA H1 y0 y1 y2 y3 => ?_)
  have ec : cA = ty 3 := by
    obtain ⟨_, _, _, _, _, z1⟩ := (y0.2 4 (cA, .object "ThreeOfThem$Sheet") rfl).2
    obtain ⟨_, _, _, _, _, z2⟩ := (X.2.1.2 3 (ty 3, .object "ThreeOfThem$Sheet") rfl).2
    exact Option.some.inj (z1.symm.trans z2)
  subst ec
  have K2 := K b hb p l e s m args below meth c D ty r0 adV (va_up r h.length q1) H1 locs ls C (px_wd_push (c := .inr (.inr (3, N, fun _ => none))) X hh (fun j k z => by cases z) y1 y2 y3 hlt) (px_fv_L oL Lc)
  rw [List.map_cons, ← px_fv_S oS, px_v_ref] at K2
  simp only [va_up_self] at K2
  exact K2
theorem px_sum (r : Nat → Nat) (S : List Value) : ((S.map (px_v r)).map fun v => v.category).sum = (S.map fun v => v.category).sum := by
  rw [List.map_map]
  have e : ((fun v => v.category) ∘ px_v r) = fun v : Value => v.category := funext fun v => px_v_cat r v
  rw [e]
theorem o_obj {a : Nat} (hd : decode Z.2.2.2.2.2.1 pc = .ok (.invokespecial idx, 3)) (h1 : Cond.methodLink Z.2.2.2.2.1.cls idx objectInit ∈ px_T) (h2 : Cond.instanceMethod objectInit ∈ px_T) (h3 : Cond.code objectInit ⟨#[0xb1]⟩ 1 none ∈ px_T) (hz : 1 ≤ Z.1) (hw : (S.map fun v => v.category).sum ≤ 8) (K : px_O Z g res (pc + 3) L S h kc ks) : px_O Z g res pc L (.ref a :: S) h kc ks := by
  intro b hb p l e s m args below meth c D ty r0 adV r H locs ls C X Lc
  refine W.objInit C.1 C.2.1 C.2.2.2.2.1 (C.2.2.2.2.2.1 _ (List.mem_cons_of_mem _ h1)) (C.2.2.2.2.2.1 _ (List.mem_cons_of_mem _ h2)) (C.2.2.2.2.2.1 _ (List.mem_cons_of_mem _ h3)) rfl (by rw [C.2.2.2.1]; exact Lc.1) rfl hd hz ?_ (K b hb _ _ _ _ _ _ _ _ _ _ _ _ _ _ _ _ _ C X Lc)
  show 2 * 0 + _ + 12 ≤ 80 * Z.1
  rw [px_sum]
  omega
theorem o_copy {a a0 n0 n1 : Nat} {f f1 : Nat → Int32} {sp dp n : Int32} {h' : List px_C} (hd : decode Z.2.2.2.2.2.1 pc = .ok (.invokestatic idx, 3)) (w1 : Cond.methodLink Z.2.2.2.2.1.cls idx arraycopyName ∈ px_T) (w2 : Cond.native arraycopyName ∈ px_T) (w3 : Cond.static arraycopyName ∈ px_T) (w4 : Cond.initialized "java/lang/System" ∈ px_T) (hc0 : h[a0]? = some (.inr (.inl (0, n0, f)))) (hc1 : h[a]? = some (.inr (.inl (0, n1, f1)))) (q1 : ¬ sp < 0) (q2 : ¬ dp < 0) (q3 : ¬ n < 0) (q4 : sp.toNatClampNeg + n.toNatClampNeg ≤ n0) (q5 : dp.toNatClampNeg + n.toNatClampNeg ≤ n1) (hz : 1 ≤ Z.1) (hw : (S.map fun v => v.category).sum ≤ 8) (hh : h.set a (.inr (.inl (0, n1, va_cpy f f1 sp.toNatClampNeg dp.toNatClampNeg n.toNatClampNeg))) = h') (K : px_O Z g res (pc + 3) L S h' kc ks) : px_O Z g res pc L (.int n :: .int dp :: .ref a :: .int sp :: .ref a0 :: S) h kc ks := by
  intro b hb p l e s m args below meth c D ty r0 adV r H locs ls C X Lc
  subst hh
  refine va_copyi (ty := .int) C.1 C.2.1 (by rw [C.2.2.2.1]; exact Lc.1.symm) C.2.2.2.2.1 (C.2.2.2.2.2.1 _ (List.mem_cons_of_mem _ w1)) (C.2.2.2.2.2.1 _ (List.mem_cons_of_mem _ w2)) (C.2.2.2.2.2.1 _ (List.mem_cons_of_mem _ w3)) (C.2.2.2.2.2.1 _ (List.mem_cons_of_mem _ w4)) X.2.1 X.2.2.2.1 X.2.2.2.2.1 X.2.2.2.2.2 a0 a 0 0 (px_w_get hc0) (px_w_get hc1) rfl rfl rfl q1 q2 q3 q4 q5 (fun _ _ => rfl) hz ?_ hd (fun H1 locs1 y1 y2 y3 => K b hb _ _ _ _ _ _ _ _ _ _ _ _ _ _ _ _ _ C (px_wd_set (c := .inr (.inl (0, n1, va_cpy f f1 sp.toNatClampNeg dp.toNatClampNeg n.toNatClampNeg))) X y1 y2 y3) Lc)
  show _ ≤ 80 * Z.1
  rw [px_sum]
  have e : nativeFrameWords "java/lang/System" "arraycopy" 5 ≤ 40 := by decide +kernel
  omega
theorem o_max {x y : Int32} (hd : decode Z.2.2.2.2.2.1 pc = .ok (.invokestatic idx, 3)) (w1 : Cond.methodLink Z.2.2.2.2.1.cls idx Lib.Math.max.name ∈ px_T) (w2 : Cond.static Lib.Math.max.name ∈ px_T) (w3 : Cond.initialized "java/lang/Math" ∈ px_T) (w4 : Cond.code Lib.Math.max.name Lib.Math.max.code 2 (some .int) ∈ px_T) (hz : 1 ≤ Z.1) (hw : (S.map fun v => v.category).sum ≤ 8) (hf : kc ≤ Z.2.1 ∧ ks ≤ Z.2.2.1) (K : px_O Z g res (pc + 3) L (.int (if x < y then y else x) :: S) h kc ks) : px_O Z g res pc L (.int y :: .int x :: S) h kc ks := by
  intro b hb p l e s m args below meth c D ty r0 adV r H locs ls C X Lc
  refine va_mmax C.1 C.2.1 (by rw [C.2.2.2.1]; exact Lc.1.symm) C.2.2.2.2.1 (C.2.2.2.2.2.1 _ (List.mem_cons_of_mem _ w1)) (C.2.2.2.2.2.1 _ (List.mem_cons_of_mem _ w2)) (C.2.2.2.2.2.1 _ (List.mem_cons_of_mem _ w3)) (C.2.2.2.2.2.1 _ (List.mem_cons_of_mem _ w4)) hz ?_ hf.1 hf.2 hd (K b hb _ _ _ _ _ _ _ _ _ _ _ _ _ _ _ _ _ C X Lc)
  show _ ≤ 80 * Z.1
  rw [px_sum]
  omega
theorem o_min {x y : Int32} (hd : decode Z.2.2.2.2.2.1 pc = .ok (.invokestatic idx, 3)) (w1 : Cond.methodLink Z.2.2.2.2.1.cls idx Lib.Math.min.name ∈ px_T) (w2 : Cond.static Lib.Math.min.name ∈ px_T) (w3 : Cond.initialized "java/lang/Math" ∈ px_T) (w4 : Cond.code Lib.Math.min.name Lib.Math.min.code 2 (some .int) ∈ px_T) (hz : 1 ≤ Z.1) (hw : (S.map fun v => v.category).sum ≤ 8) (hf : kc ≤ Z.2.1 ∧ ks ≤ Z.2.2.1) (K : px_O Z g res (pc + 3) L (.int (if y < x then y else x) :: S) h kc ks) : px_O Z g res pc L (.int y :: .int x :: S) h kc ks := by
  intro b hb p l e s m args below meth c D ty r0 adV r H locs ls C X Lc
  refine va_mmin C.1 C.2.1 (by rw [C.2.2.2.1]; exact Lc.1.symm) C.2.2.2.2.1 (C.2.2.2.2.2.1 _ (List.mem_cons_of_mem _ w1)) (C.2.2.2.2.2.1 _ (List.mem_cons_of_mem _ w2)) (C.2.2.2.2.2.1 _ (List.mem_cons_of_mem _ w3)) (C.2.2.2.2.2.1 _ (List.mem_cons_of_mem _ w4)) hz ?_ hf.1 hf.2 hd (K b hb _ _ _ _ _ _ _ _ _ _ _ _ _ _ _ _ _ C X Lc)
  show _ ≤ 80 * Z.1
  rw [px_sum]
  omega
theorem o_under (hd : decode Z.2.2.2.2.2.1 pc = .ok (.getstatic idx, 3)) (hl : Cond.fieldLink Z.2.2.2.2.1.cls idx "ThreeOfThem" "UNDER" "[I" ∈ px_T) (K : px_O Z g res (pc + 3) L (.ref 2000 :: S) h kc ks) : px_O Z g res pc L S h kc ks := by
  intro b hb p l e s m args below meth c D ty r0 adV r H locs ls C X Lc
  have K2 := K b hb p l e s m args below meth c D ty r0 adV r H locs ls C X Lc
  rw [List.map_cons, px_v_ref, X.1.1 2000 (Or.inr (Nat.le_trans X.1.2.2 (by decide)))] at K2
  exact va_gets C.1 C.2.1 X.2.2.1.2.2.2.1 X.2.2.2.2.2 C.2.2.2.2.1 (C.2.2.2.2.2.1 _ (List.mem_cons_of_mem _ hl)) (fun _ z => z) hd K2
theorem o_uald {i : Int32} (hd : decode Z.2.2.2.2.2.1 pc = .ok (.iaload, 1)) (hi : vp_in i 6) (K : px_O Z g res (pc + 1) L (.int (px_und i.toNatClampNeg) :: S) h kc ks) : px_O Z g res pc L (.int i :: .ref 2000 :: S) h kc ks := by
  intro b hb p l e s m args below meth c D ty r0 adV r H locs ls C X Lc
  simp only [List.map_cons, px_v_ref, px_v_int, X.1.1 2000 (Or.inr (Nat.le_trans X.1.2.2 (by decide)))]
  exact va_ti C.1 C.2.1 X.2.2.1.2.2.2.2.1 X.2.2.2.2.2 hi rfl hd (K b hb _ _ _ _ _ _ _ _ _ _ _ _ _ _ _ _ _ C X Lc)
end PXN
