/-! heaps in the making: every reference points into the heap -/
def px_rv (n : Nat) (v : Value) : Prop := match v with
  | .ref k => k < n
  | _ => True
def px_rvs (n : Nat) : List Value → Prop
  | [] => True
  | v :: l => px_rv n v ∧ px_rvs n l
def px_LR (n : Nat) : List (Option Value) → Prop
  | [] => True
  | none :: l => px_LR n l
  | some v :: l => px_rv n v ∧ px_LR n l
def px_rl (n : Nat) (c : px_C) : Prop := match c with
  | .inl (_, fs) => px_rvs n fs
  | .inr (.inl _) => True
  | .inr (.inr (_, _, f)) => ∀ j k, f j = some k → k < n
def px_rls (n : Nat) : List px_C → Prop
  | [] => True
  | c :: l => px_rl n c ∧ px_rls n l
theorem px_rv_fv {n : Nat} {v : Value} (h : px_rv n v) : px_fv n v := by
  intro k hk
  subst hk
  exact Nat.ne_of_lt h
theorem px_rvs_mem {n : Nat} : ∀ {l : List Value}, px_rvs n l → ∀ v ∈ l, px_rv n v
  | [], _, _, h => by cases h
  | a :: l, hl, v, h => by
    rcases List.mem_cons.mp h with e | e
    · rw [e]; exact hl.1
    · exact px_rvs_mem hl.2 v e
theorem px_LR_mem {n : Nat} : ∀ {l : List (Option Value)}, px_LR n l → ∀ v, some v ∈ l → px_rv n v
  | [], _, _, h => by cases h
  | none :: l, hl, v, h => by
    rcases List.mem_cons.mp h with e | e
    · cases e
    · exact px_LR_mem (l := l) hl v e
  | some a :: l, hl, v, h => by
    rcases List.mem_cons.mp h with e | e
    · cases e; exact hl.1
    · exact px_LR_mem hl.2 v e
theorem px_rls_mem {n : Nat} : ∀ {l : List px_C}, px_rls n l → ∀ c ∈ l, px_rl n c
  | [], _, _, h => by cases h
  | a :: l, hl, c, h => by
    rcases List.mem_cons.mp h with e | e
    · rw [e]; exact hl.1
    · exact px_rls_mem hl.2 c e
theorem px_rl_fr {n : Nat} {c : px_C} (h : px_rl n c) : px_fr n c := by
  match c, h with
  | .inl (_, fs), h => exact fun v hv => px_rv_fv (px_rvs_mem h v hv)
  | .inr (.inl _), _ => trivial
  | .inr (.inr (_, _, f)), h => exact fun j k hk => Nat.ne_of_lt (h j k hk)
theorem px_rv_mono {n m : Nat} (hm : n ≤ m) {v : Value} (h : px_rv n v) : px_rv m v := by
  cases v with
  | ref k => exact Nat.lt_of_lt_of_le h hm
  | _ => trivial
theorem px_rvs_mono {n m : Nat} (hm : n ≤ m) : ∀ {l : List Value}, px_rvs n l → px_rvs m l
  | [], _ => trivial
  | _ :: _, h => ⟨px_rv_mono hm h.1, px_rvs_mono hm h.2⟩
theorem px_rl_mono {n m : Nat} (hm : n ≤ m) {c : px_C} (h : px_rl n c) : px_rl m c := by
  match c, h with
  | .inl (_, fs), h => exact px_rvs_mono hm h
  | .inr (.inl _), _ => trivial
  | .inr (.inr (_, _, f)), h => exact fun j k hk => Nat.lt_of_lt_of_le (h j k hk) hm
def px_wf (h : List px_C) : Prop := ∀ c ∈ h, px_rl h.length c
/-- a heap with the cell k set, and new ones behind -/
def px_hx (h : List px_C) (k : Nat) (c : px_C) (n : List px_C) : List px_C := h.set k c ++ n
theorem px_hx_len (h : List px_C) (k : Nat) (c : px_C) (n : List px_C) : (px_hx h k c n).length = h.length + n.length := by simp [px_hx]
theorem px_hx_get {h : List px_C} {k : Nat} {c : px_C} {n : List px_C} (hk : k < h.length) : (px_hx h k c n)[k]? = some c := by
  rw [px_hx, List.getElem?_append_left (by rw [List.length_set]; exact hk), List.getElem?_set_self hk]
theorem px_hx_put {h : List px_C} {k : Nat} {c d : px_C} {n : List px_C} (hk : k < h.length) : (px_hx h k c n).set k d = px_hx h k d n := by
  rw [px_hx, List.set_append_left _ _ (by rw [List.length_set]; exact hk), List.set_set, px_hx]
theorem px_hx_new {h : List px_C} {k : Nat} {c d : px_C} {n m : List px_C} (hm : n ++ [d] = m) : px_hx h k c n ++ [d] = px_hx h k c m := by
  rw [px_hx, List.append_assoc, hm, px_hx]
theorem px_hx_getN {h : List px_C} {k j : Nat} {c d : px_C} {n : List px_C} (hj : n[j]? = some d) : (px_hx h k c n)[h.length + j]? = some d := by
  rw [px_hx, List.getElem?_append_right (by rw [List.length_set]; omega), List.length_set, Nat.add_sub_cancel_left]
  exact hj
theorem px_hx_setN {h : List px_C} {k j : Nat} {c d : px_C} {n m : List px_C} (hm : n.set j d = m) : (px_hx h k c n).set (h.length + j) d = px_hx h k c m := by
  rw [px_hx, List.set_append_right _ _ (by rw [List.length_set]; omega), List.length_set, Nat.add_sub_cancel_left, hm, px_hx]
theorem px_hx_nest {h : List px_C} {k j : Nat} {c d : px_C} {n m q : List px_C} (hm : n.set j d ++ m = q) : px_hx (px_hx h k c n) (h.length + j) d m = px_hx h k c q := by
  rw [px_hx, px_hx_setN rfl, px_hx, List.append_assoc, hm, px_hx]
theorem px_wf_hx {h : List px_C} {k : Nat} {c : px_C} {n : List px_C} (wf : px_wf h) (hc : px_rl (h.length + n.length) c) (hn : px_rls (h.length + n.length) n) : px_wf (px_hx h k c n) := by
  intro x hx
  rw [px_hx_len]
  rcases List.mem_append.mp hx with e | e
  · rcases List.mem_or_eq_of_mem_set e with e | e
    · exact px_rl_mono (by omega) (wf x e)
    · rw [e]; exact hc
  · exact px_rls_mem hn x e
theorem px_wf_set0 {h : List px_C} {k : Nat} {c : px_C} (hk : h[k]? = some c) : h = px_hx h k c [] := by
  rw [px_hx, List.append_nil]
  apply List.ext_getElem?
  intro i
  rw [List.getElem?_set]
  by_cases hi : k = i
  · subst hi; rw [if_pos rfl, if_pos (List.getElem?_eq_some_iff.mp hk).1, hk]
  · rw [if_neg hi]
section PXB
variable {β : Type} {Z : px_Z} {g : β → Option Value × List px_C} {res A B : Option β} {pc idx : Nat} {L : List (Option Value)} {S S1 : List Value} {h h' : List px_C} {kc ks N : Nat}
theorem n_newi {n : Int32} {m : Nat} (hd : decode Z.2.2.2.2.2.1 pc = .ok (.newarray .int, 2)) (hw : Cond.arrayClass .int ∈ px_T) (hn : ¬ n < 0) (hm : n.toNatClampNeg = m) (hby : m ≤ 100000) (hcells : kc + 1 ≤ Z.2.1) (hslots : ks + m ≤ Z.2.2.1) (hN : h.length = N) (hlt : N < 1000) (wf : px_wf h) (fL : px_LR N L) (fS : px_rvs N S) (hh : h ++ [.inr (.inl (0, m, fun _ => 0))] = h') (K : px_O Z g res (pc + 2) L (.ref N :: S) h' (kc + 1) (ks + m)) : px_O Z g res pc L (.int n :: S) h kc ks := by
  subst hN; subst hh
  exact o_newi hd hw hn hm hby hcells hslots hlt (fun x hx => px_rl_fr (wf x hx)) (fun v hv => px_rv_fv (px_LR_mem fL v hv)) (fun v hv => px_rv_fv (px_rvs_mem fS v hv)) K
theorem n_newz {n : Int32} {m : Nat} (hd : decode Z.2.2.2.2.2.1 pc = .ok (.newarray .boolean, 2)) (hw : Cond.arrayClass .boolean ∈ px_T) (hn : ¬ n < 0) (hm : n.toNatClampNeg = m) (hby : m ≤ 100000) (hcells : kc + 1 ≤ Z.2.1) (hslots : ks + m ≤ Z.2.2.1) (hN : h.length = N) (hlt : N < 1000) (wf : px_wf h) (fL : px_LR N L) (fS : px_rvs N S) (hh : h ++ [.inr (.inl (1, m, fun _ => 0))] = h') (K : px_O Z g res (pc + 2) L (.ref N :: S) h' (kc + 1) (ks + m)) : px_O Z g res pc L (.int n :: S) h kc ks := by
  subst hN; subst hh
  exact o_newz hd hw hn hm hby hcells hslots hlt (fun x hx => px_rl_fr (wf x hx)) (fun v hv => px_rv_fv (px_LR_mem fL v hv)) (fun v hv => px_rv_fv (px_rvs_mem fS v hv)) K
theorem n_anew2 {n : Int32} {m : Nat} (hd : decode Z.2.2.2.2.2.1 pc = .ok (.anewarray idx, 3)) (hcl : Cond.classLink Z.2.2.2.2.1.cls idx "ThreeOfThem$Text" ∈ px_T) (hn : ¬ n < 0) (hm : n.toNatClampNeg = m) (hby : m ≤ 100000) (hcells : kc + 1 ≤ Z.2.1) (hslots : ks + m ≤ Z.2.2.1) (hN : h.length = N) (hlt : N < 1000) (wf : px_wf h) (fL : px_LR N L) (fS : px_rvs N S) (hh : h ++ [.inr (.inr (2, m, fun _ => none))] = h') (K : px_O Z g res (pc + 3) L (.ref N :: S) h' (kc + 1) (ks + m)) : px_O Z g res pc L (.int n :: S) h kc ks := by
  subst hN; subst hh
  exact o_anew2 hd hcl hn hm hby hcells hslots hlt (fun x hx => px_rl_fr (wf x hx)) (fun v hv => px_rv_fv (px_LR_mem fL v hv)) (fun v hv => px_rv_fv (px_rvs_mem fS v hv)) K
theorem n_anew3 {n : Int32} {m : Nat} (hd : decode Z.2.2.2.2.2.1 pc = .ok (.anewarray idx, 3)) (hcl : Cond.classLink Z.2.2.2.2.1.cls idx "ThreeOfThem$Sheet" ∈ px_T) (hn : ¬ n < 0) (hm : n.toNatClampNeg = m) (hby : m ≤ 100000) (hcells : kc + 1 ≤ Z.2.1) (hslots : ks + m ≤ Z.2.2.1) (hN : h.length = N) (hlt : N < 1000) (wf : px_wf h) (fL : px_LR N L) (fS : px_rvs N S) (hh : h ++ [.inr (.inr (3, m, fun _ => none))] = h') (K : px_O Z g res (pc + 3) L (.ref N :: S) h' (kc + 1) (ks + m)) : px_O Z g res pc L (.int n :: S) h kc ks := by
  subst hN; subst hh
  exact o_anew3 hd hcl hn hm hby hcells hslots hlt (fun x hx => px_rl_fr (wf x hx)) (fun v hv => px_rv_fv (px_LR_mem fL v hv)) (fun v hv => px_rv_fv (px_rvs_mem fS v hv)) K
/-- what a class needs to be made: its number, its blank object -/
def px_NW (ci : Nat) (q : vw_C) (fs : List Value) : Prop := vwCl[ci]? = some q ∧ Cond.instantiable q.1 q.2.2 ∈ px_T ∧ Cond.initialized q.1 ∈ px_T ∧ (∃ ty0 : Nat → FieldType, (∀ k, k < q.2.2 → parseFieldDescriptor (q.2.1 k).2.2.1 = some (ty0 k)) ∧ ∀ j, j < q.2.2 → defaultValue (ty0 j) = vp_V fs j) ∧ ∀ v ∈ fs, ∀ k, v ≠ .ref k
theorem n_new {ci : Nat} {q : vw_C} {fs : List Value} (hd : decode Z.2.2.2.2.2.1 pc = .ok (.new idx, 3)) (hq : px_NW ci q fs) (hcl : Cond.classLink Z.2.2.2.2.1.cls idx q.1 ∈ px_T) (hcells : kc + 1 ≤ Z.2.1) (hslots : ks + q.2.2 ≤ Z.2.2.1) (hN : h.length = N) (hlt : N < 1000) (wf : px_wf h) (fL : px_LR N L) (fS : px_rvs N S) (hh : h ++ [.inl (ci, fs)] = h') (K : px_O Z g res (pc + 3) L (.ref N :: S) h' (kc + 1) (ks + q.2.2)) : px_O Z g res pc L S h kc ks := by
  subst hN; subst hh
  obtain ⟨z1, z2, z3, ⟨ty0, z4, z5⟩, z6⟩ := hq
  exact o_new hd z1 hcl z2 z3 z4 z5 z6 hcells hslots hlt (fun x hx => px_rl_fr (wf x hx)) (fun v hv => px_rv_fv (px_LR_mem fL v hv)) (fun v hv => px_rv_fv (px_rvs_mem fS v hv)) K
end PXB
theorem o_heap {β : Type} {Z : px_Z} {g : β → Option Value × List px_C} {res : Option β} {pc : Nat} {L : List (Option Value)} {S : List Value} {h h' : List px_C} {kc ks : Nat} (he : h = h') (K : px_O Z g res pc L S h' kc ks) : px_O Z g res pc L S h kc ks := he ▸ K
theorem px_rv_ov {n n' : Nat} {v : Value} (h : px_rv n v) : px_ov n n' v := by
  intro k hk
  subst hk
  exact Or.inl h
theorem w_aint : Cond.arrayClass .int ∈ px_T := px_Tm 79 (by decide +kernel) rfl
theorem w_abool : Cond.arrayClass .boolean ∈ px_T := px_Tm 1029 (by decide +kernel) rfl
abbrev px_b0 : List Value := [.null, .null, .null, .null, .int 0, .int 0, .int 0, .int 0, .int 0, .int 0]
theorem px_dv0 : ∀ j, j < 10 → defaultValue (tyX0 j) = vp_V px_b0 j := by decide +kernel
theorem px_nr0 : ∀ v ∈ px_b0, ∀ k, v ≠ .ref k := by simp [px_b0]
theorem nw0 : px_NW 0 Q0 px_b0 := ⟨q0, px_Tm 25 (by decide +kernel) rfl, px_Tm 2 (by decide +kernel) rfl, ⟨tyX0, tyX0_ok, px_dv0⟩, px_nr0⟩
abbrev px_b1 : List Value := [.null, .null, .null, .null, .int 0, .null, .null, .null, .null, .null, .null, .null, .int 0, .null, .null, .null]
theorem px_dv1 : ∀ j, j < 16 → defaultValue (tyX1 j) = vp_V px_b1 j := by decide +kernel
theorem px_nr1 : ∀ v ∈ px_b1, ∀ k, v ≠ .ref k := by simp [px_b1]
theorem nw1 : px_NW 1 Q1 px_b1 := ⟨q1, px_Tm 81 (by decide +kernel) rfl, px_Tm 4 (by decide +kernel) rfl, ⟨tyX1, tyX1_ok, px_dv1⟩, px_nr1⟩
abbrev px_b2 : List Value := [.null, .int 0, .null, .null, .int 0, .int 0, .null, .int 0]
theorem px_dv2 : ∀ j, j < 8 → defaultValue (tyX2 j) = vp_V px_b2 j := by decide +kernel
theorem px_nr2 : ∀ v ∈ px_b2, ∀ k, v ≠ .ref k := by simp [px_b2]
theorem nw2 : px_NW 2 Q2 px_b2 := ⟨q2, px_Tm 161 (by decide +kernel) rfl, px_Tm 6 (by decide +kernel) rfl, ⟨tyX2, tyX2_ok, px_dv2⟩, px_nr2⟩
abbrev px_b3 : List Value := [.null, .int 0, .int 0]
theorem px_dv3 : ∀ j, j < 3 → defaultValue (tyX3 j) = vp_V px_b3 j := by decide +kernel
theorem px_nr3 : ∀ v ∈ px_b3, ∀ k, v ≠ .ref k := by simp [px_b3]
theorem nw3 : px_NW 3 Q3 px_b3 := ⟨q3, px_Tm 196 (by decide +kernel) rfl, px_Tm 7 (by decide +kernel) rfl, ⟨tyX3, tyX3_ok, px_dv3⟩, px_nr3⟩
abbrev px_b4 : List Value := [.null, .int 0, .int 0]
theorem px_dv4 : ∀ j, j < 3 → defaultValue (tyX4 j) = vp_V px_b4 j := by decide +kernel
theorem px_nr4 : ∀ v ∈ px_b4, ∀ k, v ≠ .ref k := by simp [px_b4]
theorem nw4 : px_NW 4 Q4 px_b4 := ⟨q4, px_Tm 89 (by decide +kernel) rfl, px_Tm 5 (by decide +kernel) rfl, ⟨tyX4, tyX4_ok, px_dv4⟩, px_nr4⟩
abbrev px_b5 : List Value := [.null, .null, .null, .null, .null, .null, .int 0, .int 0]
theorem px_dv5 : ∀ j, j < 8 → defaultValue (tyX5 j) = vp_V px_b5 j := by decide +kernel
theorem px_nr5 : ∀ v ∈ px_b5, ∀ k, v ≠ .ref k := by simp [px_b5]
theorem nw5 : px_NW 5 Q5 px_b5 := ⟨q5, px_Tm 17 (by decide +kernel) rfl, px_Tm 1 (by decide +kernel) rfl, ⟨tyX5, tyX5_ok, px_dv5⟩, px_nr5⟩
abbrev px_b6 : List Value := [.int 0, .null, .null, .int 0, .int 0, .null, .int 0, .null, .null, .null, .null, .int 0, .int 0, .int 0, .int 0, .int 0, .int 0, .int 0, .int 0, .int 0, .int 0, .int 0, .int 0, .int 0, .int 0, .int 0, .int 0, .long 0, .int 0, .int 0, .int 0, .int 0, .null, .null, .null, .int 0, .int 0, .int 0, .null, .null, .null, .null, .int 0, .int 0, .int 0, .null, .null, .null, .int 0, .int 0, .int 0, .int 0, .int 0, .int 0, .null, .null, .null, .null]
theorem px_dv6 : ∀ j, j < 58 → defaultValue (tyX6 j) = vp_V px_b6 j := by decide +kernel
theorem px_nr6 : ∀ v ∈ px_b6, ∀ k, v ≠ .ref k := by simp [px_b6]
theorem nw6 : px_NW 6 Q6 px_b6 := ⟨q6, px_Tm 846 (by decide +kernel) rfl, px_Tm 14 (by decide +kernel) rfl, ⟨tyX6, tyX6_ok, px_dv6⟩, px_nr6⟩
set_option maxRecDepth 20000 in
theorem k_X0_init {h : List px_C} {k : Nat} (wf : px_wf h) (hb : h[k]? = some (.inl (0, px_b0))) (hlt : h.length + 100 < 1000) : px_K 1 4 70 m_X0_init [.ref k] h none (px_hx h k (.inl (0, [.ref (h.length + 0), .ref (h.length + 1), .ref (h.length + 2), .ref (h.length + 3), .int 0, .int 0, .int 100, .int 3, .int 0, .int 0])) [.inr (.inl (0, 7, fun _ => 0)), .inr (.inl (0, 7, fun _ => 0)), .inr (.inl (0, 49, fun j => if j < 49 then 5 else 0)), .inr (.inl (0, 7, fun _ => 0))]) := by
  have hk : k < h.length := (List.getElem?_eq_some_iff.mp hb).1
  refine px_Kof (g := fun _ : Unit => (none, (px_hx h k (.inl (0, [.ref (h.length + 0), .ref (h.length + 1), .ref (h.length + 2), .ref (h.length + 3), .int 0, .int 0, .int 100, .int 3, .int 0, .int 0])) [.inr (.inl (0, 7, fun _ => 0)), .inr (.inl (0, 7, fun _ => 0)), .inr (.inl (0, 49, fun j => if j < 49 then 5 else 0)), .inr (.inl (0, 7, fun _ => 0))]))) (f := some ()) (b := ()) rfl mf_X0_init (Nat.le_of_ble_eq_true rfl) (L := [some (.ref k)]) rfl ?_
  refine o_heap (px_wf_set0 hb) ?_
  refine o_aload_n dX0_init_0 rfl ?_
  refine o_obj dX0_init_1 ob_X0_3 w_obi w_obc (Nat.le_of_ble_eq_true rfl) (Nat.le_of_ble_eq_true rfl) ?_
  refine o_aload_n dX0_init_4 rfl ?_
  refine o_bipush (v := 7) dX0_init_5 (by decide) ?_
  refine n_newi (m := 7) (N := h.length + 0) (h' := (px_hx h k (.inl (0, [.null, .null, .null, .null, .int 0, .int 0, .int 0, .int 0, .int 0, .int 0])) [.inr (.inl (0, 7, fun _ => 0))])) dX0_init_7 w_aint (by decide) (by decide) (by decide) (Nat.le_of_ble_eq_true rfl) (Nat.le_of_ble_eq_true rfl) (by rw [px_hx_len]; rfl) (by omega) (px_wf_hx wf (by simp [px_rl, px_rvs, px_rv] <;> omega) (by simp [px_rls, px_rl, px_rvs, px_rv] <;> omega)) ⟨(Nat.lt_of_lt_of_le hk (Nat.le_add_right _ _)), trivial⟩ ⟨(Nat.lt_of_lt_of_le hk (Nat.le_add_right _ _)), trivial⟩ (px_hx_new rfl) ?_
  refine o_putF (ty0 := (.array .int)) dX0_init_9 q0 fl_X0_9 (by decide) rfl rfl rfl (tyX0_ok 0 (by decide)) (fun _ => rfl) (fun _ => rfl) (px_hx_get hk) (Nat.le_of_ble_eq_true rfl) (px_hx_put hk) ?_
  refine o_aload_n dX0_init_12 rfl ?_
  refine o_bipush (v := 7) dX0_init_13 (by decide) ?_
  refine n_newi (m := 7) (N := h.length + 1) (h' := (px_hx h k (.inl (0, [.ref (h.length + 0), .null, .null, .null, .int 0, .int 0, .int 0, .int 0, .int 0, .int 0])) [.inr (.inl (0, 7, fun _ => 0)), .inr (.inl (0, 7, fun _ => 0))])) dX0_init_15 w_aint (by decide) (by decide) (by decide) (Nat.le_of_ble_eq_true rfl) (Nat.le_of_ble_eq_true rfl) (by rw [px_hx_len]; rfl) (by omega) (px_wf_hx wf (by simp [px_rl, px_rvs, px_rv] <;> omega) (by simp [px_rls, px_rl, px_rvs, px_rv] <;> omega)) ⟨(Nat.lt_of_lt_of_le hk (Nat.le_add_right _ _)), trivial⟩ ⟨(Nat.lt_of_lt_of_le hk (Nat.le_add_right _ _)), trivial⟩ (px_hx_new rfl) ?_
  refine o_putF (ty0 := (.array .int)) dX0_init_17 q0 fl_X0_15 (by decide) rfl rfl rfl (tyX0_ok 1 (by decide)) (fun _ => rfl) (fun _ => rfl) (px_hx_get hk) (Nat.le_of_ble_eq_true rfl) (px_hx_put hk) ?_
  refine o_aload_n dX0_init_20 rfl ?_
  refine o_bipush (v := 49) dX0_init_21 (by decide) ?_
  refine n_newi (m := 49) (N := h.length + 2) (h' := (px_hx h k (.inl (0, [.ref (h.length + 0), .ref (h.length + 1), .null, .null, .int 0, .int 0, .int 0, .int 0, .int 0, .int 0])) [.inr (.inl (0, 7, fun _ => 0)), .inr (.inl (0, 7, fun _ => 0)), .inr (.inl (0, 49, fun _ => 0))])) dX0_init_23 w_aint (by decide) (by decide) (by decide) (Nat.le_of_ble_eq_true rfl) (Nat.le_of_ble_eq_true rfl) (by rw [px_hx_len]; rfl) (by omega) (px_wf_hx wf (by simp [px_rl, px_rvs, px_rv] <;> omega) (by simp [px_rls, px_rl, px_rvs, px_rv] <;> omega)) ⟨(Nat.lt_of_lt_of_le hk (Nat.le_add_right _ _)), trivial⟩ ⟨(Nat.lt_of_lt_of_le hk (Nat.le_add_right _ _)), trivial⟩ (px_hx_new rfl) ?_
  refine o_putF (ty0 := (.array .int)) dX0_init_25 q0 fl_X0_18 (by decide) rfl rfl rfl (tyX0_ok 2 (by decide)) (fun _ => rfl) (fun _ => rfl) (px_hx_get hk) (Nat.le_of_ble_eq_true rfl) (px_hx_put hk) ?_
  refine o_aload_n dX0_init_28 rfl ?_
  refine o_bipush (v := 7) dX0_init_29 (by decide) ?_
  refine n_newi (m := 7) (N := h.length + 3) (h' := (px_hx h k (.inl (0, [.ref (h.length + 0), .ref (h.length + 1), .ref (h.length + 2), .null, .int 0, .int 0, .int 0, .int 0, .int 0, .int 0])) [.inr (.inl (0, 7, fun _ => 0)), .inr (.inl (0, 7, fun _ => 0)), .inr (.inl (0, 49, fun _ => 0)), .inr (.inl (0, 7, fun _ => 0))])) dX0_init_31 w_aint (by decide) (by decide) (by decide) (Nat.le_of_ble_eq_true rfl) (Nat.le_of_ble_eq_true rfl) (by rw [px_hx_len]; rfl) (by omega) (px_wf_hx wf (by simp [px_rl, px_rvs, px_rv] <;> omega) (by simp [px_rls, px_rl, px_rvs, px_rv] <;> omega)) ⟨(Nat.lt_of_lt_of_le hk (Nat.le_add_right _ _)), trivial⟩ ⟨(Nat.lt_of_lt_of_le hk (Nat.le_add_right _ _)), trivial⟩ (px_hx_new rfl) ?_
  refine o_putF (ty0 := (.array .int)) dX0_init_33 q0 fl_X0_21 (by decide) rfl rfl rfl (tyX0_ok 3 (by decide)) (fun _ => rfl) (fun _ => rfl) (px_hx_get hk) (Nat.le_of_ble_eq_true rfl) (px_hx_put hk) ?_
  refine o_aload_n dX0_init_36 rfl ?_
  refine o_bipush (v := 100) dX0_init_37 (by decide) ?_
  refine o_put (ty0 := .int) dX0_init_39 q0 fl_X0_24 (by decide) rfl (tyX0_ok 6 (by decide)) (fun _ => rfl) (fun _ => rfl) (px_hx_get hk) (Nat.le_of_ble_eq_true rfl) (px_hx_put hk) ?_
  refine o_aload_n dX0_init_42 rfl ?_
  refine o_iconst (v := 3) dX0_init_43 (by decide) ?_
  refine o_put (ty0 := .int) dX0_init_44 q0 fl_X0_28 (by decide) rfl (tyX0_ok 7 (by decide)) (fun _ => rfl) (fun _ => rfl) (px_hx_get hk) (Nat.le_of_ble_eq_true rfl) (px_hx_put hk) ?_
  refine o_aload_n dX0_init_47 rfl ?_
  refine o_get (v := .ref (h.length + 2)) dX0_init_48 q0 fl_X0_18 (by decide) (px_hx_get hk) rfl ?_
  refine o_iconst (v := 5) dX0_init_51 (by decide) ?_
  have hK52 := k_fill (h := (px_hx h k (.inl (0, [.ref (h.length + 0), .ref (h.length + 1), .ref (h.length + 2), .ref (h.length + 3), .int 0, .int 0, .int 100, .int 3, .int 0, .int 0])) [.inr (.inl (0, 7, fun _ => 0)), .inr (.inl (0, 7, fun _ => 0)), .inr (.inl (0, 49, fun _ => 0)), .inr (.inl (0, 7, fun _ => 0))])) (a := h.length + 2) (v := 5) (n := 49) (f := fun _ => 0) (by decide) (px_hx_getN rfl)
  rw [px_hx_setN rfl] at hK52
  refine o_callS (as := [.ref (h.length + 2), .int 5]) (S1 := []) (rv := none) (mc' := 0) (ms' := 0) (h' := (px_hx h k (.inl (0, [.ref (h.length + 0), .ref (h.length + 1), .ref (h.length + 2), .ref (h.length + 3), .int 0, .int 0, .int 100, .int 3, .int 0, .int 0])) [.inr (.inl (0, 7, fun _ => 0)), .inr (.inl (0, 7, fun _ => 0)), .inr (.inl (0, 49, fun j => if j < 49 then 5 else 0)), .inr (.inl (0, 7, fun _ => 0))])) dX0_init_52 mf_J7_fill_53178 ml_X0_31 ms_J7_fill_53178 rfl hK52 (Nat.le_of_ble_eq_true rfl) rfl (Nat.le_of_ble_eq_true rfl) ⟨(Nat.le_of_ble_eq_true rfl), (Nat.le_of_ble_eq_true rfl)⟩ (by rw [px_hx_len, px_hx_len]; exact fun v _ => px_ov_same _ v) (by rw [px_hx_len, px_hx_len]; exact fun v _ => px_ov_same _ v) ?_
  exact o_vret rfl dX0_init_55 rfl (Nat.le_of_ble_eq_true rfl) (Nat.le_of_ble_eq_true rfl)
set_option maxRecDepth 20000 in
theorem k_X4_init {h : List px_C} {k : Nat} {c : Nat} {x : Int32} {y : Int32} (wf : px_wf h) (hb : h[k]? = some (.inl (4, px_b4))) (hlt : h.length + 100 < 1000) : px_K 1 0 0 m_X4_init [.ref k, .ref c, .int x, .int y] h none (px_hx h k (.inl (4, [.ref c, .int x, .int y])) []) := by
  have hk : k < h.length := (List.getElem?_eq_some_iff.mp hb).1
  refine px_Kof (g := fun _ : Unit => (none, (px_hx h k (.inl (4, [.ref c, .int x, .int y])) []))) (f := some ()) (b := ()) rfl mf_X4_init (Nat.le_of_ble_eq_true rfl) (L := [some (.ref k), some (.ref c), some (.int x), some (.int y)]) rfl ?_
  refine o_heap (px_wf_set0 hb) ?_
  refine o_aload_n dX4_init_0 rfl ?_
  refine o_obj dX4_init_1 ob_X4_3 w_obi w_obc (Nat.le_of_ble_eq_true rfl) (Nat.le_of_ble_eq_true rfl) ?_
  refine o_aload_n dX4_init_4 rfl ?_
  refine o_aload_n dX4_init_5 rfl ?_
  refine o_putF (ty0 := (.array .int)) dX4_init_6 q4 fl_X4_9 (by decide) rfl rfl rfl (tyX4_ok 0 (by decide)) (fun _ => rfl) (fun _ => rfl) (px_hx_get hk) (Nat.le_of_ble_eq_true rfl) (px_hx_put hk) ?_
  refine o_aload_n dX4_init_9 rfl ?_
  refine o_iload_n dX4_init_10 rfl ?_
  refine o_putF (ty0 := .int) dX4_init_11 q4 fl_X4_15 (by decide) rfl rfl rfl (tyX4_ok 1 (by decide)) (fun _ => rfl) (fun _ => rfl) (px_hx_get hk) (Nat.le_of_ble_eq_true rfl) (px_hx_put hk) ?_
  refine o_aload_n dX4_init_14 rfl ?_
  refine o_iload_n dX4_init_15 rfl ?_
  refine o_putF (ty0 := .int) dX4_init_16 q4 fl_X4_19 (by decide) rfl rfl rfl (tyX4_ok 2 (by decide)) (fun _ => rfl) (fun _ => rfl) (px_hx_get hk) (Nat.le_of_ble_eq_true rfl) (px_hx_put hk) ?_
  exact o_vret rfl dX4_init_19 rfl (Nat.le_of_ble_eq_true rfl) (Nat.le_of_ble_eq_true rfl)
set_option maxRecDepth 20000 in
theorem k_X3_init {h : List px_C} {k : Nat} (wf : px_wf h) (hb : h[k]? = some (.inl (3, px_b3))) (hlt : h.length + 100 < 1000) : px_K 1 1 40 m_X3_init [.ref k] h none (px_hx h k (.inl (3, [.ref (h.length + 0), .int (-1), .int 0])) [.inr (.inl (0, 40, fun _ => 0))]) := by
  have hk : k < h.length := (List.getElem?_eq_some_iff.mp hb).1
  refine px_Kof (g := fun _ : Unit => (none, (px_hx h k (.inl (3, [.ref (h.length + 0), .int (-1), .int 0])) [.inr (.inl (0, 40, fun _ => 0))]))) (f := some ()) (b := ()) rfl mf_X3_init (Nat.le_of_ble_eq_true rfl) (L := [some (.ref k)]) rfl ?_
  refine o_heap (px_wf_set0 hb) ?_
  refine o_aload_n dX3_init_0 rfl ?_
  refine o_obj dX3_init_1 ob_X3_3 w_obi w_obc (Nat.le_of_ble_eq_true rfl) (Nat.le_of_ble_eq_true rfl) ?_
  refine o_aload_n dX3_init_4 rfl ?_
  refine o_bipush (v := 40) dX3_init_5 (by decide) ?_
  refine n_newi (m := 40) (N := h.length + 0) (h' := (px_hx h k (.inl (3, [.null, .int 0, .int 0])) [.inr (.inl (0, 40, fun _ => 0))])) dX3_init_7 w_aint (by decide) (by decide) (by decide) (Nat.le_of_ble_eq_true rfl) (Nat.le_of_ble_eq_true rfl) (by rw [px_hx_len]; rfl) (by omega) (px_wf_hx wf (by simp [px_rl, px_rvs, px_rv] <;> omega) (by simp [px_rls, px_rl, px_rvs, px_rv] <;> omega)) ⟨(Nat.lt_of_lt_of_le hk (Nat.le_add_right _ _)), trivial⟩ ⟨(Nat.lt_of_lt_of_le hk (Nat.le_add_right _ _)), trivial⟩ (px_hx_new rfl) ?_
  refine o_putF (ty0 := (.array .int)) dX3_init_9 q3 fl_X3_9 (by decide) rfl rfl rfl (tyX3_ok 0 (by decide)) (fun _ => rfl) (fun _ => rfl) (px_hx_get hk) (Nat.le_of_ble_eq_true rfl) (px_hx_put hk) ?_
  refine o_aload_n dX3_init_12 rfl ?_
  refine o_iconst (v := (-1)) dX3_init_13 (by decide) ?_
  refine o_put (ty0 := .int) dX3_init_14 q3 fl_X3_15 (by decide) rfl (tyX3_ok 1 (by decide)) (fun _ => rfl) (fun _ => rfl) (px_hx_get hk) (Nat.le_of_ble_eq_true rfl) (px_hx_put hk) ?_
  exact o_vret rfl dX3_init_17 rfl (Nat.le_of_ble_eq_true rfl) (Nat.le_of_ble_eq_true rfl)
set_option maxRecDepth 20000 in
theorem k_X2_init {h : List px_C} {k : Nat} (wf : px_wf h) (hb : h[k]? = some (.inl (2, px_b2))) (hlt : h.length + 100 < 1000) : px_K 1 4 640 m_X2_init [.ref k] h none (px_hx h k (.inl (2, [.ref (h.length + 0), .int 0, .ref (h.length + 1), .ref (h.length + 2), .int 0, .int 0, .ref (h.length + 3), .int 0])) [.inr (.inl (0, 160, fun _ => 0)), .inr (.inl (0, 160, fun _ => 0)), .inr (.inl (0, 160, fun _ => 0)), .inr (.inl (0, 160, fun _ => 0))]) := by
  have hk : k < h.length := (List.getElem?_eq_some_iff.mp hb).1
  refine px_Kof (g := fun _ : Unit => (none, (px_hx h k (.inl (2, [.ref (h.length + 0), .int 0, .ref (h.length + 1), .ref (h.length + 2), .int 0, .int 0, .ref (h.length + 3), .int 0])) [.inr (.inl (0, 160, fun _ => 0)), .inr (.inl (0, 160, fun _ => 0)), .inr (.inl (0, 160, fun _ => 0)), .inr (.inl (0, 160, fun _ => 0))]))) (f := some ()) (b := ()) rfl mf_X2_init (Nat.le_of_ble_eq_true rfl) (L := [some (.ref k)]) rfl ?_
  refine o_heap (px_wf_set0 hb) ?_
  refine o_aload_n dX2_init_0 rfl ?_
  refine o_obj dX2_init_1 ob_X2_3 w_obi w_obc (Nat.le_of_ble_eq_true rfl) (Nat.le_of_ble_eq_true rfl) ?_
  refine o_aload_n dX2_init_4 rfl ?_
  refine o_sipush (v := 160) dX2_init_5 (by decide) ?_
  refine n_newi (m := 160) (N := h.length + 0) (h' := (px_hx h k (.inl (2, [.null, .int 0, .null, .null, .int 0, .int 0, .null, .int 0])) [.inr (.inl (0, 160, fun _ => 0))])) dX2_init_8 w_aint (by decide) (by decide) (by decide) (Nat.le_of_ble_eq_true rfl) (Nat.le_of_ble_eq_true rfl) (by rw [px_hx_len]; rfl) (by omega) (px_wf_hx wf (by simp [px_rl, px_rvs, px_rv] <;> omega) (by simp [px_rls, px_rl, px_rvs, px_rv] <;> omega)) ⟨(Nat.lt_of_lt_of_le hk (Nat.le_add_right _ _)), trivial⟩ ⟨(Nat.lt_of_lt_of_le hk (Nat.le_add_right _ _)), trivial⟩ (px_hx_new rfl) ?_
  refine o_putF (ty0 := (.array .int)) dX2_init_10 q2 fl_X2_9 (by decide) rfl rfl rfl (tyX2_ok 0 (by decide)) (fun _ => rfl) (fun _ => rfl) (px_hx_get hk) (Nat.le_of_ble_eq_true rfl) (px_hx_put hk) ?_
  refine o_aload_n dX2_init_13 rfl ?_
  refine o_sipush (v := 160) dX2_init_14 (by decide) ?_
  refine n_newi (m := 160) (N := h.length + 1) (h' := (px_hx h k (.inl (2, [.ref (h.length + 0), .int 0, .null, .null, .int 0, .int 0, .null, .int 0])) [.inr (.inl (0, 160, fun _ => 0)), .inr (.inl (0, 160, fun _ => 0))])) dX2_init_17 w_aint (by decide) (by decide) (by decide) (Nat.le_of_ble_eq_true rfl) (Nat.le_of_ble_eq_true rfl) (by rw [px_hx_len]; rfl) (by omega) (px_wf_hx wf (by simp [px_rl, px_rvs, px_rv] <;> omega) (by simp [px_rls, px_rl, px_rvs, px_rv] <;> omega)) ⟨(Nat.lt_of_lt_of_le hk (Nat.le_add_right _ _)), trivial⟩ ⟨(Nat.lt_of_lt_of_le hk (Nat.le_add_right _ _)), trivial⟩ (px_hx_new rfl) ?_
  refine o_putF (ty0 := (.array .int)) dX2_init_19 q2 fl_X2_15 (by decide) rfl rfl rfl (tyX2_ok 2 (by decide)) (fun _ => rfl) (fun _ => rfl) (px_hx_get hk) (Nat.le_of_ble_eq_true rfl) (px_hx_put hk) ?_
  refine o_aload_n dX2_init_22 rfl ?_
  refine o_sipush (v := 160) dX2_init_23 (by decide) ?_
  refine n_newi (m := 160) (N := h.length + 2) (h' := (px_hx h k (.inl (2, [.ref (h.length + 0), .int 0, .ref (h.length + 1), .null, .int 0, .int 0, .null, .int 0])) [.inr (.inl (0, 160, fun _ => 0)), .inr (.inl (0, 160, fun _ => 0)), .inr (.inl (0, 160, fun _ => 0))])) dX2_init_26 w_aint (by decide) (by decide) (by decide) (Nat.le_of_ble_eq_true rfl) (Nat.le_of_ble_eq_true rfl) (by rw [px_hx_len]; rfl) (by omega) (px_wf_hx wf (by simp [px_rl, px_rvs, px_rv] <;> omega) (by simp [px_rls, px_rl, px_rvs, px_rv] <;> omega)) ⟨(Nat.lt_of_lt_of_le hk (Nat.le_add_right _ _)), trivial⟩ ⟨(Nat.lt_of_lt_of_le hk (Nat.le_add_right _ _)), trivial⟩ (px_hx_new rfl) ?_
  refine o_putF (ty0 := (.array .int)) dX2_init_28 q2 fl_X2_18 (by decide) rfl rfl rfl (tyX2_ok 3 (by decide)) (fun _ => rfl) (fun _ => rfl) (px_hx_get hk) (Nat.le_of_ble_eq_true rfl) (px_hx_put hk) ?_
  refine o_aload_n dX2_init_31 rfl ?_
  refine o_sipush (v := 160) dX2_init_32 (by decide) ?_
  refine n_newi (m := 160) (N := h.length + 3) (h' := (px_hx h k (.inl (2, [.ref (h.length + 0), .int 0, .ref (h.length + 1), .ref (h.length + 2), .int 0, .int 0, .null, .int 0])) [.inr (.inl (0, 160, fun _ => 0)), .inr (.inl (0, 160, fun _ => 0)), .inr (.inl (0, 160, fun _ => 0)), .inr (.inl (0, 160, fun _ => 0))])) dX2_init_35 w_aint (by decide) (by decide) (by decide) (Nat.le_of_ble_eq_true rfl) (Nat.le_of_ble_eq_true rfl) (by rw [px_hx_len]; rfl) (by omega) (px_wf_hx wf (by simp [px_rl, px_rvs, px_rv] <;> omega) (by simp [px_rls, px_rl, px_rvs, px_rv] <;> omega)) ⟨(Nat.lt_of_lt_of_le hk (Nat.le_add_right _ _)), trivial⟩ ⟨(Nat.lt_of_lt_of_le hk (Nat.le_add_right _ _)), trivial⟩ (px_hx_new rfl) ?_
  refine o_putF (ty0 := (.array .int)) dX2_init_37 q2 fl_X2_21 (by decide) rfl rfl rfl (tyX2_ok 6 (by decide)) (fun _ => rfl) (fun _ => rfl) (px_hx_get hk) (Nat.le_of_ble_eq_true rfl) (px_hx_put hk) ?_
  exact o_vret rfl dX2_init_40 rfl (Nat.le_of_ble_eq_true rfl) (Nat.le_of_ble_eq_true rfl)
