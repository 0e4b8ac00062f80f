/-! THE PURE PICTURE: a heap is a list of cells, a reference is a place in it; 'px_O' says that the machine, standing at a place of a method with such a heap, comes to the method's end with the answer and the heap that a pure term 'res' tells (nothing is said where it tells none). -/
abbrev px_C : Type := (Nat × List Value) ⊕ ((Nat × Nat × (Nat → Int32)) ⊕ (Nat × Nat × (Nat → Option Nat)))
def px_v (r : Nat → Nat) (v : Value) : Value := match v with
  | .ref k => .ref (r k)
  | w => w
theorem px_v_int (r : Nat → Nat) (x : Int32) : px_v r (.int x) = .int x := rfl
theorem px_v_long (r : Nat → Nat) (x : Int64) : px_v r (.long x) = .long x := rfl
theorem px_v_null (r : Nat → Nat) : px_v r .null = .null := rfl
theorem px_v_ref (r : Nat → Nat) (k : Nat) : px_v r (.ref k) = .ref (r k) := rfl
theorem px_v_cat (r : Nat → Nat) (v : Value) : (px_v r v).category = v.category := by cases v <;> rfl
def px_c (r : Nat → Nat) (ty : Nat → ClassId) (c : px_C) : va_E := match c with
  | .inl (ci, fs) => .inr (ci, fs.map (px_v r))
  | .inr (.inl (t, n, f)) => .inl (ty t, n, .inl f)
  | .inr (.inr (t, n, f)) => .inl (ty t, n, .inr (.inr (.inr (.inr (fun j => (f j).map r)))))
def px_w (r : Nat → Nat) (ty : Nat → ClassId) (h : List px_C) : va_W := h.mapIdx (fun k c => (r k, px_c r ty c))
theorem px_w_len (r : Nat → Nat) (ty : Nat → ClassId) (h : List px_C) : (px_w r ty h).length = h.length := by simp [px_w]
theorem px_w_get {r : Nat → Nat} {ty : Nat → ClassId} {h : List px_C} {k : Nat} {c : px_C} (hc : h[k]? = some c) : (px_w r ty h)[k]? = some (r k, px_c r ty c) := by
  simp [px_w, List.getElem?_mapIdx, hc]
theorem px_w_at {r : Nat → Nat} {ty : Nat → ClassId} {h : List px_C} {k : Nat} {q : Nat × va_E} (hq : (px_w r ty h)[k]? = some q) : ∃ c, h[k]? = some c ∧ q = (r k, px_c r ty c) := by
  simp only [px_w, List.getElem?_mapIdx] at hq
  cases hc : h[k]? with
  | none => rw [hc] at hq; cases hq
  | some c => rw [hc] at hq; exact ⟨c, rfl, (Option.some.inj hq).symm⟩
theorem px_w_set (r : Nat → Nat) (ty : Nat → ClassId) (h : List px_C) (k : Nat) (c : px_C) : (px_w r ty h).set k (r k, px_c r ty c) = px_w r ty (h.set k c) := by
  apply List.ext_getElem?
  intro i
  simp only [px_w, List.getElem?_mapIdx, List.getElem?_set, List.length_mapIdx]
  by_cases hi : k = i
  · subst hi
    by_cases hl : k < h.length
    · simp [hl]
    · simp [hl]
  · simp [hi]
/-- no reference to place n -/
def px_fv (n : Nat) (v : Value) : Prop := ∀ k, v = .ref k → k ≠ n
def px_fr (n : Nat) (c : px_C) : Prop := match c with
  | .inl (_, fs) => ∀ v ∈ fs, px_fv n v
  | .inr (.inl _) => True
  | .inr (.inr (_, _, f)) => ∀ j k, f j = some k → k ≠ n
theorem px_v_up {r : Nat → Nat} {n q : Nat} {v : Value} (h : px_fv n v) : px_v (va_up r n q) v = px_v r v := by
  cases v with
  | ref k => simp only [px_v, va_up_ne _ _ (h k rfl)]
  | _ => rfl
theorem px_c_up {r : Nat → Nat} {ty : Nat → ClassId} {n q : Nat} {c : px_C} (h : px_fr n c) : px_c (va_up r n q) ty c = px_c r ty c := by
  match c, h with
  | .inl (ci, fs), h =>
    simp only [px_c]
    congr 2
    exact List.map_congr_left (fun v hv => px_v_up (h v hv))
  | .inr (.inl (t, n0, f)), h => rfl
  | .inr (.inr (t, n0, f)), h =>
    have e : (fun j => (f j).map (va_up r n q)) = fun j => (f j).map r := by
      funext j
      cases hf : f j with
      | none => rfl
      | some k => simp only [Option.map_some, va_up_ne _ _ (h j k hf)]
    simp only [px_c, e]
theorem px_w_push {r : Nat → Nat} {ty : Nat → ClassId} {h : List px_C} {q : Nat} {c : px_C} (hf : ∀ x ∈ h, px_fr h.length x) (hc : px_fr h.length c) : px_w r ty h ++ [(q, px_c r ty c)] = px_w (va_up r h.length q) ty (h ++ [c]) := by
  apply List.ext_getElem?
  intro i
  by_cases hi : i < h.length
  · rw [List.getElem?_append_left (by rw [px_w_len]; exact hi)]
    have h1 : (h ++ [c])[i]? = some h[i] := by rw [List.getElem?_append_left hi]; exact List.getElem?_eq_getElem hi
    rw [px_w_get (List.getElem?_eq_getElem hi), px_w_get h1, px_c_up (hf _ (List.getElem_mem hi)), va_up_ne _ _ (Nat.ne_of_lt hi)]
  · rw [List.getElem?_append_right (by rw [px_w_len]; omega), px_w_len]
    by_cases he : i = h.length
    · subst he
      have h1 : (h ++ [c])[h.length]? = some c := by rw [List.getElem?_append_right (Nat.le_refl _)]; simp
      rw [px_w_get h1, px_c_up hc]
      simp [va_up]
    · rw [List.getElem?_eq_none (by simp; omega), List.getElem?_eq_none (by rw [px_w_len]; simp; omega)]
def px_tys (ty : Nat → ClassId) : List (ClassId × FieldType) := [(ty 0, .int), (ty 1, .boolean), (ty 2, .object "ThreeOfThem$Text"), (ty 3, .object "ThreeOfThem$Sheet")]
abbrev vwCl : List vw_C := [(RX0, TX0, 10), (RX1, TX1, 16), (RX2, TX2, 8), (RX3, TX3, 3), (RX4, TX4, 3), (RX5, TX5, 8), (RX6, TX6, 58)]
/-- the cells that a method may change: the first n places, and what comes -/
def px_A (r : Nat → Nat) (n sz : Nat) : Nat → Prop := fun q => (∃ k, k < n ∧ q = r k) ∨ sz ≤ q
theorem px_A_eq (r : Nat → Nat) (ty : Nat → ClassId) (h : List px_C) (sz : Nat) : va_A (px_w r ty h) sz = px_A r h.length sz := by
  funext q
  apply propext
  constructor
  · rintro (⟨k, e, hk⟩ | hq)
    · obtain ⟨c, hc, he⟩ := px_w_at hk
      exact Or.inl ⟨k, (List.getElem?_eq_some_iff.mp hc).1, congrArg Prod.fst he⟩
    · exact Or.inr hq
  · rintro (⟨k, hk, e⟩ | hq)
    · exact Or.inl ⟨k, _, by rw [px_w_get (List.getElem?_eq_getElem hk), e]⟩
    · exact Or.inr hq
/-- what stands outside the picture: words of nest mates, text constants, statics -/
def px_isNest (w : Cond) : Bool := match w with
  | .methodLinkNest .. => true
  | _ => false
def px_Nt : List Cond := tables_1.filter px_isNest
def px_own (i : Nat) : String := if i = 0 then "ThreeOfThem" else "ThreeOfThem$Reader"
def px_idx (i : Nat) : Nat := [46, 82, 88, 90, 92, 94, 96, 98, 100, 102, 104, 106, 108].getD i 0
def px_tx (i : Nat) : String := ["company like ; oath 20 ; joins like < 9 ;", "like", "many", "share", "days", "one", "other", "or", "and", "not", "company", "oath", "joins"].getD i ""
def px_byt : List (List Int32) := [[99, 111, 109, 112, 97, 110, 121, 32, 108, 105, 107, 101, 32, 59, 32, 111, 97, 116, 104, 32, 50, 48, 32, 59, 32, 106, 111, 105, 110, 115, 32, 108, 105, 107, 101, 32, 60, 32, 57, 32, 59], [108, 105, 107, 101], [109, 97, 110, 121], [115, 104, 97, 114, 101], [100, 97, 121, 115], [111, 110, 101], [111, 116, 104, 101, 114], [111, 114], [97, 110, 100], [110, 111, 116], [99, 111, 109, 112, 97, 110, 121], [111, 97, 116, 104], [106, 111, 105, 110, 115]]
def px_len : List Nat := [41, 4, 4, 5, 4, 3, 5, 2, 3, 3, 7, 4, 5]
def px_und (j : Nat) : Int32 := [-1, 0, 0, 1, 2, 1].getD j 0
def px_E (r adV : Nat → Nat) (A : Nat → Prop) (U : State) (H : Heap) : Prop :=
  (∀ w ∈ px_Nt, va_Nw w U) ∧ vk_S 13 px_len px_byt (fun i => r (1000 + i)) (fun i => r (3000 + i)) A U H ∧ (∀ i : Nat, i < 13 → vk_R (px_own i) (px_idx i) (px_tx i) (r (1000 + i)) U) ∧
  va_Z "ThreeOfThem" "UNDER" "[I" (.ref (r 2000)) A U H ∧ va_T .int (r 2000) 6 (fun j => .int (px_und j)) A U H ∧ va_Z "java/lang/String" "COMPACT_STRINGS" "Z" (.int 1) A U H ∧
  (va_Z "jdk/internal/util/Preconditions" "SIOOBE_FORMATTER" "Ljava/util/function/BiFunction;" .null A U H ∨ va_Z "jdk/internal/util/Preconditions" "SIOOBE_FORMATTER" "Ljava/util/function/BiFunction;" (.ref (r 2001)) A U H) ∧ va_AO "ThreeOfThem$Text" U ∧ va_AO "ThreeOfThem$Sheet" U
theorem px_nest_warm {w : Cond} (hw : px_isNest w = true) {s U : State} (hW : s.WarmedH U.vm) (h : va_Nw w s) : va_Nw w U := by
  cases w <;> first | (simp [px_isNest] at hw; done) | exact va_Nw.warmM hW h
theorem px_nest_same {w : Cond} (hw : px_isNest w = true) {s U : State} (hv : s.vm = U.vm) (h : va_Nw w s) : va_Nw w U := by
  cases w <;> first | (simp [px_isNest] at hw; done) | exact va_Nw.same rfl hv h
theorem px_E.warm {r adV : Nat → Nat} {A : Nat → Prop} {s U : State} {H : Heap} (hW : s.WarmedH U.vm) (h : px_E r adV A s H) : px_E r adV A U H := by
  obtain ⟨h1, h2, h3, h4, h5, h6, h7, h8, h9⟩ := h
  have hv := hW.alike
  exact ⟨fun w hw => px_nest_warm (List.mem_filter.mp hw).2 hW (h1 w hw), h2.moved hv, fun i hi => (h3 i hi).warm hW, h4.moved hv, h5.moved hv, h6.moved hv, h7.imp (fun z => z.moved hv) (fun z => z.moved hv), h8.moved hv, h9.moved hv⟩
theorem px_E.same {r adV : Nat → Nat} {A : Nat → Prop} {s U : State} {H : Heap} (hv : s.vm = U.vm) (h : px_E r adV A s H) : px_E r adV A U H := by
  obtain ⟨h1, h2, h3, h4, h5, h6, h7, h8, h9⟩ := h
  have ha : s.vm.Alike U.vm := by rw [hv]; exact Vm.Alike.refl _
  exact ⟨fun w hw => px_nest_same (List.mem_filter.mp hw).2 hv (h1 w hw), h2.moved ha, fun i hi => (h3 i hi).same hv.symm, h4.moved ha, h5.moved ha, h6.moved ha, h7.imp (fun z => z.moved ha) (fun z => z.moved ha), h8.moved ha, h9.moved ha⟩
theorem px_E.kept {r adV : Nat → Nat} {A : Nat → Prop} {U : State} {H H1 : Heap} (h : px_E r adV A U H) (hq : ∀ a : Nat, a < H.size → ¬ A a → H1[a]? = H[a]?) : px_E r adV A U H1 := by
  obtain ⟨h1, h2, h3, h4, h5, h6, h7, h8, h9⟩ := h
  exact ⟨h1, h2.kept hq, h3, h4.kept hq, h5.kept hq, h6.kept hq, h7.imp (fun z => z.kept hq) (fun z => z.kept hq), h8, h9⟩
theorem px_E.narrow {r adV : Nat → Nat} {A B : Nat → Prop} {U : State} {H : Heap} (h : px_E r adV A U H) (hAB : ∀ q, B q → A q) : px_E r adV B U H := by
  obtain ⟨h1, h2, h3, h4, h5, h6, h7, h8, h9⟩ := h
  exact ⟨h1, h2.narrow hAB, h3, h4.narrow hAB, h5.narrow hAB, h6.narrow hAB, h7.imp (fun z => z.narrow hAB) (fun z => z.narrow hAB), h8, h9⟩
theorem px_E.places {r r' adV : Nat → Nat} {A : Nat → Prop} {U : State} {H : Heap} (h : px_E r adV A U H) (hr : ∀ k, 1000 ≤ k → r' k = r k) : px_E r' adV A U H := by
  have e1 : (fun i => r' (1000 + i)) = fun i => r (1000 + i) := funext fun i => hr _ (Nat.le_add_right _ _)
  obtain ⟨h1, h2, h3, h4, h5, h6, h7, h8, h9⟩ := h
  have e2 : (fun i => r' (3000 + i)) = fun i => r (3000 + i) := funext fun i => hr _ (by omega)
  refine ⟨h1, by rw [e1, e2]; exact h2, fun i hi => by rw [hr _ (Nat.le_add_right _ _)]; exact h3 i hi, ?_, ?_, h6, ?_, h8, h9⟩
  · rw [hr 2000 (by decide)]; exact h4
  · rw [hr 2000 (by decide)]; exact h5
  · rw [hr 2001 (by decide)]; exact h7
abbrev px_M : Type := MethodName × ByteArray × Nat × Option FieldType
def px_T : List Cond := lw_tbl.filter goodWord
theorem px_T_good {w : Cond} (h : w ∈ px_T) : w ∈ lw_tbl ∧ ((w.onTables && w.keeps) = true ∨ ∃ ty, w = .arrayClass ty) := ⟨(List.mem_filter.mp h).1, good_of_word (List.mem_filter.mp h).2⟩
def px_ws (M : px_M) : List Cond := Cond.code M.1 M.2.1 M.2.2.1 M.2.2.2 :: px_T
def px_rm (d mc ms : Nat) : Room := { frames := d, cells := mc, slots := ms, locals := 80 * d }
/-- the locals: those that are known -/
def px_L (r : Nat → Nat) (ls : Array Slot) (nL : Nat) (L : List (Option Value)) : Prop := ls.size = nL ∧ lv_wf ls ∧ ∀ (i : Nat) (v : Value), L[i]? = some (some v) → ls[i]? = some (.val (px_v r v))
def px_ll (r : Nat → Nat) (L : List (Option Value)) : List (Nat × Value) := (L.zipIdx).filterMap (fun q => q.1.map (fun v => (q.2, px_v r v)))
theorem px_ll_mem {r : Nat → Nat} {L : List (Option Value)} {i : Nat} {v : Value} (h : L[i]? = some (some v)) : (i, px_v r v) ∈ px_ll r L := by
  refine List.mem_filterMap.mpr ⟨(some v, i), ?_, rfl⟩
  rw [List.mem_iff_getElem?]
  exact ⟨i, by simp [h]⟩
theorem px_ll_of {r : Nat → Nat} {L : List (Option Value)} {q : Nat × Value} (h : q ∈ px_ll r L) : ∃ v, L[q.1]? = some (some v) ∧ q.2 = px_v r v := by
  obtain ⟨x, hx, he⟩ := List.mem_filterMap.mp h
  obtain ⟨o, i⟩ := x
  cases o with
  | none => cases he
  | some v =>
    cases he
    rw [List.mem_iff_getElem?] at hx
    obtain ⟨j, hj⟩ := hx
    simp only [List.getElem?_zipIdx] at hj
    cases hl : L[j]? with
    | none => rw [hl] at hj; cases hj
    | some o =>
      rw [hl] at hj
      simp at hj
      obtain ⟨rfl, rfl⟩ := hj
      exact ⟨v, hl, rfl⟩
theorem px_L_has {r : Nat → Nat} {ls : Array Slot} {nL : Nat} {L : List (Option Value)} (h : px_L r ls nL L) : lv_has ls nL (px_ll r L) := by
  refine ⟨h.1, h.2.1, fun q hq => ?_⟩
  obtain ⟨v, h1, h2⟩ := px_ll_of hq
  rw [h2]
  exact h.2.2 _ _ h1
/-- no long just ahead of place i -/
def px_nl (L : List (Option Value)) (i : Nat) : Bool := match i with
  | 0 => true
  | j + 1 => match L[j]? with
    | some (some v) => v.category == 1
    | _ => true
theorem px_nl_spec {L : List (Option Value)} {i j : Nat} {v : Value} (h : px_nl L i = true) (hj : L[j]? = some (some v)) (e : j + 1 = i) : v.category = 1 := by
  subst e
  simp only [px_nl, hj] at h
  simpa using h
theorem px_L_set1 {r : Nat → Nat} {ls' : Array Slot} {nL i : Nat} {L : List (Option Value)} {v : Value} (hn : px_nl L i = true)
    (h : lv_has ls' nL ((i, px_v r v) :: (px_ll r L).filter (fun q => !(q.1 == i) && !(q.1 + 1 == i && q.2.category == 2)))) : px_L r ls' nL (L.set i (some v)) := by
  refine ⟨h.1, h.2.1, fun j w hj => ?_⟩
  by_cases e : j = i
  · subst e
    rw [List.getElem?_set] at hj
    simp at hj
    obtain ⟨-, rfl⟩ := hj
    exact h.2.2 (j, px_v r v) List.mem_cons_self
  · rw [List.getElem?_set_ne (Ne.symm e)] at hj
    refine h.2.2 (j, px_v r w) (List.mem_cons_of_mem _ (List.mem_filter.mpr ⟨px_ll_mem hj, ?_⟩))
    by_cases e2 : j + 1 = i
    · have := px_nl_spec hn hj e2
      simp [e, px_v_cat, this]
    · simp [e, e2]
theorem px_L_set2 {r : Nat → Nat} {ls' : Array Slot} {nL i : Nat} {L : List (Option Value)} {v : Value} (hn : px_nl L i = true)
    (h : lv_has ls' nL ((i, px_v r v) :: (px_ll r L).filter (fun q => !(q.1 == i) && (!(q.1 == i + 1) && !(q.1 + 1 == i && q.2.category == 2))))) : px_L r ls' nL ((L.set i (some v)).set (i + 1) none) := by
  refine ⟨h.1, h.2.1, fun j w hj => ?_⟩
  by_cases e1 : j = i + 1
  · subst e1
    rw [List.getElem?_set] at hj
    simp at hj
  · rw [List.getElem?_set_ne (Ne.symm e1)] at hj
    by_cases e : j = i
    · subst e
      rw [List.getElem?_set] at hj
      simp at hj
      obtain ⟨-, rfl⟩ := hj
      exact h.2.2 (j, px_v r v) List.mem_cons_self
    · rw [List.getElem?_set_ne (Ne.symm e)] at hj
      refine h.2.2 (j, px_v r w) (List.mem_cons_of_mem _ (List.mem_filter.mpr ⟨px_ll_mem hj, ?_⟩))
      by_cases e2 : j + 1 = i
      · have := px_nl_spec hn hj e2
        simp [e, e1, px_v_cat, this]
      · simp [e, e1, e2]
/-- what a method leaves behind -/
def px_Q (D : va_G) (ty : Nat → ClassId) (r : Nat → Nat) (n : Nat) (rv : Option Value) (hF : List px_C) (sz : Nat) : Array Value → State → Outcome → State → Prop := fun _ st oc t =>
  (∃ r' : Nat → Nat, (∀ k, k < n ∨ hF.length ≤ k → r' k = r k) ∧ (n ≤ hF.length ∧ hF.length ≤ 1000) ∧ oc = .returned (rv.map (px_v r')) ∧ va_P D vwCl (px_w r' ty hF) t.heap ∧ va_K D vwCl (px_tys ty) t ∧ va_D (px_A r n sz) (px_w r' ty hF)) ∧ va_F (px_A r n sz) st t
/-- what it finds -/
def px_P (D : va_G) (ty : Nat → ClassId) (r adV : Nat → Nat) (as : List Value) (h : List px_C) (sz : Nat) : Array Value → State → Prop := va_Pc (as.map (px_v r)) (fun U =>
  (U.heap.size = sz ∧ h.length ≤ 1000) ∧ va_P D vwCl (px_w r ty h) U.heap ∧ va_K D vwCl (px_tys ty) U ∧ va_D (fun _ => True) (px_w r ty h) ∧ px_E r adV (px_A r h.length sz) U U.heap)
/-- A CONTRACT: depth, cells and slots that it may take, the method, arguments and heap; its answer and heap -/
def px_K (d mc ms : Nat) (M : px_M) (as : List Value) (h : List px_C) (rv : Option Value) (hF : List px_C) : Prop :=
  ∀ (l : Launch) (D : va_G) (ty : Nat → ClassId) (r adV : Nat → Nat) (sz : Nat), Met l M.1 (px_ws M) (px_rm d mc ms) (px_P D ty r adV as h sz) (px_Q D ty r h.length rv hF sz) mc ms (px_A r h.length sz)
theorem px_P_blind (D : va_G) (ty : Nat → ClassId) (r adV : Nat → Nat) (as : List Value) (h : List px_C) (sz : Nat) : FrameBlind (px_P D ty r adV as h sz) := by
  rintro a U g mk ⟨q0, q1, qP, qK, qD, qE⟩
  exact ⟨q0, q1, qP, va_K.moved (u := U) (U := U.calling g mk a) (Vm.Alike.refl U.vm) qK, qD, px_E.same (s := U) (U := U.calling g mk a) rfl qE⟩
def px_ctx (M : px_M) (p : Program) (s : State) (m : MethodId) (args : Array Value) (meth : Method) (c : Code) : Prop :=
  p.tables.exec = Jvm.exec ∧ c.code = M.2.1 ∧ meth.sig.returnType = M.2.2.2 ∧ c.maxLocals = M.2.2.1 ∧ s.vm.findClass M.1.cls = some m.cls ∧ (∀ w ∈ px_ws M, w.before args s = true) ∧ meth.locks = false ∧ meth.name = M.1.name
/-- the method's own: depth, cells, slots, how many places there were at its entry, the method -/
abbrev px_Z : Type := Nat × Nat × Nat × Nat × px_M
def px_wd (D : va_G) (ty : Nat → ClassId) (r0 adV r : Nat → Nat) (n0 : Nat) (s : State) (h : List px_C) (H : Heap) (locs : List Loc) : Prop :=
  ((∀ k, k < n0 ∨ h.length ≤ k → r k = r0 k) ∧ n0 ≤ h.length ∧ h.length ≤ 1000) ∧ va_K D vwCl (px_tys ty) s ∧ px_E r0 adV (px_A r0 n0 s.heap.size) s s.heap ∧ va_P D vwCl (px_w r ty h) H ∧ va_D (px_A r0 n0 s.heap.size) (px_w r ty h) ∧ va_S (px_A r0 n0 s.heap.size) s.heap H locs
def px_O {β : Type} (Z : px_Z) (g : β → Option Value × List px_C) (res : Option β) (pc : Nat) (L : List (Option Value)) (S : List Value) (h : List px_C) (kc ks : Nat) : Prop :=
  ∀ b, res = some b → ∀ (p : Program) (l : Launch) (e : Env) (s : State) (m : MethodId) (args : Array Value) (below : List Frame) (meth : Method) (c : Code) (D : va_G) (ty : Nat → ClassId) (r0 adV r : Nat → Nat) (H : Heap) (locs : List Loc) (ls : Array Slot),
    px_ctx Z.2.2.2.2 p s m args meth c → px_wd D ty r0 adV r Z.2.2.2.1 s h H locs → px_L r ls Z.2.2.2.2.2.2.1 L →
    W p l e (px_rm Z.1 Z.2.1 Z.2.2.1) s m args below meth c H locs kc ks (MQ below (px_Q D ty r0 Z.2.2.2.1 (g b).1 (g b).2 s.heap.size) args s Z.2.1 Z.2.2.1 (px_A r0 Z.2.2.2.1 s.heap.size)) (F0 m pc ls (S.map (px_v r)))
