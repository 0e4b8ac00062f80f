/-- the end of a method -/
theorem px_end {D : va_G} {ty : Nat → ClassId} {r0 adV r : Nat → Nat} {n0 : Nat} {s t : State} {h : List px_C} {H : Heap} {locs : List Loc} {args : Array Value} {rv : Option Value} (X : px_wd D ty r0 adV r n0 s h H locs) (ht : t.heap = H) (hW : s.WarmedH t.vm) : px_Q D ty r0 n0 rv h s.heap.size args s (.returned (rv.map (px_v r))) t := by
  obtain ⟨x1, x2, x3, x4, x5, x6⟩ := X
  exact ⟨⟨r, x1.1, x1.2, rfl, by rw [ht]; exact x4, va_K.moved hW.alike x2, x5⟩, x6.F ht⟩
section PXR
variable {β : Type} {Z : px_Z} {g : β → Option Value × List px_C} {res A B : Option β} {pc : Nat} {L : List (Option Value)} {S S1 : List Value} {h : List px_C} {kc ks : Nat}
theorem o_iret {v : Int32} {rt : FieldType} (hr : Z.2.2.2.2.2.2.2 = some rt) (hn : narrow rt (.int v) = .int v) {b : β} (hd : decode Z.2.2.2.2.2.1 pc = .ok (.ireturn, 1)) (hg : g b = (some (.int v), h)) (hkc : kc ≤ Z.2.1) (hks : ks ≤ Z.2.2.1) : px_O Z g (some b) pc L [.int v] h kc ks := by
  intro b' hb p l e s m args below meth c D ty r0 adV r H locs ls C X Lc
  cases hb
  rw [hg]
  refine W.widen hkc hks ?_
  exact W.zret (v := v) C.1 C.2.1 (C.2.2.1.trans hr) hn (fun t ht hW => px_end X ht hW) X.2.2.2.2.2.2.2 hd C.2.2.2.2.2.2.1
theorem o_lret {v : Int64} (hr : Z.2.2.2.2.2.2.2 = some .long) {b : β} (hd : decode Z.2.2.2.2.2.1 pc = .ok (.lreturn, 1)) (hg : g b = (some (.long v), h)) (hkc : kc ≤ Z.2.1) (hks : ks ≤ Z.2.2.1) : px_O Z g (some b) pc L [.long v] h kc ks := by
  intro b' hb p l e s m args below meth c D ty r0 adV r H locs ls C X Lc
  cases hb
  rw [hg]
  refine W.widen hkc hks ?_
  exact W.lret (v := v) C.1 C.2.1 (C.2.2.1.trans hr) (fun t ht hW => px_end X ht hW) X.2.2.2.2.2.2.2 hd C.2.2.2.2.2.2.1
theorem o_vret (hr : Z.2.2.2.2.2.2.2 = none) {b : β} (hd : decode Z.2.2.2.2.2.1 pc = .ok (.return_, 1)) (hg : g b = (none, h)) (hkc : kc ≤ Z.2.1) (hks : ks ≤ Z.2.2.1) : px_O Z g (some b) pc L [] h kc ks := by
  intro b' hb p l e s m args below meth c D ty r0 adV r H locs ls C X Lc
  cases hb
  rw [hg]
  refine W.widen hkc hks ?_
  exact W.vret C.1 C.2.1 (C.2.2.1.trans hr) (fun t ht hW => px_end X ht hW) X.2.2.2.2.2.2.2 hd C.2.2.2.2.2.2.1
theorem o_aret {v : Nat} {rt : FieldType} (hr : Z.2.2.2.2.2.2.2 = some rt) (hrt : (∃ n, rt = .object n) ∨ ∃ t, rt = .array t) {b : β} (hd : decode Z.2.2.2.2.2.1 pc = .ok (.areturn, 1)) (hg : g b = (some (.ref v), h)) (hkc : kc ≤ Z.2.1) (hks : ks ≤ Z.2.2.1) : px_O Z g (some b) pc L [.ref v] h kc ks := by
  intro b' hb p l e s m args below meth c D ty r0 adV r H locs ls C X Lc
  cases hb
  rw [hg]
  refine W.widen hkc hks ?_
  exact W.aret (v := .ref (r v)) C.1 C.2.1 (C.2.2.1.trans hr) hrt (Or.inr ⟨_, rfl⟩) (fun t ht hW => px_end X ht hW) X.2.2.2.2.2.2.2 hd C.2.2.2.2.2.2.1
theorem o_aretN {rt : FieldType} (hr : Z.2.2.2.2.2.2.2 = some rt) (hrt : (∃ n, rt = .object n) ∨ ∃ t, rt = .array t) {b : β} (hd : decode Z.2.2.2.2.2.1 pc = .ok (.areturn, 1)) (hg : g b = (some .null, h)) (hkc : kc ≤ Z.2.1) (hks : ks ≤ Z.2.2.1) : px_O Z g (some b) pc L [.null] h kc ks := by
  intro b' hb p l e s m args below meth c D ty r0 adV r H locs ls C X Lc
  cases hb
  rw [hg]
  refine W.widen hkc hks ?_
  exact W.aret (v := .null) C.1 C.2.1 (C.2.2.1.trans hr) hrt (Or.inl rfl) (fun t ht hW => px_end X ht hW) X.2.2.2.2.2.2.2 hd C.2.2.2.2.2.2.1
end PXR
/-- the locals at the entry -/
def px_ex : List Value → List (Option Value)
  | [] => []
  | v :: vs => if v.category = 2 then some v :: none :: px_ex vs else some v :: px_ex vs
theorem px_ex_len (r : Nat → Nat) (as : List Value) : (lg_sl (as.map (px_v r))).length = (px_ex as).length := by
  induction as with
  | nil => rfl
  | cons v vs ih =>
    have e : lg_sl ((v :: vs).map (px_v r)) = (if (px_v r v).category = 2 then [Slot.val (px_v r v), .second] else [.val (px_v r v)]) ++ lg_sl (vs.map (px_v r)) := by simp [lg_sl]
    rw [e, List.length_append, ih, px_ex, px_v_cat]
    by_cases hc : v.category = 2
    · simp [hc]; omega
    · simp [hc]; omega
theorem px_ex_mem (r : Nat → Nat) (as : List Value) : ∀ (o i : Nat) (v : Value), (px_ex as)[i]? = some (some v) → (o + i, px_v r v) ∈ lv_args o (as.map (px_v r)) := by
  induction as with
  | nil => intro o i v hv; simp [px_ex] at hv
  | cons u vs ih =>
    intro o i v hv
    rw [px_ex] at hv
    simp only [List.map_cons, lv_args, px_v_cat]
    by_cases hc : u.category = 2
    · rw [if_pos hc] at hv ⊢
      match i, hv with
      | 0, hv => simp at hv; subst hv; exact List.mem_cons_self
      | 1, hv => simp at hv
      | j + 2, hv =>
        have h1 := ih (o + 2) j v (by simpa using hv)
        rw [show o + (j + 2) = o + 2 + j by omega]
        exact List.mem_cons_of_mem _ h1
    · rw [if_neg hc] at hv ⊢
      match i, hv with
      | 0, hv => simp at hv; subst hv; exact List.mem_cons_self
      | j + 1, hv =>
        have h1 := ih (o + 1) j v (by simpa using hv)
        rw [show o + (j + 1) = o + 1 + j by omega]
        exact List.mem_cons_of_mem _ h1
theorem px_L_entry (r : Nat → Nat) (as : List Value) {n : Nat} (hn : (px_ex as).length ≤ n) : px_L r ((lg_sl (as.map (px_v r)) ++ List.replicate (n - (lg_sl (as.map (px_v r))).length) Slot.unset).toArray) n (px_ex as ++ List.replicate (n - (px_ex as).length) none) := by
  have hl := lv_entry (as.map (px_v r)) (n := n) (by rw [px_ex_len]; exact hn)
  refine ⟨hl.1, hl.2.1, fun i v hv => ?_⟩
  by_cases hi : i < (px_ex as).length
  · rw [List.getElem?_append_left hi] at hv
    have h1 := px_ex_mem r as 0 i v hv
    rw [Nat.zero_add] at h1
    exact hl.2.2 _ h1
  · rw [List.getElem?_append_right (by omega), List.getElem?_replicate] at hv
    split at hv <;> cases hv
def px_MF (M : px_M) (n : Nat) : Prop := Cond.code M.1 M.2.1 M.2.2.1 M.2.2.2 ∈ px_T ∧ Cond.initialized M.1.cls ∈ px_T ∧ (M.1.cls ≠ "java/lang/invoke/MethodHandle" ∧ M.1.cls ≠ "java/lang/invoke/VarHandle" ∧ (parseMethodDescriptor M.1.desc).map (fun d => d.parameters.length) = some n) ∧ M.2.2.1 ≤ 50 ∧ plainName M.1.cls = true
theorem px_goodT {w : Cond} (h : w ∈ px_T) (M : px_M) : w ∈ px_ws M ∧ ((w.onTables && w.keeps) = true ∨ ∃ ty, w = .arrayClass ty) := ⟨List.mem_cons_of_mem _ h, (px_T_good h).2⟩
theorem px_good {M M' : px_M} {n : Nat} (hm : px_MF M' n) : GoodIn (px_ws M) (px_ws M') := fun w hw => by
  rcases List.mem_cons.mp hw with e | e
  · subst e; exact px_goodT hm.1 M
  · exact px_goodT e M
/-- THE ENTRY: a contract out of the body -/
theorem px_Kof {β : Type} {g : β → Option Value × List px_C} {f : Option β} {b : β} {d mc ms n : Nat} {M : px_M} {as : List Value} {h : List px_C} {L : List (Option Value)} (hf : f = some b) (hm : px_MF M n) (hn : (px_ex as).length ≤ M.2.2.1) (hL : px_ex as ++ List.replicate (M.2.2.1 - (px_ex as).length) none = L) (K : px_O (d, mc, ms, h.length, M) g f 0 L [] h 0 0) : px_K d mc ms M as h (g b).1 (g b).2 := by
  intro l D ty r adV sz
  refine Met.ofW (cc := M.2.1) (maxL := M.2.2.1) (ret := M.2.2.2) hm.2.2.2.2 rfl ?_
  intro p e s m args below meth c s₁ B hml hv
  obtain ⟨hargs, ⟨hsz, hle⟩, hP, hK, hD, hE⟩ := hv
  subst hargs; subst hL; subst hsz
  have hts := atoms_spec (ws := px_ws M) B.pre
  have hown : s.vm.findClass M.1.cls = some m.cls := findClass_of_methodNamed B.named
  rw [lg_entry_eq]
  have hD2 : va_D (px_A r h.length s.heap.size) (px_w r ty h) := by rw [← px_A_eq r ty]; exact hD.self
  exact K b hf p l e s m _ below meth c D ty r adV r s.heap [] _ ⟨B.exec, B.bytes, B.returns, hml, hown, hts, B.notSynchronized, (name_of_methodNamed B.named B.method).1⟩ ⟨⟨fun k _ => rfl, Nat.le_refl _, hle⟩, hK, hE, hP, hD2, va_S.rf⟩ (px_L_entry r as hn)
/-- old places: what a call that makes cells doesn't move -/
def px_ov (n n' : Nat) (v : Value) : Prop := ∀ k, v = .ref k → k < n ∨ n' ≤ k
theorem px_ov_v {r r' : Nat → Nat} {n n' : Nat} {v : Value} (hr : ∀ k, k < n ∨ n' ≤ k → r' k = r k) (h : px_ov n n' v) : px_v r' v = px_v r v := by
  cases v with
  | ref k => simp only [px_v, hr k (h k rfl)]
  | _ => rfl
theorem px_ov_S {r r' : Nat → Nat} {n n' : Nat} {S : List Value} (hr : ∀ k, k < n ∨ n' ≤ k → r' k = r k) (h : ∀ v ∈ S, px_ov n n' v) : S.map (px_v r') = S.map (px_v r) := List.map_congr_left (fun v hv => px_ov_v hr (h v hv))
theorem px_ov_L {r r' : Nat → Nat} {n n' nL : Nat} {L : List (Option Value)} {ls : Array Slot} (hr : ∀ k, k < n ∨ n' ≤ k → r' k = r k) (h : ∀ v, some v ∈ L → px_ov n n' v) (hl : px_L r ls nL L) : px_L r' ls nL L :=
  ⟨hl.1, hl.2.1, fun i v hv => by rw [px_ov_v hr (h v (List.mem_of_getElem? hv))]; exact hl.2.2 i v hv⟩
theorem px_ov_same (n : Nat) (v : Value) : px_ov n n v := fun k _ => Nat.lt_or_ge k n
/-- BEHIND A CALL -/
theorem px_after {p : Program} {l : Launch} {e : Env} {R : Room} {s : State} {m : MethodId} {args : Array Value} {below : List Frame} {meth : Method} {c : Code} {H : Heap} {locs : List Loc} {cells slots mc ms : Nat} {Q : State → Prop} {pc : Nat} {ls : Array Slot} {rest st0 : List Value} {a : Array Value} {D : va_G} {ty : Nat → ClassId} {r0 adV r : Nat → Nat} {n0 : Nat} {h h' : List px_C} {rv : Option Value}
    (hr : va_Run p l e R s m args below meth c H locs cells slots mc ms (F0 m pc ls st0) rest (px_Q D ty r h.length rv h' H.size a) (px_A r h.length H.size)) (X : px_wd D ty r0 adV r n0 s h H locs)
    (kk : ∀ (r' : Nat → Nat) (H1 : Heap) (locs1 : List Loc), (∀ k, k < h.length ∨ h'.length ≤ k → r' k = r k) → px_wd D ty r0 adV r' n0 s h' H1 locs1 → W p l e R s m args below meth c H1 locs1 (cells + mc) (slots + ms) Q (F0 m (pc + 3) ls ((rv.map (px_v r')).toList ++ rest))) : W p l e R s m args below meth c H locs cells slots Q (F0 m pc ls st0) := by
  intro T hT XX
  obtain ⟨v, st₀, t, T', L, h0, X', hL, e1, e2, ⟨⟨r', q1, q2, hv, q3, q4, q5⟩, hz, hk⟩, st⟩ := hr T hT XX
  cases hv
  rw [h0] at hz hk
  obtain ⟨x1, x2, x3, x4, x5, x6⟩ := X
  have hA : ∀ q, px_A r h.length H.size q → px_A r0 n0 s.heap.size q := by
    rintro q (⟨k, hk1, rfl⟩ | hq)
    · exact x5.2 k _ (px_w_get (List.getElem?_eq_getElem hk1))
    · exact Or.inr (Nat.le_trans x6.1 hq)
  obtain ⟨t2, a1, b1⟩ := kk r' T'.heap (locs ++ L) q1 ⟨⟨fun k hk2 => by
      rcases hk2 with h2 | h2
      · rw [q1 k (Or.inl (Nat.lt_of_lt_of_le h2 x1.2.1))]; exact x1.1 k (Or.inl h2)
      · rw [q1 k (Or.inr h2)]; exact x1.1 k (Or.inr (Nat.le_trans q2.1 h2)), Nat.le_trans x1.2.1 q2.1, q2.2⟩, x2, x3, by rw [e1]; exact q3, q5.weaken (fun k q _ hq => hA _ hq),
    ⟨Nat.le_trans x6.1 (by rw [e1]; exact hz), fun q h1 h2 => by rw [e1, hk q (Nat.lt_of_lt_of_le h1 x6.1) (fun z => h2 (hA q z))]; exact x6.2.1 q h1 h2, fun q hq => by
      rcases List.mem_append.mp hq with h | h
      · exact x6.2.2 q h
      · exact hA _ (hL q h)⟩⟩ T' rfl X'
  exact ⟨t2, st t2 a1, b1⟩
theorem px_pre {D : va_G} {ty : Nat → ClassId} {r0 adV r : Nat → Nat} {n0 : Nat} {s : State} {h : List px_C} {H : Heap} {locs : List Loc} {as : List Value} (X : px_wd D ty r0 adV r n0 s h H locs): ∀ U : State, U.heap = H → s.WarmedH U.vm → px_P D ty r adV as h H.size (as.map (px_v r)).toArray U := by
  intro U hU hW
  obtain ⟨x1, x2, x3, x4, x5, x6⟩ := X
  refine ⟨rfl, ⟨by rw [hU], x1.2.2⟩, by rw [hU]; exact x4, va_K.moved hW.alike x2, x5.weaken (fun _ _ _ _ => trivial), ?_⟩
  rw [hU]
  have hA : ∀ q, px_A r h.length H.size q → px_A r0 n0 s.heap.size q := by
    rintro q (⟨k, hk1, rfl⟩ | hq)
    · exact x5.2 k _ (px_w_get (List.getElem?_eq_getElem hk1))
    · exact Or.inr (Nat.le_trans x6.1 hq)
  exact px_E.warm hW (((x3.kept (fun a ha hna => x6.2.1 a ha hna)).narrow hA).places (fun k hk => x1.1 k (Or.inr (Nat.le_trans x1.2.2 hk))))
theorem px_room {d d' mc ms mc' ms' n : Nat} (hd : d' + 1 ≤ d) (hn : n ≤ 50) : (px_rm d' mc' ms').frames + 1 ≤ (px_rm d mc ms).frames ∧ 8 + (n + 11) + (px_rm d' mc' ms').locals ≤ (px_rm d mc ms).locals := by
  refine ⟨hd, ?_⟩
  show 8 + (n + 11) + 80 * d' ≤ 80 * d
  omega
section PXK
variable {β : Type} {Z : px_Z} {g : β → Option Value × List px_C} {res A B : Option β} {pc : Nat} {L : List (Option Value)} {S S1 : List Value} {h : List px_C} {kc ks : Nat}
variable {M' : px_M} {n d' mc' ms' idx : Nat} {as : List Value} {rv : Option Value} {h' : List px_C}
theorem o_callS (hd : decode Z.2.2.2.2.2.1 pc = .ok (.invokestatic idx, 3)) (hm : px_MF M' n) (hl : Cond.methodLink Z.2.2.2.2.1.cls idx M'.1 ∈ px_T) (hst : Cond.static M'.1 ∈ px_T) (hn : as.length = n) (hK : px_K d' mc' ms' M' as h rv h') (hdd : d' + 1 ≤ Z.1) (hS : S = as.reverse ++ S1) (hw : (S1.map fun v => v.category).sum ≤ 8) (hf : kc + mc' ≤ Z.2.1 ∧ ks + ms' ≤ Z.2.2.1) (oL : ∀ v, some v ∈ L → px_ov h.length h'.length v) (oS : ∀ v ∈ S1, px_ov h.length h'.length v) (K : px_O Z g res (pc + 3) L (rv.toList ++ S1) h' (kc + mc') (ks + ms')) : px_O Z g res pc L S h kc ks := by
  intro b hb p l e s m args below meth c D ty r0 adV r H locs ls C X Lc
  subst hS
  have hts := C.2.2.2.2.2.1
  have rest : ((S1.map (px_v r)).map fun v => v.category).sum ≤ 8 := by
    rw [List.map_map]
    have e : ((fun v => v.category) ∘ px_v r) = fun v : Value => v.category := funext fun v => px_v_cat r v
    rw [e]; exact hw
  refine px_after (h' := h') (rv := rv) (rest := S1.map (px_v r)) (va_runS (As := as.map (px_v r)) ⟨C.1, C.2.1, C.2.2.2.1, C.2.2.2.2.1, hts⟩ (hK l D ty r adV H.size) (va_cwS n hts (fun w hw => by
    rcases List.mem_append.mp hw with e | e
    · rcases List.mem_cons.mp e with e | e
      · subst e; exact px_goodT hl _
      · rcases List.mem_cons.mp e with e | e
        · subst e; exact px_goodT hst _
        · rw [List.mem_singleton] at e; subst e; exact px_goodT hm.2.1 _
    · exact px_good hm w e) rfl rfl rfl hm.2.2.1 (px_room hdd hm.2.2.2.1)) ⟨px_P_blind D ty r adV as h H.size, px_pre X⟩ rfl (by rw [List.length_map]; exact hn) Lc.1 (by simp [px_v_ref]) (lv_room rest) hd hf) X (fun r' H1 locs1 hr X' => ?_)
  have e2 : (rv.map (px_v r')).toList ++ S1.map (px_v r) = (rv.toList ++ S1).map (px_v r') := by
    rw [List.map_append, px_ov_S hr oS]
    cases rv <;> rfl
  rw [e2]
  exact K b hb _ _ _ _ _ _ _ _ _ _ _ _ _ _ _ _ _ C X' (px_ov_L hr oL Lc)
theorem o_callSN (hd : decode Z.2.2.2.2.2.1 pc = .ok (.invokestatic idx, 3)) (hm : px_MF M' n) {host : String} (hl : Cond.methodLinkNest Z.2.2.2.2.1.cls idx M'.1 host ∈ px_Nt) (hst : Cond.static M'.1 ∈ px_T) (hn : as.length = n) (hK : px_K d' mc' ms' M' as h rv h') (hdd : d' + 1 ≤ Z.1) (hS : S = as.reverse ++ S1) (hw : (S1.map fun v => v.category).sum ≤ 8) (hf : kc + mc' ≤ Z.2.1 ∧ ks + ms' ≤ Z.2.2.1) (oL : ∀ v, some v ∈ L → px_ov h.length h'.length v) (oS : ∀ v ∈ S1, px_ov h.length h'.length v) (K : px_O Z g res (pc + 3) L (rv.toList ++ S1) h' (kc + mc') (ks + ms')) : px_O Z g res pc L S h kc ks := by
  intro b hb p l e s m args below meth c D ty r0 adV r H locs ls C X Lc
  subst hS
  have hts := C.2.2.2.2.2.1
  have rest : ((S1.map (px_v r)).map fun v => v.category).sum ≤ 8 := by
    rw [List.map_map]
    have e : ((fun v => v.category) ∘ px_v r) = fun v : Value => v.category := funext fun v => px_v_cat r v
    rw [e]; exact hw
  refine px_after (h' := h') (rv := rv) (rest := S1.map (px_v r)) (va_runSN (As := as.map (px_v r)) ⟨C.1, C.2.1, C.2.2.2.1, C.2.2.2.2.1, hts⟩ (hK l D ty r adV H.size) ⟨va_cnB n hts (px_good hm) rfl rfl rfl (X.2.2.1.1 _ hl) (hts _ (List.mem_cons_of_mem _ hm.2.1)) hm.2.2.1 (px_room hdd hm.2.2.2.1), hts _ (List.mem_cons_of_mem _ hst), trivial⟩ ⟨px_P_blind D ty r adV as h H.size, px_pre X⟩ rfl (by rw [List.length_map]; exact hn) Lc.1 (by simp [px_v_ref]) (lv_room rest) hd hf) X (fun r' H1 locs1 hr X' => ?_)
  have e2 : (rv.map (px_v r')).toList ++ S1.map (px_v r) = (rv.toList ++ S1).map (px_v r') := by
    rw [List.map_append, px_ov_S hr oS]
    cases rv <;> rfl
  rw [e2]
  exact K b hb _ _ _ _ _ _ _ _ _ _ _ _ _ _ _ _ _ C X' (px_ov_L hr oL Lc)
theorem o_callV {a ci : Nat} {fs : List Value} (hd : decode Z.2.2.2.2.2.1 pc = .ok (.invokevirtual idx, 3)) (hm : px_MF M' n) (hl : Cond.methodLink Z.2.2.2.2.1.cls idx M'.1 ∈ px_T) (hin : Cond.instanceMethod M'.1 ∈ px_T) (hse : Cond.selects M'.1.cls M'.1 M'.1 ∈ px_T) {q : vw_C} (hq : vwCl[ci]? = some q) (hqc : q.1 = M'.1.cls) (hc : h[a]? = some (.inl (ci, fs))) (hn : as.length = n) (hK : px_K d' mc' ms' M' (.ref a :: as) h rv h') (hdd : d' + 1 ≤ Z.1) (hS : S = as.reverse ++ .ref a :: S1) (hw : (S1.map fun v => v.category).sum ≤ 8) (hf : kc + mc' ≤ Z.2.1 ∧ ks + ms' ≤ Z.2.2.1) (oL : ∀ v, some v ∈ L → px_ov h.length h'.length v) (oS : ∀ v ∈ S1, px_ov h.length h'.length v) (K : px_O Z g res (pc + 3) L (rv.toList ++ S1) h' (kc + mc') (ks + ms')) : px_O Z g res pc L S h kc ks := by
  intro b hb p l e s m args below meth c D ty r0 adV r H locs ls C X Lc
  subst hS
  have hts := C.2.2.2.2.2.1
  have rest : ((S1.map (px_v r)).map fun v => v.category).sum ≤ 8 := by
    rw [List.map_map]
    have e : ((fun v => v.category) ∘ px_v r) = fun v : Value => v.category := funext fun v => px_v_cat r v
    rw [e]; exact hw
  refine px_after (h' := h') (rv := rv) (rest := S1.map (px_v r)) (va_runV (As := as.map (px_v r)) ⟨C.1, C.2.1, C.2.2.2.1, C.2.2.2.2.1, hts⟩ (hK l D ty r adV H.size) (cwV (C := M'.1.cls) n hts (fun w hw => by
    rcases List.mem_append.mp hw with e | e
    · rcases List.mem_cons.mp e with e | e
      · subst e; exact px_goodT hl _
      · rcases List.mem_cons.mp e with e | e
        · subst e; exact px_goodT hin _
        · rcases List.mem_cons.mp e with e | e
          · subst e; exact px_goodT hse _
          · rw [List.mem_singleton] at e; subst e; exact px_goodT hm.2.1 _
    · exact px_good hm w e) rfl rfl rfl ⟨rfl, hm.2.2.1⟩ (px_room hdd hm.2.2.2.1)) ⟨px_P_blind D ty r adV (.ref a :: as) h H.size, (by rw [← hqc]; exact va_recv X.2.1 X.2.2.2.1 hq (px_w_get hc)), px_pre X⟩ rfl (by rw [List.length_map]; exact hn) Lc.1 (by simp [px_v_ref]) (lv_room rest) hd hf) X (fun r' H1 locs1 hr X' => ?_)
  have e2 : (rv.map (px_v r')).toList ++ S1.map (px_v r) = (rv.toList ++ S1).map (px_v r') := by
    rw [List.map_append, px_ov_S hr oS]
    cases rv <;> rfl
  rw [e2]
  exact K b hb _ _ _ _ _ _ _ _ _ _ _ _ _ _ _ _ _ C X' (px_ov_L hr oL Lc)
theorem o_callI {a ci : Nat} {fs : List Value} (hd : decode Z.2.2.2.2.2.1 pc = .ok (.invokespecial idx, 3)) (hm : px_MF M' n) (hl : Cond.methodLink Z.2.2.2.2.1.cls idx M'.1 ∈ px_T) (hin : Cond.instanceMethod M'.1 ∈ px_T) (hini : M'.1.name = "<init>") (hret : M'.2.2.2 = none) (hn : as.length = n) (hK : px_K d' mc' ms' M' (.ref a :: as) h rv h') (hdd : d' + 1 ≤ Z.1) (hS : S = as.reverse ++ .ref a :: S1) (hw : (S1.map fun v => v.category).sum ≤ 8) (hf : kc + mc' ≤ Z.2.1 ∧ ks + ms' ≤ Z.2.2.1) (oL : ∀ v, some v ∈ L → px_ov h.length h'.length v) (oS : ∀ v ∈ S1, px_ov h.length h'.length v) (K : px_O Z g res (pc + 3) L (rv.toList ++ S1) h' (kc + mc') (ks + ms')) : px_O Z g res pc L S h kc ks := by
  intro b hb p l e s m args below meth c D ty r0 adV r H locs ls C X Lc
  subst hS
  have hts := C.2.2.2.2.2.1
  have rest : ((S1.map (px_v r)).map fun v => v.category).sum ≤ 8 := by
    rw [List.map_map]
    have e : ((fun v => v.category) ∘ px_v r) = fun v : Value => v.category := funext fun v => px_v_cat r v
    rw [e]; exact hw
  refine px_after (h' := h') (rv := rv) (rest := S1.map (px_v r)) (va_runI (As := as.map (px_v r)) ⟨C.1, C.2.1, C.2.2.2.1, C.2.2.2.2.1, hts⟩ (hK l D ty r adV H.size) (cwI (bytes := M'.2.1) (maxL := M'.2.2.1) (ws' := px_T) n hts (px_good hm) (by rw [← hret]; rfl) rfl rfl (hts _ (List.mem_cons_of_mem _ hm.2.1)) (hts _ (List.mem_cons_of_mem _ hl)) (hts _ (List.mem_cons_of_mem _ hin)) hini hm.2.2.1 (px_room hdd hm.2.2.2.1)) ⟨px_P_blind D ty r adV (.ref a :: as) h H.size, px_pre X⟩ rfl (by rw [List.length_map]; exact hn) Lc.1 (by simp [px_v_ref]) (lv_room rest) hd hf) X (fun r' H1 locs1 hr X' => ?_)
  have e2 : (rv.map (px_v r')).toList ++ S1.map (px_v r) = (rv.toList ++ S1).map (px_v r') := by
    rw [List.map_append, px_ov_S hr oS]
    cases rv <;> rfl
  rw [e2]
  exact K b hb _ _ _ _ _ _ _ _ _ _ _ _ _ _ _ _ _ C X' (px_ov_L hr oL Lc)
theorem o_callIN {a ci : Nat} {fs : List Value} (hd : decode Z.2.2.2.2.2.1 pc = .ok (.invokespecial idx, 3)) (hm : px_MF M' n) {host : String} (hl : Cond.methodLinkNest Z.2.2.2.2.1.cls idx M'.1 host ∈ px_Nt) (hin : Cond.instanceMethod M'.1 ∈ px_T) (hini : M'.1.name = "<init>") (hret : M'.2.2.2 = none) (hn : as.length = n) (hK : px_K d' mc' ms' M' (.ref a :: as) h rv h') (hdd : d' + 1 ≤ Z.1) (hS : S = as.reverse ++ .ref a :: S1) (hw : (S1.map fun v => v.category).sum ≤ 8) (hf : kc + mc' ≤ Z.2.1 ∧ ks + ms' ≤ Z.2.2.1) (oL : ∀ v, some v ∈ L → px_ov h.length h'.length v) (oS : ∀ v ∈ S1, px_ov h.length h'.length v) (K : px_O Z g res (pc + 3) L (rv.toList ++ S1) h' (kc + mc') (ks + ms')) : px_O Z g res pc L S h kc ks := by
  intro b hb p l e s m args below meth c D ty r0 adV r H locs ls C X Lc
  subst hS
  have hts := C.2.2.2.2.2.1
  have rest : ((S1.map (px_v r)).map fun v => v.category).sum ≤ 8 := by
    rw [List.map_map]
    have e : ((fun v => v.category) ∘ px_v r) = fun v : Value => v.category := funext fun v => px_v_cat r v
    rw [e]; exact hw
  refine px_after (h' := h') (rv := rv) (rest := S1.map (px_v r)) (va_runIN (As := as.map (px_v r)) ⟨C.1, C.2.1, C.2.2.2.1, C.2.2.2.2.1, hts⟩ (hK l D ty r adV H.size) ⟨va_cnB (bytes := M'.2.1) (maxL := M'.2.2.1) (ret := none) (ws' := px_T) n hts (px_good hm) (by rw [← hret]; rfl) rfl rfl (X.2.2.1.1 _ hl) (hts _ (List.mem_cons_of_mem _ hm.2.1)) hm.2.2.1 (px_room hdd hm.2.2.2.1), hini, hts _ (List.mem_cons_of_mem _ hin)⟩ ⟨px_P_blind D ty r adV (.ref a :: as) h H.size, px_pre X⟩ rfl (by rw [List.length_map]; exact hn) Lc.1 (by simp [px_v_ref]) (lv_room rest) hd hf) X (fun r' H1 locs1 hr X' => ?_)
  have e2 : (rv.map (px_v r')).toList ++ S1.map (px_v r) = (rv.toList ++ S1).map (px_v r') := by
    rw [List.map_append, px_ov_S hr oS]
    cases rv <;> rfl
  rw [e2]
  exact K b hb _ _ _ _ _ _ _ _ _ _ _ _ _ _ _ _ _ C X' (px_ov_L hr oL Lc)
end PXK
/-! calls that make nothing, as a term says them -/
section PXL
variable {β : Type} {Z : px_Z} {g : β → Option Value × List px_C} {res A B : Option β} {pc : Nat} {L : List (Option Value)} {S S1 : List Value} {h : List px_C} {kc ks : Nat}
variable {M' : px_M} {n d' idx : Nat} {as : List Value} {α : Type} {g' : α → Option Value × List px_C} {x : Option α} {F : α → Option β}
theorem o_cS (hd : decode Z.2.2.2.2.2.1 pc = .ok (.invokestatic idx, 3)) (hm : px_MF M' n) (hl : Cond.methodLink Z.2.2.2.2.1.cls idx M'.1 ∈ px_T) (hst : Cond.static M'.1 ∈ px_T) (hn : as.length = n) (hK : ∀ b, x = some b → px_K d' 0 0 M' as h (g' b).1 (g' b).2) (hdd : d' + 1 ≤ Z.1) (hS : S = as.reverse ++ S1) (hw : (S1.map fun v => v.category).sum ≤ 8) (hf : kc ≤ Z.2.1 ∧ ks ≤ Z.2.2.1) (hle : ∀ b, x = some b → (g' b).2.length = h.length) (K : ∀ b, x = some b → px_O Z g (F b) (pc + 3) L ((g' b).1.toList ++ S1) (g' b).2 kc ks) : px_O Z g (x.bind F) pc L S h kc ks := by
  refine o_bindv (fun b hb => ?_)
  exact o_callS hd hm hl hst hn (hK b hb) hdd hS hw hf (by rw [hle b hb]; exact fun v _ => px_ov_same _ v) (by rw [hle b hb]; exact fun v _ => px_ov_same _ v) (K b hb)
theorem o_cSN (hd : decode Z.2.2.2.2.2.1 pc = .ok (.invokestatic idx, 3)) (hm : px_MF M' n) {host : String} (hl : Cond.methodLinkNest Z.2.2.2.2.1.cls idx M'.1 host ∈ px_Nt) (hst : Cond.static M'.1 ∈ px_T) (hn : as.length = n) (hK : ∀ b, x = some b → px_K d' 0 0 M' as h (g' b).1 (g' b).2) (hdd : d' + 1 ≤ Z.1) (hS : S = as.reverse ++ S1) (hw : (S1.map fun v => v.category).sum ≤ 8) (hf : kc ≤ Z.2.1 ∧ ks ≤ Z.2.2.1) (hle : ∀ b, x = some b → (g' b).2.length = h.length) (K : ∀ b, x = some b → px_O Z g (F b) (pc + 3) L ((g' b).1.toList ++ S1) (g' b).2 kc ks) : px_O Z g (x.bind F) pc L S h kc ks := by
  refine o_bindv (fun b hb => ?_)
  exact o_callSN hd hm hl hst hn (hK b hb) hdd hS hw hf (by rw [hle b hb]; exact fun v _ => px_ov_same _ v) (by rw [hle b hb]; exact fun v _ => px_ov_same _ v) (K b hb)
theorem o_cV {a ci : Nat} {fs : List Value} (hd : decode Z.2.2.2.2.2.1 pc = .ok (.invokevirtual idx, 3)) (hm : px_MF M' n) (hl : Cond.methodLink Z.2.2.2.2.1.cls idx M'.1 ∈ px_T) (hin : Cond.instanceMethod M'.1 ∈ px_T) (hse : Cond.selects M'.1.cls M'.1 M'.1 ∈ px_T) {q : vw_C} (hq : vwCl[ci]? = some q) (hqc : q.1 = M'.1.cls) (hc : h[a]? = some (.inl (ci, fs))) (hn : as.length = n) (hK : ∀ b, x = some b → px_K d' 0 0 M' (.ref a :: as) h (g' b).1 (g' b).2) (hdd : d' + 1 ≤ Z.1) (hS : S = as.reverse ++ .ref a :: S1) (hw : (S1.map fun v => v.category).sum ≤ 8) (hf : kc ≤ Z.2.1 ∧ ks ≤ Z.2.2.1) (hle : ∀ b, x = some b → (g' b).2.length = h.length) (K : ∀ b, x = some b → px_O Z g (F b) (pc + 3) L ((g' b).1.toList ++ S1) (g' b).2 kc ks) : px_O Z g (x.bind F) pc L S h kc ks := by
  refine o_bindv (fun b hb => ?_)
  exact o_callV hd hm hl hin hse hq hqc hc hn (hK b hb) hdd hS hw hf (by rw [hle b hb]; exact fun v _ => px_ov_same _ v) (by rw [hle b hb]; exact fun v _ => px_ov_same _ v) (K b hb)
end PXL
