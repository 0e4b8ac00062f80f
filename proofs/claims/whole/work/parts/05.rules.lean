section PXO
variable {β : Type} {Z : px_Z} {g : β → Option Value × List px_C} {res A B : Option β} {pc : Nat} {L : List (Option Value)} {S : List Value} {h : List px_C} {kc ks : Nat}
theorem o_none : px_O Z g (none : Option β) pc L S h kc ks := fun b hb => by cases hb
theorem o_ite {c : Prop} {i : Decidable c} (ht : c → px_O Z g A pc L S h kc ks) (hf : ¬ c → px_O Z g B pc L S h kc ks) : px_O Z g (@ite _ c i A B) pc L S h kc ks := by
  by_cases hc : c
  · rw [if_pos hc]; exact ht hc
  · rw [if_neg hc]; exact hf hc
theorem o_bindv {α : Type} {x : Option α} {F : α → Option β} (k : ∀ a, x = some a → px_O Z g (F a) pc L S h kc ks) : px_O Z g (x.bind F) pc L S h kc ks := by
  cases hx : x with
  | none => exact fun b hb => by cases hb
  | some a => exact k a hx
theorem o_iconst {n : Int} {v : Int32} (hd : decode Z.2.2.2.2.2.1 pc = .ok (.iconst n, 1)) (hv : Int32.ofInt n = v) (K : px_O Z g res (pc + 1) L (.int v :: S) h kc ks) : px_O Z g res pc L S h kc ks := by
  intro b hb p l e s m args below meth c D ty r0 adV r H locs ls C X Lc
  exact lv_iconst C.1 C.2.1 hd hv (K b hb _ _ _ _ _ _ _ _ _ _ _ _ _ _ _ _ _ C X Lc)
theorem o_bipush {n : Int} {v : Int32} (hd : decode Z.2.2.2.2.2.1 pc = .ok (.bipush n, 2)) (hv : (Int8.ofInt n).toInt32 = v) (K : px_O Z g res (pc + 2) L (.int v :: S) h kc ks) : px_O Z g res pc L S h kc ks := by
  intro b hb p l e s m args below meth c D ty r0 adV r H locs ls C X Lc
  exact lv_bipush C.1 C.2.1 hd hv (K b hb _ _ _ _ _ _ _ _ _ _ _ _ _ _ _ _ _ C X Lc)
theorem o_sipush {n : Int} {v : Int32} (hd : decode Z.2.2.2.2.2.1 pc = .ok (.sipush n, 3)) (hv : (Int16.ofInt n).toInt32 = v) (K : px_O Z g res (pc + 3) L (.int v :: S) h kc ks) : px_O Z g res pc L S h kc ks := by
  intro b hb p l e s m args below meth c D ty r0 adV r H locs ls C X Lc
  exact lv_sipush C.1 C.2.1 hd hv (K b hb _ _ _ _ _ _ _ _ _ _ _ _ _ _ _ _ _ C X Lc)
theorem o_lconst {n : Fin 2} {v : Int64} (hd : decode Z.2.2.2.2.2.1 pc = .ok (.lconst n, 1)) (hv : Int64.ofNat (n : Nat) = v) (K : px_O Z g res (pc + 1) L (.long v :: S) h kc ks) : px_O Z g res pc L S h kc ks := by
  intro b hb p l e s m args below meth c D ty r0 adV r H locs ls C X Lc
  exact lv_lconst C.1 C.2.1 hd hv (K b hb _ _ _ _ _ _ _ _ _ _ _ _ _ _ _ _ _ C X Lc)
theorem o_ldc {i : Nat} {v : Int32} (hd : decode Z.2.2.2.2.2.1 pc = .ok (.ldc i, 2)) (hv : Cond.constant Z.2.2.2.2.1.cls i v ∈ px_T) (K : px_O Z g res (pc + 2) L (.int v :: S) h kc ks) : px_O Z g res pc L S h kc ks := by
  intro b hb p l e s m args below meth c D ty r0 adV r H locs ls C X Lc
  exact lv_ldc C.1 C.2.1 C.2.2.2.2.1 (C.2.2.2.2.2.1 _ (List.mem_cons_of_mem _ hv)) hd (K b hb _ _ _ _ _ _ _ _ _ _ _ _ _ _ _ _ _ C X Lc)
theorem o_ldcw {i : Nat} {v : Int32} (hd : decode Z.2.2.2.2.2.1 pc = .ok (.ldc_w i, 3)) (hv : Cond.constant Z.2.2.2.2.1.cls i v ∈ px_T) (K : px_O Z g res (pc + 3) L (.int v :: S) h kc ks) : px_O Z g res pc L S h kc ks := by
  intro b hb p l e s m args below meth c D ty r0 adV r H locs ls C X Lc
  exact lv_ldcw C.1 C.2.1 C.2.2.2.2.1 (C.2.2.2.2.2.1 _ (List.mem_cons_of_mem _ hv)) hd (K b hb _ _ _ _ _ _ _ _ _ _ _ _ _ _ _ _ _ C X Lc)
theorem o_ldc2 {i : Nat} {v : Int64} (hd : decode Z.2.2.2.2.2.1 pc = .ok (.ldc2_w i, 3)) (hv : Cond.constantLong Z.2.2.2.2.1.cls i v ∈ px_T) (K : px_O Z g res (pc + 3) L (.long v :: S) h kc ks) : px_O Z g res pc L S h kc ks := by
  intro b hb p l e s m args below meth c D ty r0 adV r H locs ls C X Lc
  exact lv_ldc2 C.1 C.2.1 C.2.2.2.2.1 (C.2.2.2.2.2.1 _ (List.mem_cons_of_mem _ hv)) hd (K b hb _ _ _ _ _ _ _ _ _ _ _ _ _ _ _ _ _ C X Lc)
theorem o_null (hd : decode Z.2.2.2.2.2.1 pc = .ok (.aconst_null, 1)) (K : px_O Z g res (pc + 1) L (.null :: S) h kc ks) : px_O Z g res pc L S h kc ks := by
  intro b hb p l e s m args below meth c D ty r0 adV r H locs ls C X Lc
  exact lv_null C.1 C.2.1 hd (K b hb _ _ _ _ _ _ _ _ _ _ _ _ _ _ _ _ _ C X Lc)
theorem o_iload_n {k : Fin 4} {x : Int32} (hd : decode Z.2.2.2.2.2.1 pc = .ok (.iload_n k, 1)) (hl : L[(k : Nat)]? = some (some (.int x))) (K : px_O Z g res (pc + 1) L (.int x :: S) h kc ks) : px_O Z g res pc L S h kc ks := by
  intro b hb p l e s m args below meth c D ty r0 adV r H locs ls C X Lc
  exact lv_iload_n C.1 C.2.1 hd rfl (Lc.2.2 _ _ hl) (K b hb _ _ _ _ _ _ _ _ _ _ _ _ _ _ _ _ _ C X Lc)
theorem o_iload {k : Nat} {x : Int32} (hd : decode Z.2.2.2.2.2.1 pc = .ok (.iload k, 2)) (hl : L[k]? = some (some (.int x))) (K : px_O Z g res (pc + 2) L (.int x :: S) h kc ks) : px_O Z g res pc L S h kc ks := by
  intro b hb p l e s m args below meth c D ty r0 adV r H locs ls C X Lc
  exact lv_iload C.1 C.2.1 hd (Lc.2.2 _ _ hl) (K b hb _ _ _ _ _ _ _ _ _ _ _ _ _ _ _ _ _ C X Lc)
theorem o_lload_n {k : Fin 4} {x : Int64} (hd : decode Z.2.2.2.2.2.1 pc = .ok (.lload_n k, 1)) (hl : L[(k : Nat)]? = some (some (.long x))) (K : px_O Z g res (pc + 1) L (.long x :: S) h kc ks) : px_O Z g res pc L S h kc ks := by
  intro b hb p l e s m args below meth c D ty r0 adV r H locs ls C X Lc
  exact lv_lload_n C.1 C.2.1 hd rfl (Lc.2.2 _ _ hl) (K b hb _ _ _ _ _ _ _ _ _ _ _ _ _ _ _ _ _ C X Lc)
theorem o_lload {k : Nat} {x : Int64} (hd : decode Z.2.2.2.2.2.1 pc = .ok (.lload k, 2)) (hl : L[k]? = some (some (.long x))) (K : px_O Z g res (pc + 2) L (.long x :: S) h kc ks) : px_O Z g res pc L S h kc ks := by
  intro b hb p l e s m args below meth c D ty r0 adV r H locs ls C X Lc
  exact lv_lload C.1 C.2.1 hd (Lc.2.2 _ _ hl) (K b hb _ _ _ _ _ _ _ _ _ _ _ _ _ _ _ _ _ C X Lc)
theorem o_aload_n {k : Fin 4} {x : Nat} (hd : decode Z.2.2.2.2.2.1 pc = .ok (.aload_n k, 1)) (hl : L[(k : Nat)]? = some (some (.ref x))) (K : px_O Z g res (pc + 1) L (.ref x :: S) h kc ks) : px_O Z g res pc L S h kc ks := by
  intro b hb p l e s m args below meth c D ty r0 adV r H locs ls C X Lc
  exact lv_aload_n C.1 C.2.1 hd rfl (Lc.2.2 _ _ hl) (K b hb _ _ _ _ _ _ _ _ _ _ _ _ _ _ _ _ _ C X Lc)
theorem o_aload {k : Nat} {x : Nat} (hd : decode Z.2.2.2.2.2.1 pc = .ok (.aload k, 2)) (hl : L[k]? = some (some (.ref x))) (K : px_O Z g res (pc + 2) L (.ref x :: S) h kc ks) : px_O Z g res pc L S h kc ks := by
  intro b hb p l e s m args below meth c D ty r0 adV r H locs ls C X Lc
  exact lv_aload C.1 C.2.1 hd (Lc.2.2 _ _ hl) (K b hb _ _ _ _ _ _ _ _ _ _ _ _ _ _ _ _ _ C X Lc)
theorem o_aload_nN {k : Fin 4} (hd : decode Z.2.2.2.2.2.1 pc = .ok (.aload_n k, 1)) (hl : L[(k : Nat)]? = some (some .null)) (K : px_O Z g res (pc + 1) L (.null :: S) h kc ks) : px_O Z g res pc L S h kc ks := by
  intro b hb p l e s m args below meth c D ty r0 adV r H locs ls C X Lc
  exact lv_aload_nN C.1 C.2.1 hd rfl (Lc.2.2 _ _ hl) (K b hb _ _ _ _ _ _ _ _ _ _ _ _ _ _ _ _ _ C X Lc)
theorem o_istore_n {k : Fin 4} {x : Int32} {L' : List (Option Value)} (hd : decode Z.2.2.2.2.2.1 pc = .ok (.istore_n k, 1)) (hn : (k : Nat) < Z.2.2.2.2.2.2.1) (hw : px_nl L k = true) (hL : L.set k (some (.int x)) = L') (K : px_O Z g res (pc + 1) L' S h kc ks) : px_O Z g res pc L (.int x :: S) h kc ks := by
  intro b hb p l e s m args below meth c D ty r0 adV r H locs ls C X Lc
  subst hL
  exact lv_istore_n C.1 C.2.1 hd rfl (px_L_has Lc) hn rfl (fun ls' h' => K b hb _ _ _ _ _ _ _ _ _ _ _ _ _ _ _ _ _ C X (px_L_set1 (v := .int x) hw h'))
theorem o_istore {k : Nat} {x : Int32} {L' : List (Option Value)} (hd : decode Z.2.2.2.2.2.1 pc = .ok (.istore k, 2)) (hn : k < Z.2.2.2.2.2.2.1) (hw : px_nl L k = true) (hL : L.set k (some (.int x)) = L') (K : px_O Z g res (pc + 2) L' S h kc ks) : px_O Z g res pc L (.int x :: S) h kc ks := by
  intro b hb p l e s m args below meth c D ty r0 adV r H locs ls C X Lc
  subst hL
  exact lv_istore C.1 C.2.1 hd (px_L_has Lc) hn rfl (fun ls' h' => K b hb _ _ _ _ _ _ _ _ _ _ _ _ _ _ _ _ _ C X (px_L_set1 (v := .int x) hw h'))
theorem o_astore_n {k : Fin 4} {x : Nat} {L' : List (Option Value)} (hd : decode Z.2.2.2.2.2.1 pc = .ok (.astore_n k, 1)) (hn : (k : Nat) < Z.2.2.2.2.2.2.1) (hw : px_nl L k = true) (hL : L.set k (some (.ref x)) = L') (K : px_O Z g res (pc + 1) L' S h kc ks) : px_O Z g res pc L (.ref x :: S) h kc ks := by
  intro b hb p l e s m args below meth c D ty r0 adV r H locs ls C X Lc
  subst hL
  exact lv_astore_n C.1 C.2.1 hd rfl (px_L_has Lc) hn rfl (fun ls' h' => K b hb _ _ _ _ _ _ _ _ _ _ _ _ _ _ _ _ _ C X (px_L_set1 (v := .ref x) hw h'))
theorem o_astore {k : Nat} {x : Nat} {L' : List (Option Value)} (hd : decode Z.2.2.2.2.2.1 pc = .ok (.astore k, 2)) (hn : k < Z.2.2.2.2.2.2.1) (hw : px_nl L k = true) (hL : L.set k (some (.ref x)) = L') (K : px_O Z g res (pc + 2) L' S h kc ks) : px_O Z g res pc L (.ref x :: S) h kc ks := by
  intro b hb p l e s m args below meth c D ty r0 adV r H locs ls C X Lc
  subst hL
  exact lv_astore C.1 C.2.1 hd (px_L_has Lc) hn rfl (fun ls' h' => K b hb _ _ _ _ _ _ _ _ _ _ _ _ _ _ _ _ _ C X (px_L_set1 (v := .ref x) hw h'))
theorem o_astore_nN {k : Fin 4} {L' : List (Option Value)} (hd : decode Z.2.2.2.2.2.1 pc = .ok (.astore_n k, 1)) (hn : (k : Nat) < Z.2.2.2.2.2.2.1) (hw : px_nl L k = true) (hL : L.set k (some .null) = L') (K : px_O Z g res (pc + 1) L' S h kc ks) : px_O Z g res pc L (.null :: S) h kc ks := by
  intro b hb p l e s m args below meth c D ty r0 adV r H locs ls C X Lc
  subst hL
  exact lv_astore_nN C.1 C.2.1 hd rfl (px_L_has Lc) hn rfl (fun ls' h' => K b hb _ _ _ _ _ _ _ _ _ _ _ _ _ _ _ _ _ C X (px_L_set1 (v := .null) hw h'))
theorem o_lstore_n {k : Fin 4} {x : Int64} {L' : List (Option Value)} (hd : decode Z.2.2.2.2.2.1 pc = .ok (.lstore_n k, 1)) (hn : (k : Nat) + 1 < Z.2.2.2.2.2.2.1) (hw : px_nl L k = true) (hL : (L.set k (some (.long x))).set (k + 1) none = L') (K : px_O Z g res (pc + 1) L' S h kc ks) : px_O Z g res pc L (.long x :: S) h kc ks := by
  intro b hb p l e s m args below meth c D ty r0 adV r H locs ls C X Lc
  subst hL
  exact lv_lstore_n C.1 C.2.1 hd rfl (px_L_has Lc) hn rfl (fun ls' h' => K b hb _ _ _ _ _ _ _ _ _ _ _ _ _ _ _ _ _ C X (px_L_set2 (v := .long x) hw h'))
theorem o_lstore {k : Nat} {x : Int64} {L' : List (Option Value)} (hd : decode Z.2.2.2.2.2.1 pc = .ok (.lstore k, 2)) (hn : k + 1 < Z.2.2.2.2.2.2.1) (hw : px_nl L k = true) (hL : (L.set k (some (.long x))).set (k + 1) none = L') (K : px_O Z g res (pc + 2) L' S h kc ks) : px_O Z g res pc L (.long x :: S) h kc ks := by
  intro b hb p l e s m args below meth c D ty r0 adV r H locs ls C X Lc
  subst hL
  exact lv_lstore C.1 C.2.1 hd (px_L_has Lc) hn rfl (fun ls' h' => K b hb _ _ _ _ _ _ _ _ _ _ _ _ _ _ _ _ _ C X (px_L_set2 (v := .long x) hw h'))
theorem o_iinc {k : Nat} {n : Int} {x v : Int32} {L' : List (Option Value)} (hd : decode Z.2.2.2.2.2.1 pc = .ok (.iinc k n, 3)) (hx : L[k]? = some (some (.int x))) (hv : x + Int32.ofInt n = v) (hn : k < Z.2.2.2.2.2.2.1) (hw : px_nl L k = true) (hL : L.set k (some (.int v)) = L') (K : px_O Z g res (pc + 3) L' S h kc ks) : px_O Z g res pc L S h kc ks := by
  intro b hb p l e s m args below meth c D ty r0 adV r H locs ls C X Lc
  subst hL
  have hh : lv_has ls Z.2.2.2.2.2.2.1 ((k, .int x) :: px_ll r L) := ⟨(px_L_has Lc).1, (px_L_has Lc).2.1, fun q hq => by
    rcases List.mem_cons.mp hq with e | e
    · rw [e]; exact Lc.2.2 _ _ hx
    · exact (px_L_has Lc).2.2 q e⟩
  exact lv_iinc (lv' := (k, .int v) :: (px_ll r L).filter (fun q => !(q.1 == k) && !(q.1 + 1 == k && q.2.category == 2))) C.1 C.2.1 hd hh (k := 0) rfl hv hn (by simp) (fun ls' h' => K b hb _ _ _ _ _ _ _ _ _ _ _ _ _ _ _ _ _ C X (px_L_set1 (v := .int v) hw h'))
theorem o_iadd {x y : Int32} (hd : decode Z.2.2.2.2.2.1 pc = .ok (.iadd, 1)) (K : px_O Z g res (pc + 1) L (.int (x + y) :: S) h kc ks) : px_O Z g res pc L (.int y :: .int x :: S) h kc ks := by
  intro b hb p l e s m args below meth c D ty r0 adV r H locs ls C X Lc
  exact lv_iadd C.1 C.2.1 hd (K b hb _ _ _ _ _ _ _ _ _ _ _ _ _ _ _ _ _ C X Lc)
theorem o_isub {x y : Int32} (hd : decode Z.2.2.2.2.2.1 pc = .ok (.isub, 1)) (K : px_O Z g res (pc + 1) L (.int (x - y) :: S) h kc ks) : px_O Z g res pc L (.int y :: .int x :: S) h kc ks := by
  intro b hb p l e s m args below meth c D ty r0 adV r H locs ls C X Lc
  exact lv_isub C.1 C.2.1 hd (K b hb _ _ _ _ _ _ _ _ _ _ _ _ _ _ _ _ _ C X Lc)
theorem o_imul {x y : Int32} (hd : decode Z.2.2.2.2.2.1 pc = .ok (.imul, 1)) (K : px_O Z g res (pc + 1) L (.int (x * y) :: S) h kc ks) : px_O Z g res pc L (.int y :: .int x :: S) h kc ks := by
  intro b hb p l e s m args below meth c D ty r0 adV r H locs ls C X Lc
  exact lv_imul C.1 C.2.1 hd (K b hb _ _ _ _ _ _ _ _ _ _ _ _ _ _ _ _ _ C X Lc)
theorem o_iand {x y : Int32} (hd : decode Z.2.2.2.2.2.1 pc = .ok (.iand, 1)) (K : px_O Z g res (pc + 1) L (.int (x &&& y) :: S) h kc ks) : px_O Z g res pc L (.int y :: .int x :: S) h kc ks := by
  intro b hb p l e s m args below meth c D ty r0 adV r H locs ls C X Lc
  exact lv_iand C.1 C.2.1 hd (K b hb _ _ _ _ _ _ _ _ _ _ _ _ _ _ _ _ _ C X Lc)
theorem o_ior {x y : Int32} (hd : decode Z.2.2.2.2.2.1 pc = .ok (.ior, 1)) (K : px_O Z g res (pc + 1) L (.int (x ||| y) :: S) h kc ks) : px_O Z g res pc L (.int y :: .int x :: S) h kc ks := by
  intro b hb p l e s m args below meth c D ty r0 adV r H locs ls C X Lc
  exact lv_ior C.1 C.2.1 hd (K b hb _ _ _ _ _ _ _ _ _ _ _ _ _ _ _ _ _ C X Lc)
theorem o_ixor {x y : Int32} (hd : decode Z.2.2.2.2.2.1 pc = .ok (.ixor, 1)) (K : px_O Z g res (pc + 1) L (.int (x ^^^ y) :: S) h kc ks) : px_O Z g res pc L (.int y :: .int x :: S) h kc ks := by
  intro b hb p l e s m args below meth c D ty r0 adV r H locs ls C X Lc
  exact lv_ixor C.1 C.2.1 hd (K b hb _ _ _ _ _ _ _ _ _ _ _ _ _ _ _ _ _ C X Lc)
theorem o_ishl {x y : Int32} (hd : decode Z.2.2.2.2.2.1 pc = .ok (.ishl, 1)) (K : px_O Z g res (pc + 1) L (.int (x <<< (y &&& 31)) :: S) h kc ks) : px_O Z g res pc L (.int y :: .int x :: S) h kc ks := by
  intro b hb p l e s m args below meth c D ty r0 adV r H locs ls C X Lc
  exact lv_ishl C.1 C.2.1 hd (K b hb _ _ _ _ _ _ _ _ _ _ _ _ _ _ _ _ _ C X Lc)
theorem o_ishr {x y : Int32} (hd : decode Z.2.2.2.2.2.1 pc = .ok (.ishr, 1)) (K : px_O Z g res (pc + 1) L (.int (x >>> (y &&& 31)) :: S) h kc ks) : px_O Z g res pc L (.int y :: .int x :: S) h kc ks := by
  intro b hb p l e s m args below meth c D ty r0 adV r H locs ls C X Lc
  exact lv_ishr C.1 C.2.1 hd (K b hb _ _ _ _ _ _ _ _ _ _ _ _ _ _ _ _ _ C X Lc)
theorem o_iushr {x y : Int32} (hd : decode Z.2.2.2.2.2.1 pc = .ok (.iushr, 1)) (K : px_O Z g res (pc + 1) L (.int ((x.toUInt32 >>> (y.toUInt32 &&& Int32.toUInt32 31)).toInt32) :: S) h kc ks) : px_O Z g res pc L (.int y :: .int x :: S) h kc ks := by
  intro b hb p l e s m args below meth c D ty r0 adV r H locs ls C X Lc
  exact lv_iushr C.1 C.2.1 hd rfl (K b hb _ _ _ _ _ _ _ _ _ _ _ _ _ _ _ _ _ C X Lc)
theorem o_ineg {x : Int32} (hd : decode Z.2.2.2.2.2.1 pc = .ok (.ineg, 1)) (K : px_O Z g res (pc + 1) L (.int (-x) :: S) h kc ks) : px_O Z g res pc L (.int x :: S) h kc ks := by
  intro b hb p l e s m args below meth c D ty r0 adV r H locs ls C X Lc
  exact lv_ineg C.1 C.2.1 hd (K b hb _ _ _ _ _ _ _ _ _ _ _ _ _ _ _ _ _ C X Lc)
theorem o_ladd {x y : Int64} (hd : decode Z.2.2.2.2.2.1 pc = .ok (.ladd, 1)) (K : px_O Z g res (pc + 1) L (.long (x + y) :: S) h kc ks) : px_O Z g res pc L (.long y :: .long x :: S) h kc ks := by
  intro b hb p l e s m args below meth c D ty r0 adV r H locs ls C X Lc
  exact lv_ladd C.1 C.2.1 hd (K b hb _ _ _ _ _ _ _ _ _ _ _ _ _ _ _ _ _ C X Lc)
theorem o_lsub {x y : Int64} (hd : decode Z.2.2.2.2.2.1 pc = .ok (.lsub, 1)) (K : px_O Z g res (pc + 1) L (.long (x - y) :: S) h kc ks) : px_O Z g res pc L (.long y :: .long x :: S) h kc ks := by
  intro b hb p l e s m args below meth c D ty r0 adV r H locs ls C X Lc
  exact lv_lsub C.1 C.2.1 hd (K b hb _ _ _ _ _ _ _ _ _ _ _ _ _ _ _ _ _ C X Lc)
theorem o_lmul {x y : Int64} (hd : decode Z.2.2.2.2.2.1 pc = .ok (.lmul, 1)) (K : px_O Z g res (pc + 1) L (.long (x * y) :: S) h kc ks) : px_O Z g res pc L (.long y :: .long x :: S) h kc ks := by
  intro b hb p l e s m args below meth c D ty r0 adV r H locs ls C X Lc
  exact lv_lmul C.1 C.2.1 hd (K b hb _ _ _ _ _ _ _ _ _ _ _ _ _ _ _ _ _ C X Lc)
theorem o_lcmp {x y : Int64} (hd : decode Z.2.2.2.2.2.1 pc = .ok (.lcmp, 1)) (K : px_O Z g res (pc + 1) L (.int (lg_cmp x y) :: S) h kc ks) : px_O Z g res pc L (.long y :: .long x :: S) h kc ks := by
  intro b hb p l e s m args below meth c D ty r0 adV r H locs ls C X Lc
  exact W.lcmp C.1 C.2.1 hd (K b hb _ _ _ _ _ _ _ _ _ _ _ _ _ _ _ _ _ C X Lc)
theorem o_i2l {x : Int32} (hd : decode Z.2.2.2.2.2.1 pc = .ok (.i2l, 1)) (K : px_O Z g res (pc + 1) L (.long x.toInt64 :: S) h kc ks) : px_O Z g res pc L (.int x :: S) h kc ks := by
  intro b hb p l e s m args below meth c D ty r0 adV r H locs ls C X Lc
  exact lv_i2l C.1 C.2.1 hd rfl (K b hb _ _ _ _ _ _ _ _ _ _ _ _ _ _ _ _ _ C X Lc)
theorem o_l2i {x : Int64} (hd : decode Z.2.2.2.2.2.1 pc = .ok (.l2i, 1)) (K : px_O Z g res (pc + 1) L (.int x.toInt32 :: S) h kc ks) : px_O Z g res pc L (.long x :: S) h kc ks := by
  intro b hb p l e s m args below meth c D ty r0 adV r H locs ls C X Lc
  exact lv_l2i C.1 C.2.1 hd rfl (K b hb _ _ _ _ _ _ _ _ _ _ _ _ _ _ _ _ _ C X Lc)
theorem o_i2b {x : Int32} (hd : decode Z.2.2.2.2.2.1 pc = .ok (.i2b, 1)) (K : px_O Z g res (pc + 1) L (.int x.toInt8.toInt32 :: S) h kc ks) : px_O Z g res pc L (.int x :: S) h kc ks := by
  intro b hb p l e s m args below meth c D ty r0 adV r H locs ls C X Lc
  exact lv_i2b C.1 C.2.1 hd rfl (K b hb _ _ _ _ _ _ _ _ _ _ _ _ _ _ _ _ _ C X Lc)
theorem o_i2s {x : Int32} (hd : decode Z.2.2.2.2.2.1 pc = .ok (.i2s, 1)) (K : px_O Z g res (pc + 1) L (.int x.toInt16.toInt32 :: S) h kc ks) : px_O Z g res pc L (.int x :: S) h kc ks := by
  intro b hb p l e s m args below meth c D ty r0 adV r H locs ls C X Lc
  exact lv_i2s C.1 C.2.1 hd rfl (K b hb _ _ _ _ _ _ _ _ _ _ _ _ _ _ _ _ _ C X Lc)
theorem o_idiv {x y : Int32} (hd : decode Z.2.2.2.2.2.1 pc = .ok (.idiv, 1)) (hy : ¬ y = 0) (K : px_O Z g res (pc + 1) L (.int (x / y) :: S) h kc ks) : px_O Z g res pc L (.int y :: .int x :: S) h kc ks := by
  intro b hb p l e s m args below meth c D ty r0 adV r H locs ls C X Lc
  exact lv_idiv C.1 C.2.1 hd hy (K b hb _ _ _ _ _ _ _ _ _ _ _ _ _ _ _ _ _ C X Lc)
theorem o_irem {x y : Int32} (hd : decode Z.2.2.2.2.2.1 pc = .ok (.irem, 1)) (hy : ¬ y = 0) (K : px_O Z g res (pc + 1) L (.int (x - x / y * y) :: S) h kc ks) : px_O Z g res pc L (.int y :: .int x :: S) h kc ks := by
  intro b hb p l e s m args below meth c D ty r0 adV r H locs ls C X Lc
  exact lv_irem C.1 C.2.1 hd hy (K b hb _ _ _ _ _ _ _ _ _ _ _ _ _ _ _ _ _ C X Lc)
theorem o_ldiv {x y : Int64} (hd : decode Z.2.2.2.2.2.1 pc = .ok (.ldiv, 1)) (hy : ¬ y = 0) (K : px_O Z g res (pc + 1) L (.long (x / y) :: S) h kc ks) : px_O Z g res pc L (.long y :: .long x :: S) h kc ks := by
  intro b hb p l e s m args below meth c D ty r0 adV r H locs ls C X Lc
  exact lv_ldiv C.1 C.2.1 hd hy (K b hb _ _ _ _ _ _ _ _ _ _ _ _ _ _ _ _ _ C X Lc)
theorem o_lrem {x y : Int64} (hd : decode Z.2.2.2.2.2.1 pc = .ok (.lrem, 1)) (hy : ¬ y = 0) (K : px_O Z g res (pc + 1) L (.long (x - x / y * y) :: S) h kc ks) : px_O Z g res pc L (.long y :: .long x :: S) h kc ks := by
  intro b hb p l e s m args below meth c D ty r0 adV r H locs ls C X Lc
  exact lv_lrem C.1 C.2.1 hd hy (K b hb _ _ _ _ _ _ _ _ _ _ _ _ _ _ _ _ _ C X Lc)
theorem o_dup {v : Value} (hd : decode Z.2.2.2.2.2.1 pc = .ok (.dup, 1)) (hv : v.category = 1) (K : px_O Z g res (pc + 1) L (v :: v :: S) h kc ks) : px_O Z g res pc L (v :: S) h kc ks := by
  intro b hb p l e s m args below meth c D ty r0 adV r H locs ls C X Lc
  exact lv_dup C.1 C.2.1 hd (by rw [px_v_cat]; exact hv) (K b hb _ _ _ _ _ _ _ _ _ _ _ _ _ _ _ _ _ C X Lc)
theorem o_pop {v : Value} (hd : decode Z.2.2.2.2.2.1 pc = .ok (.pop, 1)) (hv : v.category = 1) (K : px_O Z g res (pc + 1) L S h kc ks) : px_O Z g res pc L (v :: S) h kc ks := by
  intro b hb p l e s m args below meth c D ty r0 adV r H locs ls C X Lc
  exact lv_pop C.1 C.2.1 hd (by rw [px_v_cat]; exact hv) (K b hb _ _ _ _ _ _ _ _ _ _ _ _ _ _ _ _ _ C X Lc)
theorem o_dup2 {v u : Value} (hd : decode Z.2.2.2.2.2.1 pc = .ok (.dup2, 1)) (hv : v.category = 1) (hu : u.category = 1) (K : px_O Z g res (pc + 1) L (v :: u :: v :: u :: S) h kc ks) : px_O Z g res pc L (v :: u :: S) h kc ks := by
  intro b hb p l e s m args below meth c D ty r0 adV r H locs ls C X Lc
  exact lv_dup2_11 C.1 C.2.1 hd (by rw [px_v_cat]; exact hv) (by rw [px_v_cat]; exact hu) (K b hb _ _ _ _ _ _ _ _ _ _ _ _ _ _ _ _ _ C X Lc)
theorem o_goto {off : Int} {tgt : Nat} (hd : decode Z.2.2.2.2.2.1 pc = .ok (.goto off, 3)) (ht : (pc : Int) + off = (tgt : Int)) (K : px_O Z g res tgt L S h kc ks) : px_O Z g res pc L S h kc ks := by
  intro b hb p l e s m args below meth c D ty r0 adV r H locs ls C X Lc
  exact lv_goto C.1 C.2.1 hd ht (K b hb _ _ _ _ _ _ _ _ _ _ _ _ _ _ _ _ _ C X Lc)
theorem o_ifnull {x : Nat} {off : Int} (hd : decode Z.2.2.2.2.2.1 pc = .ok (.ifnull off, 3)) (K : px_O Z g res (pc + 3) L S h kc ks) : px_O Z g res pc L (.ref x :: S) h kc ks := by
  intro b hb p l e s m args below meth c D ty r0 adV r H locs ls C X Lc
  exact lv_ifnull C.1 C.2.1 hd (K b hb _ _ _ _ _ _ _ _ _ _ _ _ _ _ _ _ _ C X Lc)
theorem o_ifnonnull {x : Nat} {off : Int} {tgt : Nat} (hd : decode Z.2.2.2.2.2.1 pc = .ok (.ifnonnull off, 3)) (ht : (pc : Int) + off = (tgt : Int)) (K : px_O Z g res tgt L S h kc ks) : px_O Z g res pc L (.ref x :: S) h kc ks := by
  intro b hb p l e s m args below meth c D ty r0 adV r H locs ls C X Lc
  exact lv_ifnonnull C.1 C.2.1 hd ht (K b hb _ _ _ _ _ _ _ _ _ _ _ _ _ _ _ _ _ C X Lc)
theorem o_ifnullN {off : Int} {tgt : Nat} (hd : decode Z.2.2.2.2.2.1 pc = .ok (.ifnull off, 3)) (ht : (pc : Int) + off = (tgt : Int)) (K : px_O Z g res tgt L S h kc ks) : px_O Z g res pc L (.null :: S) h kc ks := by
  intro b hb p l e s m args below meth c D ty r0 adV r H locs ls C X Lc
  exact lv_ifnullN C.1 C.2.1 hd ht (K b hb _ _ _ _ _ _ _ _ _ _ _ _ _ _ _ _ _ C X Lc)
theorem o_ifnonnullN {off : Int} (hd : decode Z.2.2.2.2.2.1 pc = .ok (.ifnonnull off, 3)) (K : px_O Z g res (pc + 3) L S h kc ks) : px_O Z g res pc L (.null :: S) h kc ks := by
  intro b hb p l e s m args below meth c D ty r0 adV r H locs ls C X Lc
  exact lv_ifnonnullN C.1 C.2.1 hd (K b hb _ _ _ _ _ _ _ _ _ _ _ _ _ _ _ _ _ C X Lc)
theorem o_ifeq {x : Int32} {off : Int} {tgt : Nat} (hd : decode Z.2.2.2.2.2.1 pc = .ok (.ifCond .eq off, 3)) (ht : (pc : Int) + off = (tgt : Int)) (KA : x = 0 → px_O Z g A tgt L S h kc ks) (KB : ¬ x = 0 → px_O Z g B (pc + 3) L S h kc ks) : px_O Z g (if x = 0 then A else B) pc L (.int x :: S) h kc ks := by
  intro b hb p l e s m args below meth c D ty r0 adV r H locs ls C X Lc
  refine lv_if_eq C.1 C.2.1 hd ht (fun q => ?_) (fun q => ?_)
  · have q1 : (x = 0) := q
    exact KA q1 b (by rw [if_pos q1] at hb; exact hb) _ _ _ _ _ _ _ _ _ _ _ _ _ _ _ _ _ C X Lc
  · have q1 : ¬ (x = 0) := q
    exact KB q1 b (by rw [if_neg q1] at hb; exact hb) _ _ _ _ _ _ _ _ _ _ _ _ _ _ _ _ _ C X Lc
theorem o_ifeq_t {x : Int32} {off : Int} {tgt : Nat} (hd : decode Z.2.2.2.2.2.1 pc = .ok (.ifCond .eq off, 3)) (ht : (pc : Int) + off = (tgt : Int)) (hq : (x = 0)) (K : px_O Z g res tgt L S h kc ks) : px_O Z g res pc L (.int x :: S) h kc ks := by
  intro b hb p l e s m args below meth c D ty r0 adV r H locs ls C X Lc
  refine lv_if_eq C.1 C.2.1 hd ht (fun q => K b hb _ _ _ _ _ _ _ _ _ _ _ _ _ _ _ _ _ C X Lc) (fun q => absurd hq ?_)
  exact ((q))
theorem o_ifeq_f {x : Int32} {off : Int} {tgt : Nat} (hd : decode Z.2.2.2.2.2.1 pc = .ok (.ifCond .eq off, 3)) (ht : (pc : Int) + off = (tgt : Int)) (hq : ¬ (x = 0)) (K : px_O Z g res (pc + 3) L S h kc ks) : px_O Z g res pc L (.int x :: S) h kc ks := by
  intro b hb p l e s m args below meth c D ty r0 adV r H locs ls C X Lc
  refine lv_if_eq C.1 C.2.1 hd ht (fun q => absurd hq ?_) (fun q => K b hb _ _ _ _ _ _ _ _ _ _ _ _ _ _ _ _ _ C X Lc)
  exact (fun z => z (q))
theorem o_ifne {x : Int32} {off : Int} {tgt : Nat} (hd : decode Z.2.2.2.2.2.1 pc = .ok (.ifCond .ne off, 3)) (ht : (pc : Int) + off = (tgt : Int)) (KA : ¬ x = 0 → px_O Z g A tgt L S h kc ks) (KB : x = 0 → px_O Z g B (pc + 3) L S h kc ks) : px_O Z g (if x = 0 then B else A) pc L (.int x :: S) h kc ks := by
  intro b hb p l e s m args below meth c D ty r0 adV r H locs ls C X Lc
  refine lv_if_ne C.1 C.2.1 hd ht (fun q => ?_) (fun q => ?_)
  · have q1 : ¬ (x = 0) := q
    exact KA q1 b (by rw [if_neg q1] at hb; exact hb) _ _ _ _ _ _ _ _ _ _ _ _ _ _ _ _ _ C X Lc
  · have q1 : (x = 0) := q
    exact KB q1 b (by rw [if_pos q1] at hb; exact hb) _ _ _ _ _ _ _ _ _ _ _ _ _ _ _ _ _ C X Lc
theorem o_ifne_t {x : Int32} {off : Int} {tgt : Nat} (hd : decode Z.2.2.2.2.2.1 pc = .ok (.ifCond .ne off, 3)) (ht : (pc : Int) + off = (tgt : Int)) (hq : ¬ (x = 0)) (K : px_O Z g res tgt L S h kc ks) : px_O Z g res pc L (.int x :: S) h kc ks := by
  intro b hb p l e s m args below meth c D ty r0 adV r H locs ls C X Lc
  refine lv_if_ne C.1 C.2.1 hd ht (fun q => K b hb _ _ _ _ _ _ _ _ _ _ _ _ _ _ _ _ _ C X Lc) (fun q => absurd hq ?_)
  exact (fun z => z (q))
theorem o_ifne_f {x : Int32} {off : Int} {tgt : Nat} (hd : decode Z.2.2.2.2.2.1 pc = .ok (.ifCond .ne off, 3)) (ht : (pc : Int) + off = (tgt : Int)) (hq : (x = 0)) (K : px_O Z g res (pc + 3) L S h kc ks) : px_O Z g res pc L (.int x :: S) h kc ks := by
  intro b hb p l e s m args below meth c D ty r0 adV r H locs ls C X Lc
  refine lv_if_ne C.1 C.2.1 hd ht (fun q => absurd hq ?_) (fun q => K b hb _ _ _ _ _ _ _ _ _ _ _ _ _ _ _ _ _ C X Lc)
  exact ((q))
theorem o_iflt {x : Int32} {off : Int} {tgt : Nat} (hd : decode Z.2.2.2.2.2.1 pc = .ok (.ifCond .lt off, 3)) (ht : (pc : Int) + off = (tgt : Int)) (KA : x < 0 → px_O Z g A tgt L S h kc ks) (KB : ¬ x < 0 → px_O Z g B (pc + 3) L S h kc ks) : px_O Z g (if x < 0 then A else B) pc L (.int x :: S) h kc ks := by
  intro b hb p l e s m args below meth c D ty r0 adV r H locs ls C X Lc
  refine lv_if_lt C.1 C.2.1 hd ht (fun q => ?_) (fun q => ?_)
  · have q1 : (x < 0) := q
    exact KA q1 b (by rw [if_pos q1] at hb; exact hb) _ _ _ _ _ _ _ _ _ _ _ _ _ _ _ _ _ C X Lc
  · have q1 : ¬ (x < 0) := q
    exact KB q1 b (by rw [if_neg q1] at hb; exact hb) _ _ _ _ _ _ _ _ _ _ _ _ _ _ _ _ _ C X Lc
theorem o_iflt_t {x : Int32} {off : Int} {tgt : Nat} (hd : decode Z.2.2.2.2.2.1 pc = .ok (.ifCond .lt off, 3)) (ht : (pc : Int) + off = (tgt : Int)) (hq : (x < 0)) (K : px_O Z g res tgt L S h kc ks) : px_O Z g res pc L (.int x :: S) h kc ks := by
  intro b hb p l e s m args below meth c D ty r0 adV r H locs ls C X Lc
  refine lv_if_lt C.1 C.2.1 hd ht (fun q => K b hb _ _ _ _ _ _ _ _ _ _ _ _ _ _ _ _ _ C X Lc) (fun q => absurd hq ?_)
  exact ((q))
theorem o_iflt_f {x : Int32} {off : Int} {tgt : Nat} (hd : decode Z.2.2.2.2.2.1 pc = .ok (.ifCond .lt off, 3)) (ht : (pc : Int) + off = (tgt : Int)) (hq : ¬ (x < 0)) (K : px_O Z g res (pc + 3) L S h kc ks) : px_O Z g res pc L (.int x :: S) h kc ks := by
  intro b hb p l e s m args below meth c D ty r0 adV r H locs ls C X Lc
  refine lv_if_lt C.1 C.2.1 hd ht (fun q => absurd hq ?_) (fun q => K b hb _ _ _ _ _ _ _ _ _ _ _ _ _ _ _ _ _ C X Lc)
  exact (fun z => z (q))
theorem o_ifge {x : Int32} {off : Int} {tgt : Nat} (hd : decode Z.2.2.2.2.2.1 pc = .ok (.ifCond .ge off, 3)) (ht : (pc : Int) + off = (tgt : Int)) (KA : ¬ x < 0 → px_O Z g A tgt L S h kc ks) (KB : x < 0 → px_O Z g B (pc + 3) L S h kc ks) : px_O Z g (if x < 0 then B else A) pc L (.int x :: S) h kc ks := by
  intro b hb p l e s m args below meth c D ty r0 adV r H locs ls C X Lc
  refine lv_if_ge C.1 C.2.1 hd ht (fun q => ?_) (fun q => ?_)
  · have q1 : ¬ (x < 0) := Int32.not_lt.mpr q
    exact KA q1 b (by rw [if_neg q1] at hb; exact hb) _ _ _ _ _ _ _ _ _ _ _ _ _ _ _ _ _ C X Lc
  · have q1 : (x < 0) := Int32.not_le.mp q
    exact KB q1 b (by rw [if_pos q1] at hb; exact hb) _ _ _ _ _ _ _ _ _ _ _ _ _ _ _ _ _ C X Lc
theorem o_ifge_t {x : Int32} {off : Int} {tgt : Nat} (hd : decode Z.2.2.2.2.2.1 pc = .ok (.ifCond .ge off, 3)) (ht : (pc : Int) + off = (tgt : Int)) (hq : ¬ (x < 0)) (K : px_O Z g res tgt L S h kc ks) : px_O Z g res pc L (.int x :: S) h kc ks := by
  intro b hb p l e s m args below meth c D ty r0 adV r H locs ls C X Lc
  refine lv_if_ge C.1 C.2.1 hd ht (fun q => K b hb _ _ _ _ _ _ _ _ _ _ _ _ _ _ _ _ _ C X Lc) (fun q => absurd hq ?_)
  exact (fun z => z (Int32.not_le.mp q))
theorem o_ifge_f {x : Int32} {off : Int} {tgt : Nat} (hd : decode Z.2.2.2.2.2.1 pc = .ok (.ifCond .ge off, 3)) (ht : (pc : Int) + off = (tgt : Int)) (hq : (x < 0)) (K : px_O Z g res (pc + 3) L S h kc ks) : px_O Z g res pc L (.int x :: S) h kc ks := by
  intro b hb p l e s m args below meth c D ty r0 adV r H locs ls C X Lc
  refine lv_if_ge C.1 C.2.1 hd ht (fun q => absurd hq ?_) (fun q => K b hb _ _ _ _ _ _ _ _ _ _ _ _ _ _ _ _ _ C X Lc)
  exact ((Int32.not_lt.mpr q))
theorem o_ifgt {x : Int32} {off : Int} {tgt : Nat} (hd : decode Z.2.2.2.2.2.1 pc = .ok (.ifCond .gt off, 3)) (ht : (pc : Int) + off = (tgt : Int)) (KA : 0 < x → px_O Z g A tgt L S h kc ks) (KB : ¬ 0 < x → px_O Z g B (pc + 3) L S h kc ks) : px_O Z g (if 0 < x then A else B) pc L (.int x :: S) h kc ks := by
  intro b hb p l e s m args below meth c D ty r0 adV r H locs ls C X Lc
  refine lv_if_gt C.1 C.2.1 hd ht (fun q => ?_) (fun q => ?_)
  · have q1 : (0 < x) := q
    exact KA q1 b (by rw [if_pos q1] at hb; exact hb) _ _ _ _ _ _ _ _ _ _ _ _ _ _ _ _ _ C X Lc
  · have q1 : ¬ (0 < x) := q
    exact KB q1 b (by rw [if_neg q1] at hb; exact hb) _ _ _ _ _ _ _ _ _ _ _ _ _ _ _ _ _ C X Lc
theorem o_ifgt_t {x : Int32} {off : Int} {tgt : Nat} (hd : decode Z.2.2.2.2.2.1 pc = .ok (.ifCond .gt off, 3)) (ht : (pc : Int) + off = (tgt : Int)) (hq : (0 < x)) (K : px_O Z g res tgt L S h kc ks) : px_O Z g res pc L (.int x :: S) h kc ks := by
  intro b hb p l e s m args below meth c D ty r0 adV r H locs ls C X Lc
  refine lv_if_gt C.1 C.2.1 hd ht (fun q => K b hb _ _ _ _ _ _ _ _ _ _ _ _ _ _ _ _ _ C X Lc) (fun q => absurd hq ?_)
  exact ((q))
theorem o_ifgt_f {x : Int32} {off : Int} {tgt : Nat} (hd : decode Z.2.2.2.2.2.1 pc = .ok (.ifCond .gt off, 3)) (ht : (pc : Int) + off = (tgt : Int)) (hq : ¬ (0 < x)) (K : px_O Z g res (pc + 3) L S h kc ks) : px_O Z g res pc L (.int x :: S) h kc ks := by
  intro b hb p l e s m args below meth c D ty r0 adV r H locs ls C X Lc
  refine lv_if_gt C.1 C.2.1 hd ht (fun q => absurd hq ?_) (fun q => K b hb _ _ _ _ _ _ _ _ _ _ _ _ _ _ _ _ _ C X Lc)
  exact (fun z => z (q))
theorem o_ifle {x : Int32} {off : Int} {tgt : Nat} (hd : decode Z.2.2.2.2.2.1 pc = .ok (.ifCond .le off, 3)) (ht : (pc : Int) + off = (tgt : Int)) (KA : ¬ 0 < x → px_O Z g A tgt L S h kc ks) (KB : 0 < x → px_O Z g B (pc + 3) L S h kc ks) : px_O Z g (if 0 < x then B else A) pc L (.int x :: S) h kc ks := by
  intro b hb p l e s m args below meth c D ty r0 adV r H locs ls C X Lc
  refine lv_if_le C.1 C.2.1 hd ht (fun q => ?_) (fun q => ?_)
  · have q1 : ¬ (0 < x) := Int32.not_lt.mpr q
    exact KA q1 b (by rw [if_neg q1] at hb; exact hb) _ _ _ _ _ _ _ _ _ _ _ _ _ _ _ _ _ C X Lc
  · have q1 : (0 < x) := Int32.not_le.mp q
    exact KB q1 b (by rw [if_pos q1] at hb; exact hb) _ _ _ _ _ _ _ _ _ _ _ _ _ _ _ _ _ C X Lc
theorem o_ifle_t {x : Int32} {off : Int} {tgt : Nat} (hd : decode Z.2.2.2.2.2.1 pc = .ok (.ifCond .le off, 3)) (ht : (pc : Int) + off = (tgt : Int)) (hq : ¬ (0 < x)) (K : px_O Z g res tgt L S h kc ks) : px_O Z g res pc L (.int x :: S) h kc ks := by
  intro b hb p l e s m args below meth c D ty r0 adV r H locs ls C X Lc
  refine lv_if_le C.1 C.2.1 hd ht (fun q => K b hb _ _ _ _ _ _ _ _ _ _ _ _ _ _ _ _ _ C X Lc) (fun q => absurd hq ?_)
  exact (fun z => z (Int32.not_le.mp q))
theorem o_ifle_f {x : Int32} {off : Int} {tgt : Nat} (hd : decode Z.2.2.2.2.2.1 pc = .ok (.ifCond .le off, 3)) (ht : (pc : Int) + off = (tgt : Int)) (hq : (0 < x)) (K : px_O Z g res (pc + 3) L S h kc ks) : px_O Z g res pc L (.int x :: S) h kc ks := by
  intro b hb p l e s m args below meth c D ty r0 adV r H locs ls C X Lc
  refine lv_if_le C.1 C.2.1 hd ht (fun q => absurd hq ?_) (fun q => K b hb _ _ _ _ _ _ _ _ _ _ _ _ _ _ _ _ _ C X Lc)
  exact ((Int32.not_lt.mpr q))
theorem o_icmpeq {x y : Int32} {off : Int} {tgt : Nat} (hd : decode Z.2.2.2.2.2.1 pc = .ok (.if_icmp .eq off, 3)) (ht : (pc : Int) + off = (tgt : Int)) (KA : x = y → px_O Z g A tgt L S h kc ks) (KB : ¬ x = y → px_O Z g B (pc + 3) L S h kc ks) : px_O Z g (if x = y then A else B) pc L (.int y :: .int x :: S) h kc ks := by
  intro b hb p l e s m args below meth c D ty r0 adV r H locs ls C X Lc
  refine lv_icmp_eq C.1 C.2.1 hd ht (fun q => ?_) (fun q => ?_)
  · have q1 : (x = y) := q
    exact KA q1 b (by rw [if_pos q1] at hb; exact hb) _ _ _ _ _ _ _ _ _ _ _ _ _ _ _ _ _ C X Lc
  · have q1 : ¬ (x = y) := q
    exact KB q1 b (by rw [if_neg q1] at hb; exact hb) _ _ _ _ _ _ _ _ _ _ _ _ _ _ _ _ _ C X Lc
theorem o_icmpeq_t {x y : Int32} {off : Int} {tgt : Nat} (hd : decode Z.2.2.2.2.2.1 pc = .ok (.if_icmp .eq off, 3)) (ht : (pc : Int) + off = (tgt : Int)) (hq : (x = y)) (K : px_O Z g res tgt L S h kc ks) : px_O Z g res pc L (.int y :: .int x :: S) h kc ks := by
  intro b hb p l e s m args below meth c D ty r0 adV r H locs ls C X Lc
  refine lv_icmp_eq C.1 C.2.1 hd ht (fun q => K b hb _ _ _ _ _ _ _ _ _ _ _ _ _ _ _ _ _ C X Lc) (fun q => absurd hq ?_)
  exact ((q))
theorem o_icmpeq_f {x y : Int32} {off : Int} {tgt : Nat} (hd : decode Z.2.2.2.2.2.1 pc = .ok (.if_icmp .eq off, 3)) (ht : (pc : Int) + off = (tgt : Int)) (hq : ¬ (x = y)) (K : px_O Z g res (pc + 3) L S h kc ks) : px_O Z g res pc L (.int y :: .int x :: S) h kc ks := by
  intro b hb p l e s m args below meth c D ty r0 adV r H locs ls C X Lc
  refine lv_icmp_eq C.1 C.2.1 hd ht (fun q => absurd hq ?_) (fun q => K b hb _ _ _ _ _ _ _ _ _ _ _ _ _ _ _ _ _ C X Lc)
  exact (fun z => z (q))
theorem o_icmpne {x y : Int32} {off : Int} {tgt : Nat} (hd : decode Z.2.2.2.2.2.1 pc = .ok (.if_icmp .ne off, 3)) (ht : (pc : Int) + off = (tgt : Int)) (KA : ¬ x = y → px_O Z g A tgt L S h kc ks) (KB : x = y → px_O Z g B (pc + 3) L S h kc ks) : px_O Z g (if x = y then B else A) pc L (.int y :: .int x :: S) h kc ks := by
  intro b hb p l e s m args below meth c D ty r0 adV r H locs ls C X Lc
  refine lv_icmp_ne C.1 C.2.1 hd ht (fun q => ?_) (fun q => ?_)
  · have q1 : ¬ (x = y) := q
    exact KA q1 b (by rw [if_neg q1] at hb; exact hb) _ _ _ _ _ _ _ _ _ _ _ _ _ _ _ _ _ C X Lc
  · have q1 : (x = y) := q
    exact KB q1 b (by rw [if_pos q1] at hb; exact hb) _ _ _ _ _ _ _ _ _ _ _ _ _ _ _ _ _ C X Lc
theorem o_icmpne_t {x y : Int32} {off : Int} {tgt : Nat} (hd : decode Z.2.2.2.2.2.1 pc = .ok (.if_icmp .ne off, 3)) (ht : (pc : Int) + off = (tgt : Int)) (hq : ¬ (x = y)) (K : px_O Z g res tgt L S h kc ks) : px_O Z g res pc L (.int y :: .int x :: S) h kc ks := by
  intro b hb p l e s m args below meth c D ty r0 adV r H locs ls C X Lc
  refine lv_icmp_ne C.1 C.2.1 hd ht (fun q => K b hb _ _ _ _ _ _ _ _ _ _ _ _ _ _ _ _ _ C X Lc) (fun q => absurd hq ?_)
  exact (fun z => z (q))
theorem o_icmpne_f {x y : Int32} {off : Int} {tgt : Nat} (hd : decode Z.2.2.2.2.2.1 pc = .ok (.if_icmp .ne off, 3)) (ht : (pc : Int) + off = (tgt : Int)) (hq : (x = y)) (K : px_O Z g res (pc + 3) L S h kc ks) : px_O Z g res pc L (.int y :: .int x :: S) h kc ks := by
  intro b hb p l e s m args below meth c D ty r0 adV r H locs ls C X Lc
  refine lv_icmp_ne C.1 C.2.1 hd ht (fun q => absurd hq ?_) (fun q => K b hb _ _ _ _ _ _ _ _ _ _ _ _ _ _ _ _ _ C X Lc)
  exact ((q))
theorem o_icmplt {x y : Int32} {off : Int} {tgt : Nat} (hd : decode Z.2.2.2.2.2.1 pc = .ok (.if_icmp .lt off, 3)) (ht : (pc : Int) + off = (tgt : Int)) (KA : x < y → px_O Z g A tgt L S h kc ks) (KB : ¬ x < y → px_O Z g B (pc + 3) L S h kc ks) : px_O Z g (if x < y then A else B) pc L (.int y :: .int x :: S) h kc ks := by
  intro b hb p l e s m args below meth c D ty r0 adV r H locs ls C X Lc
  refine lv_icmp_lt C.1 C.2.1 hd ht (fun q => ?_) (fun q => ?_)
  · have q1 : (x < y) := q
    exact KA q1 b (by rw [if_pos q1] at hb; exact hb) _ _ _ _ _ _ _ _ _ _ _ _ _ _ _ _ _ C X Lc
  · have q1 : ¬ (x < y) := q
    exact KB q1 b (by rw [if_neg q1] at hb; exact hb) _ _ _ _ _ _ _ _ _ _ _ _ _ _ _ _ _ C X Lc
theorem o_icmplt_t {x y : Int32} {off : Int} {tgt : Nat} (hd : decode Z.2.2.2.2.2.1 pc = .ok (.if_icmp .lt off, 3)) (ht : (pc : Int) + off = (tgt : Int)) (hq : (x < y)) (K : px_O Z g res tgt L S h kc ks) : px_O Z g res pc L (.int y :: .int x :: S) h kc ks := by
  intro b hb p l e s m args below meth c D ty r0 adV r H locs ls C X Lc
  refine lv_icmp_lt C.1 C.2.1 hd ht (fun q => K b hb _ _ _ _ _ _ _ _ _ _ _ _ _ _ _ _ _ C X Lc) (fun q => absurd hq ?_)
  exact ((q))
theorem o_icmplt_f {x y : Int32} {off : Int} {tgt : Nat} (hd : decode Z.2.2.2.2.2.1 pc = .ok (.if_icmp .lt off, 3)) (ht : (pc : Int) + off = (tgt : Int)) (hq : ¬ (x < y)) (K : px_O Z g res (pc + 3) L S h kc ks) : px_O Z g res pc L (.int y :: .int x :: S) h kc ks := by
  intro b hb p l e s m args below meth c D ty r0 adV r H locs ls C X Lc
  refine lv_icmp_lt C.1 C.2.1 hd ht (fun q => absurd hq ?_) (fun q => K b hb _ _ _ _ _ _ _ _ _ _ _ _ _ _ _ _ _ C X Lc)
  exact (fun z => z (q))
theorem o_icmpge {x y : Int32} {off : Int} {tgt : Nat} (hd : decode Z.2.2.2.2.2.1 pc = .ok (.if_icmp .ge off, 3)) (ht : (pc : Int) + off = (tgt : Int)) (KA : ¬ x < y → px_O Z g A tgt L S h kc ks) (KB : x < y → px_O Z g B (pc + 3) L S h kc ks) : px_O Z g (if x < y then B else A) pc L (.int y :: .int x :: S) h kc ks := by
  intro b hb p l e s m args below meth c D ty r0 adV r H locs ls C X Lc
  refine lv_icmp_ge C.1 C.2.1 hd ht (fun q => ?_) (fun q => ?_)
  · have q1 : ¬ (x < y) := Int32.not_lt.mpr q
    exact KA q1 b (by rw [if_neg q1] at hb; exact hb) _ _ _ _ _ _ _ _ _ _ _ _ _ _ _ _ _ C X Lc
  · have q1 : (x < y) := Int32.not_le.mp q
    exact KB q1 b (by rw [if_pos q1] at hb; exact hb) _ _ _ _ _ _ _ _ _ _ _ _ _ _ _ _ _ C X Lc
theorem o_icmpge_t {x y : Int32} {off : Int} {tgt : Nat} (hd : decode Z.2.2.2.2.2.1 pc = .ok (.if_icmp .ge off, 3)) (ht : (pc : Int) + off = (tgt : Int)) (hq : ¬ (x < y)) (K : px_O Z g res tgt L S h kc ks) : px_O Z g res pc L (.int y :: .int x :: S) h kc ks := by
  intro b hb p l e s m args below meth c D ty r0 adV r H locs ls C X Lc
  refine lv_icmp_ge C.1 C.2.1 hd ht (fun q => K b hb _ _ _ _ _ _ _ _ _ _ _ _ _ _ _ _ _ C X Lc) (fun q => absurd hq ?_)
  exact (fun z => z (Int32.not_le.mp q))
theorem o_icmpge_f {x y : Int32} {off : Int} {tgt : Nat} (hd : decode Z.2.2.2.2.2.1 pc = .ok (.if_icmp .ge off, 3)) (ht : (pc : Int) + off = (tgt : Int)) (hq : (x < y)) (K : px_O Z g res (pc + 3) L S h kc ks) : px_O Z g res pc L (.int y :: .int x :: S) h kc ks := by
  intro b hb p l e s m args below meth c D ty r0 adV r H locs ls C X Lc
  refine lv_icmp_ge C.1 C.2.1 hd ht (fun q => absurd hq ?_) (fun q => K b hb _ _ _ _ _ _ _ _ _ _ _ _ _ _ _ _ _ C X Lc)
  exact ((Int32.not_lt.mpr q))
theorem o_icmpgt {x y : Int32} {off : Int} {tgt : Nat} (hd : decode Z.2.2.2.2.2.1 pc = .ok (.if_icmp .gt off, 3)) (ht : (pc : Int) + off = (tgt : Int)) (KA : y < x → px_O Z g A tgt L S h kc ks) (KB : ¬ y < x → px_O Z g B (pc + 3) L S h kc ks) : px_O Z g (if y < x then A else B) pc L (.int y :: .int x :: S) h kc ks := by
  intro b hb p l e s m args below meth c D ty r0 adV r H locs ls C X Lc
  refine lv_icmp_gt C.1 C.2.1 hd ht (fun q => ?_) (fun q => ?_)
  · have q1 : (y < x) := q
    exact KA q1 b (by rw [if_pos q1] at hb; exact hb) _ _ _ _ _ _ _ _ _ _ _ _ _ _ _ _ _ C X Lc
  · have q1 : ¬ (y < x) := q
    exact KB q1 b (by rw [if_neg q1] at hb; exact hb) _ _ _ _ _ _ _ _ _ _ _ _ _ _ _ _ _ C X Lc
theorem o_icmpgt_t {x y : Int32} {off : Int} {tgt : Nat} (hd : decode Z.2.2.2.2.2.1 pc = .ok (.if_icmp .gt off, 3)) (ht : (pc : Int) + off = (tgt : Int)) (hq : (y < x)) (K : px_O Z g res tgt L S h kc ks) : px_O Z g res pc L (.int y :: .int x :: S) h kc ks := by
  intro b hb p l e s m args below meth c D ty r0 adV r H locs ls C X Lc
  refine lv_icmp_gt C.1 C.2.1 hd ht (fun q => K b hb _ _ _ _ _ _ _ _ _ _ _ _ _ _ _ _ _ C X Lc) (fun q => absurd hq ?_)
  exact ((q))
theorem o_icmpgt_f {x y : Int32} {off : Int} {tgt : Nat} (hd : decode Z.2.2.2.2.2.1 pc = .ok (.if_icmp .gt off, 3)) (ht : (pc : Int) + off = (tgt : Int)) (hq : ¬ (y < x)) (K : px_O Z g res (pc + 3) L S h kc ks) : px_O Z g res pc L (.int y :: .int x :: S) h kc ks := by
  intro b hb p l e s m args below meth c D ty r0 adV r H locs ls C X Lc
  refine lv_icmp_gt C.1 C.2.1 hd ht (fun q => absurd hq ?_) (fun q => K b hb _ _ _ _ _ _ _ _ _ _ _ _ _ _ _ _ _ C X Lc)
  exact (fun z => z (q))
theorem o_icmple {x y : Int32} {off : Int} {tgt : Nat} (hd : decode Z.2.2.2.2.2.1 pc = .ok (.if_icmp .le off, 3)) (ht : (pc : Int) + off = (tgt : Int)) (KA : ¬ y < x → px_O Z g A tgt L S h kc ks) (KB : y < x → px_O Z g B (pc + 3) L S h kc ks) : px_O Z g (if y < x then B else A) pc L (.int y :: .int x :: S) h kc ks := by
  intro b hb p l e s m args below meth c D ty r0 adV r H locs ls C X Lc
  refine lv_icmp_le C.1 C.2.1 hd ht (fun q => ?_) (fun q => ?_)
  · have q1 : ¬ (y < x) := Int32.not_lt.mpr q
    exact KA q1 b (by rw [if_neg q1] at hb; exact hb) _ _ _ _ _ _ _ _ _ _ _ _ _ _ _ _ _ C X Lc
  · have q1 : (y < x) := Int32.not_le.mp q
    exact KB q1 b (by rw [if_pos q1] at hb; exact hb) _ _ _ _ _ _ _ _ _ _ _ _ _ _ _ _ _ C X Lc
theorem o_icmple_t {x y : Int32} {off : Int} {tgt : Nat} (hd : decode Z.2.2.2.2.2.1 pc = .ok (.if_icmp .le off, 3)) (ht : (pc : Int) + off = (tgt : Int)) (hq : ¬ (y < x)) (K : px_O Z g res tgt L S h kc ks) : px_O Z g res pc L (.int y :: .int x :: S) h kc ks := by
  intro b hb p l e s m args below meth c D ty r0 adV r H locs ls C X Lc
  refine lv_icmp_le C.1 C.2.1 hd ht (fun q => K b hb _ _ _ _ _ _ _ _ _ _ _ _ _ _ _ _ _ C X Lc) (fun q => absurd hq ?_)
  exact (fun z => z (Int32.not_le.mp q))
theorem o_icmple_f {x y : Int32} {off : Int} {tgt : Nat} (hd : decode Z.2.2.2.2.2.1 pc = .ok (.if_icmp .le off, 3)) (ht : (pc : Int) + off = (tgt : Int)) (hq : (y < x)) (K : px_O Z g res (pc + 3) L S h kc ks) : px_O Z g res pc L (.int y :: .int x :: S) h kc ks := by
  intro b hb p l e s m args below meth c D ty r0 adV r H locs ls C X Lc
  refine lv_icmp_le C.1 C.2.1 hd ht (fun q => absurd hq ?_) (fun q => K b hb _ _ _ _ _ _ _ _ _ _ _ _ _ _ _ _ _ C X Lc)
  exact ((Int32.not_lt.mpr q))
theorem o_tabOut {dflt lo hi : Int} {offs : Array Int} {len : Nat} {x : Int32} {tgt : Nat} (hd : decode Z.2.2.2.2.2.1 pc = .ok (.tableswitch dflt lo hi offs, len)) (hq : x.toInt < lo ∨ hi < x.toInt) (ht : (pc : Int) + dflt = (tgt : Int)) (K : px_O Z g res tgt L S h kc ks) : px_O Z g res pc L (.int x :: S) h kc ks := by
  intro b hb p l e s m args below meth c D ty r0 adV r H locs ls C X Lc
  exact lv_tableOut C.1 C.2.1 hd hq ht (K b hb _ _ _ _ _ _ _ _ _ _ _ _ _ _ _ _ _ C X Lc)
theorem o_tabIn {dflt lo hi : Int} {offs : Array Int} {len : Nat} {x : Int32} {off : Int} {tgt : Nat} (hd : decode Z.2.2.2.2.2.1 pc = .ok (.tableswitch dflt lo hi offs, len)) (h1 : ¬ x.toInt < lo) (h2 : ¬ hi < x.toInt) (ho : offs[(x.toInt - lo).toNat]? = some off) (ht : (pc : Int) + off = (tgt : Int)) (K : px_O Z g res tgt L S h kc ks) : px_O Z g res pc L (.int x :: S) h kc ks := by
  intro b hb p l e s m args below meth c D ty r0 adV r H locs ls C X Lc
  exact lv_tableIn C.1 C.2.1 hd h1 h2 ho ht (K b hb _ _ _ _ _ _ _ _ _ _ _ _ _ _ _ _ _ C X Lc)
theorem px_out {x : Int32} (lo : Int) (n : Nat) (hlo : -2147483648 ≤ lo) (hn : lo + n ≤ 2147483648) (hx : ∀ k : Nat, k < n → x ≠ Int32.ofInt (lo + k)) : x.toInt < lo ∨ lo + n - 1 < x.toInt := by
  by_cases h1 : x.toInt < lo
  · exact Or.inl h1
  · by_cases h2 : lo + n - 1 < x.toInt
    · exact Or.inr h2
    · refine absurd ?_ (hx (x.toInt - lo).toNat (by omega))
      have e : lo + ((x.toInt - lo).toNat : Int) = x.toInt := by omega
      rw [e]
      exact (Int32.ofInt_toInt x).symm
end PXO
/-- what is known of the picture's classes -/
theorem px_cls : ∀ (ci : Nat) (q : vw_C), vwCl[ci]? = some q → (∀ w ∈ u_ws q.1 q.2.1 q.2.2, w ∈ px_T) ∧ (∃ ty0 : Nat → FieldType, ∀ k, k < q.2.2 → parseFieldDescriptor (q.2.1 k).2.2.1 = some (ty0 k)) ∧ (∀ a, a < q.2.2 → ∀ b, b < q.2.2 → a ≠ b → (q.2.1 a).2.1 ≠ (q.2.1 b).2.1) := by
  intro ci q hq
  match ci, hq with
  | 0, hq => cases hq; exact ⟨px_in0, ⟨tyX0, tyX0_ok⟩, nmX0⟩
  | 1, hq => cases hq; exact ⟨px_in1, ⟨tyX1, tyX1_ok⟩, nmX1⟩
  | 2, hq => cases hq; exact ⟨px_in2, ⟨tyX2, tyX2_ok⟩, nmX2⟩
  | 3, hq => cases hq; exact ⟨px_in3, ⟨tyX3, tyX3_ok⟩, nmX3⟩
  | 4, hq => cases hq; exact ⟨px_in4, ⟨tyX4, tyX4_ok⟩, nmX4⟩
  | 5, hq => cases hq; exact ⟨px_in5, ⟨tyX5, tyX5_ok⟩, nmX5⟩
  | 6, hq => cases hq; exact ⟨px_in6, ⟨tyX6, tyX6_ok⟩, nmX6⟩
  | k + 7, hq => simp at hq
def px_FL (own : String) (idx : Nat) (q : vw_C) (k : Nat) : Prop := Cond.fieldLink own idx (q.2.1 k).1 (q.2.1 k).2.1 (q.2.1 k).2.2.1 ∈ px_T
section PXO
variable {β : Type} {Z : px_Z} {g : β → Option Value × List px_C} {res A B : Option β} {pc : Nat} {L : List (Option Value)} {S : List Value} {h : List px_C} {kc ks : Nat}
variable {a ci k idx : Nat} {fs : List Value} {q : vw_C}
theorem o_get {v : Value} (hd : decode Z.2.2.2.2.2.1 pc = .ok (.getfield idx, 3)) (hq : vwCl[ci]? = some q) (hl : px_FL Z.2.2.2.2.1.cls idx q k) (hk : k < q.2.2) (hc : h[a]? = some (.inl (ci, fs))) (hv : fs[k]? = some v) (K : px_O Z g res (pc + 3) L (v :: S) h kc ks) : px_O Z g res pc L (.ref a :: S) h kc ks := by
  intro b hb p l e s m args below meth c D ty r0 adV r H locs ls C X Lc
  obtain ⟨x1, x2, x3, x4, x5, x6⟩ := id X
  exact va_get (C := q.1) (T := q.2.1) (N := q.2.2) (ci := ci) C.1 C.2.1 C.2.2.2.2.2.1 (fun w hw => List.mem_cons_of_mem _ ((px_cls ci q hq).1 w hw)) C.2.2.2.2.1 x2 x4 a (px_w_get hc) hq k hk (C.2.2.2.2.2.1 _ (List.mem_cons_of_mem _ hl)) (fun _ z => z) (v := px_v r v) (by rw [List.getElem?_map, hv]; rfl) hd (K b hb _ _ _ _ _ _ _ _ _ _ _ _ _ _ _ _ _ C X Lc)
theorem o_put {v : Value} {ty0 : FieldType} {h' : List px_C} (hd : decode Z.2.2.2.2.2.1 pc = .ok (.putfield idx, 3)) (hq : vwCl[ci]? = some q) (hl : px_FL Z.2.2.2.2.1.cls idx q k) (hk : k < q.2.2) (hfin : (q.2.1 k).2.2.2 = false) (hty : parseFieldDescriptor (q.2.1 k).2.2.1 = some ty0) (hn : ∀ r, narrow ty0 (px_v r v) = px_v r v) (hf : ∀ r, fits ty0 (px_v r v) = true) (hc : h[a]? = some (.inl (ci, fs))) (hlen : k < fs.length) (hh : h.set a (.inl (ci, fs.set k v)) = h') (K : px_O Z g res (pc + 3) L S h' kc ks) : px_O Z g res pc L (v :: .ref a :: S) h kc ks := by
  intro b hb p l e s m args below meth c D ty r0 adV r H locs ls C X Lc
  obtain ⟨x1, x2, x3, x4, x5, x6⟩ := id X
  obtain ⟨c1, ⟨tyf, c2⟩, c3⟩ := px_cls ci q hq
  subst hh
  have es : (px_w r ty h).set a (r a, .inr (ci, (fs.map (px_v r)).set k (px_v r v))) = px_w r ty (h.set a (.inl (ci, fs.set k v))) := by
    rw [← px_w_set]
    simp only [px_c, List.map_set]
  refine va_put (C := q.1) (T := q.2.1) (N := q.2.2) (ci := ci) C.1 C.2.1 C.2.2.2.2.2.1 (fun w hw => List.mem_cons_of_mem _ (c1 w hw)) tyf c2 c3 C.2.2.2.2.1 x2 x4 x5 x6 a (px_w_get hc) hq k hk (C.2.2.2.2.2.1 _ (List.mem_cons_of_mem _ hl)) (fun _ z => z) hfin hty (hn r) (hf r) (by rw [List.length_map]; exact hlen) hd (fun H1 locs1 y1 y2 y3 => ?_)
  rw [es] at y1 y2
  exact K b hb _ _ _ _ _ _ _ _ _ _ _ _ _ _ _ _ _ C ⟨⟨fun k hk => x1.1 k (by rw [List.length_set] at hk; exact hk), by rw [List.length_set]; exact x1.2⟩, x2, x3, y1, y2, y3⟩ Lc
theorem o_putF {v : Value} {ty0 : FieldType} {h' : List px_C} (hd : decode Z.2.2.2.2.2.1 pc = .ok (.putfield idx, 3)) (hq : vwCl[ci]? = some q) (hl : px_FL Z.2.2.2.2.1.cls idx q k) (hk : k < q.2.2) (hfin : (q.2.1 k).2.2.2 = true) (hini : Z.2.2.2.2.1.name = "<init>") (hdecl : (q.2.1 k).1 = Z.2.2.2.2.1.cls) (hty : parseFieldDescriptor (q.2.1 k).2.2.1 = some ty0) (hn : ∀ r, narrow ty0 (px_v r v) = px_v r v) (hf : ∀ r, fits ty0 (px_v r v) = true) (hc : h[a]? = some (.inl (ci, fs))) (hlen : k < fs.length) (hh : h.set a (.inl (ci, fs.set k v)) = h') (K : px_O Z g res (pc + 3) L S h' kc ks) : px_O Z g res pc L (v :: .ref a :: S) h kc ks := by
  intro b hb p l e s m args below meth c D ty r0 adV r H locs ls C X Lc
  obtain ⟨x1, x2, x3, x4, x5, x6⟩ := id X
  obtain ⟨c1, ⟨tyf, c2⟩, c3⟩ := px_cls ci q hq
  subst hh
  have es : (px_w r ty h).set a (r a, .inr (ci, (fs.map (px_v r)).set k (px_v r v))) = px_w r ty (h.set a (.inl (ci, fs.set k v))) := by
    rw [← px_w_set]
    simp only [px_c, List.map_set]
  refine va_putF (C := q.1) (T := q.2.1) (N := q.2.2) (ci := ci) C.1 C.2.1 C.2.2.2.2.2.1 (fun w hw => List.mem_cons_of_mem _ (c1 w hw)) tyf c2 c3 C.2.2.2.2.1 x2 x4 x5 x6 a (px_w_get hc) hq k hk (C.2.2.2.2.2.1 _ (List.mem_cons_of_mem _ hl)) (fun _ z => z) hfin (C.2.2.2.2.2.2.2.trans hini) hdecl hty (hn r) (hf r) (by rw [List.length_map]; exact hlen) hd (fun H1 locs1 y1 y2 y3 => ?_)
  rw [es] at y1 y2
  exact K b hb _ _ _ _ _ _ _ _ _ _ _ _ _ _ _ _ _ C ⟨⟨fun k hk => x1.1 k (by rw [List.length_set] at hk; exact hk), by rw [List.length_set]; exact x1.2⟩, x2, x3, y1, y2, y3⟩ Lc
theorem px_wd_set {D : va_G} {ty : Nat → ClassId} {r0 adV r : Nat → Nat} {n0 : Nat} {s : State} {h : List px_C} {H H1 : Heap} {locs locs1 : List Loc} {a : Nat} {c : px_C} (X : px_wd D ty r0 adV r n0 s h H locs) (y1 : va_P D vwCl ((px_w r ty h).set a (r a, px_c r ty c)) H1) (y2 : va_D (px_A r0 n0 s.heap.size) ((px_w r ty h).set a (r a, px_c r ty c))) (y3 : va_S (px_A r0 n0 s.heap.size) s.heap H1 locs1) : px_wd D ty r0 adV r n0 s (h.set a c) H1 locs1 := by
  obtain ⟨x1, x2, x3, x4, x5, x6⟩ := X
  rw [px_w_set] at y1 y2
  exact ⟨⟨fun k hk => x1.1 k (by rw [List.length_set] at hk; exact hk), by rw [List.length_set]; exact x1.2⟩, x2, x3, y1, y2, y3⟩
theorem o_iald {n : Nat} {f : Nat → Int32} {i : Int32} (hd : decode Z.2.2.2.2.2.1 pc = .ok (.iaload, 1)) (hc : h[a]? = some (.inr (.inl (0, n, f)))) (hi : vp_in i n) (K : px_O Z g res (pc + 1) L (.int (f i.toNatClampNeg) :: S) h kc ks) : px_O Z g res pc L (.int i :: .ref a :: S) h kc ks := by
  intro b hb p l e s m args below meth c D ty r0 adV r H locs ls C X Lc
  exact va_iald C.1 C.2.1 X.2.1 X.2.2.2.1 a 0 (px_w_get hc) rfl hi hd (K b hb _ _ _ _ _ _ _ _ _ _ _ _ _ _ _ _ _ C X Lc)
theorem o_iast {n : Nat} {f : Nat → Int32} {i x : Int32} {h' : List px_C} (hd : decode Z.2.2.2.2.2.1 pc = .ok (.iastore, 1)) (hc : h[a]? = some (.inr (.inl (0, n, f)))) (hi : vp_in i n) (hh : h.set a (.inr (.inl (0, n, upd f i.toNatClampNeg x))) = h') (K : px_O Z g res (pc + 1) L S h' kc ks) : px_O Z g res pc L (.int x :: .int i :: .ref a :: S) h kc ks := by
  intro b hb p l e s m args below meth c D ty r0 adV r H locs ls C X Lc
  subst hh
  exact va_iast C.1 C.2.1 X.2.1 X.2.2.2.1 X.2.2.2.2.1 X.2.2.2.2.2 a 0 (px_w_get hc) rfl hi hd (fun H1 locs1 y1 y2 y3 => K b hb _ _ _ _ _ _ _ _ _ _ _ _ _ _ _ _ _ C (px_wd_set (c := .inr (.inl (0, n, upd f i.toNatClampNeg x))) X y1 y2 y3) Lc)
theorem o_zald {n : Nat} {f : Nat → Int32} {i : Int32} (hd : decode Z.2.2.2.2.2.1 pc = .ok (.baload, 1)) (hc : h[a]? = some (.inr (.inl (1, n, f)))) (hi : vp_in i n) (K : px_O Z g res (pc + 1) L (.int (f i.toNatClampNeg) :: S) h kc ks) : px_O Z g res pc L (.int i :: .ref a :: S) h kc ks := by
  intro b hb p l e s m args below meth c D ty r0 adV r H locs ls C X Lc
  exact va_zald C.1 C.2.1 X.2.1 X.2.2.2.1 a 1 (px_w_get hc) rfl hi hd (K b hb _ _ _ _ _ _ _ _ _ _ _ _ _ _ _ _ _ C X Lc)
theorem o_zast {n : Nat} {f : Nat → Int32} {i x : Int32} {h' : List px_C} (hd : decode Z.2.2.2.2.2.1 pc = .ok (.bastore, 1)) (hc : h[a]? = some (.inr (.inl (1, n, f)))) (hi : vp_in i n) (hh : h.set a (.inr (.inl (1, n, upd f i.toNatClampNeg (vp_nar .boolean x)))) = h') (K : px_O Z g res (pc + 1) L S h' kc ks) : px_O Z g res pc L (.int x :: .int i :: .ref a :: S) h kc ks := by
  intro b hb p l e s m args below meth c D ty r0 adV r H locs ls C X Lc
  subst hh
  exact va_zast C.1 C.2.1 X.2.1 X.2.2.2.1 X.2.2.2.2.1 X.2.2.2.2.2 a 1 (px_w_get hc) rfl hi hd (fun H1 locs1 y1 y2 y3 => K b hb _ _ _ _ _ _ _ _ _ _ _ _ _ _ _ _ _ C (px_wd_set (c := .inr (.inl (1, n, upd f i.toNatClampNeg (vp_nar .boolean x)))) X y1 y2 y3) Lc)
theorem o_alen {n t : Nat} {f : Nat → Int32} {v : Int32} (ht : t = 0 ∨ t = 1) (hd : decode Z.2.2.2.2.2.1 pc = .ok (.arraylength, 1)) (hc : h[a]? = some (.inr (.inl (t, n, f)))) (hv : Int32.ofNat n = v) (K : px_O Z g res (pc + 1) L (.int v :: S) h kc ks) : px_O Z g res pc L (.ref a :: S) h kc ks := by
  intro b hb p l e s m args below meth c D ty r0 adV r H locs ls C X Lc
  rcases ht with rfl | rfl
  · exact va_alen C.1 C.2.1 X.2.1 X.2.2.2.1 a 0 (px_w_get hc) (ty := .int) rfl hv hd (K b hb _ _ _ _ _ _ _ _ _ _ _ _ _ _ _ _ _ C X Lc)
  · exact va_alen C.1 C.2.1 X.2.1 X.2.2.2.1 a 1 (px_w_get hc) (ty := .boolean) rfl hv hd (K b hb _ _ _ _ _ _ _ _ _ _ _ _ _ _ _ _ _ C X Lc)
theorem px_rf_map (r : Nat → Nat) (o : Option Nat) : va_rf (o.map r) = px_v r (va_rf o) := by cases o <;> rfl
theorem o_aald {n t : Nat} {f : Nat → Option Nat} {i : Int32} {v : Value} (ht : t = 2 ∨ t = 3) (hd : decode Z.2.2.2.2.2.1 pc = .ok (.aaload, 1)) (hc : h[a]? = some (.inr (.inr (t, n, f)))) (hi : vp_in i n) (hv : va_rf (f i.toNatClampNeg) = v) (K : px_O Z g res (pc + 1) L (v :: S) h kc ks) : px_O Z g res pc L (.int i :: .ref a :: S) h kc ks := by
  intro b hb p l e s m args below meth c D ty r0 adV r H locs ls C X Lc
  subst hv
  have K2 := K b hb p l e s m args below meth c D ty r0 adV r H locs ls C X Lc
  rcases ht with rfl | rfl
  · exact va_aldq (C := "ThreeOfThem$Text") C.1 C.2.1 X.2.1 X.2.2.2.1 a 2 (px_w_get hc) rfl hi hd (by rw [px_rf_map]; exact K2)
  · exact va_aldq (C := "ThreeOfThem$Sheet") C.1 C.2.1 X.2.1 X.2.2.2.1 a 3 (px_w_get hc) rfl hi hd (by rw [px_rf_map]; exact K2)
theorem px_up_map (r : Nat → Nat) (f : Nat → Option Nat) (i v : Nat) : va_up (fun j => (f j).map r) i (some (r v)) = fun j => (va_up f i (some v) j).map r := by
  funext j
  by_cases hj : j = i
  · subst hj; simp [va_up]
  · simp [va_up, hj]
theorem o_aast {n t v : Nat} {f : Nat → Option Nat} {i : Int32} {h' : List px_C} (ht : (t = 2 ∧ ci = 4) ∨ (t = 3 ∧ ci = 3)) (hd : decode Z.2.2.2.2.2.1 pc = .ok (.aastore, 1)) (hc : h[a]? = some (.inr (.inr (t, n, f)))) (hv : h[v]? = some (.inl (ci, fs))) (hi : vp_in i n) (hh : h.set a (.inr (.inr (t, n, va_up f i.toNatClampNeg (some v)))) = h') (K : px_O Z g res (pc + 1) L S h' kc ks) : px_O Z g res pc L (.ref v :: .int i :: .ref a :: S) h kc ks := by
  intro b hb p l e s m args below meth c D ty r0 adV r H locs ls C X Lc
  subst hh
  rcases ht with ⟨rfl, rfl⟩ | ⟨rfl, rfl⟩
  · exact va_astq (r := (RX4, TX4, 3)) C.1 C.2.1 X.2.1 X.2.2.2.1 X.2.2.2.2.1 X.2.2.2.2.2 a 2 v 4 (px_w_get hc) rfl (px_w_get hv) rfl hi hd (fun H1 locs1 y1 y2 y3 => K b hb _ _ _ _ _ _ _ _ _ _ _ _ _ _ _ _ _ C (px_wd_set (c := .inr (.inr (2, n, va_up f i.toNatClampNeg (some v)))) X (by rw [px_up_map] at y1; exact y1) (by rw [px_up_map] at y2; exact y2) y3) Lc)
  · exact va_astq (r := (RX3, TX3, 3)) C.1 C.2.1 X.2.1 X.2.2.2.1 X.2.2.2.2.1 X.2.2.2.2.2 a 3 v 3 (px_w_get hc) rfl (px_w_get hv) rfl hi hd (fun H1 locs1 y1 y2 y3 => K b hb _ _ _ _ _ _ _ _ _ _ _ _ _ _ _ _ _ C (px_wd_set (c := .inr (.inr (3, n, va_up f i.toNatClampNeg (some v)))) X (by rw [px_up_map] at y1; exact y1) (by rw [px_up_map] at y2; exact y2) y3) Lc)
end PXO
