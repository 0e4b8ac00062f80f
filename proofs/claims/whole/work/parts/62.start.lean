theorem st_ao2 : Cond.arrayOver (.object "ThreeOfThem$Text") ∈ lw_tbl := List.mem_append_right _ (List.mem_of_getElem? (i := 193) (by decide +kernel))
theorem st_ao3 : Cond.arrayOver (.object "ThreeOfThem$Sheet") ∈ lw_tbl := List.mem_append_right _ (List.mem_of_getElem? (i := 195) (by decide +kernel))
theorem st_und : Cond.laysStatic "ThreeOfThem" "UNDER" "[I" ∈ lw_tbl := List.mem_append_right _ (List.mem_of_getElem? (i := 844) (by decide +kernel))
theorem st_com : Cond.laysStatic "java/lang/String" "COMPACT_STRINGS" "Z" ∈ lw_tbl := List.mem_append_right _ (List.mem_of_getElem? (i := 225) (by decide +kernel))
theorem st_sio : Cond.laysStatic "jdk/internal/util/Preconditions" "SIOOBE_FORMATTER" "Ljava/util/function/BiFunction;" ∈ lw_tbl := List.mem_append_right _ (List.mem_of_getElem? (i := 241) (by decide +kernel))
theorem st_i5 : Cond.initialized "ThreeOfThem" ∈ lw_tbl := List.mem_append_right _ (List.mem_of_getElem? (i := 1) (by decide +kernel))
theorem st_iS : Cond.initialized "java/lang/String" ∈ lw_tbl := List.mem_append_right _ (List.mem_of_getElem? (i := 8) (by decide +kernel))
theorem st_iP : Cond.initialized "jdk/internal/util/Preconditions" ∈ lw_tbl := List.mem_append_right _ (List.mem_of_getElem? (i := 10) (by decide +kernel))
abbrev px_gn : Cond := Jvm.Cond.and given_1 narrow_1
theorem st_str : ∀ i, i < 13 → Cond.stringRef (px_own i) (px_idx i) (px_tx i) ∈ lw_tbl := by decide +kernel
theorem st_ex : ∀ i, i < 13 → Cond.exactly (Term.string (px_own i) (px_idx i)) "java/lang/String" ∈ flatC px_gn := by decide +kernel
theorem st_co : ∀ i, i < 13 → Cond.eq (.field (Term.string (px_own i) (px_idx i)) "java/lang/String" "coder" "B") (.int 0) ∈ flatC px_gn := by decide +kernel
theorem st_ar : ∀ i, i < 13 → Cond.arrayOf (.field (Term.string (px_own i) (px_idx i)) "java/lang/String" "value" "[B") .byte ∈ flatC px_gn := by decide +kernel
theorem st_le : ∀ i, i < 13 → Cond.eq (.length (.field (Term.string (px_own i) (px_idx i)) "java/lang/String" "value" "[B")) (.int (Int32.ofNat (px_len.getD i 0))) ∈ flatC px_gn := by decide +kernel
theorem st_el : ∀ i, i < 13 → ∀ j, j < px_len.getD i 0 → Cond.eq (.elem (.field (Term.string (px_own i) (px_idx i)) "java/lang/String" "value" "[B") (.int (Int32.ofNat j))) (.int ((px_byt.getD i []).getD j 0)) ∈ flatC px_gn := by decide +kernel
theorem st_ne1 : ∀ i, i < 1 → Cond.not (Cond.eq (Term.string (px_own i) (px_idx i)) (Term.string (px_own 1) (px_idx 1))) ∈ flatC px_gn := by decide +kernel
theorem st_ne2 : ∀ i, i < 2 → Cond.not (Cond.eq (Term.string (px_own i) (px_idx i)) (Term.string (px_own 2) (px_idx 2))) ∈ flatC px_gn := by decide +kernel
theorem st_ne3 : ∀ i, i < 3 → Cond.not (Cond.eq (Term.string (px_own i) (px_idx i)) (Term.string (px_own 3) (px_idx 3))) ∈ flatC px_gn := by decide +kernel
theorem st_ne4 : ∀ i, i < 4 → Cond.not (Cond.eq (Term.string (px_own i) (px_idx i)) (Term.string (px_own 4) (px_idx 4))) ∈ flatC px_gn := by decide +kernel
theorem st_ne5 : ∀ i, i < 5 → Cond.not (Cond.eq (Term.string (px_own i) (px_idx i)) (Term.string (px_own 5) (px_idx 5))) ∈ flatC px_gn := by decide +kernel
theorem st_ne6 : ∀ i, i < 6 → Cond.not (Cond.eq (Term.string (px_own i) (px_idx i)) (Term.string (px_own 6) (px_idx 6))) ∈ flatC px_gn := by decide +kernel
theorem st_ne7 : ∀ i, i < 7 → Cond.not (Cond.eq (Term.string (px_own i) (px_idx i)) (Term.string (px_own 7) (px_idx 7))) ∈ flatC px_gn := by decide +kernel
theorem st_ne8 : ∀ i, i < 8 → Cond.not (Cond.eq (Term.string (px_own i) (px_idx i)) (Term.string (px_own 8) (px_idx 8))) ∈ flatC px_gn := by decide +kernel
theorem st_ne9 : ∀ i, i < 9 → Cond.not (Cond.eq (Term.string (px_own i) (px_idx i)) (Term.string (px_own 9) (px_idx 9))) ∈ flatC px_gn := by decide +kernel
theorem st_ne10 : ∀ i, i < 10 → Cond.not (Cond.eq (Term.string (px_own i) (px_idx i)) (Term.string (px_own 10) (px_idx 10))) ∈ flatC px_gn := by decide +kernel
theorem st_ne11 : ∀ i, i < 11 → Cond.not (Cond.eq (Term.string (px_own i) (px_idx i)) (Term.string (px_own 11) (px_idx 11))) ∈ flatC px_gn := by decide +kernel
theorem st_ne12 : ∀ i, i < 12 → Cond.not (Cond.eq (Term.string (px_own i) (px_idx i)) (Term.string (px_own 12) (px_idx 12))) ∈ flatC px_gn := by decide +kernel
theorem st_nl : ∀ j, j < 13 → ∀ i, i < j → Cond.not (Cond.eq (Term.string (px_own i) (px_idx i)) (Term.string (px_own j) (px_idx j))) ∈ flatC px_gn
  | 0, _, i, hi => absurd hi (Nat.not_lt_zero i)
  | 1, _, i, hi => st_ne1 i hi
  | 2, _, i, hi => st_ne2 i hi
  | 3, _, i, hi => st_ne3 i hi
  | 4, _, i, hi => st_ne4 i hi
  | 5, _, i, hi => st_ne5 i hi
  | 6, _, i, hi => st_ne6 i hi
  | 7, _, i, hi => st_ne7 i hi
  | 8, _, i, hi => st_ne8 i hi
  | 9, _, i, hi => st_ne9 i hi
  | 10, _, i, hi => st_ne10 i hi
  | 11, _, i, hi => st_ne11 i hi
  | 12, _, i, hi => st_ne12 i hi
  | j + 13, hj, _, _ => absurd hj (by omega)
theorem st_ne (i : Nat) (hi : i < 13) (j : Nat) (hj : j < 13) (hij : i ≠ j) : (Cond.not (Cond.eq (Term.string (px_own i) (px_idx i)) (Term.string (px_own j) (px_idx j))) ∈ flatC px_gn ∨ Cond.not (Cond.eq (Term.string (px_own j) (px_idx j)) (Term.string (px_own i) (px_idx i))) ∈ flatC px_gn) := by
  rcases Nat.lt_or_gt_of_ne hij with z | z
  · exact Or.inl (st_nl j hj i z)
  · exact Or.inr (st_nl i hi j z)
theorem st_ua : Cond.arrayOf (Term.static "ThreeOfThem" "UNDER" "[I") .int ∈ flatC px_gn := by decide +kernel
theorem st_ul : Cond.eq (.length (Term.static "ThreeOfThem" "UNDER" "[I")) (.int (Int32.ofNat 6)) ∈ flatC px_gn := by decide +kernel
theorem st_ue : ∀ j, j < 6 → Cond.eq (.elem (Term.static "ThreeOfThem" "UNDER" "[I") (.int (Int32.ofNat j))) (.int (px_und j)) ∈ flatC px_gn := by decide +kernel
theorem st_cs : Cond.eq (Term.static "java/lang/String" "COMPACT_STRINGS" "Z") (.int 1) ∈ flatC px_gn := by decide +kernel
theorem st_sr : Cond.isRef (Term.static "jdk/internal/util/Preconditions" "SIOOBE_FORMATTER" "Ljava/util/function/BiFunction;") ∈ flatC px_gn := by decide +kernel
theorem px_nest_on {w : Cond} (hw : px_isNest w = true) : w.onTables = true := by
  cases w <;> first | (simp [px_isNest] at hw; done) | rfl
theorem px_len_all : ∀ i : Nat, i < 13 → px_len.getD i 0 < 2 ^ 31 := by decide +kernel
/-- the world at the law's entry -/
theorem start_E {s : State} {b : Nat} (hts : ∀ w ∈ lw_tbl, w.before #[Value.ref b] s = true) (hgv : px_gn.before #[Value.ref b] s = true) : ∃ r0 : Nat → Nat, r0 4000 = b ∧ px_E r0 r0 (px_A r0 0 s.heap.size) s s.heap := by
  have hs := flat_of_before _ hgv
  obtain ⟨A, hAe⟩ : ∃ A : Nat → Prop, A = fun q => s.heap.size ≤ q := ⟨_, rfl⟩
  have hA : ∀ a : Nat, a < s.heap.size → ¬ A a := fun a ha => by rw [hAe]; exact Nat.not_le.mpr ha
  obtain ⟨adK, adV, hS, hev⟩ := vk_Sof (N := 13) (tm := fun i => Term.string (px_own i) (px_idx i)) (len := px_len) (byt := px_byt) (A := A) px_len_all (fun i hi => hs _ (st_ex i hi)) (fun i hi => hs _ (st_co i hi)) (fun i hi => hs _ (st_ar i hi)) (fun i hi => hs _ (st_le i hi)) (fun i hi j hj => hs _ (st_el i hi j hj)) (fun i j hi hj hij => (st_ne i hi j hj hij).imp (fun z => hs _ z) (fun z => hs _ z)) hA
  obtain ⟨t, ht, hT⟩ := va_Tof (tm := Term.static "ThreeOfThem" "UNDER" "[I") (ty := .int) (N := 6) (f := fun j => .int (px_und j)) (A := A) (by decide) (hs _ st_ua) (va_eqt (hs _ st_ul)) (fun j hj => va_eqt (hs _ (st_ue j hj))) hA
  have hZ := va_Zof (hts _ st_und) (hts _ st_i5) ht hA
  have hC := va_Zof (hts _ st_com) (hts _ st_iS) (va_eqi (hs _ st_cs)) hA
  have hR := va_Zqof (hts _ st_sio) (hts _ st_iP) (hs _ st_sr) hA
  obtain ⟨t2, hR2⟩ : ∃ t2 : Nat, va_Z "jdk/internal/util/Preconditions" "SIOOBE_FORMATTER" "Ljava/util/function/BiFunction;" .null A s s.heap ∨ va_Z "jdk/internal/util/Preconditions" "SIOOBE_FORMATTER" "Ljava/util/function/BiFunction;" (.ref t2) A s s.heap := by
    rcases hR with z | ⟨t2, z⟩
    · exact ⟨0, Or.inl z⟩
    · exact ⟨t2, Or.inr z⟩
  obtain ⟨r0, hr0⟩ : ∃ r0 : Nat → Nat, r0 = fun k => if k = 4000 then b else if k = 2000 then t else if k = 2001 then t2 else if 3000 ≤ k then adV (k - 3000) else adK (k - 1000) := ⟨_, rfl⟩
  have e4 : r0 4000 = b := by rw [hr0]; rfl
  have e2 : r0 2000 = t := by rw [hr0]; rfl
  have e21 : r0 2001 = t2 := by rw [hr0]; rfl
  have eK : ∀ i, i < 13 → r0 (1000 + i) = adK i := by
    intro i hi
    rw [hr0]
    dsimp only
    rw [if_neg (by omega), if_neg (by omega), if_neg (by omega), if_neg (by omega), Nat.add_sub_cancel_left]
  have eV : ∀ i, i < 13 → r0 (3000 + i) = adV i := by
    intro i hi
    rw [hr0]
    dsimp only
    rw [if_neg (by omega), if_neg (by omega), if_neg (by omega), if_pos (by omega), Nat.add_sub_cancel_left]
  have eA : px_A r0 0 s.heap.size = A := by
    rw [hAe]
    funext q
    apply propext
    constructor
    · rintro (⟨k, hk, -⟩ | z)
      · omega
      · exact z
    · exact fun z => Or.inr z
  refine ⟨r0, e4, ?_⟩
  rw [eA]
  refine ⟨fun w hw => va_Nw.of (px_nest_on (List.mem_filter.mp hw).2) (hts w (List.mem_append_right _ (List.mem_filter.mp hw).1)), ⟨fun i hi => ?_, fun i j hi hj z => ?_⟩, fun i hi => ?_, ?_, ?_, hC, ?_, va_AO.of (hts _ st_ao2), va_AO.of (hts _ st_ao3)⟩
  · dsimp only
    rw [eK i hi, eV i hi]
    exact hS.1 i hi
  · dsimp only at z
    rw [eK i hi, eK j hj] at z
    exact hS.2 i j hi hj z
  · rw [eK i hi]
    exact vk_R.of (hts _ (st_str i hi)) (hev i hi)
  · rw [e2]; exact hZ
  · rw [e2]; exact hT
  · rw [e21]; exact hR2
theorem start_A {s : State} {args : Array Value} (hts : ∀ w ∈ lw_tbl, w.before args s = true) : ∃ ty : Nat → ClassId, ∀ (k : Nat) (q : ClassId × FieldType), (px_tys ty)[k]? = some q → ArrOfT s q.1 q.2 ∧ va_RA s q.1 q.2 := by
  obtain ⟨c0, k0, m0, a1, a2, a3⟩ := Cond.arrayClass_spec (hts _ (px_T_good w_aint).1)
  obtain ⟨c1, k1, m1, b1, b2, b3⟩ := Cond.arrayClass_spec (hts _ (px_T_good w_abool).1)
  obtain ⟨m2, c2, k2, g1, g2, g3, g4, g5⟩ := Cond.arrayOver_spec (hts _ st_ao2)
  obtain ⟨m3, c3, k3, h1, h2, h3, h4, h5⟩ := Cond.arrayOver_spec (hts _ st_ao3)
  refine ⟨fun k => if k = 0 then c0 else if k = 1 then c1 else if k = 2 then c2 else c3, ?_⟩
  intro k q hq
  match k, hq with
  | 0, hq => cases hq; exact ⟨fun n z => ⟨fun k h => (by cases h), k0, a2, m0, a3⟩, a1⟩
  | 1, hq => cases hq; exact ⟨fun n z => ⟨fun k h => (by cases h), k1, b2, m1, b3⟩, b1⟩
  | 2, hq => cases hq; exact ⟨fun n z => ⟨fun k h => (by cases h), k2, g3, m2, g4⟩, k2, m2, g3, g4, g1, g5⟩
  | 3, hq => cases hq; exact ⟨fun n z => ⟨fun k h => (by cases h), k3, h3, m3, h4⟩, k3, m3, h3, h4, h1, h5⟩
  | k + 4, hq => simp [px_tys] at hq
theorem start_D {s : State} {args : Array Value} (hts : ∀ w ∈ lw_tbl, w.before args s = true) : ∃ D : va_G, ∀ (c : Nat) (q : vw_C), vwCl[c]? = some q → u_Kn s q.1 q.2.1 q.2.2 (D.1 c) (D.2 c) := by
  obtain ⟨d0, i0, hK0⟩ := u_known (C := RX0) (T := TX0) (N := 10) (n := 10) hts (fun w hw => (px_T_good (px_in0 w hw)).1) (hts _ (px_T_good nw0.2.1).1)
  obtain ⟨d1, i1, hK1⟩ := u_known (C := RX1) (T := TX1) (N := 16) (n := 16) hts (fun w hw => (px_T_good (px_in1 w hw)).1) (hts _ (px_T_good nw1.2.1).1)
  obtain ⟨d2, i2, hK2⟩ := u_known (C := RX2) (T := TX2) (N := 8) (n := 8) hts (fun w hw => (px_T_good (px_in2 w hw)).1) (hts _ (px_T_good nw2.2.1).1)
  obtain ⟨d3, i3, hK3⟩ := u_known (C := RX3) (T := TX3) (N := 3) (n := 3) hts (fun w hw => (px_T_good (px_in3 w hw)).1) (hts _ (px_T_good nw3.2.1).1)
  obtain ⟨d4, i4, hK4⟩ := u_known (C := RX4) (T := TX4) (N := 3) (n := 3) hts (fun w hw => (px_T_good (px_in4 w hw)).1) (hts _ (px_T_good nw4.2.1).1)
  obtain ⟨d5, i5, hK5⟩ := u_known (C := RX5) (T := TX5) (N := 8) (n := 8) hts (fun w hw => (px_T_good (px_in5 w hw)).1) (hts _ (px_T_good nw5.2.1).1)
  obtain ⟨d6, i6, hK6⟩ := u_known (C := RX6) (T := TX6) (N := 58) (n := 58) hts (fun w hw => (px_T_good (px_in6 w hw)).1) (hts _ (px_T_good nw6.2.1).1)
  refine ⟨(fun k => if k = 0 then d0 else if k = 1 then d1 else if k = 2 then d2 else if k = 3 then d3 else if k = 4 then d4 else if k = 5 then d5 else d6, fun k => if k = 0 then i0 else if k = 1 then i1 else if k = 2 then i2 else if k = 3 then i3 else if k = 4 then i4 else if k = 5 then i5 else i6), ?_⟩
  intro c q hq
  match c, hq with
  | 0, hq => cases hq; exact hK0
  | 1, hq => cases hq; exact hK1
  | 2, hq => cases hq; exact hK2
  | 3, hq => cases hq; exact hK3
  | 4, hq => cases hq; exact hK4
  | 5, hq => cases hq; exact hK5
  | 6, hq => cases hq; exact hK6
  | c + 7, hq => simp at hq
/-- THE LAW'S WALK out of its body's -/
theorem start_W {p : Program} {e : Env} {s : State} {m : MethodId} {below : List Frame} {meth : Method} {c : Code} (l : Launch) {b L : Nat} {xs : Nat → Int32} (C0 : lw_At p s m meth c b L xs) (K : px_Y b L xs 0 [some (.ref 4000), none, none, none] [] [] 0 0) : W p l e room_1 s m #[Value.ref b] below meth c s.heap [] 0 0 (lw_Z below #[Value.ref b] s) (entryFrame m ([Value.ref b] : List Value).toArray 4) := by
  obtain ⟨hx, hb, hr, hml, hown, hts, hX, hbl, hlocks, hgv⟩ := id C0
  obtain ⟨r0, e4, hE⟩ := start_E hts hgv
  obtain ⟨ty, hty⟩ := start_A hts
  obtain ⟨D, hD⟩ := start_D hts
  rw [lg_entry_eq]
  have hl := lv_entry ([.ref b]) (n := 4) (Nat.le_of_ble_eq_true rfl)
  refine K p l e s m below meth c D ty r0 r0 r0 s.heap [] _ C0 ⟨⟨fun k _ => rfl, Nat.le_refl _, by decide⟩, ⟨hD, hty⟩, hE, fun k q h => by simp [px_w] at h, ⟨fun i j p q h => by simp [px_w] at h, fun k q h => by simp [px_w] at h⟩, va_S.rf⟩ e4 ⟨hl.1, hl.2.1, fun i v hv => ?_⟩
  match i, hv with
  | 0, hv => cases hv; rw [px_v_ref, e4]; exact hl.2.2 (0, .ref b) List.mem_cons_self
  | 1, hv => cases hv
  | 2, hv => cases hv
  | 3, hv => cases hv
  | i + 4, hv => simp at hv
