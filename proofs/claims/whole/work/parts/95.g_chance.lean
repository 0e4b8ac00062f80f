theorem m_ch94 (T : Nat) (st : px_S) : ∀ (n : Nat) (y2 y5 : Int32) (y6 y8 y10 : Int64), f_X6_chance_94 T n y2 y5 y6 y8 y10 st = (f_X6_chance_94 0 n y2 y5 y6 y8 y10 (fun _ _ => 0)).map (fun r => (r.1, st))
  | 0, _, _, _, _, _ => rfl
  | n + 1, y2, y5, y6, y8, y10 => by
    rw [f_X6_chance_94, f_X6_chance_94]
    by_cases h1 : lg_cmp y10 0 = 0
    · rw [if_pos h1, if_pos h1]
      by_cases h2 : y5 = 0
      · rw [if_pos h2, if_pos h2]
        by_cases h3 : y8 = 0
        · rw [if_pos h3, if_pos h3]; rfl
        · rw [if_neg h3, if_neg h3]; rfl
      · rw [if_neg h2, if_neg h2]
        by_cases h3 : y8 = 0
        · rw [if_pos h3, if_pos h3]; rfl
        · rw [if_neg h3, if_neg h3]; rfl
    · rw [if_neg h1, if_neg h1]
      by_cases h2 : y10 = 0
      · rw [if_pos h2, if_pos h2]; rfl
      · rw [if_neg h2, if_neg h2]; exact m_ch94 T st n _ _ _ _ _
def m_chv (a b p : Nat) : Option Int64 := (f_X5_commonDivisor (nI a) (nI b)).bind fun b2 => (if nI p = 0 then (if b2 = 0 then none else (some (nI a / b2).toInt64)) else (if b2 = 0 then none else (some (nI b / b2).toInt64)))
def m_cht (a b p : Nat) : Bool := (m_chv a b p).isSome && ((m_chv a b p).map (fun z => z.toInt) == ((f_X6_chance_94 0 1000 (nI b) (nI p) (lN a) (lN a) (nI b).toInt64 (fun _ _ => 0)).map (fun r => r.1.toInt)))
theorem c_ch0 : (List.range 11).all (fun b => (List.range 11).all (fun a => (List.range 2).all (fun p => b == 0 || decide (b < a) || m_cht a b p))) = true := by decide +kernel
theorem c_ch (b : Nat) (hb : b < 11) (h1 : 1 ≤ b) (a : Nat) (ha : a < 11) (hab : a ≤ b) (p : Nat) (hp : p < 2) : (m_chv a b p).isSome = true ∧ m_chv a b p = (f_X6_chance_94 0 1000 (nI b) (nI p) (lN a) (lN a) (nI b).toInt64 (fun _ _ => 0)).map Prod.fst := by
  have t := List.all_eq_true.mp (List.all_eq_true.mp (List.all_eq_true.mp c_ch0 b (List.mem_range.mpr hb)) a (List.mem_range.mpr ha)) p (List.mem_range.mpr hp)
  have e0 : (b == 0) = false := by rw [beq_eq_false_iff_ne]; omega
  have e1 : decide (b < a) = false := decide_eq_false (by omega)
  rw [e0, e1, Bool.false_or, Bool.false_or] at t
  unfold m_cht at t
  rw [Bool.and_eq_true, beq_iff_eq] at t
  refine ⟨t.1, ?_⟩
  have t2 := t.2
  cases ed : m_chv a b p with
  | none => rw [ed] at t; exact absurd t.1 (by simp)
  | some v =>
    rw [ed] at t2
    cases ee : f_X6_chance_94 0 1000 (nI b) (nI p) (lN a) (lN a) (nI b).toInt64 (fun _ _ => 0) with
    | none => rw [ee] at t2; cases t2
    | some r =>
      rw [ee] at t2
      simp only [Option.map_some] at t2 ⊢
      exact congrArg some (Int64.toInt_inj.mp (Option.some.inj t2))
/-- the class thinks, by a rule that is known -/
def m_TC (T : Nat) (st : px_S) (h : px_H) (C : Nat → List Int32) : Prop := h 9 0 ≤ T ∧ T ≤ 5 ∧ m_HC st 1 h ∧ st 36 (h 9 0) = nI (m_plc (h 9 0)) ∧ m_TX st (m_plc (h 9 0)) C
theorem m_TC_fr {T : Nat} {st st' : px_S} {h : px_H} {C : Nat → List Int32} (k : m_TC T st h C) (f : m_fr m_TF st st') : m_TC T st' h C := by
  obtain ⟨k1, k2, k3, k4, k5⟩ := k
  have row : ∀ a, ¬ (11 ≤ a ∧ a ≤ 30) → st' a = st a := fun a ha => f a (by simp [m_TF]; omega)
  have e : m_plc (h 9 0) = 46 ∨ 70 ≤ m_plc (h 9 0) := by unfold m_plc; by_cases hk : h 9 0 = 0 <;> simp [hk] <;> omega
  exact ⟨k1, k2, m_HC_eq k3 (row _ (by omega)) (row _ (by omega)) (row _ (by omega)) (row _ (by omega)) (row _ (by omega)), by rw [row 36 (by omega)]; exact k4, m_TX_eq k5 (row _ (by omega)) (row _ (by omega))⟩
theorem m_thinkD {T : Nat} {st : px_S} {h : px_H} {C : Nat → List Int32} (hw : m_HW h) (k : m_TC T st h C) : ∃ s1, f_X5_thinking (T + 2) st = some s1 ∧ m_fr m_tf st s1 ∧ m_JS (T + 2) s1 h C ∧ (s1 11 1).toNatClampNeg < 70 + 2 * T := by
  obtain ⟨h9, hT, hc, t1, t2⟩ := k
  have hn := hw.1
  have e : (m_plc (h 9 0) = 46 ∨ 70 ≤ m_plc (h 9 0)) ∧ m_plc (h 9 0) < 70 + 2 * T ∧ px_isT (T + 2) (m_plc (h 9 0)) := by
    unfold m_plc px_isT
    by_cases hk : h 9 0 = 0
    · simp [hk]; omega
    · simp [hk]; omega
  obtain ⟨b, eb, fb, cb⟩ := m_becomeC (T := T + 2) (a := 12) (b := 1) (by omega) hn hc
  have b1 : b 1 = st 1 := fb 1 (by decide)
  have b36 : b 36 = st 36 := fb 36 (by decide)
  have k9 : st 1 9 = nI (h 9 0) := hc.2.2.2.2.2.1
  have up11 : ∀ a, a ≠ 11 → (up b 11 1 (nI (m_plc (h 9 0)))) a = b a := fun a ha => m_up_row _ _ _ _ ha
  refine ⟨up b 11 1 (nI (m_plc (h 9 0))), ?_, ?_, ⟨?_, m_plc (h 9 0), by omega, e.2.2, by simp [m_up], ?_⟩, ?_⟩
  · rw [f_X5_thinking, m_eq_bind eb, b1, k9, if_pos (m_px (by omega) (by omega)), nI_clamp (by omega), b36, t1, if_neg (nI_pos (by omega))]
  · exact m_fr_up (m_fr_mono fb (by intro a ha; simp [m_tf] at ha ⊢; omega)) (by simp [m_tf]) _ _
  · exact m_HC_eq cb (up11 _ (by omega)) (up11 _ (by omega)) (up11 _ (by omega)) (up11 _ (by omega)) (up11 _ (by omega))
  · refine m_TX_eq t2 ?_ ?_
    · rw [up11 _ (by omega), fb _ (by simp; omega)]
    · rw [up11 _ (by omega), fb _ (by simp; omega)]
  · rw [m_up, if_pos rfl, if_pos rfl, nI_clamp (by omega)]; exact e.2.1
/-- whether one is in behind a draw -/
noncomputable def j_B (C : Nat → List Int32) (n : Nat) (h : px_H) (z : Int32) (q : Nat) : Bool := @decide (∃ f, j_Dn C n h z f ∧ (f 5 0).testBit q = true) (Classical.propDecidable _)
theorem j_B_eq {C : Nat → List Int32} {n : Nat} {h f : px_H} {z : Int32} {q : Nat} (hd : j_Dn C n h z f) : j_B C n h z q = (f 5 0).testBit q := by
  unfold j_B
  cases e : (f 5 0).testBit q
  · refine @decide_eq_false _ (Classical.propDecidable _) (fun ⟨g, g1, g2⟩ => ?_)
    rw [← j_Dn_uni n h z hd g1, e] at g2; cases g2
  · exact @decide_eq_true _ (Classical.propDecidable _) ⟨f, hd, e⟩
theorem op_chance {T : Nat} {st : px_S} (ag : px_ag) (hI : Inv T st) : ∃ T2 st2, px_op20 T st ag T2 st2 ∧ Inv T2 st2 := by
  have hI0 := hI
  obtain ⟨h1, h2, h3, h4, h5, h, hh, him⟩ := hI
  have hh0 := hh
  obtain ⟨hw, h9, hc, hr⟩ := hh
  have hn7 := hw.1
  have bad : f_X5_chance (T + 2) (ag 1) (ag 2) (ag 3) (ag 4) (ag 5) st = some (-4611686018427387904, st) → f_X6_chance T (ag 1) (ag 2) (ag 3) (ag 4) (ag 5) st = some (-4611686018427387904, st) → ∃ T2 st2, px_op20 T st ag T2 st2 ∧ Inv T2 st2 := fun e1 e2 => ⟨T, st, ⟨rfl, _, st, e1, e2⟩, hI0⟩
  have i2 := m_i (ag 2) 1 10 (A := 1) (B := 10) rfl rfl
  have i3 := m_i (ag 3) 0 30 (A := 0) (B := 30) rfl rfl
  have i5 := m_i (ag 5) 0 1 (A := 0) (B := 1) rfl rfl
  by_cases q1 : ag 2 < 1
  · exact bad (by rw [f_X5_chance, if_pos q1]) (by rw [f_X6_chance, if_pos (i2.mpr (Or.inl q1))])
  by_cases q2 : 10 < ag 2
  · exact bad (by rw [f_X5_chance, if_neg q1, if_pos q2]) (by rw [f_X6_chance, if_pos (i2.mpr (Or.inr q2))])
  have n2 : ¬ p_X6_in (ag 2).toInt64 1 10 = 0 := fun g => (i2.mp g).elim q1 q2
  by_cases q3 : ag 3 < 0
  · exact bad (by rw [f_X5_chance, if_neg q1, if_neg q2, if_pos q3]) (by rw [f_X6_chance, if_neg n2, if_pos (i3.mpr (Or.inl q3))])
  by_cases q4 : 30 < ag 3
  · exact bad (by rw [f_X5_chance, if_neg q1, if_neg q2, if_neg q3, if_pos q4]) (by rw [f_X6_chance, if_neg n2, if_pos (i3.mpr (Or.inr q4))])
  have n3 : ¬ p_X6_in (ag 3).toInt64 0 30 = 0 := fun g => (i3.mp g).elim q3 q4
  rcases j_kn_cases hn7 (ag 4) with q5 | ⟨q, hq, eq, q5⟩
  · exact bad (by rw [f_X5_chance, if_neg q1, if_neg q2, if_neg q3, if_neg q4, m_eq_bind (m_knC hc.1 (ag 4)), if_pos q5]) (by rw [f_X6_chance, if_neg n2, if_neg n3, m_eq_bind (m_knR hn7 hr.1 (ag 4)), if_pos q5])
  have q5' : ¬ j_kn (h 4 0) (ag 4) = 0 := by rw [q5]; decide
  by_cases q6 : ag 5 < 0
  · exact bad (by rw [f_X5_chance, if_neg q1, if_neg q2, if_neg q3, if_neg q4, m_eq_bind (m_knC hc.1 (ag 4)), if_neg q5', if_pos q6]) (by rw [f_X6_chance, if_neg n2, if_neg n3, m_eq_bind (m_knR hn7 hr.1 (ag 4)), if_neg q5', if_pos (i5.mpr (Or.inl q6))])
  by_cases q7 : 1 < ag 5
  · exact bad (by rw [f_X5_chance, if_neg q1, if_neg q2, if_neg q3, if_neg q4, m_eq_bind (m_knC hc.1 (ag 4)), if_neg q5', if_neg q6, if_pos q7]) (by rw [f_X6_chance, if_neg n2, if_neg n3, m_eq_bind (m_knR hn7 hr.1 (ag 4)), if_neg q5', if_pos (i5.mpr (Or.inr q7))])
  have n5 : ¬ p_X6_in (ag 5).toInt64 0 1 = 0 := fun g => (i5.mp g).elim q6 q7
  obtain ⟨N, hN, eN⟩ := m_rng' (n := 10) (by omega) (fun g => q1 (Int32.lt_trans g (by decide))) q2
  have hN1 : 1 ≤ N := by
    rcases Nat.eq_zero_or_pos N with e | e
    · rw [eN, e] at q1; exact absurd (by decide) q1
    · exact e
  obtain ⟨n, hn, en⟩ := m_rng' (n := 30) (by omega) q3 q4
  obtain ⟨p, hp, ep⟩ := m_rng' (n := 1) (by omega) q6 q7
  obtain ⟨B, sz, t1, t2, t3, t4⟩ := h3.2.2 (h 9 0) h9
  obtain ⟨C, eC⟩ : ∃ C, C = m_C (m_tk (m_lx B sz 0)) := ⟨_, rfl⟩
  rw [← eC] at t2
  have tc : m_TC T st h C := ⟨h9, h1, hc, t1, t2⟩
  have rj : m_RJ st h C := ⟨hr, B, sz, t3, t4, eC⟩
  obtain ⟨G, eG⟩ : ∃ G : Nat → Nat, G = fun i => (j_B C n h (ag 1 + nI i) q).toNat := ⟨_, rfl⟩
  have hG : ∀ i, j_su G i ≤ i := fun i => by
    induction i with
    | zero => exact Nat.le_refl _
    | succ i ih =>
      rw [j_su_s]
      have : G i ≤ 1 := by rw [eG]; show (j_B C n h (ag 1 + nI i) q).toNat ≤ 1; generalize j_B C n h (ag 1 + nI i) q = bb; cases bb <;> decide
      omega
  have cC : ∃ s1 v, f_X5_chance_54 (T + 2) 1000 (ag 1) (nI N) (nI n) (nI q) (nI p) 0 0 st = some (v, s1) ∧ m_chv (j_su G N) N p = some v ∧ m_fr m_TF st s1 ∧ (s1 11 1).toNatClampNeg < 70 + 2 * T := by
    refine m_for (σ := Int32 × px_S) (fun f i z => f_X5_chance_54 (T + 2) f (ag 1) (nI N) (nI n) (nI q) (nI p) z.1 (nI i) z.2) N (fun i z => z.1 = nI (j_su G i) ∧ m_fr m_TF st z.2 ∧ (z.2 11 1).toNatClampNeg < 70 + 2 * T) (fun r => ∃ s1 v, r = some (v, s1) ∧ m_chv (j_su G N) N p = some v ∧ m_fr m_TF st s1 ∧ (s1 11 1).toNatClampNeg < 70 + 2 * T) ?_ ?_ N 0 (0, st) 1000 (by omega) ⟨rfl, m_fr_refl _ _, by have := h2.1; rw [px_n2] at this; exact this⟩ (by omega)
    · intro f i z hi hz
      obtain ⟨z1, z2⟩ := z
      obtain ⟨a1, a2, a3⟩ := hz
      simp only at a1 a2 a3 ⊢
      left
      obtain ⟨s0, b1, b2, b3, b4⟩ := m_thinkD hw (m_TC_fr tc a2)
      obtain ⟨g, s1, c1, c2, c3, c4⟩ := m_drawC0 (T := T + 2) hn hw b3 (ag 1 + nI i)
      have hgw := j_Dn_w n h _ hw c2
      have hg7 : g 5 0 < 128 := Nat.lt_of_lt_of_le hgw.2.1 (m_pow7 hgw.1)
      have eB := j_B_eq (q := q) c2
      have f1 : m_fr m_TF st s1 := m_fr_tr a2 (m_fr_tr (m_TFt b2) c3)
      have r1 : (s1 11 1).toNatClampNeg < 70 + 2 * T := by rw [c4]; exact b4
      rw [f_X5_chance_54, if_pos (nI_lt hi (by omega)), m_eq_bind b1, m_eq_bind c1]
      simp only
      rw [b_has _ hg7 q (by omega), nI_1]
      by_cases hb : (g 5 0).testBit q = true
      · rw [if_neg (by rw [if_pos hb]; decide)]
        exact ⟨(z1 + 1, s1), ⟨by simp only; rw [a1, nI_1, j_su_s]; congr 2; rw [eG]; simp only; rw [eB, hb]; rfl, f1, r1⟩, rfl⟩
      · rw [if_pos (by rw [if_neg hb])]
        exact ⟨(z1, s1), ⟨by simp only; rw [a1, j_su_s]; congr 1; rw [eG]; simp only; rw [eB, Bool.eq_false_iff.mpr hb]; rfl, f1, r1⟩, rfl⟩
    · intro f z hz
      obtain ⟨z1, z2⟩ := z
      obtain ⟨a1, a2, a3⟩ := hz
      simp only at a1 a2 a3 ⊢
      have hS := hG N
      have hch := c_ch N (by omega) hN1 (j_su G N) (by omega) hS p (by omega)
      rw [f_X5_chance_54, if_neg (nI_nlt (Nat.le_refl _) (by omega)), a1]
      obtain ⟨v, ev⟩ := Option.isSome_iff_exists.mp hch.1
      refine ⟨z2, v, ?_, ev, a2, a3⟩
      unfold m_chv at ev
      cases ed : f_X5_commonDivisor (nI (j_su G N)) (nI N) with
      | none => rw [ed] at ev; cases ev
      | some g =>
        rw [ed] at ev
        simp only [Option.bind_some] at ev ⊢
        by_cases p0 : nI p = 0
        · rw [if_pos p0] at ev ⊢
          by_cases g0 : g = 0
          · rw [if_pos g0] at ev; cases ev
          · rw [if_neg g0] at ev ⊢; cases ev; rfl
        · rw [if_neg p0] at ev ⊢
          by_cases g0 : g = 0
          · rw [if_pos g0] at ev; cases ev
          · rw [if_neg g0] at ev ⊢; cases ev; rfl
  obtain ⟨s1, v, e1, e2, f1, r1⟩ := cC
  have jr : m_RJ s1 h C := m_RJ_fr rj (fun a h1 h2 => f1 a (by simp [m_TF]; omega))
  have cR : ∃ s2, f_X6_chance_54 T 1000 (ag 1) (nI N) (nI n) (nI q) (nI p) 0 0 s1 = some (v, s2) ∧ m_sc s1 s2 := by
    refine m_for (σ := Int64 × px_S) (fun f i z => f_X6_chance_54 T f (ag 1) (nI N) (nI n) (nI q) (nI p) z.1 (nI i) z.2) N (fun i z => z.1 = lN (j_su G i) ∧ m_sc s1 z.2) (fun r => ∃ s2, r = some (v, s2) ∧ m_sc s1 s2) ?_ ?_ N 0 (0, s1) 1000 (by omega) ⟨rfl, m_sc_refl _⟩ (by omega)
    · intro f i z hi hz
      obtain ⟨z1, z2⟩ := z
      obtain ⟨a1, a2⟩ := hz
      simp only at a1 a2 ⊢
      left
      obtain ⟨g, s2, c1, c2, c3⟩ := m_drawR0 (T := T) hn hw (m_RJ_sc jr a2) (ag 1 + nI i)
      have hgw := j_Dn_w n h _ hw c2
      have hg7 : g 5 0 < 128 := Nat.lt_of_lt_of_le hgw.2.1 (m_pow7 hgw.1)
      have eB := j_B_eq (q := q) c2
      rw [f_X6_chance_54, if_pos (nI_lt hi (by omega)), m_eq_bind c1]
      simp only
      rw [b_shr _ hg7 q (by omega), nI_1]
      refine ⟨(z1 + (if (g 5 0).testBit q = true then (1 : Int32) else 0).toInt64, s2), ⟨?_, m_sc_tr a2 c3⟩, rfl⟩
      simp only
      rw [a1, j_su_s]
      have e1 : (if (g 5 0).testBit q = true then (1 : Int32) else 0).toInt64 = lN (G i) := by
        rw [eG]; simp only; rw [eB]
        cases (g 5 0).testBit q <;> rfl
      rw [e1, lN_add]
    · intro f z hz
      obtain ⟨z1, z2⟩ := z
      obtain ⟨a1, a2⟩ := hz
      simp only at a1 a2 ⊢
      have hS := hG N
      have hch := c_ch N (by omega) hN1 (j_su G N) (by omega) hS p (by omega)
      rw [f_X6_chance_54, if_neg (nI_nlt (Nat.le_refl _) (by omega)), a1, m_ch94]
      have e3 := hch.2
      rw [e2] at e3
      cases ed : f_X6_chance_94 0 1000 (nI N) (nI p) (lN (j_su G N)) (lN (j_su G N)) (nI N).toInt64 (fun _ _ => 0) with
      | none => rw [ed] at e3; cases e3
      | some r =>
        rw [ed] at e3
        simp only [Option.map_some] at e3 ⊢
        cases e3
        exact ⟨z2, rfl, a2⟩
  obtain ⟨s2, e3, f3⟩ := cR
  refine ⟨T, s2, ⟨rfl, v, s1, ?_, ?_⟩, Inv_sc hI0 f1 r1 f3⟩
  · rw [f_X5_chance, if_neg q1, if_neg q2, if_neg q3, if_neg q4, m_eq_bind (m_knC hc.1 (ag 4)), if_neg q5', if_neg q6, if_neg q7, eN, en, eq, ep]; exact e1
  · rw [f_X6_chance, if_neg n2, if_neg n3, m_eq_bind (m_knR hn7 jr.1.1 (ag 4)), if_neg q5', if_neg n5, eN, en, eq, ep]; exact e3
