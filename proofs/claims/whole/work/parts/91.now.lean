theorem op_told {T : Nat} {st : px_S} (ag : px_ag) (hI : Inv T st) : ∃ T2 st2, px_op4 T st ag T2 st2 ∧ Inv T2 st2 := by
  have hI0 := hI
  obtain ⟨h1, h2, h3, h4, h5, h, hh, him⟩ := hI
  have hh0 := hh
  obtain ⟨hw, h9, hc, hr⟩ := hh
  have hn := hw.1
  have hs7 : h 5 0 < 128 := Nat.lt_of_lt_of_le hw.2.1 (m_pow7 hn)
  have hpop := m_pop_le (h 5 0)
  have bad : ∀ v, f_X5_told (T + 2) (ag 1) (ag 2) st = some (v, st) → f_X6_told T (ag 1) (ag 2) st = some (v, st) → ∃ T2 st2, px_op4 T st ag T2 st2 ∧ Inv T2 st2 := fun v e1 e2 => ⟨T, st, ⟨rfl, v, st, e1, e2⟩, hI0⟩
  obtain ⟨k4, k5, k6, k7, k8, k9, kr, kl, ko⟩ := id hc
  obtain ⟨l4, l5, l6, l7, l8, l9, lr, ll, lo⟩ := id hr
  rcases j_kn_cases hn (ag 1) with q1 | ⟨p, hp, ep, q1⟩
  · exact bad _ (by rw [f_X5_told, m_eq_bind (m_knC k4 (ag 1)), if_pos q1]) (by rw [f_X6_told, m_eq_bind (m_knR hn l4 (ag 1)), if_pos q1])
  have q1' : ¬ j_kn (h 4 0) (ag 1) = 0 := by rw [q1]; decide
  have hi := m_i (ag 2) 0 7 (A := 0) (B := 7) rfl rfl
  by_cases q2 : ag 2 < 0
  · have ne : ∀ j : Nat, j < 100 → ¬ ag 2 = nI j := fun j hj e => nI_pos (n := j) (by omega) (by rw [← e]; exact q2)
    exact bad (-100000) (by rw [f_X5_told, m_eq_bind (m_knC k4 (ag 1)), if_neg q1', if_neg (show ¬ ag 2 = 0 from ne 0 (by omega)), if_neg (show ¬ ag 2 = 1 from ne 1 (by omega)), if_neg (show ¬ ag 2 = 2 from ne 2 (by omega)), if_neg (show ¬ ag 2 = 3 from ne 3 (by omega)), if_neg (show ¬ ag 2 = 4 from ne 4 (by omega)), if_neg (show ¬ ag 2 = 5 from ne 5 (by omega)), if_neg (show ¬ ag 2 = 6 from ne 6 (by omega)), if_neg (show ¬ ag 2 = 7 from ne 7 (by omega))]) (by rw [f_X6_told, m_eq_bind (m_knR hn l4 (ag 1)), if_neg q1', if_pos (hi.mpr (Or.inl q2))])
  by_cases q3 : 7 < ag 2
  · have ne : ∀ j : Nat, j ≤ 7 → ¬ ag 2 = nI j := fun j hj e => by
      rw [e, show (7 : Int32) = nI 7 from rfl, nI_ltI (by omega) (by omega)] at q3; omega
    exact bad (-100000) (by rw [f_X5_told, m_eq_bind (m_knC k4 (ag 1)), if_neg q1', if_neg (show ¬ ag 2 = 0 from ne 0 (by omega)), if_neg (show ¬ ag 2 = 1 from ne 1 (by omega)), if_neg (show ¬ ag 2 = 2 from ne 2 (by omega)), if_neg (show ¬ ag 2 = 3 from ne 3 (by omega)), if_neg (show ¬ ag 2 = 4 from ne 4 (by omega)), if_neg (show ¬ ag 2 = 5 from ne 5 (by omega)), if_neg (show ¬ ag 2 = 6 from ne 6 (by omega)), if_neg (show ¬ ag 2 = 7 from ne 7 (by omega))]) (by rw [f_X6_told, m_eq_bind (m_knR hn l4 (ag 1)), if_neg q1', if_pos (hi.mpr (Or.inr q3))])
  have q23 : ¬ p_X6_in (ag 2).toInt64 0 7 = 0 := fun g => (hi.mp g).elim q2 q3
  obtain ⟨a, ha, ea⟩ := m_rng' (n := 7) (by omega) q2 q3
  have hin : px_in (nI p) 7 := m_px (by omega) (by omega)
  have cp : (nI p).toNatClampNeg = p := nI_clamp (by omega)
  have c2 : st 2 p = nI (h 0 p) := (kr p hp).1
  have c3 : st 3 p = nI (h 1 p) := (kr p hp).2
  have c5 : st 5 p = nI (h 3 p) := ko p (by omega)
  have hk := hw.2.2.2.2.2.1 p hp
  have X : ∀ j : Nat, j < 8 → ∀ i : Nat, i < 8 → i ≠ j → ¬ nI j = nI i := fun j hj i hi hne => by rw [nI_eq (by omega) (by omega)]; omega
  have r0 : ∀ t : px_S, t 48 11 = nI (h 4 0) → t 48 12 = nI (h 5 0) → f_X6_told T (ag 1) (ag 2) t = (if nI a < 3 then (if nI a = 0 then (if px_in (nI p) 7 then (some ((t 52 (nI p).toNatClampNeg), t)) else none) else (if nI a = 1 then (if px_in (nI p) 7 then (some ((t 53 (nI p).toNatClampNeg), t)) else none) else (some (((nI (h 5 0) >>> (nI p &&& 31)) &&& 1), t)))) else (if nI a < 6 then (if nI a = 3 then ((f_X6_brings T t (nI p) (nI (m_pop (h 5 0)))).bind fun b15 => (some (b15, t))) else (if nI a = 5 then (f_X6_told_106 T 1 (nI (m_pop (h 5 0))) (nI p) t) else (f_X6_told_106 T 0 (nI (m_pop (h 5 0))) (nI p) t))) else (if nI a = 7 then (if px_in (nI p) 7 then (some ((t 55 (nI p).toNatClampNeg), t)) else none) else ((f_X6_isIn T t (nI p)).bind fun b9 => (if b9 = 0 then (some (0, t)) else ((f_X6_goodOf T (nI p) (nI (h 5 0)) t).bind fun b11 => (some (b11.1, b11.2)))))))) := fun t t1 t2 => by
    rw [f_X6_told, m_eq_bind (m_knR hn t1 (ag 1)), if_neg q1', if_neg q23, t2, m_eq_bind (b_bits _ hs7), ep, ea]
  have c0 : f_X5_told (T + 2) (ag 1) (ag 2) st = (if nI a = 0 then (if px_in (nI p) 7 then (some ((st 2 (nI p).toNatClampNeg), st)) else none) else (if nI a = 1 then (if px_in (nI p) 7 then (some ((st 3 (nI p).toNatClampNeg), st)) else none) else (if nI a = 2 then ((f_X0_isIn (T + 2) st 1 (nI p)).bind fun b8 => (if b8 = 0 then (some (0, st)) else (some (1, st)))) else (if nI a = 3 then ((f_X0_bringsOf (T + 2) st 1 (nI p) (nI (m_pop (h 5 0)))).bind fun b11 => (some (b11, st))) else (if nI a = 4 then ((f_X0_wantsOf (T + 2) st 1 (nI p) (nI (m_pop (h 5 0))) 0).bind fun b13 => (some (b13, st))) else (if nI a = 5 then ((f_X0_wantsOf (T + 2) st 1 (nI p) (nI (m_pop (h 5 0))) 1).bind fun b15 => (some (b15, st))) else (if nI a = 6 then ((f_X0_isIn (T + 2) st 1 (nI p)).bind fun b17 => (if b17 = 0 then (some (0, st)) else ((f_X5_thinking (T + 2) st).bind fun b19 => ((f_X1_goodOf (T + 2) (nI p) (b19 1 5) (nI (m_pop (h 5 0))) b19).bind fun b20 => (some (b20.1, b20.2)))))) else (if nI a = 7 then (if px_in (nI p) 7 then (some ((st 5 (nI p).toNatClampNeg), st)) else none) else (some ((-100000), st)))))))))) := by
    rw [f_X5_told, m_eq_bind (m_knC k4 (ag 1)), if_neg q1', ep, ea, k5, b_pop _ hs7]
  have rs := r0 st l4 l5
  rcases (show a = 0 ∨ a = 1 ∨ a = 2 ∨ a = 3 ∨ a = 4 ∨ a = 5 ∨ a = 6 ∨ a = 7 by omega) with rfl | rfl | rfl | rfl | rfl | rfl | rfl | rfl
  · exact bad (nI (h 0 p)) (by rw [c0, if_pos (show nI 0 = 0 by decide), if_pos hin, cp, c2]) (by rw [rs, if_pos (show nI 0 < 3 by decide), if_pos (show nI 0 = 0 by decide), if_pos hin, cp, (lr p hp).1])
  · exact bad (nI (h 1 p)) (by rw [c0, if_neg (show ¬ nI 1 = 0 by decide), if_pos (show nI 1 = 1 by decide), if_pos hin, cp, c3]) (by rw [rs, if_pos (show nI 1 < 3 by decide), if_neg (show ¬ nI 1 = 0 by decide), if_pos (show nI 1 = 1 by decide), if_pos hin, cp, (lr p hp).2])
  · refine bad (if (h 5 0).testBit p then 1 else 0) ?_ (by rw [rs, if_pos (show nI 2 < 3 by decide), if_neg (show ¬ nI 2 = 0 by decide), if_neg (show ¬ nI 2 = 1 by decide), b_shr _ hs7 p (by omega)])
    rw [c0, if_neg (show ¬ nI 2 = 0 by decide), if_neg (show ¬ nI 2 = 1 by decide), if_pos (show nI 2 = 2 by decide), m_eq_bind (m_inC hw k4 k5 hp)]
    by_cases hb : (h 5 0).testBit p = true
    · rw [if_pos hb, if_neg (by decide)]
    · rw [if_neg hb, if_pos rfl]
  · exact bad (m_brf (h 0 p) (h 1 p) (m_pop (h 5 0))) (by rw [c0, if_neg (show ¬ nI 3 = 0 by decide), if_neg (show ¬ nI 3 = 1 by decide), if_neg (show ¬ nI 3 = 2 by decide), if_pos (show nI 3 = 3 by decide), m_eq_bind (m_bringsC (a := 1) (by omega) (kr p hp).1 (kr p hp).2 hk.1 hk.2 (by omega))]) (by rw [rs, if_neg (show ¬ nI 3 < 3 by decide), if_pos (show nI 3 < 6 by decide), if_pos (show nI 3 = 3 by decide), m_eq_bind (m_bringsR (by omega) (lr p hp).1 (lr p hp).2 hk.1 hk.2 (by omega))])
  · refine bad (m_wtf (h 0 p) (h 1 p) (m_pop (h 5 0)) false) ?_ ?_
    · have := m_wantsC (T := T + 2) (a := 1) (st := st) (m := m_pop (h 5 0)) (show p < 7 by omega) (kr p hp).1 (kr p hp).2 hk.1 hk.2 (by omega) false
      rw [c0, if_neg (show ¬ nI 4 = 0 by decide), if_neg (show ¬ nI 4 = 1 by decide), if_neg (show ¬ nI 4 = 2 by decide), if_neg (show ¬ nI 4 = 3 by decide), if_pos (show nI 4 = 4 by decide), m_eq_bind (show f_X0_wantsOf (T + 2) st 1 (nI p) (nI (m_pop (h 5 0))) 0 = _ from this)]
    · have := m_wantsR (T := T) (st := st) (m := m_pop (h 5 0)) (show p < 7 by omega) (lr p hp).1 (lr p hp).2 hk.1 hk.2 (by omega) false
      rw [rs, if_neg (show ¬ nI 4 < 3 by decide), if_pos (show nI 4 < 6 by decide), if_neg (show ¬ nI 4 = 3 by decide), if_neg (show ¬ nI 4 = 5 by decide), f_X6_told_106, m_eq_bind (show f_X6_wants T st (nI p) (nI (m_pop (h 5 0))) 0 = _ from this)]
  · refine bad (m_wtf (h 0 p) (h 1 p) (m_pop (h 5 0)) true) ?_ ?_
    · have := m_wantsC (T := T + 2) (a := 1) (st := st) (m := m_pop (h 5 0)) (show p < 7 by omega) (kr p hp).1 (kr p hp).2 hk.1 hk.2 (by omega) true
      rw [c0, if_neg (show ¬ nI 5 = 0 by decide), if_neg (show ¬ nI 5 = 1 by decide), if_neg (show ¬ nI 5 = 2 by decide), if_neg (show ¬ nI 5 = 3 by decide), if_neg (show ¬ nI 5 = 4 by decide), if_pos (show nI 5 = 5 by decide), m_eq_bind (show f_X0_wantsOf (T + 2) st 1 (nI p) (nI (m_pop (h 5 0))) 1 = _ from this)]
    · have := m_wantsR (T := T) (st := st) (m := m_pop (h 5 0)) (show p < 7 by omega) (lr p hp).1 (lr p hp).2 hk.1 hk.2 (by omega) true
      rw [rs, if_neg (show ¬ nI 5 < 3 by decide), if_pos (show nI 5 < 6 by decide), if_neg (show ¬ nI 5 = 3 by decide), if_pos (show nI 5 = 5 by decide), f_X6_told_106, m_eq_bind (show f_X6_wants T st (nI p) (nI (m_pop (h 5 0))) 1 = _ from this)]
  · by_cases hb : (h 5 0).testBit p = true
    · obtain ⟨C, s0, e0, f0, k0, j0, r2, q0⟩ := m_thinkC h1 h3 hh0
      obtain ⟨s1, e1, f1⟩ := m_goodC k0 hw (show p < 7 by omega) hw.2.1 (m := m_pop (h 5 0)) (by omega)
      have f01 : m_fr m_TF st s1 := m_fr_tr (m_TFt f0) (m_TFj (m_f2j f1))
      have r48 : ∀ a, 48 ≤ a → a ≤ 55 → s1 a = st a := fun a h1 h2 => f01 a (by simp [m_TF]; omega)
      obtain ⟨s2, e2, f2⟩ := m_goodR (T := T) (m_RJ_fr q0 r48) hw hp hw.2.1 (c_pop2 _ hs7 p (by omega) hb)
      refine ⟨T, s2, ⟨rfl, j_gd h C p (h 5 0) (m_pop (h 5 0)), s1, ?_, ?_⟩, Inv_sc hI0 f01 (by rw [f1 11 (by decide)]; exact r2) (m_rs_sc f2)⟩
      · have e5 : s0 1 5 = nI (h 5 0) := by rw [f0 1 (by decide)]; exact k5
        rw [c0, if_neg (show ¬ nI 6 = 0 by decide), if_neg (show ¬ nI 6 = 1 by decide), if_neg (show ¬ nI 6 = 2 by decide), if_neg (show ¬ nI 6 = 3 by decide), if_neg (show ¬ nI 6 = 4 by decide), if_neg (show ¬ nI 6 = 5 by decide), if_pos (show nI 6 = 6 by decide), m_eq_bind (m_inC hw k4 k5 hp), if_pos hb, if_neg (by decide), m_eq_bind e0, e5, m_eq_bind e1]
      · have r48' : s1 48 = st 48 := r48 48 (by omega) (by omega)
        rw [r0 s1 (by rw [r48']; exact l4) (by rw [r48']; exact l5), if_neg (show ¬ nI 6 < 3 by decide), if_neg (show ¬ nI 6 < 6 by decide), if_neg (show ¬ nI 6 = 7 by decide), m_eq_bind (m_inR hw (by rw [r48']; exact l4) (by rw [r48']; exact l5) hp), if_pos hb, if_neg (by decide), m_eq_bind e2]
    · exact bad 0 (by rw [c0, if_neg (show ¬ nI 6 = 0 by decide), if_neg (show ¬ nI 6 = 1 by decide), if_neg (show ¬ nI 6 = 2 by decide), if_neg (show ¬ nI 6 = 3 by decide), if_neg (show ¬ nI 6 = 4 by decide), if_neg (show ¬ nI 6 = 5 by decide), if_pos (show nI 6 = 6 by decide), m_eq_bind (m_inC hw k4 k5 hp), if_neg hb, if_pos rfl]) (by rw [rs, if_neg (show ¬ nI 6 < 3 by decide), if_neg (show ¬ nI 6 < 6 by decide), if_neg (show ¬ nI 6 = 7 by decide), m_eq_bind (m_inR hw l4 l5 hp), if_neg hb, if_pos rfl])
  · exact bad (nI (h 3 p)) (by rw [c0, if_neg (show ¬ nI 7 = 0 by decide), if_neg (show ¬ nI 7 = 1 by decide), if_neg (show ¬ nI 7 = 2 by decide), if_neg (show ¬ nI 7 = 3 by decide), if_neg (show ¬ nI 7 = 4 by decide), if_neg (show ¬ nI 7 = 5 by decide), if_neg (show ¬ nI 7 = 6 by decide), if_pos (show nI 7 = 7 by decide), if_pos hin, cp, c5]) (by rw [rs, if_neg (show ¬ nI 7 < 3 by decide), if_neg (show ¬ nI 7 < 6 by decide), if_pos (show nI 7 = 7 by decide), if_pos hin, cp, lo p hp])
theorem op_now {T : Nat} {st : px_S} (ag : px_ag) (hI : Inv T st) : ∃ T2 st2, px_op9 T st ag T2 st2 ∧ Inv T2 st2 := by
  have hI0 := hI
  obtain ⟨h1, h2, h3, h4, h5, h, hh, him⟩ := hI
  have hh0 := hh
  obtain ⟨hw, h9, hc, hr⟩ := hh
  have hi := m_i (ag 1) 0 2 (A := 0) (B := 2) rfl rfl
  by_cases q1 : ag 1 < 0
  · exact ⟨T, st, ⟨rfl, -2, st, by rw [f_X5_now, if_pos q1], by rw [f_X6_now, if_pos (hi.mpr (Or.inl q1))]⟩, hI0⟩
  by_cases q2 : 2 < ag 1
  · exact ⟨T, st, ⟨rfl, -2, st, by rw [f_X5_now, if_neg q1, if_pos q2], by rw [f_X6_now, if_pos (hi.mpr (Or.inr q2))]⟩, hI0⟩
  obtain ⟨C, s1, e1, f1, r1, k1, c1, j1⟩ := m_tohC h1 h3 hh0
  obtain ⟨fb, fo, g1, g2, g3⟩ := m_foC (T := T + 2) c1
  have ga := m_allC (T := T + 2) c1
  obtain ⟨s2, e2, f2, l2, _⟩ := m_looksR (T := T) j1 hw hw.2.1
  obtain ⟨s3, e3, f3, n3, F3⟩ := m_goesR (T := T) (m_RQ_of (m_RJ_sc j1 f2) hw l2) hw hw.2.1
  obtain ⟨u1, u2⟩ := j_F1_uni g2 F3
  have hsc : m_sc s1 s3 := m_sc_tr f2 (m_sc_48 f3 (by intro j hj; simp at hj; omega))
  have r12 : s1 48 12 = nI (h 5 0) := j1.1.2.1
  have r0 : f_X6_now T (ag 1) s1 = (if ag 1 = 0 then (some ((s3 48 35), s3)) else (if ag 1 = 1 then (some ((s3 48 36), s3)) else (some ((s3 48 37), s3)))) := by
    rw [f_X6_now, if_neg (fun g => (hi.mp g).elim q1 q2), r12, m_eq_bind e2, m_eq_bind e3]
  have c0 : f_X5_now (T + 2) (ag 1) st = (if ag 1 = 0 then (if fo = (-1) then (some ((-1), s1)) else ((f_X1_firstBand (T + 2) s1 fo).bind fun b9 => (some (b9, s1)))) else (if ag 1 = 1 then (some (fo, s1)) else (some (nI (j_su (fun q => j_cn (j_ag h C (h 5 0) (h 3) q) (h 7 0)) 7), s1)))) := by
    rw [f_X5_now, if_neg q1, if_neg q2, m_eq_bind e1, m_eq_bind g1, ga, Option.bind_some]
  refine ⟨T, s3, ?_, Inv_sc hI0 f1 r1 hsc⟩
  by_cases a0 : ag 1 = 0
  · refine ⟨rfl, fb, s1, ?_, by rw [r0, if_pos a0, u1]⟩
    rw [c0, if_pos a0]
    by_cases b0 : fo = -1
    · rw [if_pos b0]
      rcases g2 with ⟨x1, _, _⟩ | ⟨b, q, x1, x2, x3, x4, _⟩
      · rw [x1]
      · rw [x4] at b0; exact absurd b0 (m_n1 (by omega))
    · rw [if_neg b0, m_eq_bind (g3 b0)]
  · by_cases a1 : ag 1 = 1
    · exact ⟨rfl, fo, s1, by rw [c0, if_neg a0, if_pos a1], by rw [r0, if_neg a0, if_pos a1, u2]⟩
    · exact ⟨rfl, _, s1, by rw [c0, if_neg a0, if_neg a1], by rw [r0, if_neg a0, if_neg a1, n3]⟩
theorem m_kn0 {n q : Nat} (h : n ≤ q) (hq : q < 2 ^ 31) : j_kn n (nI q) = 0 := by
  rw [j_kn, if_neg (nI_pos hq), if_neg (nI_nlt h hq)]
theorem m_kn1 {n q : Nat} (h : q < n) (hn : n ≤ 7) : j_kn n (nI q) = 1 := by
  rw [j_kn, if_neg (nI_pos (by omega)), if_pos (nI_lt h (by omega))]
theorem j_bt_tail {P : Nat → Bool} {n : Nat} : ∀ k, (∀ i, n ≤ i → i < n + k → P i = false) → j_bt P (n + k) = j_bt P n
  | 0, _ => rfl
  | k + 1, h => by rw [← Nat.add_assoc, j_bt, h (n + k) (by omega) (by omega), j_bt_tail k (fun i h1 h2 => h i h1 (by omega))]; simp
theorem op_safe {T : Nat} {st : px_S} (ag : px_ag) (hI : Inv T st) : ∃ T2 st2, px_op13 T st ag T2 st2 ∧ Inv T2 st2 := by
  have hI0 := hI
  obtain ⟨h1, h2, h3, h4, h5, h, hh, him⟩ := hI
  have hh0 := hh
  obtain ⟨hw, h9, hc, hr⟩ := hh
  have hn := hw.1
  obtain ⟨C, s1, e1, f1, r1, k1, c1, j1⟩ := m_tohC h1 h3 hh0
  obtain ⟨s2, e2, f2, l2, _⟩ := m_looksR (T := T) j1 hw hw.2.1
  have j2 := m_RJ_sc j1 f2
  have rq := m_RQ_of j2 hw l2
  have r12 : s1 48 12 = nI (h 5 0) := j1.1.2.1
  obtain ⟨P, eP⟩ : ∃ P : Nat → Bool, P = fun q => (h 5 0).testBit q && decide (m_pop (j_ag h C (h 5 0) (h 3) q) < h 7 0) := ⟨_, rfl⟩
  have r1' : s1 1 = st 1 := f1 1 (by decide)
  have cA : f_X5_safe (T + 2) st = some (nI (j_bt P 7), s1) := by
    rw [f_X5_safe, m_eq_bind e1]
    refine m_for (σ := Int32) (fun f i z => f_X5_safe_9 (T + 2) f z (nI i) s1) 7 (fun i z => z = nI (j_bt P i)) (fun r => r = some (nI (j_bt P 7), s1)) ?_ ?_ 7 0 0 1000 (by omega) rfl (by omega)
    · intro f i z hi hz
      left
      rw [f_X5_safe_9, if_pos (m_7 hi), nI_1]
      have no : P i = false → ∃ s', s' = nI (j_bt P (i + 1)) ∧ f_X5_safe_9 (T + 2) f z (nI (i + 1)) s1 = f_X5_safe_9 (T + 2) f s' (nI (i + 1)) s1 := fun hp => ⟨z, by rw [hz, j_bt, hp]; simp, rfl⟩
      rcases Nat.lt_or_ge i (h 4 0) with hl | hl
      · rw [m_eq_bind (m_inC hw (by rw [r1']; exact hc.1) (by rw [r1']; exact hc.2.1) hl)]
        by_cases hb : (h 5 0).testBit i = true
        · rw [if_pos hb, if_neg (by decide), m_eq_bind (m_safeC c1 hi)]
          by_cases hs : m_pop (j_ag h C (h 5 0) (h 3) i) < h 7 0
          · have hp : P i = true := by rw [eP]; simp [hb, hs]
            rw [if_pos hs, if_neg (by decide), b_bit i (by omega), hz]
            refine ⟨_, ?_, rfl⟩
            have := m_orbit (P := P) hi true hp
            rw [if_pos rfl] at this
            exact this
          · rw [if_neg hs, if_pos rfl]; exact no (by rw [eP]; simp [hs])
        · rw [if_neg hb, if_pos rfl]; exact no (by rw [eP]; simp [hb])
      · rw [m_eq_bind (m_inC0 (T := T + 2) (a := 1) (by rw [r1']; exact hc.1) (m_kn0 hl (by omega))), if_pos rfl]
        exact no (by rw [eP]; simp [m_lt_bit hw.2.1 hl])
    · intro f z hz
      rw [f_X5_safe_9, if_neg (by decide), hz]
  have cB : f_X6_safe T s1 = some (nI (j_bt P 7), s2) := by
    have e7 : j_bt P 7 = j_bt P (h 4 0) := by
      have := j_bt_tail (P := P) (n := h 4 0) (7 - h 4 0) (fun i h1 _ => by rw [eP]; simp [m_lt_bit hw.2.1 h1])
      rw [show h 4 0 + (7 - h 4 0) = 7 by omega] at this
      exact this
    rw [f_X6_safe, r12, m_eq_bind e2, e7]
    refine m_for (σ := Int32) (fun f i z => f_X6_safe_12 T f z (nI i) s2) (h 4 0) (fun i z => z = nI (j_bt P i)) (fun r => r = some (nI (j_bt P (h 4 0)), s2)) ?_ ?_ (h 4 0) 0 0 1000 (by omega) rfl (by omega)
    · intro f i z hi hz
      left
      have hi7 : i < 7 := by omega
      have z0 : (0 : Int32) <<< (nI i &&& 31) = 0 := by
        have : ∀ i, i < 8 → (0 : Int32) <<< (nI i &&& 31) = 0 := by decide +kernel
        exact this i (by omega)
      have no : P i = false → ∃ s', s' = nI (j_bt P (i + 1)) ∧ f_X6_safe_12 T f (z ||| 0) (nI (i + 1)) s2 = f_X6_safe_12 T f s' (nI (i + 1)) s2 := fun hp => ⟨z ||| 0, by
        have := m_orbit (P := P) hi7 false hp
        rw [if_neg (by decide)] at this
        rw [hz]; exact this, rfl⟩
      rw [f_X6_safe_12, j2.1.1, if_pos (nI_lt hi (by omega)), m_eq_bind (m_inR hw j2.1.1 j2.1.2.1 hi), nI_1, z0]
      by_cases hb : (h 5 0).testBit i = true
      · rw [if_pos hb, if_neg (by decide), m_eq_bind (m_safeR rq hw hw.2.1 hi7)]
        by_cases hs : m_pop (j_ag h C (h 5 0) (h 3) i) < h 7 0
        · have hp : P i = true := by rw [eP]; simp [hb, hs]
          rw [if_pos hs, if_neg (by decide), b_sh1 i (by omega), hz]
          refine ⟨_, ?_, rfl⟩
          have := m_orbit (P := P) hi7 true hp
          rw [if_pos rfl] at this
          exact this
        · rw [if_neg hs, if_pos rfl]; exact no (by rw [eP]; simp [hs])
      · rw [if_neg hb, if_pos rfl]; exact no (by rw [eP]; simp [hb])
    · intro f z hz
      rw [f_X6_safe_12, j2.1.1, if_neg (nI_nlt (Nat.le_refl _) (by omega)), hz]
  exact ⟨T, s2, ⟨rfl, _, s1, cA, cB⟩, Inv_sc hI0 f1 r1 f2⟩
theorem op_shield {T : Nat} {st : px_S} (ag : px_ag) (hI : Inv T st) : ∃ T2 st2, px_op16 T st ag T2 st2 ∧ Inv T2 st2 := by
  have hI0 := hI
  obtain ⟨h1, h2, h3, h4, h5, h, hh, him⟩ := hI
  have hh0 := hh
  obtain ⟨hw, h9, hc, hr⟩ := hh
  have hn := hw.1
  have hs7 : h 5 0 < 128 := Nat.lt_of_lt_of_le hw.2.1 (m_pow7 hn)
  have bad : f_X5_shield (T + 2) (ag 1) (ag 2) st = some (-2, st) → f_X6_shield T (ag 1) (ag 2) st = some (-2, st) → ∃ T2 st2, px_op16 T st ag T2 st2 ∧ Inv T2 st2 := fun e1 e2 => ⟨T, st, ⟨rfl, -2, st, e1, e2⟩, hI0⟩
  rcases j_kn_cases hn (ag 1) with q1 | ⟨p, hp, ep, q1⟩
  · exact bad (by rw [f_X5_shield, m_eq_bind (m_inC0 (T := T + 2) hc.1 q1), if_pos rfl]) (by rw [f_X6_shield, m_eq_bind (m_inR0 hn hr.1 q1), if_pos rfl])
  by_cases hb : (h 5 0).testBit p = true
  case neg => exact bad (by rw [f_X5_shield, ep, m_eq_bind (m_inC hw hc.1 hc.2.1 hp), if_neg hb, if_pos rfl]) (by rw [f_X6_shield, ep, m_eq_bind (m_inR hw hr.1 hr.2.1 hp), if_neg hb, if_pos rfl])
  rcases j_kn_cases hn (ag 2) with q2 | ⟨q, hq, eq, q2⟩
  · exact bad (by rw [f_X5_shield, ep, m_eq_bind (m_inC hw hc.1 hc.2.1 hp), if_pos hb, if_neg (by decide), m_eq_bind (m_knC hc.1 (ag 2)), if_pos q2]) (by rw [f_X6_shield, ep, m_eq_bind (m_inR hw hr.1 hr.2.1 hp), if_pos hb, if_neg (by decide), m_eq_bind (m_knR hn hr.1 (ag 2)), if_pos q2])
  have q2' : ¬ j_kn (h 4 0) (nI q) = 0 := by rw [← eq, q2]; decide
  by_cases hb2 : (h 5 0).testBit q = true
  · exact bad (by rw [f_X5_shield, ep, m_eq_bind (m_inC hw hc.1 hc.2.1 hp), if_pos hb, if_neg (by decide), m_eq_bind (m_knC hc.1 (ag 2)), eq, if_neg q2', m_eq_bind (m_inC hw hc.1 hc.2.1 hq), if_pos hb2, if_neg (by decide)]) (by rw [f_X6_shield, ep, m_eq_bind (m_inR hw hr.1 hr.2.1 hp), if_pos hb, if_neg (by decide), m_eq_bind (m_knR hn hr.1 (ag 2)), eq, if_neg q2', m_eq_bind (m_inR hw hr.1 hr.2.1 hq), if_pos hb2, if_neg (by decide)])
  have hq7 : q < 7 := by omega
  have hs' : h 5 0 ||| 2 ^ q < 2 ^ h 4 0 := Nat.or_lt_two_pow hw.2.1 (Nat.pow_lt_pow_right (by omega) hq)
  obtain ⟨C, s0, e0, f0, k0, j0, r0, q0⟩ := m_thinkC h1 h3 hh0
  obtain ⟨s1, e1, f1, l1, k1, j1, _⟩ := m_lookC k0 hw hs'
  have f01 : m_fr m_TF st s1 := m_fr_tr (m_TFt f0) (m_TFl f1)
  have j1' : m_RJ s1 h C := m_RJ_fr q0 (fun a h1 h2 => f01 a (by simp [m_TF]; omega))
  obtain ⟨s2, e2, f2, l2, _⟩ := m_looksR (T := T) j1' hw hs'
  have rq := m_RQ_of (m_RJ_sc j1' f2) hw l2
  have c1 := m_CQ_of hw k1 l1
  have e5 : s0 1 5 = nI (h 5 0) := by rw [f0 1 (by decide)]; exact hc.2.1
  refine ⟨T, s2, ⟨rfl, (if m_pop (j_ag h C (h 5 0 ||| 2 ^ q) (h 3) p) < h 7 0 then 1 else 0), s1, ?_, ?_⟩, Inv_sc hI0 f01 (by rw [j1 1 (by decide)]; exact r0) f2⟩
  · rw [f_X5_shield, ep, m_eq_bind (m_inC hw hc.1 hc.2.1 hp), if_pos hb, if_neg (by decide), m_eq_bind (m_knC hc.1 (ag 2)), eq, if_neg q2', m_eq_bind (m_inC hw hc.1 hc.2.1 hq), if_neg hb2, if_pos rfl, m_eq_bind e0, e5, b_bit q (by omega), b_or _ hs7 _ (m_bit2 q hq7), m_eq_bind e1, m_eq_bind (m_safeC c1 (by omega))]
    by_cases g : m_pop (j_ag h C (h 5 0 ||| 2 ^ q) (h 3) p) < h 7 0
    · rw [if_pos g, if_neg (by decide)]
    · rw [if_neg g, if_pos rfl]
  · rw [f_X6_shield, ep, m_eq_bind (m_inR hw j1'.1.1 j1'.1.2.1 hp), if_pos hb, if_neg (by decide), m_eq_bind (m_knR hn j1'.1.1 (ag 2)), eq, if_neg q2', m_eq_bind (m_inR hw j1'.1.1 j1'.1.2.1 hq), if_neg hb2, if_pos rfl, j1'.1.2.1, b_sh1 q (by omega), b_or _ hs7 _ (m_bit2 q hq7), m_eq_bind e2, m_eq_bind (m_safeR rq hw hs' (by omega))]
    by_cases g : m_pop (j_ag h C (h 5 0 ||| 2 ^ q) (h 3) p) < h 7 0
    · rw [if_pos g, if_neg (by decide)]
    · rw [if_neg g, if_pos rfl]
