/-- the reference's copying, upward or downward -/
theorem m_copyR {T : Nat} {st : px_S} {s o i j n : Nat} (hs : s < 4) (ho : o < 4) (hi : i + n ≤ 40) (hj : j + n ≤ 40) (u : Bool) (hu : u = true → (40 * s + i ≤ 40 * o + j)) (hd : u = false → s = o → j ≤ i) (hse : u = true → s = o) : ∃ z, f_X6_copy_121 T 1000 (nI s) (nI i) (nI o) (nI j) (nI n) (if u then 1 else 0) 0 st = some (nI n, z) ∧ m_fr [69] st z ∧ ∀ x, x < 160 → z 69 x = if 40 * o + j ≤ x ∧ x < 40 * o + j + n then st 69 (40 * s + i + (x - (40 * o + j))) else st 69 x := by
  refine m_for (σ := px_S) (fun f k z => f_X6_copy_121 T f (nI s) (nI i) (nI o) (nI j) (nI n) (if u then 1 else 0) (nI k) z) n (fun k z => m_fr [69] st z ∧ ∀ x, x < 160 → z 69 x = if (if u then 40 * o + j + (n - k) ≤ x ∧ x < 40 * o + j + n else 40 * o + j ≤ x ∧ x < 40 * o + j + k) then st 69 (40 * s + i + (x - (40 * o + j))) else st 69 x) (fun r => ∃ z, r = some (nI n, z) ∧ m_fr [69] st z ∧ ∀ x, x < 160 → z 69 x = if 40 * o + j ≤ x ∧ x < 40 * o + j + n then st 69 (40 * s + i + (x - (40 * o + j))) else st 69 x) ?_ ?_ n 0 st 1000 (by omega) ⟨m_fr_refl _ _, fun x hx => ?_⟩ (by omega)
  · intro f k z hk hz
    obtain ⟨z1, z2⟩ := hz
    left
    have e145 : ∀ q, q < n → f_X6_copy_145 T (f_X6_copy_121 T f) (nI s) (nI i) (nI o) (nI j) (nI n) (if u then 1 else 0) (nI k) (nI q) z = f_X6_copy_121 T f (nI s) (nI i) (nI o) (nI j) (nI n) (if u then 1 else 0) (nI (k + 1)) (up z 69 (40 * o + j + q) (z 69 (40 * s + i + q))) := fun q hq => by
      rw [f_X6_copy_145, m_ix40, m_ix40, nI_add, nI_add, if_pos (m_px (by omega) (by omega)), if_pos (m_px (by omega) (by omega)), nI_clamp (by omega), nI_clamp (by omega), nI_1]
    cases u with
    | true =>
      have hso := hse rfl
      have hle := hu rfl
      refine ⟨up z 69 (40 * o + j + (n - 1 - k)) (z 69 (40 * s + i + (n - 1 - k))), ⟨m_fr_up z1 (by simp) _ _, fun x hx => ?_⟩, ?_⟩
      · rw [m_up, if_pos rfl, z2 x hx, z2 (40 * s + i + (n - 1 - k)) (by omega)]
        simp only [if_true]
        rw [if_neg (show ¬ (40 * o + j + (n - k) ≤ 40 * s + i + (n - 1 - k) ∧ 40 * s + i + (n - 1 - k) < 40 * o + j + n) by omega)]
        by_cases e : x = 40 * o + j + (n - 1 - k)
        · rw [if_pos e, if_pos (by omega)]; congr 1; omega
        · rw [if_neg e]
          by_cases c : 40 * o + j + (n - k) ≤ x ∧ x < 40 * o + j + n
          · rw [if_pos c, if_pos (by omega)]
          · rw [if_neg c, if_neg (by omega)]
      · show f_X6_copy_121 T (f + 1) (nI s) (nI i) (nI o) (nI j) (nI n) (if true then 1 else 0) (nI k) z = _
        rw [f_X6_copy_121, if_pos (nI_lt hk (by omega)), if_neg (by decide), show (1 : Int32) = nI 1 from rfl, pk_sub (by omega), pk_sub (by omega)]
        exact e145 (n - 1 - k) (by omega)
    | false =>
      refine ⟨up z 69 (40 * o + j + k) (z 69 (40 * s + i + k)), ⟨m_fr_up z1 (by simp) _ _, fun x hx => ?_⟩, ?_⟩
      · rw [m_up, if_pos rfl, z2 x hx, z2 (40 * s + i + k) (by omega)]
        simp only [Bool.false_eq_true, if_false]
        have hno : ¬ (40 * o + j ≤ 40 * s + i + k ∧ 40 * s + i + k < 40 * o + j + k) := fun g => by
          by_cases hso : s = o
          · have := hd rfl hso; omega
          · omega
        rw [if_neg hno]
        by_cases e : x = 40 * o + j + k
        · rw [if_pos e, if_pos (by omega)]; congr 1; omega
        · rw [if_neg e]
          by_cases c : 40 * o + j ≤ x ∧ x < 40 * o + j + k
          · rw [if_pos c, if_pos (by omega)]
          · rw [if_neg c, if_neg (by omega)]
      · show f_X6_copy_121 T (f + 1) (nI s) (nI i) (nI o) (nI j) (nI n) (if false = true then 1 else 0) (nI k) z = _
        rw [f_X6_copy_121, if_pos (nI_lt hk (by omega)), if_pos (show (if false = true then (1 : Int32) else 0) = 0 from rfl)]
        exact e145 k hk
  · intro f z hz
    obtain ⟨z1, z2⟩ := hz
    rw [f_X6_copy_121, if_neg (nI_nlt (Nat.le_refl _) (by omega))]
    refine ⟨z, rfl, z1, fun x hx => ?_⟩
    rw [z2 x hx]
    cases u with
    | true =>
      simp only [if_true]
      by_cases c : 40 * o + j ≤ x ∧ x < 40 * o + j + n
      · rw [if_pos c, if_pos (by omega)]
      · rw [if_neg c, if_neg (by omega)]
    | false =>
      simp only [Bool.false_eq_true, if_false]
  · cases u with
    | true => simp only [if_true]; rw [if_neg (by omega)]
    | false => simp only [Bool.false_eq_true, if_false]; rw [if_neg (by omega)]
theorem op_copy {T : Nat} {st : px_S} (ag : px_ag) (hI : Inv T st) : ∃ T2 st2, px_op26 T st ag T2 st2 ∧ Inv T2 st2 := by
  have hI0 := hI
  obtain ⟨h1, h2, h3, h4, h5, h, ⟨hw, h9, hc, hr⟩, him⟩ := hI
  have bad : ∀ v, f_X5_copy (T + 2) (ag 1) (ag 2) (ag 3) (ag 4) (ag 5) st = some (v, st) → f_X6_copy T (ag 1) (ag 2) (ag 3) (ag 4) (ag 5) st = some (v, st) → ∃ T2 st2, px_op26 T st ag T2 st2 ∧ Inv T2 st2 := fun v e1 e2 => ⟨T, st, ⟨rfl, v, st, e1, e2⟩, hI0⟩
  rcases m_sh_cases (ag 1) with q1 | ⟨s, hs, es, q1⟩
  · exact bad _ (by rw [f_X5_copy, if_pos q1]) (by rw [f_X6_copy, m_eq_bind (m_shR _), if_pos q1])
  have q1' : ¬ p_X5_isSheet (ag 1) = 0 := by rw [q1]; decide
  rcases m_sh_cases (ag 3) with q2 | ⟨o, ho, eo, q2⟩
  · exact bad _ (by rw [f_X5_copy, if_neg q1', if_pos q2]) (by rw [f_X6_copy, m_eq_bind (m_shR _), if_neg q1', m_eq_bind (m_shR _), if_pos q2])
  have q2' : ¬ p_X5_isSheet (ag 3) = 0 := by rw [q2]; decide
  have hin : px_in (nI s) 4 := m_px hs (by omega)
  have hin2 : px_in (nI o) 4 := m_px ho (by omega)
  have cs : (nI s).toNatClampNeg = s := nI_clamp (by omega)
  have co : (nI o).toNatClampNeg = o := nI_clamp (by omega)
  have c0 : f_X5_copy (T + 2) (ag 1) (ag 2) (ag 3) (ag 4) (ag 5) st = ((f_X3_isMissing (T + 2) st (38 + 2 * s)).bind fun b7 => (if b7 = 0 then ((f_X3_isMissing (T + 2) st (38 + 2 * o)).bind fun b9 => (if b9 = 0 then (if (st (38 + 2 * s) 1) = (st (38 + 2 * o) 1) then ((f_X3_reaches (T + 2) st (38 + 2 * s) (ag 2) (ag 5)).bind fun b12 => (if b12 = 0 then (some ((-12), st)) else ((f_X3_reaches (T + 2) st (38 + 2 * o) (ag 4) (ag 5)).bind fun b14 => (if b14 = 0 then (some ((-12), st)) else (if (¬ ag 2 < 0 ∧ ¬ ag 4 < 0 ∧ ¬ ag 5 < 0) ∧ (ag 2).toNatClampNeg + (ag 5).toNatClampNeg ≤ 40 ∧ (ag 4).toNatClampNeg + (ag 5).toNatClampNeg ≤ 40 then (px_let (upr st ((38 + 2 * o) + 1) (va_cpy (st ((38 + 2 * s) + 1)) (st ((38 + 2 * o) + 1)) (ag 2).toNatClampNeg (ag 4).toNatClampNeg (ag 5).toNatClampNeg)) fun s16 => (some (ag 5, s16))) else none))))) else (some ((-13), st))) else (some ((-11), st)))) else (some ((-11), st)))) := by
    rw [f_X5_copy, if_neg q1', if_neg q2', es, eo, if_pos hin, if_pos hin2, cs, co]
  have r0 : ∀ t : px_S, f_X6_copy T (ag 1) (ag 2) (ag 3) (ag 4) (ag 5) t = (if (t 66 s) = 0 then (some ((-11), t)) else (if (t 66 o) = 0 then (some ((-11), t)) else (if (t 67 s) = (t 67 o) then (if ag 5 < 0 then (some ((-12), t)) else (if ag 2 < 0 then (some ((-12), t)) else (if ag 4 < 0 then (some ((-12), t)) else (if ((t 68 s) - ag 5) < ag 2 then (some ((-12), t)) else (if ((t 68 o) - ag 5) < ag 4 then (some ((-12), t)) else (if nI s = nI o then (if ag 2 < ag 4 then (f_X6_copy_121 T 1000 (nI s) (ag 2) (nI o) (ag 4) (ag 5) 1 0 t) else (f_X6_copy_121 T 1000 (nI s) (ag 2) (nI o) (ag 4) (ag 5) 0 0 t)) else (f_X6_copy_121 T 1000 (nI s) (ag 2) (nI o) (ag 4) (ag 5) 0 0 t))))))) else (some ((-13), t))))) := fun t => by
    rw [f_X6_copy, m_eq_bind (m_shR _), if_neg q1', m_eq_bind (m_shR _), if_neg q2', es, eo]
    simp only [if_pos hin, if_pos hin2, cs, co]
  rcases m_missC (T := T + 2) (h5 s hs) with ⟨m1, m2⟩ | ⟨so, n, hso, hn, m1, m2, m3, m4, m5, m6, m7⟩
  · exact bad (-11) (by rw [c0, m_eq_bind m1, if_neg (by decide)]) (by rw [r0, if_pos m2])
  have m4' : ¬ st 66 s = 0 := by rw [m4]; decide
  rcases m_missC (T := T + 2) (h5 o ho) with ⟨p1, p2⟩ | ⟨so2, n2, hso2, hn2, p1, p2, p3, p4, p5, p6, p7⟩
  · exact bad (-11) (by rw [c0, m_eq_bind m1, if_pos rfl, m_eq_bind p1, if_neg (by decide)]) (by rw [r0, if_neg m4', if_pos p2])
  have p4' : ¬ st 66 o = 0 := by rw [p4]; decide
  by_cases q3 : so = so2
  case neg =>
    have ne : ¬ nI so = nI so2 := by rw [nI_eq (by omega) (by omega)]; exact q3
    exact bad (-13) (by rw [c0, m_eq_bind m1, if_pos rfl, m_eq_bind p1, if_pos rfl, m2, p2, if_neg ne]) (by rw [r0, if_neg m4', if_neg p4', m5, p5, if_neg ne])
  subst q3
  have c1 : f_X5_copy (T + 2) (ag 1) (ag 2) (ag 3) (ag 4) (ag 5) st = ((f_X3_reaches (T + 2) st (38 + 2 * s) (ag 2) (ag 5)).bind fun b12 => (if b12 = 0 then (some ((-12), st)) else ((f_X3_reaches (T + 2) st (38 + 2 * o) (ag 4) (ag 5)).bind fun b14 => (if b14 = 0 then (some ((-12), st)) else (if (¬ ag 2 < 0 ∧ ¬ ag 4 < 0 ∧ ¬ ag 5 < 0) ∧ (ag 2).toNatClampNeg + (ag 5).toNatClampNeg ≤ 40 ∧ (ag 4).toNatClampNeg + (ag 5).toNatClampNeg ≤ 40 then (px_let (upr st ((38 + 2 * o) + 1) (va_cpy (st ((38 + 2 * s) + 1)) (st ((38 + 2 * o) + 1)) (ag 2).toNatClampNeg (ag 4).toNatClampNeg (ag 5).toNatClampNeg)) fun s16 => (some (ag 5, s16))) else none))))) := by
    rw [c0, m_eq_bind m1, if_pos rfl, m_eq_bind p1, if_pos rfl, m2, p2, if_pos rfl]
  have r1 : ∀ t : px_S, t 66 s = 1 → t 66 o = 1 → t 67 s = nI so → t 67 o = nI so → t 68 s = nI n → t 68 o = nI n2 → f_X6_copy T (ag 1) (ag 2) (ag 3) (ag 4) (ag 5) t = (if ag 5 < 0 then (some ((-12), t)) else (if ag 2 < 0 then (some ((-12), t)) else (if ag 4 < 0 then (some ((-12), t)) else (if (nI n - ag 5) < ag 2 then (some ((-12), t)) else (if (nI n2 - ag 5) < ag 4 then (some ((-12), t)) else (if nI s = nI o then (if ag 2 < ag 4 then (f_X6_copy_121 T 1000 (nI s) (ag 2) (nI o) (ag 4) (ag 5) 1 0 t) else (f_X6_copy_121 T 1000 (nI s) (ag 2) (nI o) (ag 4) (ag 5) 0 0 t)) else (f_X6_copy_121 T 1000 (nI s) (ag 2) (nI o) (ag 4) (ag 5) 0 0 t))))))) := fun t a b c d e f => by
    rw [r0, a, b, c, d, e, f, if_neg (by decide), if_neg (by decide), if_pos rfl]
  have r2 := r1 st m4 p4 m5 p5 m6 p6
  by_cases q5 : ag 5 < 0
  · exact bad (-12) (by rw [c1, m_eq_bind (m_reach0 (Or.inr q5)), if_pos rfl]) (by rw [r2, if_pos q5])
  by_cases q6 : ag 2 < 0
  · exact bad (-12) (by rw [c1, m_eq_bind (m_reach0 (Or.inl q6)), if_pos rfl]) (by rw [r2, if_neg q5, if_pos q6])
  obtain ⟨c, hc31, ec⟩ := nI_of q5
  obtain ⟨i, hi31, ei⟩ := nI_of q6
  have e1 : ((nI n - ag 5) < ag 2) ↔ ¬ (i + c ≤ n) := by
    rw [ec, ei, Int32.lt_iff_toInt_lt, m_subS hn hc31, nI_toInt hi31]; omega
  have reach1 : f_X3_reaches (T + 2) st (38 + 2 * s) (ag 2) (ag 5) = some (if i + c ≤ n then 1 else 0) := by rw [ec, ei]; exact m_reach hn m3 hi31 hc31
  by_cases q7 : ag 4 < 0
  · refine bad (-12) ?_ (by rw [r2, if_neg q5, if_neg q6, if_pos q7])
    rw [c1, m_eq_bind reach1]
    by_cases g : i + c ≤ n
    · rw [if_pos g, if_neg (by decide), m_eq_bind (m_reach0 (Or.inl q7)), if_pos rfl]
    · rw [if_neg g, if_pos rfl]
  obtain ⟨j, hj31, ej⟩ := nI_of q7
  have e2 : ((nI n2 - ag 5) < ag 4) ↔ ¬ (j + c ≤ n2) := by
    rw [ec, ej, Int32.lt_iff_toInt_lt, m_subS hn2 hc31, nI_toInt hj31]; omega
  have reach2 : f_X3_reaches (T + 2) st (38 + 2 * o) (ag 4) (ag 5) = some (if j + c ≤ n2 then 1 else 0) := by rw [ec, ej]; exact m_reach hn2 p3 hj31 hc31
  by_cases g1 : i + c ≤ n
  case neg => exact bad (-12) (by rw [c1, m_eq_bind reach1, if_neg g1, if_pos rfl]) (by rw [r2, if_neg q5, if_neg q6, if_neg q7, if_pos (e1.mpr g1)])
  by_cases g2 : j + c ≤ n2
  case neg => exact bad (-12) (by rw [c1, m_eq_bind reach1, if_pos g1, if_neg (by decide), m_eq_bind reach2, if_neg g2, if_pos rfl]) (by rw [r2, if_neg q5, if_neg q6, if_neg q7, if_neg (fun g => e1.mp g g1), if_pos (e2.mpr g2)])
  obtain ⟨s1, es1⟩ : ∃ s1, s1 = upr st (39 + 2 * o) (va_cpy (st (39 + 2 * s)) (st (39 + 2 * o)) i j c) := ⟨_, rfl⟩
  have d1 : f_X5_copy (T + 2) (ag 1) (ag 2) (ag 3) (ag 4) (ag 5) st = some (nI c, s1) := by
    rw [c1, m_eq_bind reach1, if_pos g1, if_neg (by decide), m_eq_bind reach2, if_pos g2, if_neg (by decide), ec, ei, ej, nI_clamp hc31, nI_clamp hi31, nI_clamp hj31, if_pos ⟨⟨nI_pos hi31, nI_pos hj31, nI_pos hc31⟩, by omega, by omega⟩, m_let, es1, show 38 + 2 * o + 1 = 39 + 2 * o by omega, show 38 + 2 * s + 1 = 39 + 2 * s by omega]
  have rr : ∀ a, a ≠ 39 + 2 * o → s1 a = st a := fun a ha => by rw [es1, m_upr, if_neg ha]
  have d2 : ∃ z, f_X6_copy T (ag 1) (ag 2) (ag 3) (ag 4) (ag 5) s1 = some (nI c, z) ∧ m_fr [69] s1 z ∧ ∀ x, x < 160 → z 69 x = if 40 * o + j ≤ x ∧ x < 40 * o + j + c then s1 69 (40 * s + i + (x - (40 * o + j))) else s1 69 x := by
    rw [r1 s1 (by rw [rr 66 (by omega)]; exact m4) (by rw [rr 66 (by omega)]; exact p4) (by rw [rr 67 (by omega)]; exact m5) (by rw [rr 67 (by omega)]; exact p5) (by rw [rr 68 (by omega)]; exact m6) (by rw [rr 68 (by omega)]; exact p6), if_neg q5, if_neg q6, if_neg q7, if_neg (fun g => e1.mp g g1), if_neg (fun g => e2.mp g g2), ec, ei, ej]
    by_cases k1 : s = o
    · rw [if_pos (by rw [k1])]
      by_cases k2 : i < j
      · rw [if_pos (nI_lt k2 hj31)]
        exact m_copyR hs ho (by omega) (by omega) true (fun _ => by omega) (fun g => absurd g (by decide)) (fun _ => k1)
      · rw [if_neg (nI_nlt (by omega) hi31)]
        exact m_copyR hs ho (by omega) (by omega) false (fun g => absurd g (by decide)) (fun _ _ => by omega) (fun g => absurd g (by decide))
    · rw [if_neg (by rw [nI_eq (by omega) (by omega)]; exact k1)]
      exact m_copyR hs ho (by omega) (by omega) false (fun g => absurd g (by decide)) (fun _ e => absurd e k1) (fun g => absurd g (by decide))
  obtain ⟨s2, d2, f2, g3⟩ := d2
  have row : ∀ a, a ≠ 39 + 2 * o → a ≠ 69 → s2 a = st a := fun a ha hb => by rw [f2 a (by simp; omega), rr a ha]
  have s169 : s1 69 = st 69 := rr 69 (by omega)
  refine ⟨T, s2, ⟨rfl, _, s1, d1, d2⟩, Inv_shf hI0 (fun a ha => ?_) (fun k hk => ?_)⟩
  · simp only [List.mem_cons, List.not_mem_nil, or_false, not_or] at ha
    exact row a (by omega) (by omega)
  · by_cases e : k = o
    · subst e
      right
      refine ⟨so, n2, hso, hn2, by rw [row _ (by omega) (by omega)]; exact p2, by rw [row _ (by omega) (by omega)]; exact p3, by rw [row _ (by omega) (by omega)]; exact p4, by rw [row _ (by omega) (by omega)]; exact p5, by rw [row _ (by omega) (by omega)]; exact p6, fun b hb => ?_⟩
      rw [g3 _ (by omega), s169, f2 _ (by simp; omega), es1, m_upr, if_pos rfl]
      by_cases in1 : j ≤ b ∧ b < j + c
      · rw [pk_cpy_in in1.1 in1.2, if_pos (by omega), m7 _ (by omega)]; congr 1; omega
      · rw [pk_cpy_out (by omega), if_neg (by omega)]; exact p7 b hb
    · exact I_s1_eq (h5 k hk) (row _ (by omega) (by omega)) (row _ (by omega) (by omega)) (by rw [row _ (by omega) (by omega)]) (by rw [row _ (by omega) (by omega)]) (by rw [row _ (by omega) (by omega)]) (fun b hb => by rw [g3 _ (by omega), if_neg (by omega), s169])
/-- likes, three by three -/
def j_lk (R : Nat → Int32) (f : Nat) (h : px_H) : Nat → px_H × Nat
  | 0 => (h, 0)
  | t + 1 => ((j_like (j_lk R f h t).1 (R (f + 3 * t)) (R (f + 3 * t + 1)) (R (f + 3 * t + 2))).2, (j_lk R f h t).2 + (if (j_like (j_lk R f h t).1 (R (f + 3 * t)) (R (f + 3 * t + 1)) (R (f + 3 * t + 2))).1 = -2 then 0 else 1))
theorem j_lk_ok {R : Nat → Int32} {f : Nat} {h : px_H} (hw : m_HW h) : ∀ t, m_HW (j_lk R f h t).1 ∧ (j_lk R f h t).1 4 0 = h 4 0 ∧ (j_lk R f h t).1 0 = h 0 ∧ (j_lk R f h t).1 9 0 = h 9 0 ∧ (j_lk R f h t).2 ≤ t
  | 0 => ⟨hw, rfl, rfl, rfl, Nat.le_refl _⟩
  | t + 1 => by
    obtain ⟨a, b, c, d, e⟩ := j_lk_ok (R := R) (f := f) hw t
    have k := j_like_ok a (R (f + 3 * t)) (R (f + 3 * t + 1)) (R (f + 3 * t + 2))
    refine ⟨k.1, k.2.1.trans b, k.2.2.1.trans c, k.2.2.2.1.trans d, ?_⟩
    rw [j_lk]
    by_cases g : (j_like (j_lk R f h t).1 (R (f + 3 * t)) (R (f + 3 * t + 1)) (R (f + 3 * t + 2))).1 = -2
    · simp only [if_pos g]; omega
    · simp only [if_neg g]; omega
/-- how far the reading comes -/
def m_far (f z n t : Nat) : Prop := (t = n ∨ t < n ∧ z < f + 3 * t + 3) ∧ t ≤ n ∧ ∀ u, u < t → f + 3 * u + 3 ≤ z
theorem m_far_uni {f z n t u : Nat} (h : m_far f z n t) (k : m_far f z n u) : t = u := by
  obtain ⟨h1, h2, h3⟩ := h
  obtain ⟨k1, k2, k3⟩ := k
  rcases Nat.lt_trichotomy t u with g | g | g
  · have := k3 t g; omega
  · exact g
  · have := h3 u g; omega
theorem m_lkC {T k z n f : Nat} {st : px_S} {h : px_H} (hw : m_HW h) (hc : m_HC st 1 h) (hk : k < 4) (hz : z ≤ 40) (h2 : st (38 + 2 * k) 2 = nI z) (hn : n ≤ 13) (hf : f ≤ 40) : ∃ t s1, m_far f z n t ∧ f_X5_likeByTriples T (38 + 2 * k) (nI f) (nI n) st = some (if t = n then nI (j_lk (st (39 + 2 * k)) f h t).2 else -12, s1) ∧ m_fr [4] st s1 ∧ m_HC s1 1 (j_lk (st (39 + 2 * k)) f h t).1 := by
  rw [f_X5_likeByTriples]
  refine m_for (σ := Int32 × px_S) (fun fu i y => f_X5_likeByTriples_6 T (38 + 2 * k) fu (nI f) (nI n) y.1 (nI i) y.2) n (fun i y => y.1 = nI (j_lk (st (39 + 2 * k)) f h i).2 ∧ m_fr [4] st y.2 ∧ m_HC y.2 1 (j_lk (st (39 + 2 * k)) f h i).1 ∧ ∀ u, u < i → f + 3 * u + 3 ≤ z) (fun r => ∃ t s1, m_far f z n t ∧ r = some (if t = n then nI (j_lk (st (39 + 2 * k)) f h t).2 else -12, s1) ∧ m_fr [4] st s1 ∧ m_HC s1 1 (j_lk (st (39 + 2 * k)) f h t).1) ?_ ?_ n 0 (0, st) 1000 (by omega) ⟨rfl, m_fr_refl _ _, hc, fun u hu => by omega⟩ (by omega)
  · intro fu i y hi hy
    obtain ⟨y1, y2⟩ := y
    obtain ⟨a1, a2, a3, a4⟩ := hy
    simp only at a1 a2 a3 a4 ⊢
    have e3 : nI f + (3 : Int32) * nI i = nI (f + 3 * i) := by rw [show (3 : Int32) = nI 3 from rfl, pk_mul, nI_add]
    have r39 : y2 (38 + 2 * k + 1) = st (39 + 2 * k) := by rw [show 38 + 2 * k + 1 = 39 + 2 * k by omega]; exact a2 _ (by simp; omega)
    rw [f_X5_likeByTriples_6, if_pos (nI_lt hi (by omega)), e3, m_eq_bind (show f_X3_reaches T y2 (38 + 2 * k) (nI (f + 3 * i)) 3 = _ from m_reach (n := 3) hz (by rw [a2 _ (by simp; omega)]; exact h2) (by omega) (by omega))]
    by_cases g : f + 3 * i + 3 ≤ z
    · left
      have o := j_lk_ok (R := st (39 + 2 * k)) (f := f) hw i
      obtain ⟨s1, e1, f1, c1⟩ := m_likeC (T := T) o.1 a3 (st (39 + 2 * k) (f + 3 * i)) (st (39 + 2 * k) (f + 3 * i + 1)) (st (39 + 2 * k) (f + 3 * i + 2))
      have n1 : nI (f + 3 * i) + 1 = nI (f + 3 * i + 1) := nI_1 _
      have n2 : nI (f + 3 * i) + 2 = nI (f + 3 * i + 2) := nI_add (f + 3 * i) 2
      rw [if_pos g, if_neg (by decide), n1, n2, if_pos (m_px (by omega) (by omega)), if_pos (m_px (by omega) (by omega)), if_pos (m_px (by omega) (by omega)), nI_clamp (n := f + 3 * i) (by omega), nI_clamp (n := f + 3 * i + 1) (by omega), nI_clamp (n := f + 3 * i + 2) (by omega), r39, m_eq_bind e1, nI_1]
      have last : ∀ u, u < i + 1 → f + 3 * u + 3 ≤ z := fun u hu => by
        rcases Nat.lt_or_ge u i with hl | hl
        · exact a4 u hl
        · rw [show u = i by omega]; exact g
      by_cases b : (j_like (j_lk (st (39 + 2 * k)) f h i).1 (st (39 + 2 * k) (f + 3 * i)) (st (39 + 2 * k) (f + 3 * i + 1)) (st (39 + 2 * k) (f + 3 * i + 2))).1 = -2
      · simp only [if_pos b]
        exact ⟨(y1, s1), ⟨by simp only [j_lk, if_pos b, Nat.add_zero]; exact a1, m_fr_tr a2 f1, c1, last⟩, rfl⟩
      · simp only [if_neg b]
        exact ⟨(y1 + 1, s1), ⟨by simp only [j_lk, if_neg b]; rw [a1, nI_1], m_fr_tr a2 f1, c1, last⟩, rfl⟩
    · right
      rw [if_neg g, if_pos rfl]
      exact ⟨i, y2, ⟨Or.inr ⟨hi, by omega⟩, by omega, a4⟩, by rw [if_neg (by omega)], a2, a3⟩
  · intro fu y hy
    obtain ⟨y1, y2⟩ := y
    obtain ⟨a1, a2, a3, a4⟩ := hy
    simp only at a1 a2 a3 a4 ⊢
    rw [f_X5_likeByTriples_6, if_neg (nI_nlt (Nat.le_refl _) (by omega))]
    exact ⟨n, y2, ⟨Or.inl rfl, Nat.le_refl _, a4⟩, by rw [if_pos rfl, a1], a2, a3⟩
theorem m_lkR {T k z n f : Nat} {st : px_S} {h : px_H} {R : Nat → Int32} (hw : m_HW h) (hr : m_HR st h) (hk : k < 4) (hz : z ≤ 40) (h2 : st 68 k = nI z) (hR : ∀ i, i < z → R i = st 69 (40 * k + i)) (hn : n ≤ 13) (hf : f ≤ 40) : ∃ t s1, m_far f z n t ∧ f_X6_likes_75 T 1000 (nI k) (nI f) (nI n) 0 0 st = some (if t = n then nI (j_lk R f h t).2 else -12, s1) ∧ m_fr [54] st s1 ∧ m_HR s1 (j_lk R f h t).1 := by
  refine m_for (σ := Int32 × px_S) (fun fu i y => f_X6_likes_75 T fu (nI k) (nI f) (nI n) y.1 (nI i) y.2) n (fun i y => y.1 = nI (j_lk R f h i).2 ∧ m_fr [54] st y.2 ∧ m_HR y.2 (j_lk R f h i).1 ∧ ∀ u, u < i → f + 3 * u + 3 ≤ z) (fun r => ∃ t s1, m_far f z n t ∧ r = some (if t = n then nI (j_lk R f h t).2 else -12, s1) ∧ m_fr [54] st s1 ∧ m_HR s1 (j_lk R f h t).1) ?_ ?_ n 0 (0, st) 1000 (by omega) ⟨rfl, m_fr_refl _ _, hr, fun u hu => by omega⟩ (by omega)
  · intro fu i y hi hy
    obtain ⟨y1, y2⟩ := y
    obtain ⟨a1, a2, a3, a4⟩ := hy
    simp only at a1 a2 a3 a4 ⊢
    have e3 : ((40 : Int32) * nI k + nI f) + (3 : Int32) * nI i = nI (40 * k + (f + 3 * i)) := by rw [m_ix40, show (3 : Int32) = nI 3 from rfl, pk_mul, nI_add]; congr 1; omega
    have n1 : nI (40 * k + (f + 3 * i)) + 1 = nI (40 * k + (f + 3 * i + 1)) := by rw [nI_1]; congr 1
    have n2 : nI (40 * k + (f + 3 * i)) + 2 = nI (40 * k + (f + 3 * i + 2)) := by rw [show (2 : Int32) = nI 2 from rfl, nI_add]; congr 1
    have r69 : y2 69 = st 69 := a2 69 (by decide)
    have r68 : y2 68 k = nI z := by rw [a2 68 (by decide)]; exact h2
    have hcmp : (((nI z - (3 : Int32) * nI i) - 3) < nI f) ↔ ¬ (f + 3 * i + 3 ≤ z) := by
      rw [show (3 : Int32) = nI 3 from rfl, pk_mul, Int32.lt_iff_toInt_lt]
      have b1 : (nI z - nI (3 * i)).toInt = (z : Int) - ((3 * i : Nat) : Int) := m_subS hz (by omega)
      have b3 : (nI 3).toInt = 3 := nI_toInt (by omega)
      rw [m_subI (by omega) (by omega), b1, b3, nI_toInt (by omega)]
      omega
    rw [f_X6_likes_75, if_pos (nI_lt hi (by omega)), if_neg (nI_pos (by omega)), if_pos (m_px (by omega) (by omega)), nI_clamp (n := k) (by omega), r68]
    by_cases g : f + 3 * i + 3 ≤ z
    · left
      have o := j_lk_ok (R := R) (f := f) hw i
      obtain ⟨s1, e1, f1, c1⟩ := m_likeR (T := T) o.1 a3 (R (f + 3 * i)) (R (f + 3 * i + 1)) (R (f + 3 * i + 2))
      rw [if_neg (fun q => hcmp.mp q g), e3, n1, n2, if_pos (m_px (by omega) (by omega)), if_pos (m_px (by omega) (by omega)), if_pos (m_px (by omega) (by omega)), nI_clamp (by omega), nI_clamp (by omega), nI_clamp (by omega), r69, ← hR _ (by omega), ← hR _ (by omega), ← hR _ (by omega), m_eq_bind e1, nI_1]
      have last : ∀ u, u < i + 1 → f + 3 * u + 3 ≤ z := fun u hu => by
        rcases Nat.lt_or_ge u i with hl | hl
        · exact a4 u hl
        · rw [show u = i by omega]; exact g
      rcases o.1 |> fun w => (j_like_ok w (R (f + 3 * i)) (R (f + 3 * i + 1)) (R (f + 3 * i + 2))).2.2.2.2 with b | ⟨v, hv, b⟩
      · have nb : (j_like (j_lk R f h i).1 (R (f + 3 * i)) (R (f + 3 * i + 1)) (R (f + 3 * i + 2))).1 < 0 := by rw [b]; decide
        simp only [if_pos nb]
        exact ⟨(y1 + 0, s1), ⟨by simp only [j_lk, if_pos b, Nat.add_zero, Int32.add_zero]; exact a1, m_fr_tr a2 f1, c1, last⟩, rfl⟩
      · have nb : ¬ (j_like (j_lk R f h i).1 (R (f + 3 * i)) (R (f + 3 * i + 1)) (R (f + 3 * i + 2))).1 < 0 := by rw [b]; exact nI_pos (by omega)
        have b' : ¬ (j_like (j_lk R f h i).1 (R (f + 3 * i)) (R (f + 3 * i + 1)) (R (f + 3 * i + 2))).1 = -2 := fun q => nb (by rw [q]; decide)
        simp only [if_neg nb]
        exact ⟨(y1 + 1, s1), ⟨by simp only [j_lk, if_neg b']; rw [a1, nI_1], m_fr_tr a2 f1, c1, last⟩, rfl⟩
    · right
      rw [if_pos (hcmp.mpr g)]
      exact ⟨i, y2, ⟨Or.inr ⟨hi, by omega⟩, by omega, a4⟩, by rw [if_neg (by omega)], a2, a3⟩
  · intro fu y hy
    obtain ⟨y1, y2⟩ := y
    obtain ⟨a1, a2, a3, a4⟩ := hy
    simp only at a1 a2 a3 a4 ⊢
    rw [f_X6_likes_75, if_neg (nI_nlt (Nat.le_refl _) (by omega))]
    exact ⟨n, y2, ⟨Or.inl rfl, Nat.le_refl _, a4⟩, by rw [if_pos rfl, a1], a2, a3⟩
theorem op_likes {T : Nat} {st : px_S} (ag : px_ag) (hI : Inv T st) : ∃ T2 st2, px_op27 T st ag T2 st2 ∧ Inv T2 st2 := by
  have hI0 := hI
  obtain ⟨h1, h2, h3, h4, h5, h, ⟨hw, h9, hc, hr⟩, him⟩ := hI
  have bad : ∀ v, f_X5_likes (T + 2) (ag 1) (ag 2) (ag 3) (ag 4) st = some (v, st) → f_X6_likes T (ag 1) (ag 2) (ag 3) (ag 4) st = some (v, st) → ∃ T2 st2, px_op27 T st ag T2 st2 ∧ Inv T2 st2 := fun v e1 e2 => ⟨T, st, ⟨rfl, v, st, e1, e2⟩, hI0⟩
  rcases m_sh_cases (ag 1) with q1 | ⟨k, hk, ek, q1⟩
  · exact bad _ (by rw [f_X5_likes, if_pos q1]) (by rw [f_X6_likes, m_eq_bind (m_shR _), if_pos q1])
  have q1' : ¬ p_X5_isSheet (ag 1) = 0 := by rw [q1]; decide
  have hi := m_i (ag 2) 0 2 (A := 0) (B := 2) rfl rfl
  have hi4 := m_i (ag 4) 0 13 (A := 0) (B := 13) rfl rfl
  by_cases q2 : ag 2 < 0
  · exact bad _ (by rw [f_X5_likes, if_neg q1', if_pos q2]) (by rw [f_X6_likes, m_eq_bind (m_shR _), if_neg q1', if_pos (hi.mpr (Or.inl q2))])
  by_cases q3 : 2 < ag 2
  · exact bad _ (by rw [f_X5_likes, if_neg q1', if_neg q2, if_neg (fun g => (m_lt3 _).mp g q3)]) (by rw [f_X6_likes, m_eq_bind (m_shR _), if_neg q1', if_pos (hi.mpr (Or.inr q3))])
  have q23 : ¬ p_X6_in (ag 2).toInt64 0 2 = 0 := fun g => (hi.mp g).elim q2 q3
  by_cases q4 : ag 4 < 0
  · exact bad _ (by rw [f_X5_likes, if_neg q1', if_neg q2, if_pos ((m_lt3 _).mpr q3), if_pos q4]) (by rw [f_X6_likes, m_eq_bind (m_shR _), if_neg q1', if_neg q23, if_pos (hi4.mpr (Or.inl q4))])
  by_cases q5 : 13 < ag 4
  · exact bad _ (by rw [f_X5_likes, if_neg q1', if_neg q2, if_pos ((m_lt3 _).mpr q3), if_neg q4, if_pos q5]) (by rw [f_X6_likes, m_eq_bind (m_shR _), if_neg q1', if_neg q23, if_pos (hi4.mpr (Or.inr q5))])
  have q45 : ¬ p_X6_in (ag 4).toInt64 0 13 = 0 := fun g => (hi4.mp g).elim q4 q5
  have hin : px_in (nI k) 4 := m_px hk (by omega)
  have ck : (nI k).toNatClampNeg = k := nI_clamp (by omega)
  have c0 : f_X5_likes (T + 2) (ag 1) (ag 2) (ag 3) (ag 4) st = ((f_X3_isMissing (T + 2) st (38 + 2 * k)).bind fun b11 => (if b11 = 0 then (if (st (38 + 2 * k) 1) = ag 2 then (f_X5_likes_59 (T + 2) (ag 3) (ag 4) (38 + 2 * k) st) else (some ((-13), st))) else (f_X5_likes_59 (T + 2) (ag 3) (ag 4) (38 + 2 * k) st))) := by
    rw [f_X5_likes, if_neg q1', if_neg q2, if_pos ((m_lt3 _).mpr q3), if_neg q4, if_neg q5, ek, if_pos hin, ck]
  have r0 : ∀ t : px_S, f_X6_likes T (ag 1) (ag 2) (ag 3) (ag 4) t = (if (t 66 k) = 0 then (f_X6_likes_57 T (nI k) (ag 3) (ag 4) t) else (if (t 67 k) = ag 2 then (f_X6_likes_57 T (nI k) (ag 3) (ag 4) t) else (some ((-13), t)))) := fun t => by
    rw [f_X6_likes, m_eq_bind (m_shR _), if_neg q1', if_neg q23, if_neg q45, ek]
    simp only [if_pos hin, ck]
  have r57 : ∀ t : px_S, f_X6_likes_57 T (nI k) (ag 3) (ag 4) t = (if (t 66 k) = 0 then (some ((-11), t)) else (f_X6_likes_75 T 1000 (nI k) (ag 3) (ag 4) 0 0 t)) := fun t => by
    rw [f_X6_likes_57, if_pos hin]
    simp only [ck]
  rcases m_missC (T := T + 2) (h5 k hk) with ⟨m1, m2⟩ | ⟨so, z, hso, hz, m1, m2, m3, m4, m5, m6, m7⟩
  · exact bad (-11) (by rw [c0, m_eq_bind m1, if_neg (by decide), f_X5_likes_59, m_eq_bind m1, if_neg (by decide)]) (by rw [r0, if_pos m2, r57, if_pos m2])
  have m4' : ∀ t : px_S, t 66 k = 1 → ¬ t 66 k = 0 := fun t g => by rw [g]; decide
  by_cases q6 : nI so = ag 2
  case neg => exact bad (-13) (by rw [c0, m_eq_bind m1, if_pos rfl, m2, if_neg q6]) (by rw [r0, if_neg (m4' st m4), m5, if_neg q6])
  have c1 : f_X5_likes (T + 2) (ag 1) (ag 2) (ag 3) (ag 4) st = ((f_X5_likeByTriples (T + 2) (38 + 2 * k) (ag 3) (ag 4) st).bind fun b3 => (some (b3.1, b3.2))) := by
    rw [c0, m_eq_bind m1, if_pos rfl, m2, if_pos q6, f_X5_likes_59, m_eq_bind m1, if_pos rfl]
  have r1 : ∀ t : px_S, t 66 k = 1 → t 67 k = nI so → f_X6_likes T (ag 1) (ag 2) (ag 3) (ag 4) t = f_X6_likes_75 T 1000 (nI k) (ag 3) (ag 4) 0 0 t := fun t a b => by
    rw [r0, if_neg (m4' t a), b, if_pos q6, r57, if_neg (m4' t a)]
  obtain ⟨n, hn, en⟩ := m_rng' (n := 13) (by omega) q4 q5
  have zero : n = 0 → ∃ T2 st2, px_op27 T st ag T2 st2 ∧ Inv T2 st2 := fun h0 => by
    refine bad 0 ?_ ?_
    · rw [c1, en, h0, f_X5_likeByTriples, f_X5_likeByTriples_6, if_neg (by decide)]; rfl
    · rw [r1 st m4 m5, en, h0, f_X6_likes_75, if_neg (by decide)]
  have first : 0 < n → f_X3_reaches (T + 2) st (38 + 2 * k) (ag 3) 3 = some 0 → (ag 3 < 0 ∨ (nI z - 3) < ag 3) → ∃ T2 st2, px_op27 T st ag T2 st2 ∧ Inv T2 st2 := fun h0 hre hlt => by
    have z0 : ag 3 + (3 : Int32) * 0 = ag 3 := by rw [Int32.mul_zero, Int32.add_zero]
    have pn : (0 : Int32) < nI n := by rw [show (0 : Int32) = nI 0 from rfl]; exact nI_lt h0 (by omega)
    refine bad (-12) ?_ ?_
    · rw [c1, en, f_X5_likeByTriples, f_X5_likeByTriples_6, if_pos pn, z0, m_eq_bind hre, if_pos rfl]; rfl
    · rw [r1 st m4 m5, en, f_X6_likes_75, if_pos pn]
      by_cases g : ag 3 < 0
      · rw [if_pos g]
      · rw [if_neg g, if_pos hin, ck, m6, Int32.mul_zero, Int32.sub_zero, if_pos (hlt.resolve_left g)]
  rcases Nat.eq_zero_or_pos n with h0 | h0
  · exact zero h0
  by_cases q7 : ag 3 < 0
  · exact first h0 (m_reach0 (Or.inl q7)) (Or.inl q7)
  obtain ⟨f, hf31, ef⟩ := nI_of q7
  by_cases q8 : f + 3 ≤ z
  case neg =>
    refine first h0 (by rw [ef]; have := m_reach (T := T + 2) (n := 3) hz m3 hf31 (by omega); rw [if_neg q8] at this; exact this) (Or.inr ?_)
    rw [ef, show (3 : Int32) = nI 3 from rfl, Int32.lt_iff_toInt_lt, m_subS hz (by omega), nI_toInt hf31]; omega
  obtain ⟨t, s1, ft, e1, f1, k1⟩ := m_lkC (T := T + 2) (f := f) hw hc hk hz m3 hn (by omega)
  have hr1 : m_HR s1 h := m_HR_eq hr (fun j _ => by rw [f1 48 (by decide)]) (fun a ha => f1 a (by simp; omega))
  obtain ⟨u, s2, fu, e2, f2, k2⟩ := m_lkR (T := T) (f := f) (R := st (39 + 2 * k)) hw hr1 hk hz (by rw [f1 68 (by decide)]; exact m6) (fun i hi => by rw [f1 69 (by decide)]; exact m7 i hi) hn (by omega)
  have htu := m_far_uni ft fu
  subst htu
  obtain ⟨o1, o2, o3, o4, _⟩ := j_lk_ok (R := st (39 + 2 * k)) (f := f) hw t
  have row : ∀ a, a ≠ 4 → a ≠ 54 → s2 a = st a := fun a ha hb => by rw [f2 a (by simp; omega), f1 a (by simp; omega)]
  refine ⟨T, s2, ⟨rfl, _, s1, by rw [c1, en, ef, m_eq_bind e1], by rw [r1 s1 (by rw [f1 66 (by decide)]; exact m4) (by rw [f1 67 (by decide)]; exact m5), en, ef]; exact e2⟩, Inv_ho (h := h) hI0 him (fun a ha => ?_) (fun j _ => by rw [row 48 (by omega) (by omega)]) ⟨o1, by rw [o4]; exact h9, m_HC_eq k1 (f2 _ (by decide)) (f2 _ (by decide)) (f2 _ (by decide)) (f2 _ (by decide)) (f2 _ (by decide)), k2⟩ (by rw [o2]; exact Nat.le_refl _) (fun j _ => by rw [o3])⟩
  simp only [List.mem_cons, List.not_mem_nil, or_false, not_or] at ha
  exact row a (by omega) (by omega)
