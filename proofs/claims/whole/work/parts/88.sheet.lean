theorem Inv_shf {T : Nat} {st st2 : px_S} (hI : Inv T st) (f : m_fr [38, 39, 40, 41, 42, 43, 44, 45, 66, 67, 68, 69] st st2) (hs : I_sh st2) : Inv T st2 := by
  obtain ⟨h1, h2, h3, h4, h5, h, ⟨hw, h9, hc, hr⟩, him⟩ := hI
  have row : ∀ a, ¬ (38 ≤ a ∧ a ≤ 45) → ¬ (66 ≤ a ∧ a ≤ 69) → st2 a = st a := fun a ha hb => f a (by simp only [List.mem_cons, List.not_mem_nil, or_false, not_or]; omega)
  have o0 : st2 0 = st 0 := row 0 (by omega) (by omega)
  have o48 : st2 48 = st 48 := row 48 (by omega) (by omega)
  refine ⟨h1, ⟨?_, fun j hj => ?_⟩, I_tx_fr h3 (by rw [o0]) (by rw [o48]) (fun a ha => row a (by omega) (by omega)), I_tp_fr h4 (by rw [row 31 (by omega) (by omega)]) (by rw [o48]) (fun a ha => row a (by omega) (by omega)), hs, h, ⟨hw, h9, m_HC_eq hc (row _ (by omega) (by omega)) (row _ (by omega) (by omega)) (row _ (by omega) (by omega)) (row _ (by omega) (by omega)) (row _ (by omega) (by omega)), m_HR_eq hr (fun j _ => by rw [o48]) (fun a ha => row a (by omega) (by omega))⟩, I_im_fr him (by rw [o0]) (fun j _ => by rw [o48]) (fun a ha => row a (by omega) (by omega))⟩
  · rw [row 11 (by omega) (by omega)]; exact h2.1
  · rw [row 36 (by omega) (by omega)]; exact h2.2 j hj
theorem I_s1_eq {st st' : px_S} {k : Nat} (h : I_s1 st k) (a : st' (38 + 2 * k) = st (38 + 2 * k)) (b : st' (39 + 2 * k) = st (39 + 2 * k)) (c : st' 66 k = st 66 k) (d : st' 67 k = st 67 k) (e : st' 68 k = st 68 k) (f : ∀ i, i < 40 → st' 69 (40 * k + i) = st 69 (40 * k + i)) : I_s1 st' k := by
  unfold I_s1 at *
  rw [a, b, c, d, e]
  rcases h with h | ⟨so, n, h1, h2, h3, h4, h5, h6, h7, h8⟩
  · exact Or.inl h
  · exact Or.inr ⟨so, n, h1, h2, h3, h4, h5, h6, h7, fun i hi => by rw [f i (by omega)]; exact h8 i hi⟩
theorem m_shR (x : Int32) : f_X6_isSheet x = some (p_X5_isSheet x) := by
  have e : p_X6_in x.toInt64 0 3 = p_X5_isSheet x := by
    rw [show (0 : Int64) = (0 : Int32).toInt64 from rfl, show (3 : Int64) = (3 : Int32).toInt64 from rfl, m_in, p_X5_isSheet]
    by_cases h1 : x < 0
    · rw [if_pos h1, if_pos h1]
    · rw [if_neg h1, if_neg h1]
      by_cases h2 : x < 4
      · rw [if_pos h2, if_neg ((m_lt4 x).mp h2)]
      · rw [if_neg h2, if_pos (Classical.not_not.mp (fun g => h2 ((m_lt4 x).mpr g)))]
  rw [f_X6_isSheet, e, if_pos]
  unfold p_X5_isSheet
  by_cases h1 : x < 0
  · rw [if_pos h1]; exact Or.inl rfl
  · rw [if_neg h1]
    by_cases h2 : x < 4
    · rw [if_pos h2]; exact Or.inr rfl
    · rw [if_neg h2]; exact Or.inl rfl
theorem m_sh_cases (x : Int32) : p_X5_isSheet x = 0 ∨ ∃ k, k < 4 ∧ x = nI k ∧ p_X5_isSheet x = 1 := by
  unfold p_X5_isSheet
  by_cases h1 : x < 0
  · rw [if_pos h1]; exact Or.inl rfl
  · rw [if_neg h1]
    by_cases h2 : x < 4
    · obtain ⟨k, hk, e⟩ := m_rng (n := 4) (by omega) h1 h2
      rw [if_pos h2]; exact Or.inr ⟨k, hk, e, rfl⟩
    · rw [if_neg h2]; exact Or.inl rfl
theorem m_subS {a c : Nat} (ha : a ≤ 40) (hc : c < 2 ^ 31) : (nI a - nI c).toInt = (a : Int) - (c : Int) := by
  rw [Int32.toInt_sub, nI_toInt (by omega), nI_toInt hc]
  exact Int.bmod_eq_of_le (by omega) (by omega)
theorem m_reach {T a : Nat} {st : px_S} {z : Nat} (hz : z ≤ 40) (h2 : st a 2 = nI z) {i n : Nat} (hi : i < 2 ^ 31) (hn : n < 2 ^ 31) : f_X3_reaches T st a (nI i) (nI n) = some (if i + n ≤ z then 1 else 0) := by
  rw [f_X3_reaches, h2, if_neg (nI_pos hi), if_neg (nI_pos hn)]
  by_cases h : z < n
  · rw [if_pos (nI_lt h hn), if_neg (by omega)]
  · rw [if_neg (nI_nlt (by omega) (by omega)), pk_sub (by omega)]
    by_cases h3 : z - n < i
    · rw [if_pos (nI_lt h3 hi), if_neg (by omega)]
    · rw [if_neg (nI_nlt (by omega) (by omega)), if_pos (by omega)]
theorem m_reach0 {T a : Nat} {st : px_S} {x y : Int32} (h : x < 0 ∨ y < 0) : f_X3_reaches T st a x y = some 0 := by
  rw [f_X3_reaches]
  by_cases h1 : x < 0
  · rw [if_pos h1]
  · rw [if_neg h1, if_pos (h.resolve_left h1)]
theorem m_missC {T k : Nat} {st : px_S} (h : I_s1 st k) : (f_X3_isMissing T st (38 + 2 * k) = some 1 ∧ st 66 k = 0) ∨ ∃ so n, so < 3 ∧ n ≤ 40 ∧ f_X3_isMissing T st (38 + 2 * k) = some 0 ∧ st (38 + 2 * k) 1 = nI so ∧ st (38 + 2 * k) 2 = nI n ∧ st 66 k = 1 ∧ st 67 k = nI so ∧ st 68 k = nI n ∧ ∀ i, i < n → st (39 + 2 * k) i = st 69 (40 * k + i) := by
  rcases h with ⟨h1, h2⟩ | ⟨so, n, h1, h2, h3, h4⟩
  · exact Or.inl ⟨by rw [f_X3_isMissing, if_pos h1], h2⟩
  · exact Or.inr ⟨so, n, h1, h2, by rw [f_X3_isMissing, if_neg (by rw [h3]; exact m_n1 (by omega))], h3, h4⟩
theorem m_sh77 {T k n : Nat} {st : px_S} (hk : k < 4) (hn : n ≤ 40) (so : Nat) (hso : so < 3) : ∃ z, f_X6_sheet_77 T 1000 (nI k) (nI so) (nI n) 0 st = some (1, z) ∧ m_fr [69] st z ∧ ∀ j, j < 160 → z 69 j = if 40 * k ≤ j ∧ j < 40 * k + n then 0 else st 69 j := by
  refine m_for (σ := px_S) (fun f i z => f_X6_sheet_77 T f (nI k) (nI so) (nI n) (nI i) z) n (fun i z => m_fr [69] st z ∧ ∀ j, j < 160 → z 69 j = if 40 * k ≤ j ∧ j < 40 * k + i then 0 else st 69 j) (fun r => ∃ z, r = some (1, z) ∧ m_fr [69] st z ∧ ∀ j, j < 160 → z 69 j = if 40 * k ≤ j ∧ j < 40 * k + n then 0 else st 69 j) ?_ ?_ n 0 st 1000 (by omega) ⟨m_fr_refl _ _, fun j hj => by rw [if_neg (by omega)]⟩ (by omega)
  · intro f i z hi hz
    obtain ⟨z1, z2⟩ := hz
    left
    rw [f_X6_sheet_77, if_pos (nI_lt hi (by omega)), if_neg (nI_pos (by omega)), m_ix40, if_pos (m_px (by omega) (by omega)), nI_clamp (by omega), nI_1]
    refine ⟨_, ⟨m_fr_up z1 (by simp) _ _, fun j hj => ?_⟩, rfl⟩
    rw [m_up, if_pos rfl, z2 j hj]
    by_cases e : j = 40 * k + i
    · rw [if_pos e, if_pos (by omega)]
    · rw [if_neg e]
      by_cases e2 : 40 * k ≤ j ∧ j < 40 * k + i
      · rw [if_pos e2, if_pos (by omega)]
      · rw [if_neg e2, if_neg (by omega)]
  · intro f z hz
    rw [f_X6_sheet_77, if_neg (nI_nlt (Nat.le_refl _) (by omega))]
    exact ⟨z, rfl, hz⟩
theorem op_sheet {T : Nat} {st : px_S} (ag : px_ag) (hI : Inv T st) : ∃ T2 st2, px_op24 T st ag T2 st2 ∧ Inv T2 st2 := by
  have hI0 := hI
  obtain ⟨h1, h2, h3, h4, h5, h, ⟨hw, h9, hc, hr⟩, him⟩ := hI
  have bad : ∀ v, f_X5_sheet (T + 2) (ag 1) (ag 2) (ag 3) st = some (v, st) → f_X6_sheet T (ag 1) (ag 2) (ag 3) st = some (v, st) → ∃ T2 st2, px_op24 T st ag T2 st2 ∧ Inv T2 st2 := fun v e1 e2 => ⟨T, st, ⟨rfl, v, st, e1, e2⟩, hI0⟩
  rcases m_sh_cases (ag 1) with q1 | ⟨k, hk, ek, q1⟩
  · exact bad _ (by rw [f_X5_sheet, if_pos q1]) (by rw [f_X6_sheet, m_eq_bind (m_shR _), if_pos q1])
  have q1' : ¬ p_X5_isSheet (ag 1) = 0 := by rw [q1]; decide
  have hi := m_i (ag 2) (-1) 2 (A := -1) (B := 2) rfl rfl
  by_cases q2 : ag 2 < -1
  · exact bad _ (by rw [f_X5_sheet, if_neg q1', if_pos q2]) (by rw [f_X6_sheet, m_eq_bind (m_shR _), if_neg q1', if_pos (hi.mpr (Or.inl q2))])
  by_cases q3 : 2 < ag 2
  · exact bad _ (by rw [f_X5_sheet, if_neg q1', if_neg q2, if_neg (fun g => (m_lt3 _).mp g q3)]) (by rw [f_X6_sheet, m_eq_bind (m_shR _), if_neg q1', if_pos (hi.mpr (Or.inr q3))])
  have q23 : ¬ p_X6_in (ag 2).toInt64 (-1) 2 = 0 := fun g => (hi.mp g).elim q2 q3
  have hin : px_in (nI k) 4 := m_px hk (by omega)
  have row1 : ∀ (x y : Int32) a, a ≠ 38 + 2 * k → a ≠ 39 + 2 * k → (upr (up (up st (38 + 2 * k) 1 x) (38 + 2 * k) 2 y) (38 + 2 * k + 1) (fun _ => 0)) a = st a := fun x y a ha hb => by
    rw [m_upr, if_neg (by omega), m_up_row _ _ _ _ ha, m_up_row _ _ _ _ ha]
  by_cases q4 : ag 2 = -1
  · obtain ⟨s1, es1⟩ : ∃ s1, s1 = upr (up (up st (38 + 2 * k) 1 (-1)) (38 + 2 * k) 2 0) (38 + 2 * k + 1) (fun _ => 0) := ⟨_, rfl⟩
    have c1 : f_X5_sheet (T + 2) (ag 1) (ag 2) (ag 3) st = some (1, s1) := by
      rw [f_X5_sheet, if_neg q1', if_neg q2, if_pos ((m_lt3 _).mpr q3), if_pos q4, ek, if_pos hin, nI_clamp (by omega), f_X3_begin, m_let, m_let, m_let, Option.bind_some, q4, es1]
    obtain ⟨s2, es2⟩ : ∃ s2, s2 = up (up (up s1 66 k 0) 67 k (-1)) 68 k (ag 3) := ⟨_, rfl⟩
    have c2 : f_X6_sheet T (ag 1) (ag 2) (ag 3) s1 = some (1, s2) := by
      rw [f_X6_sheet, m_eq_bind (m_shR _), if_neg q1', if_neg q23, q4, if_pos (by decide), f_X6_sheet_34, if_pos (by decide), f_X6_sheet_45, if_pos (by decide), f_X6_sheet_59, if_pos (Or.inl rfl), ek, if_pos hin, if_pos hin, if_pos hin, nI_clamp (by omega), ← es2, f_X6_sheet_77]
      by_cases g : 0 < ag 3
      · rw [if_pos g, if_pos (by decide)]
      · rw [if_neg g]
    have row : ∀ a, a ≠ 38 + 2 * k → a ≠ 39 + 2 * k → a ≠ 66 → a ≠ 67 → a ≠ 68 → s2 a = st a := fun a ha hb hc hd he => by
      rw [es2, m_up_row _ _ _ _ he, m_up_row _ _ _ _ hd, m_up_row _ _ _ _ hc, es1]; exact row1 _ _ a ha hb
    have r66 : ∀ j, s2 66 j = if j = k then 0 else st 66 j := fun j => by
      rw [es2, m_up_row _ _ _ _ (by decide), m_up_row _ _ _ _ (by decide), m_up, if_pos rfl, es1, row1 _ _ 66 (by omega) (by omega)]
    have r67 : ∀ j, s2 67 j = if j = k then -1 else st 67 j := fun j => by
      rw [es2, m_up_row _ _ _ _ (by decide), m_up, if_pos rfl, m_up_row _ _ _ _ (by decide), es1, row1 _ _ 67 (by omega) (by omega)]
    have r68 : ∀ j, s2 68 j = if j = k then ag 3 else st 68 j := fun j => by
      rw [es2, m_up, if_pos rfl, m_up_row _ _ _ _ (by decide), m_up_row _ _ _ _ (by decide), es1, row1 _ _ 68 (by omega) (by omega)]
    refine ⟨T, s2, ⟨rfl, _, s1, c1, c2⟩, Inv_shf hI0 (fun a ha => ?_) (fun j hj => ?_)⟩
    · simp only [List.mem_cons, List.not_mem_nil, or_false, not_or] at ha
      exact row a (by omega) (by omega) (by omega) (by omega) (by omega)
    · by_cases e : j = k
      · subst e
        left
        refine ⟨?_, by rw [r66, if_pos rfl]⟩
        rw [es2, m_up_row _ _ _ _ (by omega), m_up_row _ _ _ _ (by omega), m_up_row _ _ _ _ (by omega), es1, m_upr, if_neg (by omega), m_up, if_pos rfl, if_neg (by decide), m_up, if_pos rfl, if_pos rfl]
      · exact I_s1_eq (h5 j hj) (row _ (by omega) (by omega) (by omega) (by omega) (by omega)) (row _ (by omega) (by omega) (by omega) (by omega) (by omega)) (by rw [r66, if_neg e]) (by rw [r67, if_neg e]) (by rw [r68, if_neg e]) (fun i _ => by rw [row 69 (by omega) (by omega) (by omega) (by omega) (by omega)])
  have q5 : ¬ ag 2 < 0 := fun g => by
    apply q4
    refine Int32.toInt_inj.mp ?_
    rw [Int32.lt_iff_toInt_lt] at g q2
    have : (-1 : Int32).toInt = -1 := rfl
    have : (0 : Int32).toInt = 0 := rfl
    omega
  obtain ⟨so, hso, eso⟩ := m_rng' (n := 2) (by omega) q5 q3
  by_cases q6 : 40 < ag 3
  · exact bad _ (by rw [f_X5_sheet, if_neg q1', if_neg q2, if_pos ((m_lt3 _).mpr q3), if_neg q4, if_pos q6]) (by rw [f_X6_sheet, m_eq_bind (m_shR _), if_neg q1', if_neg q23, if_neg q5, if_pos q6])
  by_cases q7 : ag 3 < 0
  · exact bad _ (by rw [f_X5_sheet, if_neg q1', if_neg q2, if_pos ((m_lt3 _).mpr q3), if_neg q4, if_neg q6, if_pos q7]) (by rw [f_X6_sheet, m_eq_bind (m_shR _), if_neg q1', if_neg q23, if_neg q5, if_neg q6, f_X6_sheet_34, if_neg q5, if_pos q7])
  obtain ⟨n, hn, en⟩ := m_rng' (n := 40) (by omega) q7 q6
  obtain ⟨s1, es1⟩ : ∃ s1, s1 = upr (up (up st (38 + 2 * k) 1 (nI so)) (38 + 2 * k) 2 (nI n)) (38 + 2 * k + 1) (fun _ => 0) := ⟨_, rfl⟩
  have c1 : f_X5_sheet (T + 2) (ag 1) (ag 2) (ag 3) st = some (1, s1) := by
    rw [f_X5_sheet, if_neg q1', if_neg q2, if_pos ((m_lt3 _).mpr q3), if_neg q4, if_neg q6, if_neg q7, ek, if_pos hin, nI_clamp (by omega), f_X3_begin, m_let, m_let, m_let, Option.bind_some, eso, en, es1]
  obtain ⟨s0, es0⟩ : ∃ s0, s0 = up (up (up s1 66 k 1) 67 k (nI so)) 68 k (nI n) := ⟨_, rfl⟩
  obtain ⟨s2, e2, f2, g2⟩ := m_sh77 (T := T) (st := s0) hk hn so (by omega)
  have c2 : f_X6_sheet T (ag 1) (ag 2) (ag 3) s1 = some (1, s2) := by
    rw [f_X6_sheet, m_eq_bind (m_shR _), if_neg q1', if_neg q23, if_neg q5, if_neg q6, f_X6_sheet_34, if_neg q5, if_neg q7, f_X6_sheet_45, if_neg q5, f_X6_sheet_59, if_pos (Or.inr rfl), ek, if_pos hin, if_pos hin, if_pos hin, nI_clamp (by omega), eso, en, ← es0]
    exact e2
  have row : ∀ a, a ≠ 38 + 2 * k → a ≠ 39 + 2 * k → a ≠ 66 → a ≠ 67 → a ≠ 68 → a ≠ 69 → s2 a = st a := fun a ha hb hc hd he hf => by
    rw [f2 a (by simp; omega), es0, m_up_row _ _ _ _ he, m_up_row _ _ _ _ hd, m_up_row _ _ _ _ hc, es1]; exact row1 _ _ a ha hb
  have r66 : ∀ j, s2 66 j = if j = k then 1 else st 66 j := fun j => by
    rw [f2 66 (by decide), es0, m_up_row _ _ _ _ (by decide), m_up_row _ _ _ _ (by decide), m_up, if_pos rfl, es1, row1 _ _ 66 (by omega) (by omega)]
  have r67 : ∀ j, s2 67 j = if j = k then nI so else st 67 j := fun j => by
    rw [f2 67 (by decide), es0, m_up_row _ _ _ _ (by decide), m_up, if_pos rfl, m_up_row _ _ _ _ (by decide), es1, row1 _ _ 67 (by omega) (by omega)]
  have r68 : ∀ j, s2 68 j = if j = k then nI n else st 68 j := fun j => by
    rw [f2 68 (by decide), es0, m_up, if_pos rfl, m_up_row _ _ _ _ (by decide), m_up_row _ _ _ _ (by decide), es1, row1 _ _ 68 (by omega) (by omega)]
  have s069 : s0 69 = st 69 := by
    rw [es0, m_up_row _ _ _ _ (by decide), m_up_row _ _ _ _ (by decide), m_up_row _ _ _ _ (by decide), es1, row1 _ _ 69 (by omega) (by omega)]
  refine ⟨T, s2, ⟨rfl, _, s1, c1, c2⟩, Inv_shf hI0 (fun a ha => ?_) (fun j hj => ?_)⟩
  · simp only [List.mem_cons, List.not_mem_nil, or_false, not_or] at ha
    exact row a (by omega) (by omega) (by omega) (by omega) (by omega) (by omega)
  · by_cases e : j = k
    · subst e
      right
      have r38 : ∀ i, s2 (38 + 2 * j) i = if i = 2 then nI n else if i = 1 then nI so else st (38 + 2 * j) i := fun i => by
        rw [f2 _ (by simp; omega), es0, m_up_row _ _ _ _ (by omega), m_up_row _ _ _ _ (by omega), m_up_row _ _ _ _ (by omega), es1, m_upr, if_neg (by omega), m_up, if_pos rfl, m_up, if_pos rfl]
      have r39 : ∀ i, s2 (39 + 2 * j) i = 0 := fun i => by
        rw [f2 _ (by simp; omega), es0, m_up_row _ _ _ _ (by omega), m_up_row _ _ _ _ (by omega), m_up_row _ _ _ _ (by omega), es1, m_upr, if_pos (by omega)]
      refine ⟨so, n, by omega, hn, by rw [r38, if_neg (by decide), if_pos rfl], by rw [r38, if_pos rfl], by rw [r66, if_pos rfl], by rw [r67, if_pos rfl], by rw [r68, if_pos rfl], fun i hi => ?_⟩
      rw [r39, g2 _ (by omega), if_pos (by omega)]
    · exact I_s1_eq (h5 j hj) (row _ (by omega) (by omega) (by omega) (by omega) (by omega) (by omega)) (row _ (by omega) (by omega) (by omega) (by omega) (by omega) (by omega)) (by rw [r66, if_neg e]) (by rw [r67, if_neg e]) (by rw [r68, if_neg e]) (fun i hi => by rw [g2 _ (by omega), if_neg (by omega), s069])
theorem op_cell {T : Nat} {st : px_S} (ag : px_ag) (hI : Inv T st) : ∃ T2 st2, px_op25 T st ag T2 st2 ∧ Inv T2 st2 := by
  have hI0 := hI
  obtain ⟨h1, h2, h3, h4, h5, h, ⟨hw, h9, hc, hr⟩, him⟩ := hI
  have bad : ∀ v, f_X5_cell (T + 2) (ag 1) (ag 2) (ag 3) st = some (v, st) → f_X6_cell T (ag 1) (ag 2) (ag 3) st = some (v, st) → ∃ T2 st2, px_op25 T st ag T2 st2 ∧ Inv T2 st2 := fun v e1 e2 => ⟨T, st, ⟨rfl, v, st, e1, e2⟩, hI0⟩
  rcases m_sh_cases (ag 1) with q1 | ⟨k, hk, ek, q1⟩
  · exact bad _ (by rw [f_X5_cell, if_pos q1]) (by rw [f_X6_cell, m_eq_bind (m_shR _), if_pos q1])
  have q1' : ¬ p_X5_isSheet (ag 1) = 0 := by rw [q1]; decide
  have hin : px_in (nI k) 4 := m_px hk (by omega)
  have c0 : f_X5_cell (T + 2) (ag 1) (ag 2) (ag 3) st = ((f_X3_isMissing (T + 2) st (38 + 2 * k)).bind fun b4 => (if b4 = 0 then ((f_X3_reaches (T + 2) st (38 + 2 * k) (ag 2) 1).bind fun b6 => (if b6 = 0 then (some ((-12), st)) else ((f_X3_write (T + 2) (38 + 2 * k) (ag 2) (ag 3) st).bind fun b8 => (some (1, b8))))) else (some ((-11), st)))) := by
    rw [f_X5_cell, if_neg q1', ek, if_pos hin, nI_clamp (by omega)]
  rcases m_missC (T := T + 2) (h5 k hk) with ⟨m1, m2⟩ | ⟨so, n, hso, hn, m1, m2, m3, m4, m5, m6, m7⟩
  · exact bad (-11) (by rw [c0, m_eq_bind m1, if_neg (by decide)]) (by rw [f_X6_cell, m_eq_bind (m_shR _), if_neg q1', ek, if_pos hin, if_pos (show st 66 (nI k).toNatClampNeg = 0 by rw [nI_clamp (by omega)]; exact m2)])
  have e1 : (nI n - 1).toInt = (n : Int) - 1 := pk_sub_toInt (a := n) (b := 1) (by omega) (by omega)
  have hi := m_i (ag 2) 0 (nI n - 1) (A := 0) (B := (nI n - 1).toInt64) rfl rfl
  have r0 : ∀ s, s 66 k = 1 → s 67 k = nI so → s 68 k = nI n → f_X6_cell T (ag 1) (ag 2) (ag 3) s = if p_X6_in (ag 2).toInt64 0 (nI n - 1).toInt64 = 0 then some (-12, s) else (if nI so = 0 then (if px_in ((40 : Int32) * nI k + ag 2) 160 then (some (1, (up s 69 ((40 : Int32) * nI k + ag 2).toNatClampNeg (ag 3).toInt8.toInt32))) else none) else (if nI so = 1 then (if px_in ((40 : Int32) * nI k + ag 2) 160 then (some (1, (up s 69 ((40 : Int32) * nI k + ag 2).toNatClampNeg (ag 3).toInt16.toInt32))) else none) else (if px_in ((40 : Int32) * nI k + ag 2) 160 then (some (1, (up s 69 ((40 : Int32) * nI k + ag 2).toNatClampNeg (ag 3)))) else none))) := fun s a b c => by
    rw [f_X6_cell, m_eq_bind (m_shR _), if_neg q1', ek, if_pos hin, if_pos hin, if_pos hin, if_pos hin, nI_clamp (by omega), if_neg (by rw [a]; decide), b, c]
  by_cases q2 : ag 2 < 0
  · exact bad (-12) (by rw [c0, m_eq_bind m1, if_pos rfl, m_eq_bind (m_reach0 (Or.inl q2)), if_pos rfl]) (by rw [r0 st m4 m5 m6, if_pos (hi.mpr (Or.inl q2))])
  obtain ⟨i, hi31, ei⟩ := nI_of q2
  by_cases q3 : i + 1 ≤ n
  · have hni : ¬ p_X6_in (ag 2).toInt64 0 (nI n - 1).toInt64 = 0 := fun g => (hi.mp g).elim q2 (fun g => by rw [ei, Int32.lt_iff_toInt_lt, e1, nI_toInt hi31] at g; omega)
    have hin2 : px_in (nI i) 40 := m_px (by omega) (by omega)
    have hin3 : px_in (nI (40 * k + i)) 160 := m_px (by omega) (by omega)
    obtain ⟨w, ew⟩ : ∃ w : Int32, w = if so = 0 then (ag 3).toInt8.toInt32 else if so = 1 then (ag 3).toInt16.toInt32 else ag 3 := ⟨_, rfl⟩
    have c1 : f_X5_cell (T + 2) (ag 1) (ag 2) (ag 3) st = some (1, up st (39 + 2 * k) i w) := by
      rw [c0, m_eq_bind m1, if_pos rfl, ei, m_eq_bind (show f_X3_reaches (T + 2) st (38 + 2 * k) (nI i) 1 = _ from m_reach hn m3 hi31 (n := 1) (by omega)), if_pos q3, if_neg (by decide), f_X3_write, m2]
      rcases (show so = 0 ∨ so = 1 ∨ so = 2 by omega) with rfl | rfl | rfl
      · rw [if_pos (by decide), if_pos hin2, m_let, Option.bind_some, nI_clamp (by omega), ew, if_pos rfl, show 38 + 2 * k + 1 = 39 + 2 * k by omega]
      · rw [if_neg (by decide), if_pos (by decide), if_pos hin2, m_let, Option.bind_some, nI_clamp (by omega), ew, if_neg (by decide), if_pos rfl, show 38 + 2 * k + 1 = 39 + 2 * k by omega]
      · rw [if_neg (by decide), if_neg (by decide), if_pos hin2, m_let, Option.bind_some, nI_clamp (by omega), ew, if_neg (by decide), if_neg (by decide), show 38 + 2 * k + 1 = 39 + 2 * k by omega]
    have rr : ∀ a, a ≠ 39 + 2 * k → (up st (39 + 2 * k) i w) a = st a := fun a ha => m_up_row _ _ _ _ ha
    have c2 : f_X6_cell T (ag 1) (ag 2) (ag 3) (up st (39 + 2 * k) i w) = some (1, up (up st (39 + 2 * k) i w) 69 (40 * k + i) w) := by
      rw [r0 _ (by rw [rr 66 (by omega)]; exact m4) (by rw [rr 67 (by omega)]; exact m5) (by rw [rr 68 (by omega)]; exact m6), if_neg hni, ei, m_ix40, if_pos hin3, if_pos hin3, if_pos hin3, nI_clamp (by omega)]
      rcases (show so = 0 ∨ so = 1 ∨ so = 2 by omega) with rfl | rfl | rfl
      · rw [if_pos (by decide), ew, if_pos rfl]
      · rw [if_neg (by decide), if_pos (by decide), ew, if_neg (by decide), if_pos rfl]
      · rw [if_neg (by decide), if_neg (by decide), ew, if_neg (by decide), if_neg (by decide)]
    obtain ⟨s2, es2⟩ : ∃ s2, s2 = up (up st (39 + 2 * k) i w) 69 (40 * k + i) w := ⟨_, rfl⟩
    rw [← es2] at c2
    have row : ∀ a, a ≠ 39 + 2 * k → a ≠ 69 → s2 a = st a := fun a ha hb => by rw [es2, m_up_row _ _ _ _ hb, rr a ha]
    have r69 : ∀ j, s2 69 j = if j = 40 * k + i then w else st 69 j := fun j => by rw [es2, m_up, if_pos rfl, rr 69 (by omega)]
    refine ⟨T, s2, ⟨rfl, _, _, c1, c2⟩, Inv_shf hI0 (fun a ha => ?_) (fun j hj => ?_)⟩
    · simp only [List.mem_cons, List.not_mem_nil, or_false, not_or] at ha
      exact row a (by omega) (by omega)
    · by_cases e : j = k
      · subst e
        right
        refine ⟨so, n, hso, hn, by rw [row _ (by omega) (by omega)]; exact m2, by rw [row _ (by omega) (by omega)]; exact m3, by rw [row _ (by omega) (by omega)]; exact m4, by rw [row _ (by omega) (by omega)]; exact m5, by rw [row _ (by omega) (by omega)]; exact m6, fun b hb => ?_⟩
        rw [r69, es2, m_up_row _ _ _ _ (by omega), m_up, if_pos rfl]
        by_cases e : b = i
        · rw [if_pos e, if_pos (by omega)]
        · rw [if_neg e, if_neg (by omega)]; exact m7 b hb
      · exact I_s1_eq (h5 j hj) (row _ (by omega) (by omega)) (row _ (by omega) (by omega)) (by rw [row _ (by omega) (by omega)]) (by rw [row _ (by omega) (by omega)]) (by rw [row _ (by omega) (by omega)]) (fun b hb => by rw [r69, if_neg (by omega)])
  · exact bad (-12) (by rw [c0, m_eq_bind m1, if_pos rfl, ei, m_eq_bind (show f_X3_reaches (T + 2) st (38 + 2 * k) (nI i) 1 = _ from m_reach hn m3 hi31 (n := 1) (by omega)), if_neg q3, if_pos rfl]) (by rw [r0 st m4 m5 m6, if_pos (hi.mpr (Or.inr (by rw [ei, Int32.lt_iff_toInt_lt, e1, nI_toInt hi31]; omega)))])
