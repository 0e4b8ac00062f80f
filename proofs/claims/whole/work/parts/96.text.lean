/-- the reference takes a TEXT -/
theorem m_textR {T t sz : Nat} {s : px_S} {B : Nat → Int32} (ht : t < 6) (h3 : s 48 3 = nI t) (h6 : s 48 6 = nI sz) (hsz : sz ≤ 160) (hB : ∀ j, j < sz → s 51 j = B j ∧ ¬ B j < 0) :
    ∃ s', (∀ a, a ≠ 48 → a ≠ 49 → a ≠ 50 → s' a = s a) ∧ (∀ j, j ≠ 6 → ¬ (22 ≤ j ∧ j ≤ 30) → s' 48 j = s 48 j) ∧ s' 48 6 = 0 ∧ (∀ i, i ≠ t → s' 50 i = s 50 i) ∧ (∀ i, i < 160 * t → s' 49 i = s 49 i) ∧ m_reft s' t B sz ∧
      (m_ok (m_tk (m_lx B sz 0)) = true → f_X6_text T s = some (nI t, up s' 48 3 (nI (t + 1)))) ∧ (m_ok (m_tk (m_lx B sz 0)) = false → f_X6_text T s = some (-100 - nI (m_pl (m_lx B sz 0) sz (m_flt (m_tk (m_lx B sz 0)))), s')) := by
  rw [f_X6_text, h3, if_neg (by rw [show (6 : Int32) = nI 6 from rfl, nI_eq (by omega) (by omega)]; omega)]
  refine m_for (σ := px_S) (fun n i z => f_X6_text_14 T n (nI i) z) sz (fun i z => (∀ a, a ≠ 49 → z a = s a) ∧ (∀ j, j < i → z 49 (160 * t + j) = B j) ∧ ∀ y, y < 160 * t → z 49 y = s 49 y) (fun R => ∃ s', (∀ a, a ≠ 48 → a ≠ 49 → a ≠ 50 → s' a = s a) ∧ (∀ j, j ≠ 6 → ¬ (22 ≤ j ∧ j ≤ 30) → s' 48 j = s 48 j) ∧ s' 48 6 = 0 ∧ (∀ i, i ≠ t → s' 50 i = s 50 i) ∧ (∀ i, i < 160 * t → s' 49 i = s 49 i) ∧ m_reft s' t B sz ∧
      (m_ok (m_tk (m_lx B sz 0)) = true → R = some (nI t, up s' 48 3 (nI (t + 1)))) ∧ (m_ok (m_tk (m_lx B sz 0)) = false → R = some (-100 - nI (m_pl (m_lx B sz 0) sz (m_flt (m_tk (m_lx B sz 0)))), s'))) ?_ ?_ sz 0 s 1000 (by omega) ⟨fun _ _ => rfl, fun j hj => by omega, fun _ _ => rfl⟩ (by omega)
  · intro n i z hi hz
    obtain ⟨a1, a2, a3⟩ := hz
    left
    have r48 : z 48 = s 48 := a1 48 (by decide)
    have r51 : z 51 = s 51 := a1 51 (by decide)
    try simp only
    rw [f_X6_text_14, r48, h3, h6, if_pos (nI_lt hi (by omega)), m_ix160, if_pos (m_px (by omega) (by omega)), if_pos (m_px (by omega) (by omega)), nI_clamp (n := 160 * t + i) (by omega), nI_clamp (n := i) (by omega), r51, (hB i hi).1, nI_1]
    refine ⟨up z 49 (160 * t + i) (B i), ⟨fun a ha => by rw [m_up_row _ _ _ _ ha]; exact a1 a ha, fun j hj => ?_, fun y hy => ?_⟩, rfl⟩
    · rw [m_up, if_pos rfl]
      rcases Nat.lt_or_ge j i with hl | hl
      · rw [if_neg (by omega)]; exact a2 j hl
      · rw [if_pos (by omega), show j = i by omega]
    · rw [m_up, if_pos rfl, if_neg (by omega)]; exact a3 y hy
  · intro n z hz
    obtain ⟨a1, a2, a3⟩ := hz
    have r48 : z 48 = s 48 := a1 48 (by decide)
    try simp only
    rw [f_X6_text_14, r48, h3, h6, if_neg (nI_nlt (Nat.le_refl _) (by omega)), if_pos (m_px ht (by omega)), nI_clamp (n := t) (by omega)]
    obtain ⟨z0, ez⟩ : ∃ z0, z0 = up (up z 50 t (nI sz)) 48 6 0 := ⟨_, rfl⟩
    rw [← ez]
    have z49 : z0 49 = z 49 := by rw [ez, m_up_row _ _ _ _ (by decide), m_up_row _ _ _ _ (by decide)]
    have z50 : ∀ i, z0 50 i = if i = t then nI sz else s 50 i := fun i => by rw [ez, m_up_row _ _ _ _ (by decide), m_up, if_pos rfl, a1 50 (by decide)]
    have z48 : ∀ j, z0 48 j = if j = 6 then 0 else s 48 j := fun j => by rw [ez, m_up, if_pos rfl, m_up_row _ _ _ _ (by decide), r48]
    have rt : m_reft z0 t B sz := ⟨ht, by rw [z50, if_pos rfl], hsz, fun j hj => by rw [z49]; exact a2 j hj, fun j hj => (hB j hj).2⟩
    obtain ⟨v, s', e1, f1, g1, g2⟩ := m_readR (T := T) (F := fun j => z0 48 (16 + j)) rt (fun j _ => rfl) (w := 0) (by decide)
    rw [m_eq_bind (show f_X6_read T (nI t) 0 z0 = _ from e1)]
    dsimp only
    have sl : ∀ j, ¬ (22 ≤ j ∧ j ≤ 30) → s' 48 j = z0 48 j := fun j hj => f1.2 j (by simp [m_rg]; omega)
    have e3 : s' 48 3 = nI t := by rw [sl 3 (by omega), z48, if_neg (by omega), h3]
    have sub1 : nI t + 1 - 1 = nI t := by rw [nI_1, show (1 : Int32) = nI 1 from rfl, pk_sub (by omega)]; rfl
    refine ⟨s', fun a h1 h2 h3 => ?_, fun j h1 h2 => ?_, ?_, fun i hi => ?_, fun i hi => ?_, m_reft_eq rt (f1.1 49 (by decide)) (f1.1 50 (by decide)), fun ok => ?_, fun ok => ?_⟩
    · rw [f1.1 a h1, ez, m_up_row _ _ _ _ h1, m_up_row _ _ _ _ h3, a1 a h2]
    · rw [sl j h2, z48, if_neg h1]
    · rw [sl 6 (by omega), z48, if_pos rfl]
    · rw [f1.1 50 (by decide), z50, if_neg hi]
    · rw [f1.1 49 (by decide), z49]; exact a3 i hi
    · rw [if_pos (g1 ok).1, e3, sub1, nI_1]
    · have b := g2 ok
      rw [if_neg (by rw [b.1]; decide), b.2]
theorem op_text {T : Nat} {st : px_S} (ag : px_ag) (hI : Inv T st) : ∃ T2 st2, px_op6 T st ag T2 st2 ∧ Inv T2 st2 := by
  have hI0 := hI
  obtain ⟨h1, h2, h3, h4, h5, h, ⟨hw, h9, hc, hr⟩, him⟩ := hI
  obtain ⟨sz, hsz, t1, t2, t3⟩ := h4
  obtain ⟨x1, x2, x3⟩ := h3
  have pn := px_n2 T
  by_cases hT5 : T = 5
  · refine ⟨T, st, Or.inl ⟨-4, st, ?_, rfl, ?_⟩, hI0⟩
    · rw [f_X5_text, x1, hT5, if_neg (by decide)]
    · rw [f_X6_text, x2, hT5, if_pos (by decide)]
  have hlt6 : st 0 6 < 6 := by rw [x1, show (6 : Int32) = nI 6 from rfl]; exact nI_lt (by omega) (by omega)
  rcases m_compileC (T := T + 2) (st := st) (B := st 32) (sz := sz) hsz t1 (fun _ _ => rfl) ⟨by omega, by rw [pn]; omega⟩ h2 with ⟨ok, s, e1, tx, s0, cf, f0, pl⟩ | ⟨ok, s, e1, cf, pl⟩
  · -- it reads well
    rw [pn] at tx f0
    have r31 : s 31 = s0 31 := f0 31 (by simp; omega)
    have r34 : s 34 = s0 34 := f0 34 (by simp; omega)
    have pl2 : f_X2_place (T + 2 + 1) s = some (nI (m_pl (m_lx (st 32) sz 0) sz (m_flt (m_tk (m_lx (st 32) sz 0))))) := by
      rw [f_X2_place] at pl ⊢; rw [r31, r34]; exact pl
    have row0 : ∀ a, a ≠ 31 → a ≠ 33 → a ≠ 34 → a ≠ 35 → a ≠ 70 + 2 * T → a ≠ 71 + 2 * T → s a = st a := fun a b1 b2 b3 b4 b5 b6 => by
      rw [f0 a (by simp; omega), cf.1 a (by simp; omega)]
    obtain ⟨s2, es2⟩ : ∃ s2, s2 = up s 31 1 0 := ⟨_, rfl⟩
    have rowA : ∀ a, a ≠ 31 → s2 a = s a := fun a ha => by rw [es2, m_up_row _ _ _ _ ha]
    have x6 : s2 0 6 = nI (T + 1) := by rw [rowA 0 (by omega), row0 0 (by omega) (by omega) (by omega) (by omega) (by omega) (by omega)]; exact x1
    obtain ⟨s3, es3⟩ : ∃ s3, s3 = px_setT (T + 2) s2 := ⟨_, rfl⟩
    have es3' : s3 = up (up s2 36 (T + 1) (nI (70 + 2 * T))) 0 6 (nI (T + 2)) := by rw [es3, px_setT, x6, nI_clamp (by omega), nI_1, pn]
    have rowB : ∀ a, a ≠ 0 → a ≠ 36 → s3 a = s2 a := fun a b1 b2 => by rw [es3', m_up_row _ _ _ _ b1, m_up_row _ _ _ _ b2]
    have sub1 : nI (T + 1) + 1 - 1 = nI (T + 1) := by rw [nI_1, show (1 : Int32) = nI 1 from rfl, pk_sub (by omega)]; rfl
    have c1 : f_X5_text (T + 2) st = some (.inr (nI (T + 1), s3)) := by
      rw [f_X5_text, if_pos hlt6, m_eq_bind e1]
      dsimp only
      rw [m_eq_bind pl2, f_X2_clear, Option.bind_some, ← es2, if_pos ⟨⟨by omega, by rw [pn]; omega⟩, by rw [x6]; exact m_px (by omega) (by omega)⟩, x6, sub1, ← es3]
    have row3 : ∀ a, a ≠ 0 → a ≠ 36 → a ≠ 31 → a ≠ 33 → a ≠ 34 → a ≠ 35 → a ≠ 70 + 2 * T → a ≠ 71 + 2 * T → s3 a = st a := fun a b1 b2 b3 b4 b5 b6 b7 b8 => by
      rw [rowB a b1 b2, rowA a b3, row0 a b3 b4 b5 b6 b7 b8]
    have r348 : s3 48 = st 48 := row3 48 (by omega) (by omega) (by omega) (by omega) (by omega) (by omega) (by omega) (by omega)
    have r351 : s3 51 = st 51 := row3 51 (by omega) (by omega) (by omega) (by omega) (by omega) (by omega) (by omega) (by omega)
    obtain ⟨s4, f1, f2, f3, f4, f5, f6, f7, _⟩ := m_textR (T := T + 1) (t := T + 1) (s := s3) (B := st 32) (sz := sz) (by omega) (by rw [r348]; exact x2) (by rw [r348]; exact t2) hsz (fun j hj => by rw [r351]; exact ⟨(t3 j hj).1.symm, (t3 j hj).2⟩)
    have c2 := f7 ok
    obtain ⟨s5, es5⟩ : ∃ s5, s5 = up s4 48 3 (nI (T + 1 + 1)) := ⟨_, rfl⟩
    rw [← es5] at c2
    have row5 : ∀ a, a ≠ 48 → a ≠ 49 → a ≠ 50 → s5 a = s3 a := fun a b1 b2 b3 => by rw [es5, m_up_row _ _ _ _ b1, f1 a b1 b2 b3]
    have row : ∀ a, a ≠ 0 → a ≠ 36 → a ≠ 31 → a ≠ 33 → a ≠ 34 → a ≠ 35 → a ≠ 70 + 2 * T → a ≠ 71 + 2 * T → a ≠ 48 → a ≠ 49 → a ≠ 50 → s5 a = st a := fun a b1 b2 b3 b4 b5 b6 b7 b8 b9 b10 b11 => by
      rw [row5 a b9 b10 b11, row3 a b1 b2 b3 b4 b5 b6 b7 b8]
    have sl : ∀ j, j ≠ 3 → j ≠ 6 → ¬ (22 ≤ j ∧ j ≤ 30) → s5 48 j = st 48 j := fun j b1 b2 b3 => by
      rw [es5, m_up, if_pos rfl, if_neg b1, f2 j b2 b3, r348]
    have v36 : ∀ j, s5 36 j = if j = T + 1 then nI (70 + 2 * T) else st 36 j := fun j => by
      rw [row5 36 (by omega) (by omega) (by omega), es3', m_up_row _ _ _ _ (by omega), m_up, if_pos rfl, rowA 36 (by omega), row0 36 (by omega) (by omega) (by omega) (by omega) (by omega) (by omega)]
    have v0 : ∀ j, s5 0 j = if j = 6 then nI (T + 2) else st 0 j := fun j => by
      rw [row5 0 (by omega) (by omega) (by omega), es3', m_up, if_pos rfl, m_up_row _ _ _ _ (by omega), rowA 0 (by omega), row0 0 (by omega) (by omega) (by omega) (by omega) (by omega) (by omega)]
    have v49 : ∀ i, i < 160 * (T + 1) → s5 49 i = st 49 i := fun i hi => by
      rw [es5, m_up_row _ _ _ _ (by omega), f5 i hi, row3 49 (by omega) (by omega) (by omega) (by omega) (by omega) (by omega) (by omega) (by omega)]
    have v50 : ∀ i, i ≠ T + 1 → s5 50 i = st 50 i := fun i hi => by
      rw [es5, m_up_row _ _ _ _ (by omega), f4 i hi, row3 50 (by omega) (by omega) (by omega) (by omega) (by omega) (by omega) (by omega) (by omega)]
    refine ⟨T + 1, s5, Or.inr ⟨_, s3, c1, rfl, c2⟩, by omega, ⟨?_, fun j hj => ?_⟩, ⟨?_, ?_, fun k hk => ?_⟩, ⟨0, by omega, ?_, ?_, fun j hj => by omega⟩, I_sh_fr h5 (fun a ha => row a (by omega) (by omega) (by omega) (by omega) (by omega) (by omega) (by omega) (by omega) (by omega) (by omega) (by omega)), h, ⟨hw, by omega, ?_, ?_⟩, ?_⟩
    · rw [row 11 (by omega) (by omega) (by omega) (by omega) (by omega) (by omega) (by omega) (by omega) (by omega) (by omega) (by omega), px_n2]
      have := h2.1; rw [pn] at this; omega
    · rw [v36, px_n2]
      by_cases e : j = T + 1
      · rw [if_pos e, nI_clamp (by omega)]; right; omega
      · rw [if_neg e]
        have := h2.2 j hj
        rw [pn] at this
        rcases this with g | g
        · exact Or.inl g
        · right; omega
    · rw [v0, if_pos rfl]
    · rw [es5, m_up, if_pos rfl, if_pos rfl]
    · by_cases e : k = T + 1
      · subst e
        have ep : m_plc (T + 1) = 70 + 2 * T := by unfold m_plc; rw [if_neg (by omega)]; omega
        refine ⟨st 32, sz, by rw [v36, if_pos rfl, ep], ?_, ?_, ok⟩
        · rw [ep]
          refine m_TX_eq tx ?_ ?_
          · rw [row5 _ (by omega) (by omega) (by omega), rowB _ (by omega) (by omega), rowA _ (by omega)]
          · rw [row5 _ (by omega) (by omega) (by omega), rowB _ (by omega) (by omega), rowA _ (by omega)]
        · exact m_reft_eq f6 (by rw [es5, m_up_row _ _ _ _ (by omega)]) (by rw [es5, m_up_row _ _ _ _ (by omega)])
      · obtain ⟨B, z, k1, k2, k3, k4⟩ := x3 k (by omega)
        have ep : (m_plc k = 46 ∨ 70 ≤ m_plc k) ∧ m_plc k + 1 < 70 + 2 * T := by unfold m_plc; by_cases hk0 : k = 0 <;> simp [hk0] <;> omega
        refine ⟨B, z, by rw [v36, if_neg e]; exact k1, ?_, ?_, k4⟩
        · exact m_TX_eq k2 (row _ (by omega) (by omega) (by omega) (by omega) (by omega) (by omega) (by omega) (by omega) (by omega) (by omega) (by omega)) (row _ (by omega) (by omega) (by omega) (by omega) (by omega) (by omega) (by omega) (by omega) (by omega) (by omega) (by omega))
        · obtain ⟨m1, m2, m3, m4, m5⟩ := k3
          exact ⟨m1, by rw [v50 k e]; exact m2, m3, fun j hj => by rw [v49 _ (by omega)]; exact m4 j hj, m5⟩
    · rw [row5 31 (by omega) (by omega) (by omega), rowB 31 (by omega) (by omega), es2, m_up, if_pos rfl, if_pos rfl]; rfl
    · rw [es5, m_up, if_pos rfl, if_neg (by omega), f3]; rfl
    · exact m_HC_eq hc (row _ (by omega) (by omega) (by omega) (by omega) (by omega) (by omega) (by omega) (by omega) (by omega) (by omega) (by omega)) (row _ (by omega) (by omega) (by omega) (by omega) (by omega) (by omega) (by omega) (by omega) (by omega) (by omega) (by omega)) (row _ (by omega) (by omega) (by omega) (by omega) (by omega) (by omega) (by omega) (by omega) (by omega) (by omega) (by omega)) (row _ (by omega) (by omega) (by omega) (by omega) (by omega) (by omega) (by omega) (by omega) (by omega) (by omega) (by omega)) (row _ (by omega) (by omega) (by omega) (by omega) (by omega) (by omega) (by omega) (by omega) (by omega) (by omega) (by omega))
    · exact m_HR_eq hr (fun j hj => sl j (by omega) (by omega) (by omega)) (fun a ha => row a (by omega) (by omega) (by omega) (by omega) (by omega) (by omega) (by omega) (by omega) (by omega) (by omega) (by omega))
    · have him' := I_im_fr (st' := s5) him (by rw [v0, if_neg (by omega)]) (fun j hj => sl j (by omega) (by omega) (by omega)) (fun a ha => row a (by omega) (by omega) (by omega) (by omega) (by omega) (by omega) (by omega) (by omega) (by omega) (by omega) (by omega))
      rcases him' with g | ⟨g1, g, g2, g3, g4⟩
      · exact Or.inl g
      · exact Or.inr ⟨g1, g, g2, by omega, g4⟩
  · -- it does not read
    obtain ⟨s2, es2⟩ : ∃ s2, s2 = up s 31 1 0 := ⟨_, rfl⟩
    have c1 : f_X5_text (T + 2) st = some (.inl (-100 - nI (m_pl (m_lx (st 32) sz 0) sz (m_flt (m_tk (m_lx (st 32) sz 0)))), s2)) := by
      rw [f_X5_text, if_pos hlt6, m_eq_bind e1]
      dsimp only
      rw [m_eq_bind pl, f_X2_clear, Option.bind_some, ← es2]
    have row3 : ∀ a, a ≠ 31 → a ≠ 33 → a ≠ 34 → a ≠ 35 → s2 a = st a := fun a b1 b2 b3 b4 => by
      rw [es2, m_up_row _ _ _ _ b1, cf.1 a (by simp; omega)]
    have r348 : s2 48 = st 48 := row3 48 (by omega) (by omega) (by omega) (by omega)
    have r351 : s2 51 = st 51 := row3 51 (by omega) (by omega) (by omega) (by omega)
    obtain ⟨s5, f1, f2, f3, f4, f5, f6, _, f7⟩ := m_textR (T := T) (t := T + 1) (s := s2) (B := st 32) (sz := sz) (by omega) (by rw [r348]; exact x2) (by rw [r348]; exact t2) hsz (fun j hj => by rw [r351]; exact ⟨(t3 j hj).1.symm, (t3 j hj).2⟩)
    have c2 := f7 ok
    have row : ∀ a, a ≠ 31 → a ≠ 33 → a ≠ 34 → a ≠ 35 → a ≠ 48 → a ≠ 49 → a ≠ 50 → s5 a = st a := fun a b1 b2 b3 b4 b5 b6 b7 => by
      rw [f1 a b5 b6 b7, row3 a b1 b2 b3 b4]
    have sl : ∀ j, j ≠ 6 → ¬ (22 ≤ j ∧ j ≤ 30) → s5 48 j = st 48 j := fun j b2 b3 => by rw [f2 j b2 b3, r348]
    have v49 : ∀ i, i < 160 * (T + 1) → s5 49 i = st 49 i := fun i hi => by rw [f5 i hi, row3 49 (by omega) (by omega) (by omega) (by omega)]
    have v50 : ∀ i, i ≠ T + 1 → s5 50 i = st 50 i := fun i hi => by rw [f4 i hi, row3 50 (by omega) (by omega) (by omega) (by omega)]
    refine ⟨T, s5, Or.inl ⟨_, s2, c1, rfl, c2⟩, h1, ⟨?_, fun j hj => ?_⟩, ⟨?_, ?_, fun k hk => ?_⟩, ⟨0, by omega, ?_, ?_, fun j hj => by omega⟩, I_sh_fr h5 (fun a ha => row a (by omega) (by omega) (by omega) (by omega) (by omega) (by omega) (by omega)), h, ⟨hw, h9, ?_, ?_⟩, ?_⟩
    · rw [row 11 (by omega) (by omega) (by omega) (by omega) (by omega) (by omega) (by omega)]; exact h2.1
    · rw [row 36 (by omega) (by omega) (by omega) (by omega) (by omega) (by omega) (by omega)]; exact h2.2 j hj
    · rw [row 0 (by omega) (by omega) (by omega) (by omega) (by omega) (by omega) (by omega)]; exact x1
    · rw [sl 3 (by omega) (by omega)]; exact x2
    · obtain ⟨B, z, k1, k2, k3, k4⟩ := x3 k hk
      have ep : (m_plc k = 46 ∨ 70 ≤ m_plc k) := by unfold m_plc; by_cases hk0 : k = 0 <;> simp [hk0] <;> omega
      refine ⟨B, z, by rw [row 36 (by omega) (by omega) (by omega) (by omega) (by omega) (by omega) (by omega)]; exact k1, ?_, ?_, k4⟩
      · exact m_TX_eq k2 (row _ (by omega) (by omega) (by omega) (by omega) (by omega) (by omega) (by omega)) (row _ (by omega) (by omega) (by omega) (by omega) (by omega) (by omega) (by omega))
      · obtain ⟨m1, m2, m3, m4, m5⟩ := k3
        exact ⟨m1, by rw [v50 k (by omega)]; exact m2, m3, fun j hj => by rw [v49 _ (by omega)]; exact m4 j hj, m5⟩
    · rw [f1 31 (by omega) (by omega) (by omega), es2, m_up, if_pos rfl, if_pos rfl]; rfl
    · rw [f3]; rfl
    · exact m_HC_eq hc (row _ (by omega) (by omega) (by omega) (by omega) (by omega) (by omega) (by omega)) (row _ (by omega) (by omega) (by omega) (by omega) (by omega) (by omega) (by omega)) (row _ (by omega) (by omega) (by omega) (by omega) (by omega) (by omega) (by omega)) (row _ (by omega) (by omega) (by omega) (by omega) (by omega) (by omega) (by omega)) (row _ (by omega) (by omega) (by omega) (by omega) (by omega) (by omega) (by omega))
    · exact m_HR_eq hr (fun j hj => sl j (by omega) (by omega)) (fun a ha => row a (by omega) (by omega) (by omega) (by omega) (by omega) (by omega) (by omega))
    · exact I_im_fr him (by rw [row 0 (by omega) (by omega) (by omega) (by omega) (by omega) (by omega) (by omega)]) (fun j hj => sl j (by omega) (by omega)) (fun a ha => row a (by omega) (by omega) (by omega) (by omega) (by omega) (by omega) (by omega))
