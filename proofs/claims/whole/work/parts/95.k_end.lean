section
variable {T : Nat} {h : px_H} {C : Nat → List Int32}
def m_RE (h : px_H) (C : Nat → List Int32) (S X : Nat) (z : px_S) : Prop := ∃ L W, j_ET h C S X L W ∧ j_tb h C S X L W (z 60) (z 62) (z 61)
theorem m_tabR {z z0 : px_S} {S y : Nat} {L : Nat → Nat} {W : Nat → Int32} (k : m_RJ z0 h C) (hw : m_HW h) (hS : S < 2 ^ h 4 0) (et : j_ET h C S y L W) (hy : y ≤ S) (hyS : m_dif y S = 0) (tb : j_tb h C S y L W (z0 60) (z0 62) (z0 61)) (gx : ∀ p, p < 7 → y.testBit p = true → z0 61 (7 * y + p) = j_gd h C p y (m_pop y)) : ∃ z1, f_X6_endOf_33 T 1000 (nI y) (nI (m_pop y)) 0 z0 = f_X6_endOf_133 T 1000 (nI y) 1 z1 ∧ m_sc z0 z1 ∧ m_fr [48, 58] z0 z1 ∧ m_JT h (j_fs h C L y) z1 := by
  have hn := hw.1
  have hS7 : S < 128 := Nat.lt_of_lt_of_le hS (m_pow7 hn)
  have hy7 : y < 128 := by omega
  refine m_for (σ := px_S) (fun f i s => f_X6_endOf_33 T f (nI y) (nI (m_pop y)) (nI i) s) (h 4 0) (fun i s => m_sc z0 s ∧ m_fr [48, 58] z0 s ∧ ∀ p q, p < i → q < h 4 0 → s 58 (7 * p + q) = if (j_fs h C L y q).testBit p then 1 else 0) (fun R => ∃ z1, R = f_X6_endOf_133 T 1000 (nI y) 1 z1 ∧ m_sc z0 z1 ∧ m_fr [48, 58] z0 z1 ∧ m_JT h (j_fs h C L y) z1) ?_ ?_ (h 4 0) 0 z0 1000 (by omega) ⟨m_sc_refl _, m_fr_refl _ _, fun p q hp => by omega⟩ (by omega)
  · intro f p s hp hs
    obtain ⟨a1, a2, a3⟩ := hs
    left
    try simp only
    rw [f_X6_endOf_33, (m_RJ_sc k a1).1.1, if_pos (nI_lt hp (by omega))]
    have inner : ∃ z', f_X6_endOf_44 T (f_X6_endOf_33 T f) 1000 (nI y) (nI (m_pop y)) (nI p) 0 s = f_X6_endOf_33 T f (nI y) (nI (m_pop y)) (nI p + 1) z' ∧ m_sc z0 z' ∧ m_fr [48, 58] z0 z' ∧ ∀ p' q, p' < p + 1 → q < h 4 0 → z' 58 (7 * p' + q) = if (j_fs h C L y q).testBit p' then 1 else 0 := by
      refine m_for (σ := px_S) (fun g i s => f_X6_endOf_44 T (f_X6_endOf_33 T f) g (nI y) (nI (m_pop y)) (nI p) (nI i) s) (h 4 0) (fun i s => m_sc z0 s ∧ m_fr [48, 58] z0 s ∧ (∀ p' q, p' < p → q < h 4 0 → s 58 (7 * p' + q) = if (j_fs h C L y q).testBit p' then 1 else 0) ∧ ∀ q, q < i → s 58 (7 * p + q) = if (j_fs h C L y q).testBit p then 1 else 0) (fun R => ∃ z', R = f_X6_endOf_33 T f (nI y) (nI (m_pop y)) (nI p + 1) z' ∧ m_sc z0 z' ∧ m_fr [48, 58] z0 z' ∧ ∀ p' q, p' < p + 1 → q < h 4 0 → z' 58 (7 * p' + q) = if (j_fs h C L y q).testBit p' then 1 else 0) ?_ ?_ (h 4 0) 0 s 1000 (by omega) ⟨a1, a2, a3, fun q hq => by omega⟩ (by omega)
      · intro g q s hq hs
        obtain ⟨b1, b2, b3, b4⟩ := hs
        left
        have ks := m_RJ_sc k b1
        have pin : px_in (nI (7 * p + q)) 49 := m_px (by omega) (by omega)
        have done : ∀ (t : px_S) (v : Int32), m_f48 m_rs s t → v = (if (j_fs h C L y q).testBit p then 1 else 0) → (m_sc z0 (up t 58 (7 * p + q) v) ∧ m_fr [48, 58] z0 (up t 58 (7 * p + q) v) ∧ (∀ p' q', p' < p → q' < h 4 0 → (up t 58 (7 * p + q) v) 58 (7 * p' + q') = if (j_fs h C L y q').testBit p' then 1 else 0) ∧ ∀ q', q' < q + 1 → (up t 58 (7 * p + q) v) 58 (7 * p + q') = if (j_fs h C L y q').testBit p then 1 else 0) := fun t v ft hv => by
          have r58 : t 58 = s 58 := ft.1 58 (by decide)
          refine ⟨m_sc_up (m_sc_tr b1 (m_rs_sc ft)) (by omega) _ _, m_fr_up (m_fr_tr b2 (fun a ha => ft.1 a (by simp at ha; omega))) (by simp) _ _, fun p' q' h1 h2 => ?_, fun q' h1 => ?_⟩
          · rw [m_up, if_pos rfl, if_neg (by omega), r58]; exact b3 p' q' h1 h2
          · rw [m_up, if_pos rfl]
            rcases Nat.lt_or_ge q' q with hl | hl
            · rw [if_neg (by omega), r58]; exact b4 q' hl
            · have e : q' = q := by omega
              rw [if_pos (by omega), hv, e]
        have no : (j_fs h C L y q).testBit p = false → ∃ s', (m_sc z0 s' ∧ m_fr [48, 58] z0 s' ∧ (∀ p' q', p' < p → q' < h 4 0 → s' 58 (7 * p' + q') = if (j_fs h C L y q').testBit p' then 1 else 0) ∧ ∀ q', q' < q + 1 → s' 58 (7 * p + q') = if (j_fs h C L y q').testBit p then 1 else 0) ∧ f_X6_endOf_82 T (f_X6_endOf_44 T (f_X6_endOf_33 T f) g) (nI y) (nI (m_pop y)) (nI p) (nI q) s = f_X6_endOf_44 T (f_X6_endOf_33 T f) g (nI y) (nI (m_pop y)) (nI p) (nI (q + 1)) s' := fun e => by
          refine ⟨_, done s 0 (m_f48_refl _ _) (by rw [e]; rfl), ?_⟩
          rw [f_X6_endOf_82, f_X6_endOf_83, if_pos rfl, m_ix, if_pos pin, nI_clamp (by omega), nI_1]
        have fsub := fun e => j_fs_sub (p := p) (q := q) hS7 hy hyS et (by omega) (by omega) e
        try simp only
        rw [f_X6_endOf_44, ks.1.1, if_pos (nI_lt hq (by omega))]
        by_cases hpq : p = q
        · rw [if_pos (by rw [hpq])]
          exact no (by
            cases e : (j_fs h C L y q).testBit p
            · rfl
            · exact absurd hpq (fsub e).1)
        rw [if_neg (by rw [nI_eq (by omega) (by omega)]; exact hpq), b_shr y hy7 p (by omega), b_shr y hy7 q (by omega)]
        by_cases hbp : y.testBit p = true
        case neg =>
          rw [if_neg (by rw [if_neg hbp]; decide)]
          exact no (by
            cases e : (j_fs h C L y q).testBit p
            · rfl
            · exact absurd (fsub e).2.1 hbp)
        rw [if_pos (by rw [if_pos hbp])]
        by_cases hbq : y.testBit q = true
        case neg =>
          rw [if_neg (by rw [if_neg hbq]; decide)]
          exact no (by
            cases e : (j_fs h C L y q).testBit p
            · rfl
            · exact absurd (fsub e).2.2 hbq)
        rw [if_pos (by rw [if_pos hbq])]
        have r60 : s 60 = z0 60 := b2 60 (by decide)
        have r61 : s 61 = z0 61 := b2 61 (by decide)
        have r62 : s 62 = z0 62 := b2 62 (by decide)
        obtain ⟨t, e1, f1⟩ := m_fnR (T := T) ks hw hS et hy hyS (by rw [r60, r61, r62]; exact tb) (by rw [r61]; exact gx) (show q < 7 by omega) hbq (show p < 7 by omega) hbp
        rw [f_X6_endOf_83, if_neg (by decide), m_eq_bind e1]
        dsimp only
        by_cases hj : (j_fs h C L y q).testBit p = true
        · rw [if_neg (by rw [if_pos hj]; decide), m_ix, if_pos pin, nI_clamp (by omega), nI_1]
          exact ⟨_, done t 1 f1 (by rw [if_pos hj]), rfl⟩
        · rw [if_pos (by rw [if_neg hj]), m_ix, if_pos pin, nI_clamp (by omega), nI_1]
          exact ⟨_, done t 0 f1 (by rw [if_neg hj]), rfl⟩
      · intro g s hs
        obtain ⟨b1, b2, b3, b4⟩ := hs
        try simp only
        rw [f_X6_endOf_44, (m_RJ_sc k b1).1.1, if_neg (nI_nlt (Nat.le_refl _) (by omega))]
        refine ⟨s, rfl, b1, b2, fun p' q h1 h2 => ?_⟩
        rcases Nat.lt_or_ge p' p with hl | hl
        · exact b3 p' q hl h2
        · rw [show p' = p by omega]; exact b4 q h2
    obtain ⟨z', e', i1, i2, i3⟩ := inner
    exact ⟨z', ⟨i1, i2, i3⟩, by rw [← nI_1]; exact e'⟩
  · intro f s hs
    obtain ⟨a1, a2, a3⟩ := hs
    try simp only
    rw [f_X6_endOf_33, (m_RJ_sc k a1).1.1, if_neg (nI_nlt (Nat.le_refl _) (by omega))]
    exact ⟨s, rfl, a1, a2, a3⟩
theorem m_endOfR {z : px_S} {S y : Nat} {L : Nat → Nat} {W : Nat → Int32} (k : m_RJ z h C) (hw : m_HW h) (hS : S < 2 ^ h 4 0) (et : j_ET h C S y L W) (hy : y ≤ S) (hyS : m_dif y S = 0) (tb : j_tb h C S y L W (z 60) (z 62) (z 61)) (gx : ∀ p, p < 7 → y.testBit p = true → z 61 (7 * y + p) = j_gd h C p y (m_pop y)) : ∃ z', f_X6_endOf T (nI y) z = some z' ∧ m_sc z z' ∧ m_RE h C S (y + 1) z' := by
  have hn := hw.1
  have hk := hw.2.2.2.1
  have hS7 : S < 128 := Nat.lt_of_lt_of_le hS (m_pow7 hn)
  have hy7 : y < 128 := by omega
  have hyn : y < 2 ^ h 4 0 := by omega
  have hm : m_pop y < 8 := by have := m_pop_le y; omega
  have pin : px_in (nI y) 128 := m_px hy7 (by omega)
  rw [f_X6_endOf, if_pos pin, if_pos pin, m_eq_bind (b_bits y hy7), nI_clamp (by omega), k.1.2.2.2.1]
  obtain ⟨z0, ez0⟩ : ∃ z0, z0 = up (up z 60 y (nI y)) 62 y (-1) := ⟨_, rfl⟩
  rw [← ez0]
  have c0 : m_sc z z0 := by rw [ez0]; exact m_sc_up (m_sc_up (m_sc_refl _) (by omega) _ _) (by omega) _ _
  have u0 : ∀ u, z0 60 u = if u = y then nI y else z 60 u := fun u => by
    rw [ez0, m_up_row _ _ _ _ (show (60 : Nat) ≠ 62 by decide), m_up, if_pos rfl]
  have v0 : ∀ u, z0 62 u = if u = y then -1 else z 62 u := fun u => by
    rw [ez0, m_up, if_pos rfl, m_up_row _ _ _ _ (show (62 : Nat) ≠ 60 by decide)]
  have w0 : z0 61 = z 61 := by
    rw [ez0, m_up_row _ _ _ _ (by decide), m_up_row _ _ _ _ (by decide)]
  have fsub := fun q p hq hp e => j_fs_sub (p := p) (q := q) hS7 hy hyS et hq hp e
  by_cases g : h 7 0 < m_pop y
  case neg =>
    rw [if_neg (nI_nlt (by omega) (by omega))]
    refine ⟨z0, rfl, c0, _, _, j_ET_next (l := y) (w := -1) hy7 et ⟨-1, Or.inl ⟨rfl, rfl, fun b hb q hq => ?_⟩⟩ (Or.inl ⟨rfl, rfl⟩), by rw [w0]; exact j_tb_next tb u0 v0 gx⟩
    show j_g (j_fs h C L y q) (h 7 0) b = false
    cases e : j_g (j_fs h C L y q) (h 7 0) b
    · rfl
    · exfalso
      have gi := (j_g_iff hb).mp e
      cases yq : y.testBit q
      · rw [j_fs_out yq, j_g_zero hk.1 hb] at e; cases e
      · have sub : m_dif b (m_dif y (2 ^ q)) = 0 := (m_sub hb).mpr (fun j hj hbj => by
          have := fsub q j hq hj (gi.1 j hj hbj)
          rw [m_dq hj, this.2.1]; simp [this.1])
        have := c_mono b hb _ (m_dif_lt hy7) sub
        have := c_popd y hy7 q hq yq
        omega
  rw [if_pos (nI_lt g (by omega)), m_eq_bind (b_bits y hy7)]
  have tb0 : j_tb h C S y L W (z0 60) (z0 62) (z0 61) := by
    intro u hu huS
    have t := tb u hu huS
    rw [u0, v0, w0, if_neg (by omega), if_neg (by omega)]
    exact t
  obtain ⟨z1, e1, f1, g1, jt⟩ := m_tabR (z := z) (T := T) (m_RJ_sc k c0) hw hS et hy hyS tb0 (by rw [w0]; exact gx)
  rw [e1]
  have k1 := m_RJ_sc k (m_sc_tr c0 f1)
  have r60 : z1 60 = z0 60 := g1 60 (by decide)
  have r61 : z1 61 = z 61 := by rw [g1 61 (by decide), w0]
  have r62 : z1 62 = z0 62 := g1 62 (by decide)
  have c1 := m_sc_tr c0 f1
  rcases m_bandsR (T := T) (z := z1) (y := y) (A := j_fs h C L y) (k := h 7 0) (l := fun q => L (m_dif y (2 ^ q))) hn hk k1.1.1 k1.1.2.2.2.1 jt hyn (by rw [r62, v0, if_pos rfl]) fsub (fun q hq hb => by
      have d := m_dq0 hy7 hq hb hyS
      rw [r60, u0, if_neg (by omega)]; exact (tb _ d.1 d.2).1) (fun q => j_fs_lt _ _ _ _ _) with ⟨e2, hno⟩ | ⟨b, q, hb, hq, e2, yq, hg, h1, h2⟩
  · exact ⟨z1, e2, c1, _, _, j_ET_next (l := y) (w := -1) hy7 et ⟨-1, Or.inl ⟨rfl, rfl, hno⟩⟩ (Or.inl ⟨rfl, rfl⟩), by rw [r60, r61, r62]; exact j_tb_next tb u0 v0 gx⟩
  · refine ⟨_, e2, m_sc_up (m_sc_up c1 (by omega) _ _) (by omega) _ _, _, _, j_ET_next (l := L (m_dif y (2 ^ q))) (w := nI q) hy7 et ⟨nI b, Or.inr ⟨b, q, hb, hq, rfl, rfl, hg, h1, h2⟩⟩ (Or.inr ⟨q, hq, yq, rfl, rfl⟩), ?_⟩
    have r3 : (up (up z1 62 y (nI q)) 60 y (nI (L (m_dif y (2 ^ q))))) 61 = z 61 := by
      rw [m_up_row _ _ _ _ (by decide), m_up_row _ _ _ _ (by decide), r61]
    rw [r3]
    refine j_tb_next tb (fun u => ?_) (fun u => ?_) gx
    · rw [m_up, if_pos rfl, m_up_row _ _ _ _ (show (60 : Nat) ≠ 62 by decide), r60, u0]
      by_cases e : u = y
      · rw [if_pos e, if_pos e]
      · rw [if_neg e, if_neg e, if_neg e]
    · rw [m_up_row _ _ _ _ (show (62 : Nat) ≠ 60 by decide), m_up, if_pos rfl, r62, v0]
      by_cases e : u = y
      · rw [if_pos e, if_pos e]
      · rw [if_neg e, if_neg e, if_neg e]
theorem m_foresR {st : px_S} {S : Nat} (k : m_RJ st h C) (hw : m_HW h) (hS : S < 2 ^ h 4 0) : ∃ st', f_X6_foresees T (nI S) st = some st' ∧ m_sc st st' ∧ m_RE h C S (S + 1) st' := by
  have hn := hw.1
  have hS7 : S < 128 := Nat.lt_of_lt_of_le hS (m_pow7 hn)
  have h27 := m_pow7 hn
  rw [f_X6_foresees]
  refine m_for (σ := px_S) (fun n i s => f_X6_foresees_2 T n (nI S) (nI i) s) (2 ^ h 4 0) (fun i s => m_sc st s ∧ m_RE h C S i s) (fun r => ∃ st', r = some st' ∧ m_sc st st' ∧ m_RE h C S (S + 1) st') ?_ ?_ (2 ^ h 4 0) 0 st 1000 (by omega) ⟨m_sc_refl _, fun _ => 0, fun _ => 0, fun y hy => by omega, fun y hy => by omega⟩ (by omega)
  · intro n i s hi hs
    obtain ⟨a1, L, W, b1, b2⟩ := hs
    left
    have hi7 : i < 128 := by omega
    try simp only
    rw [f_X6_foresees_2, (m_RJ_sc k a1).1.1, b_sh1 _ (by omega), if_pos (nI_lt hi (by omega))]
    by_cases g : m_dif i S = 0
    · have hiS := m_sub_le hi7 g
      rw [if_pos ((m_dif0 hi7 hS7).mpr g)]
      have inner : ∃ z', f_X6_foresees_22 T (f_X6_foresees_2 T n) 1000 (nI S) (nI i) 0 s = f_X6_foresees_2 T n (nI S) (nI i + 1) z' ∧ m_sc st z' ∧ m_RE h C S (i + 1) z' := by
        refine m_for (σ := px_S) (fun f p z => f_X6_foresees_22 T (f_X6_foresees_2 T n) f (nI S) (nI i) (nI p) z) (h 4 0) (fun p z => m_sc st z ∧ j_tb h C S i L W (z 60) (z 62) (z 61) ∧ ∀ p', p' < p → i.testBit p' = true → z 61 (7 * i + p') = j_gd h C p' i (m_pop i)) (fun R => ∃ z', R = f_X6_foresees_2 T n (nI S) (nI i + 1) z' ∧ m_sc st z' ∧ m_RE h C S (i + 1) z') ?_ ?_ (h 4 0) 0 s 1000 (by omega) ⟨a1, b2, fun p hp => by omega⟩ (by omega)
        · intro f p z hp hz
          obtain ⟨c1, c2, c3⟩ := hz
          left
          have kz := m_RJ_sc k c1
          try simp only
          rw [f_X6_foresees_22, kz.1.1, if_pos (nI_lt hp (by omega)), b_shr i hi7 p (by omega)]
          by_cases hb : i.testBit p = true
          · obtain ⟨t1, e1, g1⟩ := m_goodR (T := T) kz hw hp hi (c_pop2 i hi7 p (by omega) hb)
            rw [if_pos (by rw [if_pos hb]), m_eq_bind e1, m_ix, if_pos (m_px (by omega) (by omega)), nI_clamp (by omega), nI_1]
            have r60 : t1 60 = z 60 := g1.1 60 (by decide)
            have r61 : t1 61 = z 61 := g1.1 61 (by decide)
            have r62 : t1 62 = z 62 := g1.1 62 (by decide)
            refine ⟨up t1 61 (7 * i + p) (j_gd h C p i (m_pop i)), ⟨m_sc_up (m_sc_tr c1 (m_rs_sc g1)) (by omega) _ _, ?_, fun p' hp' hbp => ?_⟩, rfl⟩
            · rw [m_up_row _ _ _ _ (show (60 : Nat) ≠ 61 by decide), m_up_row _ _ _ _ (show (62 : Nat) ≠ 61 by decide), r60, r62]
              intro u hu huS
              have t := c2 u hu huS
              refine ⟨t.1, t.2.1, fun p' hp' hbp => ?_⟩
              rw [m_up, if_pos rfl, if_neg (by omega), r61]; exact t.2.2 p' hp' hbp
            · rw [m_up, if_pos rfl]
              rcases Nat.lt_or_ge p' p with hl | hl
              · rw [if_neg (by omega), r61]; exact c3 p' hl hbp
              · rw [if_pos (by omega), show p' = p by omega]
          · rw [if_neg (by rw [if_neg hb]; decide), nI_1]
            refine ⟨z, ⟨c1, c2, fun p' hp' hbp => ?_⟩, rfl⟩
            rcases Nat.lt_or_ge p' p with hl | hl
            · exact c3 p' hl hbp
            · rw [show p' = p by omega] at hbp; exact absurd hbp hb
        · intro f z hz
          obtain ⟨c1, c2, c3⟩ := hz
          have kz := m_RJ_sc k c1
          try simp only
          rw [f_X6_foresees_22, kz.1.1, if_neg (nI_nlt (Nat.le_refl _) (by omega))]
          obtain ⟨z', e1, f1, g1⟩ := m_endOfR (T := T) kz hw hS b1 hiS g c2 (fun p _ hbp => c3 p (m_bit_lt hi hbp) hbp)
          rw [m_eq_bind e1]
          exact ⟨z', rfl, m_sc_tr c1 f1, g1⟩
      obtain ⟨z', e', i1, i2⟩ := inner
      exact ⟨z', ⟨i1, i2⟩, by rw [← nI_1]; exact e'⟩
    · rw [if_neg (fun e => g ((m_dif0 hi7 hS7).mp e)), nI_1]
      have nx : ∀ y, y < i + 1 → m_dif y S = 0 → y < i := fun y hy hyS => by
        rcases Nat.lt_or_ge y i with hl | hl
        · exact hl
        · rw [show y = i by omega] at hyS; exact absurd hyS g
      exact ⟨s, ⟨a1, L, W, fun y hy hyS => b1 y (nx y hy hyS) hyS, fun y hy hyS => b2 y (nx y hy hyS) hyS⟩, rfl⟩
  · intro n s hs
    obtain ⟨a1, L, W, b1, b2⟩ := hs
    try simp only
    rw [f_X6_foresees_2, (m_RJ_sc k a1).1.1, b_sh1 _ (by omega), if_neg (nI_nlt (Nat.le_refl _) (by omega))]
    exact ⟨s, rfl, a1, L, W, fun y hy hyS => b1 y (by omega) hyS, fun y hy hyS => b2 y (by omega) hyS⟩
end
theorem c_all : ∀ n, n < 8 → ∀ b, b < 128 → (m_dif b (2 ^ n - 1) = 0 ↔ b < 2 ^ n) ∧ 2 ^ n - 1 < 128 ∧ nI (2 ^ n) - 1 = nI (2 ^ n - 1) := by decide +kernel
theorem op_end {T : Nat} {st : px_S} (ag : px_ag) (hI : Inv T st) : ∃ T2 st2, px_op12 T st ag T2 st2 ∧ Inv T2 st2 := by
  have hI0 := hI
  obtain ⟨h1, h2, h3, h4, h5, h, hh, him⟩ := hI
  have hh0 := hh
  obtain ⟨hw, h9, hc, hr⟩ := hh
  have hn := hw.1
  have h27 := m_pow7 hn
  have c0 := c_all (h 4 0) (by omega) 0 (by decide)
  have bad : f_X5_end (T + 2) (ag 1) (ag 2) st = some (-2, st) → f_X6_end T (ag 1) (ag 2) st = some (-2, st) → ∃ T2 st2, px_op12 T st ag T2 st2 ∧ Inv T2 st2 := fun e1 e2 => ⟨T, st, ⟨rfl, _, st, e1, e2⟩, hI0⟩
  have ev : f_X0_everyone (T + 2) st 1 = some (nI (2 ^ h 4 0 - 1)) := by rw [f_X0_everyone, hc.1, b_bit _ (by omega), c0.2.2]
  have hall : ∀ s : px_S, s 48 11 = nI (h 4 0) → ((1 : Int32) <<< ((s 48 11) &&& 31)) - 1 = nI (2 ^ h 4 0 - 1) := fun s hs => by rw [hs, b_sh1 _ (by omega), c0.2.2]
  have i1 := m_i (ag 1) 0 (nI (2 ^ h 4 0 - 1)) (A := 0) (B := (nI (2 ^ h 4 0 - 1)).toInt64) rfl rfl
  have i2 := m_i (ag 2) 0 1 (A := 0) (B := 1) rfl rfl
  by_cases q1 : ag 1 < 0
  · exact bad (by rw [f_X5_end, if_pos q1]) (by rw [f_X6_end, hall st hr.1, if_pos (i1.mpr (Or.inl q1))])
  by_cases q2 : nI (2 ^ h 4 0 - 1) < ag 1
  · refine bad ?_ (by rw [f_X6_end, hall st hr.1, if_pos (i1.mpr (Or.inr q2))])
    rw [f_X5_end, if_neg q1, m_eq_bind ev, if_neg (fun g => ?_)]
    obtain ⟨b, hb, eb, d⟩ := m_band_of c0.2.1 g
    have := ((c_all (h 4 0) (by omega) b hb).1).mp d
    rw [eb] at q2
    exact nI_nlt (show b ≤ 2 ^ h 4 0 - 1 by omega) (by omega) q2
  obtain ⟨S, hS, eS⟩ := m_rng' (n := 2 ^ h 4 0 - 1) (by omega) q1 q2
  have hp : 0 < 2 ^ h 4 0 := Nat.two_pow_pos _
  have hSn : S < 2 ^ h 4 0 := by omega
  have hS7 : S < 128 := by omega
  have n1 : ¬ p_X6_in (ag 1).toInt64 0 (nI (2 ^ h 4 0 - 1)).toInt64 = 0 := fun g => (i1.mp g).elim q1 q2
  have z1 : ag 1 &&& (nI (2 ^ h 4 0 - 1) ^^^ (-1)) = 0 := by rw [eS]; exact (m_dif0 hS7 c0.2.1).mpr ((c_all (h 4 0) (by omega) S hS7).1.mpr hSn)
  by_cases q3 : ag 2 < 0
  · exact bad (by rw [f_X5_end, if_neg q1, m_eq_bind ev, if_pos z1, if_pos q3]) (by rw [f_X6_end, hall st hr.1, if_neg n1, if_pos (i2.mpr (Or.inl q3))])
  by_cases q4 : 1 < ag 2
  · exact bad (by rw [f_X5_end, if_neg q1, m_eq_bind ev, if_pos z1, if_neg q3, if_pos q4]) (by rw [f_X6_end, hall st hr.1, if_neg n1, if_pos (i2.mpr (Or.inr q4))])
  have n2 : ¬ p_X6_in (ag 2).toInt64 0 1 = 0 := fun g => (i2.mp g).elim q3 q4
  obtain ⟨C, s1, e1, f1, j1, _, r1, rj⟩ := m_thinkC h1 h3 hh0
  obtain ⟨s2, e2, f2, L, W, et, tb⟩ := m_foresC j1 hw hSn
  have f12 : m_fr m_TF st s2 := m_fr_tr (m_TFt f1) (m_TFj (m_f6j f2))
  have r2 : (s2 11 1).toNatClampNeg < 70 + 2 * T := by rw [f2 11 (by decide)]; exact r1
  have rj2 : m_RJ s2 h C := m_RJ_fr rj (fun a h1 h2 => f12 a (by simp [m_TF]; omega))
  obtain ⟨s3, e3, f3, L', W', et', tb'⟩ := m_foresR (T := T) rj2 hw hSn
  have dS := m_dself hS7
  have u := j_ET_uni (by omega) et et' 128 S hS7 (by omega) dS
  have t1 := tb S (by omega) dS
  have t2 := tb' S (by omega) dS
  have pin : px_in (nI S) 128 := m_px hS7 (by omega)
  have fin : Inv T s3 := Inv_sc hI0 f12 r2 f3
  have h11 : s2 48 11 = nI (h 4 0) := rj2.1.1
  by_cases q5 : ag 2 = 0
  · refine ⟨T, s3, ⟨rfl, nI (L S), s2, ?_, ?_⟩, fin⟩
    · rw [f_X5_end, if_neg q1, m_eq_bind ev, if_pos z1, if_neg q3, if_neg q4, m_eq_bind e1, eS, m_eq_bind e2, if_pos q5, if_pos pin, nI_clamp (by omega), t1.1]
    · rw [f_X6_end, hall s2 h11, if_neg n1, if_neg n2, eS, m_eq_bind e3, if_pos q5, if_pos pin, nI_clamp (by omega), t2.1, u.1]
  · refine ⟨T, s3, ⟨rfl, W S, s2, ?_, ?_⟩, fin⟩
    · rw [f_X5_end, if_neg q1, m_eq_bind ev, if_pos z1, if_neg q3, if_neg q4, m_eq_bind e1, eS, m_eq_bind e2, if_neg q5, if_pos pin, nI_clamp (by omega), t1.2.1]
    · rw [f_X6_end, hall s2 h11, if_neg n1, if_neg n2, eS, m_eq_bind e3, if_neg q5, if_pos pin, nI_clamp (by omega), t2.2.1, u.2]
