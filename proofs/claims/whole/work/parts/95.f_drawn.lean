section
variable {T : Nat} {C : Nat → List Int32}
theorem j_mn_all {s k n : Nat} (hn : n ≤ 7) (hs : s < 2 ^ n) : j_mn s k (2 ^ n) = j_cn s k := by
  have h128 := m_pow7 hn
  unfold j_mn j_cn
  have := j_su_tail (f := fun b => (j_g s k b).toNat) (N := 2 ^ n) (128 - 2 ^ n) (fun i h1 h2 => by
    cases e : j_g s k i
    · rfl
    · have := j_g_lt hn hs (show i < 128 by omega) e; omega)
  rw [show 2 ^ n + (128 - 2 ^ n) = 128 by omega] at this
  exact this.symm
theorem j_mn1 {s k : Nat} (hk : 2 ≤ k) : j_mn s k 1 = 0 := by unfold j_mn; simp [j_su, j_g_0 hk]
theorem m_meetsR {h : px_H} {st : px_S} (hw : m_HW h) (k : m_RJ st h C) {t : Nat} (ht : t < j_cn (h 5 0) (h 7 0 + 1)) : ∃ M v st', f_X6_meets T (nI t) st = some st' ∧ M < 128 ∧ j_g (h 5 0) (h 7 0 + 1) M = true ∧ j_mn (h 5 0) (h 7 0 + 1) M = t ∧ j_los h C M v ∧ ∃ s1, m_sc st s1 ∧ ((v = -1 ∧ st' = s1) ∨ ∃ q, q < 7 ∧ v = nI q ∧ st' = up s1 48 12 (nI (m_dif (h 5 0) (2 ^ q)))) := by
  have hn := hw.1
  have h128 := m_pow7 hn
  have hpos : 1 ≤ 2 ^ h 4 0 := Nat.two_pow_pos _
  have hs7 : h 5 0 < 128 := Nat.lt_of_lt_of_le hw.2.1 h128
  have hk := hw.2.2.2.1
  have h35 := c_35 (h 5 0) hs7 (h 7 0 + 1) (by omega) (by omega)
  have fin : ∀ M, M < 128 → j_g (h 5 0) (h 7 0 + 1) M = true → j_mn (h 5 0) (h 7 0 + 1) M = t → ∃ N v st', f_X6_meets_60 T (nI M) st = some st' ∧ N < 128 ∧ j_g (h 5 0) (h 7 0 + 1) N = true ∧ j_mn (h 5 0) (h 7 0 + 1) N = t ∧ j_los h C N v ∧ ∃ s1, m_sc st s1 ∧ ((v = -1 ∧ st' = s1) ∨ ∃ q, q < 7 ∧ v = nI q ∧ st' = up s1 48 12 (nI (m_dif (h 5 0) (2 ^ q)))) := fun M hM hg hmn => by
    obtain ⟨s1, a1, a2, a3, _⟩ := m_looksR (T := T) k hw hw.2.1
    obtain ⟨v, st', b1, b2, b3⟩ := m_meet74 (T := T) hw (m_RJ_sc k a2) a3 hM hg
    exact ⟨M, v, st', by rw [f_X6_meets_60, k.1.2.1, m_eq_bind a1, b1], hM, hg, hmn, b2, s1, a2, b3⟩
  rw [f_X6_meets]
  refine m_for (σ := Int32 × Int32) (fun f i z => f_X6_meets_7 T f z.1 z.2 (nI i) st) (2 ^ h 4 0) (fun i z => (j_mn (h 5 0) (h 7 0 + 1) i ≤ t ∧ z.2 = nI (t - j_mn (h 5 0) (h 7 0 + 1) i)) ∨ (z.2 = -1 ∧ ∃ M, M < 128 ∧ j_g (h 5 0) (h 7 0 + 1) M = true ∧ j_mn (h 5 0) (h 7 0 + 1) M = t ∧ z.1 = nI M)) (fun r => ∃ M v st', r = some st' ∧ M < 128 ∧ j_g (h 5 0) (h 7 0 + 1) M = true ∧ j_mn (h 5 0) (h 7 0 + 1) M = t ∧ j_los h C M v ∧ ∃ s1, m_sc st s1 ∧ ((v = -1 ∧ st' = s1) ∨ ∃ q, q < 7 ∧ v = nI q ∧ st' = up s1 48 12 (nI (m_dif (h 5 0) (2 ^ q))))) ?_ ?_ (2 ^ h 4 0 - 1) 1 (0, nI t) 1000 (by omega) (Or.inl ⟨by rw [j_mn1 (by omega)]; omega, by rw [j_mn1 (by omega)]; rfl⟩) (by omega)
  · intro f i z hi hz
    obtain ⟨z1, z2⟩ := z
    simp only at hz ⊢
    rw [f_X6_meets_7, k.1.1, b_sh1 _ (by omega), if_pos (nI_lt hi (by omega))]
    rcases hz with ⟨c1, c2⟩ | ⟨c1, M, c2, c3, c4, c5⟩
    case inr =>
      right
      rw [c1, if_pos (by decide), c5]
      exact fin M c2 c3 c4
    left
    have hi7 : i < 128 := by omega
    have hpi := m_pop_le i
    have skip : j_g (h 5 0) (h 7 0 + 1) i = false → ∃ s' : Int32 × Int32, ((j_mn (h 5 0) (h 7 0 + 1) (i + 1) ≤ t ∧ s'.2 = nI (t - j_mn (h 5 0) (h 7 0 + 1) (i + 1))) ∨ (s'.2 = -1 ∧ ∃ M, M < 128 ∧ j_g (h 5 0) (h 7 0 + 1) M = true ∧ j_mn (h 5 0) (h 7 0 + 1) M = t ∧ s'.1 = nI M)) ∧ f_X6_meets_7 T f z1 z2 (nI i + 1) st = f_X6_meets_7 T f s'.1 s'.2 (nI (i + 1)) st := fun hg => by
      have e : j_mn (h 5 0) (h 7 0 + 1) (i + 1) = j_mn (h 5 0) (h 7 0 + 1) i := by unfold j_mn; rw [j_su_s, hg]; rfl
      exact ⟨(z1, z2), Or.inl ⟨by rw [e]; exact c1, by rw [e]; exact c2⟩, by rw [nI_1]⟩
    rw [if_neg (by rw [c2]; exact nI_pos (by omega)), k.1.2.1, k.1.2.2.2.1, nI_1 (h 7 0)]
    by_cases g1 : m_dif i (h 5 0) = 0
    · rw [if_pos ((m_dif0 hi7 hs7).mpr g1), m_eq_bind (b_bits i hi7)]
      by_cases g2 : m_pop i = h 7 0 + 1
      · have hg : j_g (h 5 0) (h 7 0 + 1) i = true := by unfold j_g; simp [g1, g2]
        have e : j_mn (h 5 0) (h 7 0 + 1) (i + 1) = j_mn (h 5 0) (h 7 0 + 1) i + 1 := by unfold j_mn; rw [j_su_s, hg]; rfl
        rw [if_pos (by rw [g2]), nI_1]
        refine ⟨(nI i, z2 + (-1)), ?_, rfl⟩
        rcases Nat.lt_or_ge (j_mn (h 5 0) (h 7 0 + 1) i) t with hl | hl
        · refine Or.inl ⟨by rw [e]; omega, ?_⟩
          simp only
          rw [c2, e, show t - j_mn (h 5 0) (h 7 0 + 1) i = (t - (j_mn (h 5 0) (h 7 0 + 1) i + 1)) + 1 by omega, pk_m1]
        · refine Or.inr ⟨?_, i, hi7, hg, by omega, rfl⟩
          simp only
          rw [c2, show t - j_mn (h 5 0) (h 7 0 + 1) i = 0 by omega]; rfl
      · rw [if_neg (by rw [nI_eq (by omega) (by omega)]; exact g2)]
        exact skip (by unfold j_g; simp [g2])
    · rw [if_neg (fun g => g1 ((m_dif0 hi7 hs7).mp g))]
      exact skip (by unfold j_g; simp [g1])
  · intro f z hz
    obtain ⟨z1, z2⟩ := z
    simp only at hz ⊢
    rw [f_X6_meets_7, k.1.1, b_sh1 _ (by omega), if_neg (nI_nlt (Nat.le_refl _) (by omega))]
    rcases hz with ⟨c1, c2⟩ | ⟨c1, M, c2, c3, c4, c5⟩
    · rw [j_mn_all hn hw.2.1] at c1; omega
    · rw [c5]; exact fin M c2 c3 c4
theorem m_draw41 {h : px_H} {st : px_S} {K : Int32 → Int32 → Int32 → Int32 → Int32 → px_S → Option (Int32 × px_S)} (hw : m_HW h) (k : m_RJ st h C) (y2 y3 y4 z y6 : Int32) : ∃ (h' : px_H) (st' : px_S), f_X6_draws_41 T K 1000 y2 y3 y4 z y6 0 1 st = K y2 y3 y4 z (y6 + 1) st' ∧ j_D C h (m_zz z) h' ∧ m_HW h' ∧ m_RJ st' h' C ∧ (∀ a, a ≠ 48 → ¬ (56 ≤ a ∧ a ≤ 62) → st' a = st a) ∧ (∀ j, ¬ (j = 12 ∨ j = 15 ∨ 16 ≤ j ∧ j ≤ 47) → st' 48 j = st 48 j) := by
  have hn := hw.1
  have h128 := m_pow7 hn
  have hpos : 1 ≤ 2 ^ h 4 0 := Nat.two_pow_pos _
  have hs7 : h 5 0 < 128 := Nat.lt_of_lt_of_le hw.2.1 h128
  have hk := hw.2.2.2.1
  have h35 := c_35 (h 5 0) hs7 (h 7 0 + 1) (by omega) (by omega)
  refine m_for (σ := Int32) (fun f i y => f_X6_draws_41 T K f y2 y3 y4 z y6 y (nI i) st) (2 ^ h 4 0) (fun i y => y = nI (j_mn (h 5 0) (h 7 0 + 1) i)) (fun r => ∃ (h' : px_H) (st' : px_S), r = K y2 y3 y4 z (y6 + 1) st' ∧ j_D C h (m_zz z) h' ∧ m_HW h' ∧ m_RJ st' h' C ∧ (∀ a, a ≠ 48 → ¬ (56 ≤ a ∧ a ≤ 62) → st' a = st a) ∧ (∀ j, ¬ (j = 12 ∨ j = 15 ∨ 16 ≤ j ∧ j ≤ 47) → st' 48 j = st 48 j)) ?_ ?_ (2 ^ h 4 0 - 1) 1 0 1000 (by omega) (by rw [j_mn1 (by omega)]; rfl) (by omega)
  · intro f i y hi hy
    left
    have hi7 : i < 128 := by omega
    have hpi := m_pop_le i
    have skip : j_g (h 5 0) (h 7 0 + 1) i = false → ∃ s' : Int32, s' = nI (j_mn (h 5 0) (h 7 0 + 1) (i + 1)) ∧ f_X6_draws_41 T K f y2 y3 y4 z y6 (y + 0) (nI i + 1) st = f_X6_draws_41 T K f y2 y3 y4 z y6 s' (nI (i + 1)) st := fun hg => ⟨y, by rw [hy]; unfold j_mn; rw [j_su_s, hg]; rfl, by rw [nI_1, Int32.add_zero]⟩
    rw [f_X6_draws_41, k.1.1, b_sh1 _ (by omega), if_pos (nI_lt hi (by omega)), k.1.2.1, k.1.2.2.2.1, nI_1 (h 7 0)]
    by_cases g1 : m_dif i (h 5 0) = 0
    · rw [if_pos ((m_dif0 hi7 hs7).mpr g1), m_eq_bind (b_bits i hi7)]
      by_cases g2 : m_pop i = h 7 0 + 1
      · have hg : j_g (h 5 0) (h 7 0 + 1) i = true := by unfold j_g; simp [g1, g2]
        rw [if_pos (by rw [g2]), nI_1, hy, nI_1]
        exact ⟨_, by unfold j_mn; rw [j_su_s, hg]; rfl, rfl⟩
      · rw [if_neg (by rw [nI_eq (by omega) (by omega)]; exact g2)]
        exact skip (by unfold j_g; simp [g2])
    · rw [if_neg (fun g => g1 ((m_dif0 hi7 hs7).mp g))]
      exact skip (by unfold j_g; simp [g1])
  · intro f y hy
    rw [j_mn_all hn hw.2.1] at hy
    rw [f_X6_draws_41, k.1.1, b_sh1 _ (by omega), if_neg (nI_nlt (Nat.le_refl _) (by omega)), hy]
    have dy : ∀ s1, m_RJ s1 h C → (∀ a, a ≠ 48 → ¬ (56 ≤ a ∧ a ≤ 62) → s1 a = st a) → (∀ j, ¬ (j = 12 ∨ j = 15 ∨ 16 ≤ j ∧ j ≤ 47) → s1 48 j = st 48 j) → j_D C h (m_zz z) (j_dy h) → ∃ (h' : px_H) (st' : px_S), f_X6_draws_111 T K y2 y3 y4 z y6 s1 = K y2 y3 y4 z (y6 + 1) st' ∧ j_D C h (m_zz z) h' ∧ m_HW h' ∧ m_RJ st' h' C ∧ (∀ a, a ≠ 48 → ¬ (56 ≤ a ∧ a ≤ 62) → st' a = st a) ∧ (∀ j, ¬ (j = 12 ∨ j = 15 ∨ 16 ≤ j ∧ j ≤ 47) → st' 48 j = st 48 j) := fun s1 k1 a1 a2 D1 => by
      have e := m_dayR (T := T) hw.2.2.2.2.1 k1.1.2.2.2.2.1
      refine ⟨j_dy h, up s1 48 15 (nI (j_dm (h 8 0))), by rw [f_X6_draws_111, m_eq_bind e]; rfl, D1, j_dy_w hw, m_RJ_set k1 8 (j_dm (h 8 0)) (by omega), fun a ha hb => by rw [m_up_row _ _ _ _ ha]; exact a1 a ha hb, fun j hj => by rw [m_up, if_pos rfl, if_neg (by omega)]; exact a2 j hj⟩
    rcases Nat.eq_zero_or_pos (j_cn (h 5 0) (h 7 0 + 1)) with c0 | c0
    · rw [c0, if_neg (by decide)]
      exact dy st k (fun _ _ _ => rfl) (fun _ _ => rfl) (Or.inl ⟨c0, rfl⟩)
    · have hlt : m_zz z % j_cn (h 5 0) (h 7 0 + 1) < j_cn (h 5 0) (h 7 0 + 1) := Nat.mod_lt _ c0
      rw [if_pos (by rw [show (0 : Int32) = nI 0 from rfl]; exact nI_lt c0 (by omega)), if_neg (nI_ne0 c0 (by omega)), m_zz_eq, pk_rem (m_zz_lt z) c0 (by omega)]
      obtain ⟨M, v, s2, e2, m1, m2, m3, m4, s1, m5, m6⟩ := m_meetsR (T := T) hw k hlt
      rw [m_eq_bind e2]
      have D0 : ∀ h', ((v = -1 ∧ h' = j_dy h) ∨ ∃ q, q < 7 ∧ v = nI q ∧ h' = j_lv h q) → j_D C h (m_zz z) h' := fun h' hh => Or.inr ⟨c0, M, v, m1, m2, m3, m4, hh⟩
      rcases m6 with ⟨v0, rfl⟩ | ⟨q, hq, v0, rfl⟩
      · exact dy s2 (m_RJ_sc k m5) (fun a ha hb => m5.1 a ha hb) (fun j hj => m5.2 j (by omega)) (D0 _ (Or.inl ⟨v0, rfl⟩))
      · obtain ⟨_, x2, x3⟩ := m_lvR (T := T) hw (m_RJ_sc k m5) hq
        refine ⟨j_lv h q, _, by rw [f_X6_draws_111, m_eq_bind x2], D0 _ (Or.inr ⟨q, hq, v0, rfl⟩), j_lv_w hw q, x3, fun a ha hb => by rw [m_up_row _ _ _ _ ha, m_up_row _ _ _ _ ha]; exact m5.1 a ha hb, fun j hj => by rw [m_up, if_pos rfl, if_neg (by omega), m_up, if_pos rfl, if_neg (by omega)]; exact m5.2 j (by omega)⟩
theorem m_drawR {days : Nat} (hd30 : days ≤ 30) (y3 y4 : Int32) : ∀ (d i : Nat) (z : Int32) (st : px_S) (h : px_H) (fuel : Nat), i + d = days → d < fuel → m_HW h → m_RJ st h C → ∃ (f : px_H) (st' : px_S), f_X6_draws_17 T fuel (nI days) y3 y4 z (nI i) st = some (nI (f 5 0), up (up st' 48 12 y3) 48 15 y4) ∧ j_Dn C d h z f ∧ (∀ a, a ≠ 48 → ¬ (56 ≤ a ∧ a ≤ 62) → st' a = st a) ∧ (∀ j, ¬ (j = 12 ∨ j = 15 ∨ 16 ≤ j ∧ j ≤ 47) → st' 48 j = st 48 j) := by
  intro d
  induction d with
  | zero =>
    intro i z st h fuel hi hf hw k
    obtain ⟨fuel, rfl⟩ : ∃ e, fuel = e + 1 := ⟨fuel - 1, by omega⟩
    rw [f_X6_draws_17, show i = days by omega, if_neg (nI_nlt (Nat.le_refl _) (by omega)), k.1.2.1]
    exact ⟨h, st, rfl, rfl, fun _ _ _ => rfl, fun _ _ => rfl⟩
  | succ d ih =>
    intro i z st h fuel hi hf hw k
    obtain ⟨fuel, rfl⟩ : ∃ e, fuel = e + 1 := ⟨fuel - 1, by omega⟩
    rw [f_X6_draws_17, if_pos (nI_lt (by omega) (by omega))]
    obtain ⟨h', s1, e1, a1, a2, a3, a4, a5⟩ := m_draw41 (T := T) (K := f_X6_draws_17 T fuel) hw k (nI days) y3 y4 (j_nz z) (nI i)
    rw [show f_X6_draws_41 T (f_X6_draws_17 T fuel) 1000 (nI days) y3 y4 (z * 1103515245 + 12345) (nI i) 0 1 st = _ from e1, nI_1]
    obtain ⟨f, st', b1, b2, b3, b4⟩ := ih (i + 1) (j_nz z) s1 h' fuel (by omega) (by omega) a2 a3
    exact ⟨f, st', b1, ⟨h', a1, b2⟩, fun a ha hb => (b3 a ha hb).trans (a4 a ha hb), fun j hj => (b4 j hj).trans (a5 j hj)⟩
theorem m_drawR0 {days : Nat} {h : px_H} {st : px_S} (hd30 : days ≤ 30) (hw : m_HW h) (k : m_RJ st h C) (z : Int32) : ∃ (f : px_H) (st' : px_S), f_X6_draws T z (nI days) st = some (nI (f 5 0), st') ∧ j_Dn C days h z f ∧ m_sc st st' := by
  obtain ⟨f, s1, e1, d1, a1, a2⟩ := m_drawR (T := T) hd30 (st 48 12) (st 48 15) days 0 z st h 1000 (by omega) (by omega) hw k
  refine ⟨f, _, by rw [f_X6_draws]; exact e1, d1, fun a ha hb => ?_, fun j hj => ?_⟩
  · rw [m_up_row _ _ _ _ ha, m_up_row _ _ _ _ ha]; exact a1 a ha hb
  · rw [m_up, if_pos rfl]
    by_cases b1 : j = 15
    · rw [if_pos b1, b1]
    · rw [if_neg b1, m_up, if_pos rfl]
      by_cases b2 : j = 12
      · rw [if_pos b2, b2]
      · rw [if_neg b2]; exact a2 j (by omega)
theorem j_Dn_w {a : px_H} : ∀ (d : Nat) (h : px_H) (z : Int32), m_HW h → j_Dn C d h z a → m_HW a
  | 0, h, z, hw, e => by rw [show a = h from e]; exact hw
  | d + 1, h, z, hw, ⟨h', x1, x2⟩ => by
    refine j_Dn_w d h' (j_nz z) ?_ x2
    rcases x1 with ⟨_, e⟩ | ⟨_, M, v, _, _, _, _, ⟨_, e⟩ | ⟨q, _, _, e⟩⟩
    · rw [e]; exact j_dy_w hw
    · rw [e]; exact j_dy_w hw
    · rw [e]; exact j_lv_w hw q
end
theorem op_drawn {T : Nat} {st : px_S} (ag : px_ag) (hI : Inv T st) : ∃ T2 st2, px_op19 T st ag T2 st2 ∧ Inv T2 st2 := by
  have hI0 := hI
  obtain ⟨h1, h2, h3, h4, h5, h, hh, him⟩ := hI
  have hh0 := hh
  obtain ⟨hw, h9, hc, hr⟩ := hh
  have hi := m_i (ag 2) 0 30 (A := 0) (B := 30) rfl rfl
  by_cases q1 : ag 2 < 0
  · exact ⟨T, st, ⟨rfl, -2, st, by rw [f_X5_drawn, if_pos q1], by rw [f_X6_drawn, if_pos (hi.mpr (Or.inl q1))]⟩, hI0⟩
  by_cases q2 : 30 < ag 2
  · exact ⟨T, st, ⟨rfl, -2, st, by rw [f_X5_drawn, if_neg q1, if_pos q2], by rw [f_X6_drawn, if_pos (hi.mpr (Or.inr q2))]⟩, hI0⟩
  obtain ⟨n, hn, en⟩ := m_rng' (n := 30) (by omega) q1 q2
  obtain ⟨C, s0, e0, f0, k0, j0, r0, q0⟩ := m_thinkC h1 h3 hh0
  obtain ⟨f, s1, e1, d1, f1, g1⟩ := m_drawC0 (T := T + 2) hn hw k0 (ag 1)
  have f01 : m_fr m_TF st s1 := m_fr_tr (m_TFt f0) f1
  have jr : m_RJ s1 h C := m_RJ_fr q0 (fun a h1 h2 => f01 a (by simp [m_TF]; omega))
  obtain ⟨f', s2, e2, d2, f2⟩ := m_drawR0 (T := T) hn hw jr (ag 1)
  have e := j_Dn_uni n h (ag 1) d1 d2
  subst e
  exact ⟨T, s2, ⟨rfl, nI (f 5 0), s1, by rw [f_X5_drawn, if_neg q1, if_neg q2, m_eq_bind e0, en, m_eq_bind e1], by rw [f_X6_drawn, if_neg (fun g => (hi.mp g).elim q1 q2), en, m_eq_bind e2]⟩, Inv_sc hI0 f01 (by rw [g1]; exact r0) f2⟩
