section
variable {T t : Nat} {B : Nat → Int32} {sz : Nat} {F : Nat → Int32}
theorem m_partR {st : px_S} {i : Nat} {key : Int32} (h : m_RS st t B sz i) (hs : m_sets 0 st F) (hk : key ≠ -22 ∧ key ≠ -23) {x : Int32} (hx : x = if (m_tk (m_lx B sz 0)) i = key then 1 else 0) :
    ∃ v st', f_X6_part T x st = some (v, st') ∧ m_f48 m_rf st st' ∧ (if (m_part (m_tk (m_lx B sz 0)) key i).1 then m_RS st' t B sz (m_part (m_tk (m_lx B sz 0)) key i).2.2 ∧ m_sets 0 st' F ∧ (∀ s, m_ev F (m_part (m_tk (m_lx B sz 0)) key i).2.1 s = v :: s) else m_bad st' (m_pl (m_lx B sz 0) sz (m_part (m_tk (m_lx B sz 0)) key i).2.2)) := by
  rw [f_X6_part, hx]
  by_cases hi : (m_tk (m_lx B sz 0)) i = key
  · rw [if_pos hi, if_neg (by decide), f_X6_part_8, if_pos h.2.1]
    obtain ⟨s1, e1, f1, r1⟩ := m_adv (T := T) h (by rw [hi]; exact hk.1) (by rw [hi]; exact hk.2)
    have hs1 := m_sets_fr hs (m_mono4 f1) (by rw [f1.2 28 (by decide)]; exact hs.1)
    rw [m_eq_bind e1, f_X6_part_19, if_pos r1.2.1]
    obtain ⟨v, s2, e2, f2, r2⟩ := m_rd_either0 (T := T) (F := F) 40 s1 (i + 1) (by decide) r1 hs1
    have f12 := m_f48_tr (m_mono4 f1) f2
    rw [m_eq_bind e2, f_X6_part_34]
    by_cases hq : (m_lvl (m_tk (m_lx B sz 0)) 40 0 0 (i + 1)).1
    · rw [m_res, if_pos hq] at r2
      obtain ⟨r2, o2, v2⟩ := r2
      rw [m_eq_bind (m_isS_59 r2)]
      by_cases h18 : (m_tk (m_lx B sz 0)) (m_lvl (m_tk (m_lx B sz 0)) 40 0 0 (i + 1)).2.2 = -18
      · have em : m_part (m_tk (m_lx B sz 0)) key i = (true, (m_lvl (m_tk (m_lx B sz 0)) 40 0 0 (i + 1)).2.1, (m_lvl (m_tk (m_lx B sz 0)) 40 0 0 (i + 1)).2.2 + 1) := by rw [m_part, if_pos hi, if_pos hq, if_pos h18]
        rw [if_pos h18, if_neg (by decide), f_X6_part_48, if_pos r2.2.1]
        obtain ⟨s3, e3, f3, r3⟩ := m_adv (T := T) r2 (by rw [h18]; decide) (by rw [h18]; decide)
        rw [m_eq_bind e3, em]
        refine ⟨_, _, rfl, m_f48_tr f12 (m_mono4 f3), ?_⟩
        rw [if_pos rfl]
        exact ⟨r3, m_sets_fr (m_sets_fr hs1 f2 o2) (m_mono4 f3) (by rw [f3.2 28 (by decide)]; exact o2), v2⟩
      · have em : m_part (m_tk (m_lx B sz 0)) key i = (false, (m_lvl (m_tk (m_lx B sz 0)) 40 0 0 (i + 1)).2.1, (m_lvl (m_tk (m_lx B sz 0)) 40 0 0 (i + 1)).2.2) := by rw [m_part, if_pos hi, if_pos hq, if_neg h18]
        obtain ⟨s3, e3, f3, b3⟩ := m_fail (T := T) r2
        rw [if_neg h18, if_pos rfl, m_eq_bind e3, f_X6_part_48, if_neg (by rw [b3.1]; decide), em]
        refine ⟨_, _, rfl, m_f48_tr f12 (m_mono2 f3), ?_⟩
        rw [if_neg (by simp)]
        exact b3
    · have em : m_part (m_tk (m_lx B sz 0)) key i = m_lvl (m_tk (m_lx B sz 0)) 40 0 0 (i + 1) := by rw [m_part, if_pos hi, if_neg hq]
      rw [m_res, if_neg hq] at r2
      rw [m_eq_bind (m_bad_isS r2.1 59), if_pos rfl, m_eq_bind (m_bad_fail r2.1), f_X6_part_48, if_neg (by rw [r2.1]; decide), em]
      refine ⟨_, _, rfl, f12, ?_⟩
      rw [if_neg hq]
      exact r2
  · have em : m_part (m_tk (m_lx B sz 0)) key i = (false, [], i) := by rw [m_part, if_neg hi]
    obtain ⟨s1, e1, f1, b1⟩ := m_fail (T := T) h
    have nb : ¬ (s1 48 29 = 0) := by rw [b1.1]; decide
    rw [if_neg hi, if_pos rfl, m_eq_bind e1, f_X6_part_8, if_neg nb, f_X6_part_19, if_neg nb, f_X6_part_34, m_eq_bind (m_bad_isS b1.1 59), if_pos rfl, m_eq_bind (m_bad_fail b1.1), f_X6_part_48, if_neg nb, em]
    refine ⟨_, _, rfl, m_mono2 f1, ?_⟩
    rw [if_neg (by simp)]
    exact b1
/-- the reference's text t has these bytes -/
def m_reft (st : px_S) (t : Nat) (B : Nat → Int32) (sz : Nat) : Prop := t < 6 ∧ st 50 t = nI sz ∧ sz ≤ 160 ∧ (∀ j, j < sz → st 49 (160 * t + j) = B j) ∧ ∀ j, j < sz → ¬ B j < 0
def m_rg : List Nat := [22, 23, 24, 25, 26, 27, 28, 29, 30]
theorem m_rfg {s u : px_S} (h : m_f48 m_rf s u) : m_f48 m_rg s u := m_f48_mono h (by intro a ha; simp [m_rf, m_rg] at ha ⊢; omega)
theorem m_readR {st : px_S} (hT : m_reft st t B sz) (hF : ∀ j, j < 6 → st 48 (16 + j) = F j) {w : Nat} (hw : w < 3) :
    ∃ v st', f_X6_read T (nI t) (nI w) st = some (v, st') ∧ m_f48 m_rg st st' ∧ (m_ok (m_tk (m_lx B sz 0)) = true → st' 48 29 = 0 ∧ v = m_out (m_ev F (m_C (m_tk (m_lx B sz 0)) w) [])) ∧ (m_ok (m_tk (m_lx B sz 0)) = false → m_bad st' (m_pl (m_lx B sz 0) sz (m_flt (m_tk (m_lx B sz 0))))) := by
  obtain ⟨ht, h50, hsz, h49, hpos⟩ := hT
  rw [f_X6_read, if_pos (m_px ht (by omega)), show (160 : Int32) = nI 160 from rfl, pk_mul, nI_clamp (by omega)]
  obtain ⟨s0, es0⟩ : ∃ s0, s0 = (up (up (up (up (up st 48 22 (nI (160 * t))) 48 23 ((up st 48 22 (nI (160 * t))) 50 t)) 48 24 0) 48 28 0) 48 29 0) := ⟨_, rfl⟩
  rw [← es0]
  have fr0 : m_f48 m_rg st s0 := by
    rw [es0]
    exact m_f48_up (m_f48_up (m_f48_up (m_f48_up (m_f48_up (m_f48_refl _ _) (by simp [m_rg]) _) (by simp [m_rg]) _) (by simp [m_rg]) _) (by simp [m_rg]) _) (by simp [m_rg]) _
  have hrt : m_rt s0 t B sz := by
    refine ⟨by rw [es0]; simp [m_up], by rw [es0]; simp [m_up, h50], fun j hj => ?_, ht, hsz, hpos⟩
    rw [fr0.1 49 (by decide)]; exact h49 j hj
  obtain ⟨s1, e1, f1, r1⟩ := m_start (T := T) hrt (by rw [es0]; simp [m_up]) (by rw [es0]; simp [m_up])
  have hs1 : m_sets 0 s1 F := by
    refine ⟨by rw [f1.2 28 (by decide), es0]; simp [m_up]; rfl, fun j hj => ?_⟩
    rw [f1.2 (16 + j) (by simp; omega), fr0.2 (16 + j) (by simp [m_rg]; omega)]; exact hF j hj
  rw [m_eq_bind e1, m_eq_bind (m_isW_10 r1)]
  obtain ⟨v0, s2, e2, f2, r2⟩ := m_partR (T := T) (F := F) r1 hs1 (key := -19) ⟨by decide, by decide⟩ rfl
  rw [m_eq_bind e2]
  change if (m_P0 (m_tk (m_lx B sz 0))).1 then m_RS s2 t B sz (m_P0 (m_tk (m_lx B sz 0))).2.2 ∧ m_sets 0 s2 F ∧ (∀ s, m_ev F (m_P0 (m_tk (m_lx B sz 0))).2.1 s = v0 :: s) else m_bad s2 (m_pl (m_lx B sz 0) sz (m_P0 (m_tk (m_lx B sz 0))).2.2) at r2
  have g2 := m_f48_tr fr0 (m_rfg (m_f48_tr (m_mono4 f1) f2))
  have l147 : ∀ (a b c : Int32) (s : px_S), ∃ v, f_X6_read_147 T (nI w) a b c s = some (v, s) ∧ v = (if w = 0 then a else if w = 1 then b else c) := by
    intro a b c s
    rw [f_X6_read_147]
    rcases (show w = 0 ∨ w = 1 ∨ w = 2 by omega) with rfl | rfl | rfl
    · exact ⟨a, by rw [if_pos (show nI 0 = 0 from rfl)], rfl⟩
    · exact ⟨b, by rw [if_neg (show ¬ nI 1 = 0 by decide), if_pos (show nI 1 = 1 from rfl)], rfl⟩
    · exact ⟨c, by rw [if_neg (show ¬ nI 2 = 0 by decide), if_neg (show ¬ nI 2 = 1 by decide)], rfl⟩
  by_cases k0 : ¬ ((m_P0 (m_tk (m_lx B sz 0))).1 = true)
  · rw [if_neg k0] at r2
    have nb : ¬ (s2 48 29 = 0) := by rw [r2.1]; decide
    simp only [if_neg nb]
    rw [f_X6_read_93, if_neg nb, f_X6_read_127, if_neg nb]
    obtain ⟨v, ev, _⟩ := l147 v0 0 0 s2
    refine ⟨v, s2, ev, g2, fun h => absurd h (by simp [m_ok, k0]), fun _ => ?_⟩
    rw [m_flt, if_neg k0]; exact r2
  have k0 := Classical.not_not.mp k0
  rw [if_pos k0] at r2
  obtain ⟨r2, hs2, v2⟩ := r2
  simp only [if_pos r2.2.1]
  rw [m_eq_bind (m_isW_11 r2)]
  obtain ⟨v1, s3, e3, f3, r3⟩ := m_partR (T := T) (F := F) r2 hs2 (key := -20) ⟨by decide, by decide⟩ rfl
  rw [m_eq_bind e3]
  change if (m_P1 (m_tk (m_lx B sz 0))).1 then m_RS s3 t B sz (m_P1 (m_tk (m_lx B sz 0))).2.2 ∧ m_sets 0 s3 F ∧ (∀ s, m_ev F (m_P1 (m_tk (m_lx B sz 0))).2.1 s = v1 :: s) else m_bad s3 (m_pl (m_lx B sz 0) sz (m_P1 (m_tk (m_lx B sz 0))).2.2) at r3
  have g3 := m_f48_tr g2 (m_rfg f3)
  by_cases k1 : ¬ ((m_P1 (m_tk (m_lx B sz 0))).1 = true)
  · rw [if_neg k1] at r3
    have nb : ¬ (s3 48 29 = 0) := by rw [r3.1]; decide
    rw [f_X6_read_93, if_neg nb, f_X6_read_127, if_neg nb]
    obtain ⟨v, ev, _⟩ := l147 v0 v1 0 s3
    refine ⟨v, s3, ev, g3, fun h => absurd h (by simp [m_ok, k1]), fun _ => ?_⟩
    rw [m_flt, if_pos k0, if_neg k1]; exact r3
  have k1 := Classical.not_not.mp k1
  rw [if_pos k1] at r3
  obtain ⟨r3, hs3, v3⟩ := r3
  rw [f_X6_read_93, if_pos r3.2.1, m_eq_bind (m_isW_12 r3)]
  obtain ⟨v2', s4, e4, f4, r4⟩ := m_partR (T := T) (F := F) r3 hs3 (key := -21) ⟨by decide, by decide⟩ rfl
  rw [m_eq_bind e4]
  change if (m_P2 (m_tk (m_lx B sz 0))).1 then m_RS s4 t B sz (m_P2 (m_tk (m_lx B sz 0))).2.2 ∧ m_sets 0 s4 F ∧ (∀ s, m_ev F (m_P2 (m_tk (m_lx B sz 0))).2.1 s = v2' :: s) else m_bad s4 (m_pl (m_lx B sz 0) sz (m_P2 (m_tk (m_lx B sz 0))).2.2) at r4
  have g4 := m_f48_tr g3 (m_rfg f4)
  have hfl : m_flt (m_tk (m_lx B sz 0)) = (m_P2 (m_tk (m_lx B sz 0))).2.2 := by rw [m_flt, if_pos k0, if_pos k1]
  by_cases k2 : ¬ ((m_P2 (m_tk (m_lx B sz 0))).1 = true)
  · rw [if_neg k2] at r4
    have nb : ¬ (s4 48 29 = 0) := by rw [r4.1]; decide
    rw [f_X6_read_127, if_neg nb]
    obtain ⟨v, ev, _⟩ := l147 v0 v1 v2' s4
    refine ⟨v, s4, ev, g4, fun h => absurd h (by simp [m_ok, k2]), fun _ => ?_⟩
    rw [hfl]; exact r4
  have k2 := Classical.not_not.mp k2
  rw [if_pos k2] at r4
  obtain ⟨r4, hs4, v4⟩ := r4
  rw [f_X6_read_127, if_pos r4.2.1]
  by_cases k3 : (m_tk (m_lx B sz 0)) (m_P2 (m_tk (m_lx B sz 0))).2.2 = -22
  · have h25 : s4 48 25 = 0 := by
      rcases (m_view (T := T) r4).2.1 with ⟨a, b⟩ | ⟨a, _, b⟩ | ⟨a, v, hv, b, c⟩ | ⟨a, c, b⟩ | ⟨a, b⟩
      · exact a
      · rcases b with b | ⟨w, h1, h2, b⟩
        · rw [k3] at b; exact absurd b (by decide)
        · exact absurd (b.symm.trans k3) (m_wc23 w h2 h1).2.1
      · exact absurd (b.symm.trans k3) (m_negv hv (by decide))
      · exact absurd (b.symm.trans k3) (m_sgneg c).2
      · rw [k3] at b; exact absurd b (by decide)
    rw [if_pos h25]
    obtain ⟨v, ev, hv⟩ := l147 v0 v1 v2' s4
    refine ⟨v, s4, ev, g4, fun _ => ⟨r4.2.1, ?_⟩, fun h => absurd h (by simp [m_ok, k0, k1, k2, k3])⟩
    rw [hv, m_C]
    rcases (show w = 0 ∨ w = 1 ∨ w = 2 by omega) with rfl | rfl | rfl
    · rw [if_pos rfl, if_pos rfl, v2]; rfl
    · rw [if_neg (by decide), if_pos rfl, if_neg (by decide), if_pos rfl, v3]; rfl
    · rw [if_neg (by decide), if_neg (by decide), if_neg (by decide), if_neg (by decide), v4]; rfl
  · have h25 : ¬ (s4 48 25 = 0) := fun h0 => by
      rcases (m_view (T := T) r4).2.1 with ⟨a, b⟩ | ⟨a, _, b⟩ | ⟨a, v, hv, b, c⟩ | ⟨a, c, b⟩ | ⟨a, b⟩
      · exact k3 b
      all_goals (rw [h0] at a; exact absurd a (by decide))
    obtain ⟨s5, e5, f5, b5⟩ := m_fail (T := T) r4
    rw [if_neg h25, m_eq_bind e5]
    obtain ⟨v, ev, _⟩ := l147 v0 v1 v2' s5
    refine ⟨v, s5, ev, m_f48_tr g4 (m_rfg (m_mono2 f5)), fun h => absurd h (by simp [m_ok, k3]), fun _ => ?_⟩
    rw [hfl]; exact b5
end
