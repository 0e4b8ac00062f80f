/-- of NEEDED 2 .. 5 the least by which it would be at rest -/
def j_L2 (R : Nat → Bool) (v : Int32) : Prop := (v = -1 ∧ ∀ k, 2 ≤ k → k ≤ 5 → R k = false) ∨ ∃ k, 2 ≤ k ∧ k ≤ 5 ∧ v = nI k ∧ R k = true ∧ ∀ i, 2 ≤ i → i < k → R i = false
theorem j_L2_uni {R : Nat → Bool} {v w : Int32} (h : j_L2 R v) (g : j_L2 R w) : v = w := by
  rcases h with ⟨h1, h2⟩ | ⟨k, h1, h2, h3, h4, h5⟩
  · rcases g with ⟨g1, g2⟩ | ⟨j, g1, g2, g3, g4, g5⟩
    · exact h1.trans g1.symm
    · rw [h2 j g1 g2] at g4; cases g4
  · rcases g with ⟨g1, g2⟩ | ⟨j, g1, g2, g3, g4, g5⟩
    · rw [g2 k h1 h2] at h4; cases h4
    · have e : k = j := by
        rcases Nat.lt_trichotomy k j with q | q | q
        · rw [g5 k h1 q] at h4; cases h4
        · exact q
        · rw [h5 j g1 q] at g4; cases g4
      rw [h3, g3, e]
/-- the first of so many that does -/
def j_LN (R : Nat → Bool) (N : Nat) (F : Nat → Int32) (v : Int32) : Prop := (v = -1 ∧ ∀ k, k < N → R k = false) ∨ ∃ k, k < N ∧ v = F k ∧ R k = true ∧ ∀ i, i < k → R i = false
theorem j_LN_uni {R : Nat → Bool} {N : Nat} {F : Nat → Int32} {v w : Int32} (h : j_LN R N F v) (g : j_LN R N F w) : v = w := by
  rcases h with ⟨h1, h2⟩ | ⟨k, h2, h3, h4, h5⟩
  · rcases g with ⟨g1, g2⟩ | ⟨j, g2, g3, g4, g5⟩
    · exact h1.trans g1.symm
    · rw [h2 j g2] at g4; cases g4
  · rcases g with ⟨g1, g2⟩ | ⟨j, g2, g3, g4, g5⟩
    · rw [g2 k h2] at h4; cases h4
    · have e : k = j := by
        rcases Nat.lt_trichotomy k j with q | q | q
        · rw [g5 k q] at h4; cases h4
        · exact q
        · rw [h5 j q] at g4; cases g4
      rw [h3, g3, e]
theorem m_n2 {i : Nat} (h : i ≤ 1000) : ¬ nI i = -1 := m_n1 (by omega)
theorem m_leastN {T : Nat} {st : px_S} {h : px_H} {C : Nat → List Int32} {s : Nat} {o : Nat → Nat} {k0 : Nat} (c : m_CQ st h C s o k0) : ∃ v st', f_X1_leastNeeded T st = some (v, st') ∧ m_fr [12] st st' ∧ j_L2 (fun k => j_rest (j_ag h C s o) k) v := by
  rw [f_X1_leastNeeded]
  refine m_for (σ := px_S) (fun f i z => f_X1_leastNeeded_2 T f (nI (i + 2)) z) 4 (fun i z => m_fr [12] st z ∧ (∃ k, m_CQ z h C s o k) ∧ ∀ k, 2 ≤ k → k < i + 2 → j_rest (j_ag h C s o) k = false) (fun r => ∃ v st', r = some (v, st') ∧ m_fr [12] st st' ∧ j_L2 (fun k => j_rest (j_ag h C s o) k) v) ?_ ?_ 4 0 st 1000 (by omega) ⟨m_fr_refl _ _, ⟨k0, c⟩, fun k h1 h2 => by omega⟩ (by omega)
  · intro f i z hi hz
    obtain ⟨z1, ⟨k, z2⟩, z3⟩ := hz
    have c2 : m_CQ (up z 12 7 (nI (i + 2))) h C s o (i + 2) := by
      obtain ⟨⟨u1, u2⟩, u3, u4, u5⟩ := z2
      exact ⟨⟨by rw [m_up_row _ _ _ _ (by decide)]; exact u1, fun q hq => by rw [m_up_row _ _ _ _ (by decide), m_up_row _ _ _ _ (by decide)]; exact u2 q hq⟩, fun q hq => by rw [m_up_row _ _ _ _ (by decide)]; exact u3 q hq, by simp [m_up], by omega, by omega⟩
    rw [f_X1_leastNeeded_2, if_neg (by rw [show (5 : Int32) = nI 5 from rfl]; exact nI_nlt (by omega) (by omega)), m_eq_bind (m_restC c2)]
    by_cases hr : j_rest (j_ag h C s o) (i + 2) = true
    · right
      rw [if_pos hr, if_neg (by decide)]
      exact ⟨_, _, rfl, m_fr_up z1 (by simp) _ _, Or.inr ⟨i + 2, by omega, by omega, rfl, hr, z3⟩⟩
    · left
      rw [if_neg hr, if_pos rfl, nI_1]
      refine ⟨_, ⟨m_fr_up z1 (by simp) _ _, ⟨_, c2⟩, fun k h1 h2 => ?_⟩, rfl⟩
      rcases Nat.lt_or_ge k (i + 2) with hl | hl
      · exact z3 k h1 hl
      · rw [show k = i + 2 by omega]; exact Bool.eq_false_iff.mpr hr
  · intro f z hz
    obtain ⟨z1, z2, z3⟩ := hz
    rw [f_X1_leastNeeded_2, if_pos (by decide)]
    exact ⟨_, _, rfl, z1, Or.inl ⟨rfl, fun k h1 h2 => z3 k h1 (by omega)⟩⟩
theorem m_leastNR {T : Nat} {st : px_S} {h : px_H} {C : Nat → List Int32} {s : Nat} {o : Nat → Nat} (hw : m_HW h) (hs : s < 2 ^ h 4 0) (y3 : Int32) (c : m_RQ st h C s o 2) : ∃ v st', f_X6_holds_37 T 1000 (-1) y3 st = some (v, st') ∧ (∀ a, a ≠ 48 → st' a = st a) ∧ (∀ j, ¬ (j = 14 ∨ 35 ≤ j ∧ j ≤ 37) → st' 48 j = st 48 j) ∧ st' 48 14 = y3 ∧ j_L2 (fun k => j_rest (j_ag h C s o) k) v := by
  refine m_for (σ := Int32 × px_S) (fun f i z => f_X6_holds_37 T f z.1 y3 z.2) 4 (fun i z => (∀ a, a ≠ 48 → z.2 a = st a) ∧ (∀ j, ¬ (j = 14 ∨ 35 ≤ j ∧ j ≤ 37) → z.2 48 j = st 48 j) ∧ ((z.1 = -1 ∧ z.2 48 14 = nI (i + 2) ∧ (i < 4 → m_RQ z.2 h C s o (i + 2)) ∧ ∀ k, 2 ≤ k → k < i + 2 → j_rest (j_ag h C s o) k = false) ∨ ∃ k, 2 ≤ k ∧ k ≤ 5 ∧ z.1 = nI k ∧ j_rest (j_ag h C s o) k = true ∧ ∀ i, 2 ≤ i → i < k → j_rest (j_ag h C s o) i = false)) (fun r => ∃ v st', r = some (v, st') ∧ (∀ a, a ≠ 48 → st' a = st a) ∧ (∀ j, ¬ (j = 14 ∨ 35 ≤ j ∧ j ≤ 37) → st' 48 j = st 48 j) ∧ st' 48 14 = y3 ∧ j_L2 (fun k => j_rest (j_ag h C s o) k) v) ?_ ?_ 4 0 (-1, st) 1000 (by omega) ⟨fun _ _ => rfl, fun _ _ => rfl, Or.inl ⟨rfl, c.2.2.2.2.1, fun _ => c, fun k h1 h2 => by omega⟩⟩ (by omega)
  · intro f i z hi hz
    obtain ⟨z1, z2⟩ := z
    obtain ⟨y1, y2, y4⟩ := hz
    simp only at y1 y2 y4 ⊢
    have fin : ∀ w : Int32, j_L2 (fun k => j_rest (j_ag h C s o) k) w → ∃ v st', (some (w, up z2 48 14 y3) : Option (Int32 × px_S)) = some (v, st') ∧ (∀ a, a ≠ 48 → st' a = st a) ∧ (∀ j, ¬ (j = 14 ∨ 35 ≤ j ∧ j ≤ 37) → st' 48 j = st 48 j) ∧ st' 48 14 = y3 ∧ j_L2 (fun k => j_rest (j_ag h C s o) k) v := fun w hv =>
      ⟨w, _, rfl, fun a ha => by rw [m_up_row _ _ _ _ ha]; exact y1 a ha, fun j hj => by rw [m_up, if_pos rfl, if_neg (by omega)]; exact y2 j hj, by simp [m_up], hv⟩
    rcases y4 with ⟨v1, v2, v3, v4⟩ | ⟨k, v1, v2, v3, v4, v5⟩
    case inr =>
      right
      rw [f_X6_holds_37]
      by_cases g : z2 48 14 < 6
      · rw [if_pos g, if_neg (by rw [v3]; exact m_n2 (by omega))]
        exact fin z1 (Or.inr ⟨k, v1, v2, v3, v4, v5⟩)
      · rw [if_neg g]
        exact fin z1 (Or.inr ⟨k, v1, v2, v3, v4, v5⟩)
    left
    have zq := v3 hi
    obtain ⟨t1, b1, b2, _⟩ := m_restR (T := T) zq hw hs
    have t14 : t1 48 14 = nI (i + 2) := by rw [b2.2 14 (by decide)]; exact v2
    rw [f_X6_holds_37, v2, if_pos (by rw [show (6 : Int32) = nI 6 from rfl]; exact nI_lt (by omega) (by omega)), if_pos v1, m_eq_bind b1]
    have r1 : ∀ a, a ≠ 48 → (up t1 48 14 (nI (i + 1 + 2))) a = st a := fun a ha => by rw [m_up_row _ _ _ _ ha, b2.1 a ha]; exact y1 a ha
    have r2 : ∀ j, ¬ (j = 14 ∨ 35 ≤ j ∧ j ≤ 37) → (up t1 48 14 (nI (i + 1 + 2))) 48 j = st 48 j := fun j hj => by rw [m_up, if_pos rfl, if_neg (by omega), b2.2 j (by simp; omega)]; exact y2 j hj
    have e14 : nI (i + 2) + 1 = nI (i + 1 + 2) := by rw [nI_1]
    by_cases hr : j_rest (j_ag h C s o) (i + 2) = true
    · rw [if_pos hr]
      simp only [show ¬ ((1 : Int32) = 0) by decide, if_false]
      rw [t14, e14]
      exact ⟨(nI (i + 2), up t1 48 14 (nI (i + 1 + 2))), ⟨r1, r2, Or.inr ⟨i + 2, by omega, by omega, rfl, hr, v4⟩⟩, rfl⟩
    · rw [if_neg hr]
      simp only [if_true]
      rw [t14, e14]
      refine ⟨(-1, up t1 48 14 (nI (i + 1 + 2))), ⟨r1, r2, Or.inl ⟨rfl, by simp [m_up], fun hi4 => ?_, fun k h1 h2 => ?_⟩⟩, rfl⟩
      · show m_RQ (up t1 48 14 (nI (i + 1 + 2))) h C s o (i + 1 + 2)
        have tq := m_RQ_48 zq b2 (by decide)
        obtain ⟨⟨c1, c2⟩, c3, c4, c5, c6, c7, c8, c9⟩ := tq
        have nr : ∀ a, a ≠ 48 → (up t1 48 14 (nI (i + 1 + 2))) a = t1 a := fun a ha => m_up_row _ _ _ _ ha
        have ns : ∀ j, j ≠ 14 → (up t1 48 14 (nI (i + 1 + 2))) 48 j = t1 48 j := fun j hj => by rw [m_up, if_pos rfl, if_neg hj]
        refine ⟨⟨by rw [ns 31 (by omega)]; exact c1, fun p q hp hq hpr => ?_⟩, fun q hq => by rw [nr 55 (by omega)]; exact c3 q hq, c4, c5, by simp [m_up], by omega, by rw [ns 11 (by omega)]; exact c8, fun j hj => by rw [nr 52 (by omega), nr 53 (by omega)]; exact c9 j hj⟩
        have := c2 p q hp hq hpr
        unfold m_ent at *
        rw [nr 56 (by omega), nr 57 (by omega), nr 58 (by omega)]; exact this
      · rcases Nat.lt_or_ge k (i + 2) with hl | hl
        · exact v4 k h1 hl
        · rw [show k = i + 2 by omega]; exact Bool.eq_false_iff.mpr hr
  · intro f z hz
    obtain ⟨z1, z2⟩ := z
    obtain ⟨y1, y2, y4⟩ := hz
    simp only at y1 y2 y4 ⊢
    have fin : ∀ w : Int32, j_L2 (fun k => j_rest (j_ag h C s o) k) w → ∃ v st', (some (w, up z2 48 14 y3) : Option (Int32 × px_S)) = some (v, st') ∧ (∀ a, a ≠ 48 → st' a = st a) ∧ (∀ j, ¬ (j = 14 ∨ 35 ≤ j ∧ j ≤ 37) → st' 48 j = st 48 j) ∧ st' 48 14 = y3 ∧ j_L2 (fun k => j_rest (j_ag h C s o) k) v := fun w hv =>
      ⟨w, _, rfl, fun a ha => by rw [m_up_row _ _ _ _ ha]; exact y1 a ha, fun j hj => by rw [m_up, if_pos rfl, if_neg (by omega)]; exact y2 j hj, by simp [m_up], hv⟩
    rw [f_X6_holds_37]
    rcases y4 with ⟨v1, v2, v3, v4⟩ | ⟨k, v1, v2, v3, v4, v5⟩
    · rw [v2, if_neg (by decide)]
      exact fin z1 (Or.inl ⟨v1, fun k h1 h2 => v4 k h1 (by omega)⟩)
    · by_cases g : z2 48 14 < 6
      · rw [if_pos g, if_neg (by rw [v3]; exact m_n2 (by omega))]
        exact fin z1 (Or.inr ⟨k, v1, v2, v3, v4, v5⟩)
      · rw [if_neg g]
        exact fin z1 (Or.inr ⟨k, v1, v2, v3, v4, v5⟩)
/-- a name that a text doesn't have tells nothing in it -/
theorem m_cidx {c : Int32} (h1 : ¬ c < -6) (h0 : c < 0) : c = -1 ∨ c = -2 ∨ c = -3 ∨ c = -4 ∨ c = -5 ∨ c = -6 := by
  rw [Int32.lt_iff_toInt_lt] at h1 h0
  have e6 : (-6 : Int32).toInt = -6 := rfl
  have e0 : (0 : Int32).toInt = 0 := rfl
  have k : ∀ d : Int32, c.toInt = d.toInt → c = d := fun d e => Int32.toInt_inj.mp e
  have a1 : (-1 : Int32).toInt = -1 := rfl
  have a2 : (-2 : Int32).toInt = -2 := rfl
  have a3 : (-3 : Int32).toInt = -3 := rfl
  have a4 : (-4 : Int32).toInt = -4 := rfl
  have a5 : (-5 : Int32).toInt = -5 := rfl
  rcases (show c.toInt = -1 ∨ c.toInt = -2 ∨ c.toInt = -3 ∨ c.toInt = -4 ∨ c.toInt = -5 ∨ c.toInt = -6 by omega) with e | e | e | e | e | e
  · exact Or.inl (k _ (by omega))
  · exact Or.inr (Or.inl (k _ (by omega)))
  · exact Or.inr (Or.inr (Or.inl (k _ (by omega))))
  · exact Or.inr (Or.inr (Or.inr (Or.inl (k _ (by omega)))))
  · exact Or.inr (Or.inr (Or.inr (Or.inr (Or.inl (k _ (by omega))))))
  · exact Or.inr (Or.inr (Or.inr (Or.inr (Or.inr (k _ (by omega))))))
theorem m_ev_ind {F G : Nat → Int32} {c0 : Int32} {j : Nat} (hcj : (c0 = -3 ∧ j = 2) ∨ (c0 = -4 ∧ j = 3)) (hFG : ∀ i, i ≠ j → F i = G i) : ∀ (code s : List Int32), (∀ c, c ∈ code → c ≠ c0) → m_ev F code s = m_ev G code s := by
  intro code
  induction code with
  | nil => intro s _; rfl
  | cons c r ih =>
    intro s hc
    rw [m_ev, m_ev]
    have e : m_step F c s = m_step G c s := by
      unfold m_step
      by_cases h6 : c < -6
      · rw [if_pos h6, if_pos h6]
      · rw [if_neg h6, if_neg h6]
        by_cases h0 : c < 0
        · rw [if_pos h0, if_pos h0]
          congr 1
          apply hFG
          have hne := hc c (by simp)
          rcases m_cidx h6 h0 with rfl | rfl | rfl | rfl | rfl | rfl
          · rcases hcj with ⟨_, rfl⟩ | ⟨_, rfl⟩ <;> decide
          · rcases hcj with ⟨_, rfl⟩ | ⟨_, rfl⟩ <;> decide
          · rcases hcj with ⟨rfl, rfl⟩ | ⟨_, rfl⟩
            · exact absurd rfl hne
            · decide
          · rcases hcj with ⟨_, rfl⟩ | ⟨rfl, rfl⟩
            · decide
            · exact absurd rfl hne
          · rcases hcj with ⟨_, rfl⟩ | ⟨_, rfl⟩ <;> decide
          · rcases hcj with ⟨_, rfl⟩ | ⟨_, rfl⟩ <;> decide
        · rw [if_neg h0, if_neg h0]
    rw [e]
    exact ih _ (fun c hc2 => hc c (by simp [hc2]))
theorem m_namesC {T a : Nat} {st : px_S} {C : Nat → List Int32} (h : m_TX st a C) (x : Int32) : f_X4_names T st a x = some 1 ∨ (f_X4_names T st a x = some 0 ∧ ∀ w, w < 3 → ∀ c, c ∈ C w → c ≠ x) := by
  obtain ⟨h1, h2, h3, h4, h5⟩ := h
  obtain ⟨L, eL⟩ : ∃ L, L = C 0 ++ C 1 ++ C 2 := ⟨_, rfl⟩
  have hlen : L.length = (C 0).length + (C 1).length + (C 2).length := by rw [eL]; simp [Nat.add_assoc]
  rw [← hlen] at h3
  rw [← eL] at h5
  have key : f_X4_names T st a x = some 1 ∨ (f_X4_names T st a x = some 0 ∧ ∀ k, k < L.length → L.getD k 0 ≠ x) := by
    rw [f_X4_names, h3, nI_clamp (by omega)]
    change f_X4_names_11 T st a 1000 x (nI L.length) 0 = some 1 ∨ (f_X4_names_11 T st a 1000 x (nI L.length) 0 = some 0 ∧ _)
    refine m_for (σ := Unit) (fun f i _ => f_X4_names_11 T st a f x (nI L.length) (nI i)) L.length (fun i _ => ∀ k, k < i → L.getD k 0 ≠ x) (fun r => r = some 1 ∨ (r = some 0 ∧ ∀ k, k < L.length → L.getD k 0 ≠ x)) ?_ ?_ L.length 0 () 1000 (by omega) (fun k hk => by omega) (by omega)
    · intro f i _ hi hz
      rw [f_X4_names_11, if_pos (show nI i < nI L.length from nI_lt hi (by omega)), h3, nI_clamp (by omega), if_pos (m_px hi (by omega)), nI_clamp (by omega), h5 i hi]
      by_cases e : L.getD i 0 = x
      · right; rw [if_pos e]; exact Or.inl rfl
      · left
        rw [if_neg e, nI_1]
        refine ⟨(), fun k hk => ?_, rfl⟩
        rcases Nat.lt_or_ge k i with hl | hl
        · exact hz k hl
        · rw [show k = i by omega]; exact e
    · intro f _ hz
      rw [f_X4_names_11, if_neg (show ¬ nI L.length < nI L.length from nI_nlt (Nat.le_refl _) (by omega))]
      exact Or.inr ⟨rfl, hz⟩
  rcases key with k1 | ⟨k1, k2⟩
  · exact Or.inl k1
  · refine Or.inr ⟨k1, fun w hw c hc => ?_⟩
    have hm : c ∈ L := by
      rw [eL]
      rcases (show w = 0 ∨ w = 1 ∨ w = 2 by omega) with rfl | rfl | rfl <;> simp [hc]
    obtain ⟨i, hi, e⟩ := List.mem_iff_getElem.mp hm
    have := k2 i hi
    rw [List.getD_eq_getElem?_getD, List.getElem?_eq_getElem hi] at this
    rw [← e]; exact this
theorem j_cmp_ind {h g : px_H} {C : Nat → List Int32} {s p q : Nat} {c0 : Int32} {j : Nat} (hcj : (c0 = -3 ∧ j = 2) ∨ (c0 = -4 ∧ j = 3)) (h0 : g 0 = h 0) (h1 : g 1 = h 1) (hF : ∀ p q m i, i ≠ j → j_F g p q m i = j_F h p q m i) (hC : ∀ c, c ∈ C 0 → c ≠ c0) : j_cmp g C s p q = j_cmp h C s p q := by
  have wo : ∀ x m, j_wo g C p x m = j_wo h C p x m := fun x m => by
    unfold j_wo j_br j_v
    rw [h0, h1, m_ev_ind hcj (fun i hi => hF p x m i hi) (C 0) [] hC]
  have gf : ∀ m x, j_gf g C p s m x = j_gf h C p s m x := fun m x => by unfold j_gf; rw [wo]
  unfold j_cmp
  rw [wo, j_sm_congr 7 (fun x _ => by rw [gf, gf])]
theorem m_JS_rent {T : Nat} {st : px_S} {h : px_H} {C : Nat → List Int32} (k : m_JS T st h C) (r : Nat) : m_JS T (up st 12 6 (nI r)) (hu h 6 0 r) C := by
  obtain ⟨⟨k4, k5, k6, k7, k8, k9, kr, kl, ko⟩, a, ha, k2, k3, kt⟩ := k
  have na : ∀ b, b ≠ 12 → (up st 12 6 (nI r)) b = st b := fun b hb => m_up_row _ _ _ _ hb
  refine ⟨⟨by simp [m_up, hu, k4], by simp [m_up, hu, k5], by simp [m_up, hu], by simp [m_up, hu, k7], by simp [m_up, hu, k8], by simp [m_up, hu, k9], fun j hj => ?_, fun j hj => ?_, fun j hj => ?_⟩, a, ha, k2, by rw [na 11 (by omega)]; exact k3, m_TX_eq kt (na _ (by omega)) (na _ (by omega))⟩
  · have := kr j (by simpa [hu] using hj)
    rw [na _ (by omega), na _ (by omega)]; simpa [hu] using this
  · rw [na _ (by omega)]; simpa [hu] using kl j hj
  · rw [na _ (by omega)]; simpa [hu] using ko j hj
theorem m_RJ_rent {st : px_S} {h : px_H} {C : Nat → List Int32} (k : m_RJ st h C) (r : Nat) : m_RJ (up st 48 13 (nI r)) (hu h 6 0 r) C := by
  obtain ⟨⟨k4, k5, k6, k7, k8, k9, kr, kl, ko⟩, B, sz, k2, k3, kt⟩ := k
  have na : ∀ b, b ≠ 48 → (up st 48 13 (nI r)) b = st b := fun b hb => m_up_row _ _ _ _ hb
  refine ⟨⟨by simp [m_up, hu, k4], by simp [m_up, hu, k5], by simp [m_up, hu], by simp [m_up, hu, k7], by simp [m_up, hu, k8], by simp [m_up, hu, k9], fun j hj => ?_, fun p q hp hq => ?_, fun j hj => ?_⟩, B, sz, m_reft_eq k2 (na _ (by omega)) (na _ (by omega)), k3, kt⟩
  · have := kr j (by simpa [hu] using hj)
    rw [na _ (by omega), na _ (by omega)]; simpa [hu] using this
  · rw [na _ (by omega)]; simpa [hu] using kl p q (by simpa [hu] using hp) (by simpa [hu] using hq)
  · rw [na _ (by omega)]; simpa [hu] using ko j (by simpa [hu] using hj)
theorem hu_hu (h : px_H) (r r' : Nat) : hu (hu h 6 0 r) 6 0 r' = hu h 6 0 r' := by
  funext x y
  unfold hu
  by_cases e : x = 6
  · rw [if_pos e, if_pos e, if_pos e]
    by_cases e2 : y = 0
    · rw [if_pos e2, if_pos e2]
    · rw [if_neg e2, if_neg e2, if_neg e2]
  · rw [if_neg e, if_neg e, if_neg e]
theorem m_leastRentC {T : Nat} {st : px_S} {h : px_H} {C : Nat → List Int32} {s : Nat} (hw : m_HW h) (hs : s < 2 ^ h 4 0) (k0 : m_JS T st h C) (h4 : st 11 4 = nI s) (hc : ∀ p q, p < 7 → q < 7 → j_pr s p q = true → st 21 (7 * p + q) = j_cmp h C s p q) : ∃ v st', f_X1_leastRent T st = some (v, st') ∧ m_fr [12, 19, 20, 21, 22, 23] st st' ∧ j_LN (fun i => !(j_rest (j_ag (hu h 6 0 (10 * i)) C s (h 3)) (h 7 0))) 100 (fun i => nI (10 * i)) v := by
  have hT : px_isT T (st 11 1).toNatClampNeg ∧ m_TX st (st 11 1).toNatClampNeg C := by
    obtain ⟨_, a, ha, k2, k3, k4⟩ := k0
    rw [k3, nI_clamp (by omega)]; exact ⟨k2, k4⟩
  rw [f_X1_leastRent, if_pos hT.1]
  have fl : ∃ fl : Int32, f_X4_names T st (st 11 1).toNatClampNeg (-3) = some fl ∧ (fl = 0 → ∀ w, w < 3 → ∀ c, c ∈ C w → c ≠ -3) := by
    rcases m_namesC (T := T) hT.2 (-3) with e | ⟨e, g⟩
    · exact ⟨1, e, fun q => absurd q (by decide)⟩
    · exact ⟨0, e, fun _ => g⟩
  obtain ⟨fl, efl, hfl⟩ := fl
  rw [m_eq_bind efl]
  have hwi : ∀ i, i ≤ 999 → m_HW (hu h 6 0 i) := fun i hi => m_HW_set hw 6 i (by omega) ⟨by omega, fun _ => by omega, by omega, by omega⟩
  refine m_for (σ := px_S) (fun f i z => f_X1_leastRent_12 T f fl (nI (10 * i)) z) 100 (fun i z => m_fr [12, 19, 20, 21, 22, 23] st z ∧ (∃ g, m_JS T z (hu h 6 0 g) C) ∧ (fl = 0 → ∀ p q, p < 7 → q < 7 → j_pr s p q = true → z 21 (7 * p + q) = j_cmp h C s p q) ∧ ∀ k, k < i → (!(j_rest (j_ag (hu h 6 0 (10 * k)) C s (h 3)) (h 7 0))) = false) (fun r => ∃ v st', r = some (v, st') ∧ m_fr [12, 19, 20, 21, 22, 23] st st' ∧ j_LN (fun i => !(j_rest (j_ag (hu h 6 0 (10 * i)) C s (h 3)) (h 7 0))) 100 (fun i => nI (10 * i)) v) ?_ ?_ 100 0 st 1000 (by omega) ⟨m_fr_refl _ _, ⟨h 6 0, ?_⟩, fun _ => hc, fun k hk => by omega⟩ (by omega)
  · intro f i z hi hz
    obtain ⟨z1, ⟨g, z2⟩, z3, z4⟩ := hz
    have kz := m_JS_rent z2 (10 * i)
    rw [hu_hu] at kz
    have hwz := hwi (10 * i) (by omega)
    have f0 : m_fr [12, 19, 20, 21, 22, 23] st (up z 12 6 (nI (10 * i))) := m_fr_up z1 (by simp) _ _
    have h4z : ∀ y : px_S, m_fr [12, 19, 20, 21, 22, 23] st y → y 11 4 = nI s := fun y fy => by rw [fy 11 (by decide)]; exact h4
    have n10 : nI (10 * i) + 10 = nI (10 * (i + 1)) := by rw [show (10 : Int32) = nI 10 from rfl, nI_add]; congr 1
    -- behind compare
    have fin : ∀ y : px_S, m_fr [12, 19, 20, 21, 22, 23] st y → m_JS T y (hu h 6 0 (10 * i)) C → (∀ p q, p < 7 → q < 7 → j_pr s p q = true → y 21 (7 * p + q) = j_cmp (hu h 6 0 (10 * i)) C s p q) → (fl = 0 → ∀ p q, p < 7 → q < 7 → j_pr s p q = true → y 21 (7 * p + q) = j_cmp h C s p q) → (∃ s', (m_fr [12, 19, 20, 21, 22, 23] st s' ∧ (∃ g, m_JS T s' (hu h 6 0 g) C) ∧ (fl = 0 → ∀ p q, p < 7 → q < 7 → j_pr s p q = true → s' 21 (7 * p + q) = j_cmp h C s p q) ∧ ∀ k, k < i + 1 → (!(j_rest (j_ag (hu h 6 0 (10 * k)) C s (h 3)) (h 7 0))) = false) ∧ f_X1_leastRent_35 T (f_X1_leastRent_12 T f) fl (nI (10 * i)) y = f_X1_leastRent_12 T f fl (nI (10 * (i + 1))) s') ∨ ∃ v st', f_X1_leastRent_35 T (f_X1_leastRent_12 T f) fl (nI (10 * i)) y = some (v, st') ∧ m_fr [12, 19, 20, 21, 22, 23] st st' ∧ j_LN (fun i => !(j_rest (j_ag (hu h 6 0 (10 * i)) C s (h 3)) (h 7 0))) 100 (fun i => nI (10 * i)) v := by
      intro y fy ky hy hy2
      obtain ⟨y2, e2, f2, l2⟩ := m_weighC ky hwz hs (h4z y fy) hy
      have ky2 := m_JS_fr ky (m_f5j f2)
      have cq := m_CQ_of hwz ky2 l2
      have f02 : m_fr [12, 19, 20, 21, 22, 23] st y2 := m_fr_tr fy (m_fr_mono f2 (by intro a ha; simp [m_f5] at ha ⊢; omega))
      have er : f_X1_atRest T y2 = some (if j_rest (j_ag (hu h 6 0 (10 * i)) C s (h 3)) (h 7 0) then 1 else 0) := m_restC cq
      rw [f_X1_leastRent_35, m_eq_bind e2, m_eq_bind er, n10]
      by_cases hr : j_rest (j_ag (hu h 6 0 (10 * i)) C s (h 3)) (h 7 0) = true
      · left
        rw [if_pos hr, if_neg (by decide)]
        refine ⟨y2, ⟨f02, ⟨_, ky2⟩, fun e p q hp hq hpr => by rw [f2 21 (by decide)]; exact hy2 e p q hp hq hpr, fun k hk => ?_⟩, rfl⟩
        rcases Nat.lt_or_ge k i with hl | hl
        · exact z4 k hl
        · rw [show k = i by omega, hr]; rfl
      · right
        rw [if_neg hr, if_pos rfl]
        exact ⟨_, _, rfl, f02, Or.inr ⟨i, hi, rfl, by show (!(j_rest (j_ag (hu h 6 0 (10 * i)) C s (h 3)) (h 7 0))) = true; rw [Bool.eq_false_iff.mpr hr]; rfl, z4⟩⟩
    rw [f_X1_leastRent_12, if_pos (by rw [show (1000 : Int32) = nI 1000 from rfl]; exact nI_lt (by omega) (by omega))]
    by_cases efl0 : fl = 0
    · rw [if_pos efl0]
      have z21 : ∀ p q, p < 7 → q < 7 → j_pr s p q = true → (up z 12 6 (nI (10 * i))) 21 (7 * p + q) = j_cmp h C s p q := fun p q hp hq hpr => by
        rw [m_up_row _ _ _ _ (by decide)]; exact z3 efl0 p q hp hq hpr
      refine fin _ f0 kz (fun p q hp hq hpr => ?_) (fun _ => z21)
      rw [z21 p q hp hq hpr]
      refine (j_cmp_ind (g := hu h 6 0 (10 * i)) (h := h) (Or.inl ⟨rfl, rfl⟩) rfl rfl (fun p q m i hi => ?_) (hfl efl0 0 (by omega))).symm
      unfold j_F
      by_cases e0 : i = 0
      · rw [if_pos e0, if_pos e0]; rfl
      · rw [if_neg e0, if_neg e0]
        by_cases e1 : i = 1
        · rw [if_pos e1, if_pos e1]
        · rw [if_neg e1, if_neg e1, if_neg hi, if_neg hi]; rfl
    · rw [if_neg efl0]
      obtain ⟨y1, e1, f1, g1⟩ := m_compareC kz hwz hs (h4z _ f0)
      rw [m_eq_bind e1]
      exact fin y1 (m_fr_tr f0 (m_fr_mono f1 (by intro a ha; simp [m_f3] at ha ⊢; omega))) (m_JS_fr kz (m_f3j f1)) g1 (fun e => absurd e efl0)
  · intro f z hz
    obtain ⟨z1, z2, z3, z4⟩ := hz
    rw [f_X1_leastRent_12, if_neg (by decide)]
    exact ⟨_, _, rfl, z1, Or.inl ⟨rfl, z4⟩⟩
  · have : hu h 6 0 (h 6 0) = h := by
      funext x y
      unfold hu
      by_cases e : x = 6
      · rw [if_pos e]
        by_cases e2 : y = 0
        · rw [if_pos e2, e, e2]
        · rw [if_neg e2]
      · rw [if_neg e]
    rw [this]; exact k0
theorem m_leastRentR {T : Nat} {st : px_S} {h : px_H} {C : Nat → List Int32} (hw : m_HW h) (k0 : m_RJ st h C) : ∃ v st', f_X6_holds_95 T 1000 (-1) (st 48 13) 0 st = some (v, st') ∧ m_sc st st' ∧ j_LN (fun i => !(j_rest (j_ag (hu h 6 0 (10 * i)) C (h 5 0) (h 3)) (h 7 0))) 100 (fun i => nI (10 * i)) v := by
  have hwi : ∀ i, i ≤ 999 → m_HW (hu h 6 0 i) := fun i hi => m_HW_set hw 6 i (by omega) ⟨by omega, fun _ => by omega, by omega, by omega⟩
  have fin : ∀ (z2 : px_S) (w : Int32), (∀ a, a ≠ 48 → ¬ (56 ≤ a ∧ a ≤ 62) → z2 a = st a) → (∀ j, ¬ (j = 13 ∨ 16 ≤ j ∧ j ≤ 47) → z2 48 j = st 48 j) → j_LN (fun i => !(j_rest (j_ag (hu h 6 0 (10 * i)) C (h 5 0) (h 3)) (h 7 0))) 100 (fun i => nI (10 * i)) w → ∃ v st', (some (w, up z2 48 13 (st 48 13)) : Option (Int32 × px_S)) = some (v, st') ∧ m_sc st st' ∧ j_LN (fun i => !(j_rest (j_ag (hu h 6 0 (10 * i)) C (h 5 0) (h 3)) (h 7 0))) 100 (fun i => nI (10 * i)) v := fun z2 w y1 y2 hv =>
    ⟨w, _, rfl, ⟨fun a ha hb => by rw [m_up_row _ _ _ _ ha]; exact y1 a ha hb, fun j hj => by
      rw [m_up, if_pos rfl]
      by_cases e : j = 13
      · rw [if_pos e, e]
      · rw [if_neg e]; exact y2 j (by omega)⟩, hv⟩
  refine m_for (σ := Int32 × px_S) (fun f i z => f_X6_holds_95 T f z.1 (st 48 13) (nI i) z.2) 100 (fun i z => (∀ a, a ≠ 48 → ¬ (56 ≤ a ∧ a ≤ 62) → z.2 a = st a) ∧ (∀ j, ¬ (j = 13 ∨ 16 ≤ j ∧ j ≤ 47) → z.2 48 j = st 48 j) ∧ (∃ g, m_RJ z.2 (hu h 6 0 g) C) ∧ ((z.1 = -1 ∧ ∀ k, k < i → (!(j_rest (j_ag (hu h 6 0 (10 * k)) C (h 5 0) (h 3)) (h 7 0))) = false) ∨ ∃ k, k < i ∧ k < 100 ∧ z.1 = nI (10 * k) ∧ (!(j_rest (j_ag (hu h 6 0 (10 * k)) C (h 5 0) (h 3)) (h 7 0))) = true ∧ ∀ j, j < k → (!(j_rest (j_ag (hu h 6 0 (10 * j)) C (h 5 0) (h 3)) (h 7 0))) = false)) (fun r => ∃ v st', r = some (v, st') ∧ m_sc st st' ∧ j_LN (fun i => !(j_rest (j_ag (hu h 6 0 (10 * i)) C (h 5 0) (h 3)) (h 7 0))) 100 (fun i => nI (10 * i)) v) ?_ ?_ 100 0 (-1, st) 1000 (by omega) ⟨fun _ _ _ => rfl, fun _ _ => rfl, ⟨h 6 0, ?_⟩, Or.inl ⟨rfl, fun k hk => by omega⟩⟩ (by omega)
  · intro f i z hi hz
    obtain ⟨z1, z2⟩ := z
    obtain ⟨y1, y2, ⟨g, y3⟩, y4⟩ := hz
    simp only at y1 y2 y3 y4 ⊢
    rw [f_X6_holds_95, if_pos (by rw [show (100 : Int32) = nI 100 from rfl]; exact nI_lt hi (by omega))]
    rcases y4 with ⟨v1, v2⟩ | ⟨k, v1, v2, v3, v4, v5⟩
    case inr =>
      right
      rw [if_neg (by rw [v3]; exact m_n2 (by omega))]
      exact fin z2 z1 y1 y2 (Or.inr ⟨k, v2, v3, v4, v5⟩)
    left
    have hwz := hwi (10 * i) (by omega)
    have kz := m_RJ_rent y3 (10 * i)
    rw [hu_hu] at kz
    have e10 : (10 : Int32) * nI i = nI (10 * i) := by rw [show (10 : Int32) = nI 10 from rfl, pk_mul]
    have e12 : z2 48 12 = nI (h 5 0) := y3.1.2.1
    obtain ⟨t1, a1, a2, a3, _⟩ := m_looksR (T := T) (s := h 5 0) kz hwz hw.2.1
    have kt := m_RJ_sc kz a2
    have tq := m_RQ_of kt hwz a3
    obtain ⟨t2, b1, b2, _⟩ := m_restR (T := T) tq hwz hw.2.1
    have b2s : m_sc t1 t2 := m_sc_48 b2 (by intro j hj; simp at hj; omega)
    have kt2 := m_RJ_sc kt b2s
    rw [if_pos v1, e10, e12, m_eq_bind a1, m_eq_bind b1, nI_1]
    have r1 : ∀ a, a ≠ 48 → ¬ (56 ≤ a ∧ a ≤ 62) → t2 a = st a := fun a ha hb => by rw [b2s.1 a ha hb, a2.1 a ha hb, m_up_row _ _ _ _ ha]; exact y1 a ha hb
    have r2 : ∀ j, ¬ (j = 13 ∨ 16 ≤ j ∧ j ≤ 47) → t2 48 j = st 48 j := fun j hj => by rw [b2s.2 j (by omega), a2.2 j (by omega), m_up, if_pos rfl, if_neg (by omega)]; exact y2 j hj
    have e13 : t2 48 13 = nI (10 * i) := kt2.1.2.2.1
    change ∃ s' : Int32 × px_S, _ ∧ (if (if j_rest (j_ag (hu h 6 0 (10 * i)) C (h 5 0) (h 3)) (h 7 0) = true then (1 : Int32) else 0) = 0 then _ else _) = _
    by_cases hr : j_rest (j_ag (hu h 6 0 (10 * i)) C (h 5 0) (h 3)) (h 7 0) = true
    · rw [if_pos hr, if_neg (by decide)]
      refine ⟨(-1, t2), ⟨r1, r2, ⟨_, kt2⟩, Or.inl ⟨rfl, fun k hk => ?_⟩⟩, rfl⟩
      rcases Nat.lt_or_ge k i with hl | hl
      · exact v2 k hl
      · rw [show k = i by omega, hr]; rfl
    · rw [if_neg hr, if_pos rfl]
      exact ⟨(nI (10 * i), t2), ⟨r1, r2, ⟨_, kt2⟩, Or.inr ⟨i, by omega, hi, rfl, by rw [Bool.eq_false_iff.mpr hr]; rfl, v2⟩⟩, by dsimp only; rw [e13]⟩
  · intro f z hz
    obtain ⟨z1, z2⟩ := z
    obtain ⟨y1, y2, y3, y4⟩ := hz
    simp only at y1 y2 y3 y4 ⊢
    rw [f_X6_holds_95, if_neg (by decide)]
    refine fin z2 z1 y1 y2 ?_
    rcases y4 with ⟨v1, v2⟩ | ⟨k, v1, v2, v3, v4, v5⟩
    · exact Or.inl ⟨v1, v2⟩
    · exact Or.inr ⟨k, v2, v3, v4, v5⟩
  · have : hu h 6 0 (h 6 0) = h := by
      funext x y
      unfold hu
      by_cases e : x = 6
      · rw [if_pos e]
        by_cases e2 : y = 0
        · rw [if_pos e2, e, e2]
        · rw [if_neg e2]
      · rw [if_neg e]
    rw [this]; exact k0
theorem op_holds {T : Nat} {st : px_S} (ag : px_ag) (hI : Inv T st) : ∃ T2 st2, px_op17 T st ag T2 st2 ∧ Inv T2 st2 := by
  have hI0 := hI
  obtain ⟨h1, h2, h3, h4, h5, h, hh, him⟩ := hI
  have hh0 := hh
  obtain ⟨hw, h9, hc, hr⟩ := hh
  have hn := hw.1
  have hi := m_i (ag 1) 0 1 (A := 0) (B := 1) rfl rfl
  by_cases q1 : ag 1 < 0
  · exact ⟨T, st, ⟨rfl, -2, st, by rw [f_X5_holds, if_pos q1], by rw [f_X6_holds, if_pos (hi.mpr (Or.inl q1))]⟩, hI0⟩
  by_cases q2 : 1 < ag 1
  · exact ⟨T, st, ⟨rfl, -2, st, by rw [f_X5_holds, if_neg q1, if_pos q2], by rw [f_X6_holds, if_pos (hi.mpr (Or.inr q2))]⟩, hI0⟩
  have q12 : ¬ p_X6_in (ag 1).toInt64 0 1 = 0 := fun g => (hi.mp g).elim q1 q2
  obtain ⟨C, s0, e0, f0, k0, j0, r0, q0⟩ := m_thinkC h1 h3 hh0
  obtain ⟨s1, e1, f1, l1, k1, j1, g1⟩ := m_lookC k0 hw hw.2.1
  have e5 : s0 1 5 = nI (h 5 0) := by rw [f0 1 (by decide)]; exact hc.2.1
  have et : f_X5_thinkingOfHouse (T + 2) st = some s1 := by rw [f_X5_thinkingOfHouse, m_eq_bind e0, e5, m_eq_bind e1]
  have f01 : m_fr m_TF st s1 := m_fr_tr (m_TFt f0) (m_TFl f1)
  have r1 : (s1 11 1).toNatClampNeg < 70 + 2 * T := by rw [j1 1 (by decide)]; exact r0
  by_cases a0 : ag 1 = 0
  · obtain ⟨v, s2, e2, f2, o2⟩ := m_leastN (T := T + 2) (m_CQ_of hw k1 l1)
    have f02 : m_fr m_TF st s2 := m_fr_tr f01 (m_fr_mono f2 (by intro a ha; simp [m_TF] at ha ⊢; omega))
    have jr : m_RJ s2 h C := m_RJ_fr q0 (fun a h1 h2 => f02 a (by simp [m_TF]; omega))
    obtain ⟨s3, e3, f3, l3, _⟩ := m_looksR (T := T) jr hw hw.2.1
    have rq := m_RQ_of (m_RJ_sc jr f3) hw l3
    have rq2 : m_RQ (up s3 48 14 2) h C (h 5 0) (h 3) 2 := by
      obtain ⟨⟨c1, c2⟩, c3, c4, c5, c6, c7, c8, c9⟩ := rq
      have nr : ∀ a, a ≠ 48 → (up s3 48 14 2) a = s3 a := fun a ha => m_up_row _ _ _ _ ha
      have ns : ∀ j, j ≠ 14 → (up s3 48 14 2) 48 j = s3 48 j := fun j hj => by rw [m_up, if_pos rfl, if_neg hj]
      refine ⟨⟨by rw [ns 31 (by omega)]; exact c1, fun p q hp hq hpr => ?_⟩, fun q hq => by rw [nr 55 (by omega)]; exact c3 q hq, c4, c5, by simp [m_up]; rfl, by omega, by rw [ns 11 (by omega)]; exact c8, fun j hj => by rw [nr 52 (by omega), nr 53 (by omega)]; exact c9 j hj⟩
      have := c2 p q hp hq hpr
      unfold m_ent at *
      rw [nr 56 (by omega), nr 57 (by omega), nr 58 (by omega)]; exact this
    obtain ⟨w, s4, e4, g2, g3, g4, o4⟩ := m_leastNR (T := T) hw hw.2.1 (s2 48 14) rq2
    have hvw := j_L2_uni o2 o4
    refine ⟨T, s4, ⟨rfl, v, s2, by rw [f_X5_holds, if_neg q1, if_neg q2, m_eq_bind et, if_pos a0, m_eq_bind e2], by rw [f_X6_holds, if_neg q12, if_pos a0, jr.1.2.1, m_eq_bind e3, e4, hvw]⟩, Inv_sc hI0 f02 (by rw [f2 11 (by decide)]; exact r1) ⟨fun a ha hb => ?_, fun j hj => ?_⟩⟩
    · rw [g2 a ha, m_up_row _ _ _ _ ha, f3.1 a ha hb]
    · by_cases e : j = 14
      · rw [e, g4]
      · rw [g3 j (by omega), m_up, if_pos rfl, if_neg e, f3.2 j hj]
  · obtain ⟨v, s2, e2, f2, o2⟩ := m_leastRentC (T := T + 2) hw hw.2.1 k1 l1.1 g1
    have f02 : m_fr m_TF st s2 := m_fr_tr f01 (m_fr_mono f2 (by intro a ha; simp [m_TF] at ha ⊢; omega))
    have jr : m_RJ s2 h C := m_RJ_fr q0 (fun a h1 h2 => f02 a (by simp [m_TF]; omega))
    obtain ⟨w, s3, e3, f3, o3⟩ := m_leastRentR (T := T) hw jr
    have hvw := j_LN_uni o2 o3
    exact ⟨T, s3, ⟨rfl, v, s2, by rw [f_X5_holds, if_neg q1, if_neg q2, m_eq_bind et, if_neg a0, m_eq_bind e2], by rw [f_X6_holds, if_neg q12, if_neg a0, e3, hvw]⟩, Inv_sc hI0 f02 (by rw [f2 11 (by decide)]; exact r1) f3⟩
