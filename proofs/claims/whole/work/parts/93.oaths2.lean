def j_fp (s : Nat) (o : Nat → Nat) (x : Nat) : Bool := decide (x / 7 < x % 7) && s.testBit (x / 7) && s.testBit (x % 7) && !((o (x / 7)).testBit (x % 7))
theorem j_fp_iff {s : Nat} {o : Nat → Nat} {x : Nat} : j_fp s o x = true ↔ x / 7 < x % 7 ∧ s.testBit (x / 7) = true ∧ s.testBit (x % 7) = true ∧ (o (x / 7)).testBit (x % 7) = false := by
  unfold j_fp
  simp only [Bool.and_eq_true, decide_eq_true_iff, Bool.not_eq_true']
  exact ⟨fun ⟨⟨⟨a, b⟩, c⟩, d⟩ => ⟨a, b, c, d⟩, fun ⟨a, b, c, d⟩ => ⟨⟨⟨a, b⟩, c⟩, d⟩⟩
def j_on (o : Nat → Nat) (x : Nat) (b : Bool) : Nat → Nat := j_bd o (x / 7) (x % 7) b
def j_r1 (h : px_H) (C : Nat → List Int32) (s k : Nat) (o : Nat → Nat) (x : Nat) : Bool := j_fp s o x && j_rest (j_ag h C s (j_on o x true)) k
def j_r2 (h : px_H) (C : Nat → List Int32) (s k : Nat) (o : Nat → Nat) (x y : Nat) : Bool := j_fp s o x && j_r1 h C s k (j_on o x true) y
theorem m_dv {x : Nat} (hx : x < 49) : nI x / 7 = nI (x / 7) ∧ nI x - nI x / 7 * 7 = nI (x % 7) ∧ x / 7 < 7 ∧ x % 7 < 7 := by
  refine ⟨pk_div (d := 7) (by omega) (by omega) (by omega), pk_rem (d := 7) (by omega) (by omega) (by omega), by omega, by omega⟩
theorem j_fp_on {s : Nat} {o : Nat → Nat} {a b : Nat} (ha : a < 49) (hb : b < 49) (hab : a ≠ b) (hf : j_fp s o a = true) : j_fp s (j_on o a true) b = j_fp s o b := by
  obtain ⟨h1, _, _, _⟩ := j_fp_iff.mp hf
  unfold j_fp j_on
  by_cases h2 : b / 7 < b % 7
  · rw [j_bd_bit true (by omega) (show b % 7 < 7 by omega), if_neg (by omega)]
  · simp [h2]
section
variable {T : Nat} {h : px_H} {C : Nat → List Int32} {s : Nat} {o : Nat → Nat} {k : Nat} {st : px_S}
theorem m_fpC (hs : s < 128) (c : m_CQ st h C s o k) {x : Nat} (hx : x < 49) : f_X1_isFreePair T st (nI x) = some (if j_fp s o x then 1 else 0) := by
  obtain ⟨d1, d2, d3, d4⟩ := m_dv hx
  rw [f_X1_isFreePair, d2, d1]
  by_cases h1 : x / 7 < x % 7
  · rw [if_pos (nI_lt h1 (by omega)), m_eq_bind (m_pairC hs c.1.1 d3 d4)]
    by_cases h2 : j_pr s (x / 7) (x % 7) = true
    · obtain ⟨_, p2, p3⟩ := j_pr_iff.mp h2
      have o16 := c.2.1 (x / 7) d3
      rw [if_pos h2, if_neg (by decide), if_pos (m_px d3 (by omega)), nI_clamp (by omega), o16.1, b_has _ o16.2 (x % 7) (by omega)]
      by_cases h3 : (o (x / 7)).testBit (x % 7) = true
      · rw [if_neg (by rw [if_pos h3]; decide), if_neg (by simp [j_fp, h3])]
      · rw [if_pos (by rw [if_neg h3]), if_pos (j_fp_iff.mpr ⟨h1, p2, p3, Bool.eq_false_iff.mpr h3⟩)]
    · rw [if_neg h2, if_pos rfl, if_neg (fun g => h2 (j_pr_iff.mpr ⟨by omega, (j_fp_iff.mp g).2.1, (j_fp_iff.mp g).2.2.1⟩))]
  · rw [if_neg (nI_nlt (by omega) (by omega)), if_neg (by simp [j_fp, h1])]
theorem m_onC (c : m_CQ st h C s o k) {x : Nat} (hx : x < 49) (hne : x / 7 ≠ x % 7) (b : Bool) : ∃ s1, f_X1_bindPair T (nI x) (if b then 1 else 0) st = some s1 ∧ m_fr [16] st s1 ∧ m_CQ s1 h C s (j_on o x b) k := by
  obtain ⟨d1, d2, d3, d4⟩ := m_dv hx
  obtain ⟨s1, e1, f1, g1⟩ := m_bindC (T := T) (a := 12) (st := st) (o := o) c.2.1 d3 d4 hne b
  rw [f_X1_bindPair, d2, d1, m_eq_bind e1]
  exact ⟨s1, rfl, f1, m_CQ_bd c f1 g1 (fun j hj => j_bd_lt b d3 d4 (fun i hi => (c.2.1 i hi).2) hj)⟩
theorem m_CQ_ext {o' : Nat → Nat} (c : m_CQ st h C s o k) (he : ∀ j, j < 7 → o j = o' j) : m_CQ st h C s o' k :=
  ⟨c.1, fun q hq => by rw [← he q hq]; exact c.2.1 q hq, c.2.2⟩
theorem m_offC {x : Nat} (c : m_CQ st h C s (j_on o x true) k) (hx : x < 49) (hf : j_fp s o x = true) (hl : ∀ j, j < 7 → o j < 128) (hsym : ∀ a b, a < 7 → b < 7 → (o a).testBit b = (o b).testBit a) : ∃ s1, f_X1_bindPair T (nI x) 0 st = some s1 ∧ m_fr [16] st s1 ∧ m_CQ s1 h C s o k := by
  obtain ⟨d1, d2, d3, d4⟩ := m_dv hx
  obtain ⟨q1, q2, q3, q4⟩ := j_fp_iff.mp hf
  obtain ⟨s1, e1, f1, g1⟩ := m_onC (T := T) c hx (by omega) false
  exact ⟨s1, e1, f1, m_CQ_ext g1 (fun j hj => j_bd_back d3 d4 (by omega) hl hsym q4 hj)⟩
theorem m_findC (hs : s < 128) (hsym : ∀ a b, a < 7 → b < 7 → (o a).testBit b = (o b).testBit a) (c : m_CQ st h C s o k) {m f : Nat} (hm : m < 3) (hf : f ≤ 49) : ∃ (r : Int32) (st' : px_S), f_X1_findOath T (nI m) (nI f) st = some (r, st') ∧ m_fr [16, 29] st st' ∧ m_CQ st' h C s o k ∧ ((r = 0 ∧ st' 29 = st 29 ∧ ∀ x, f ≤ x → x < 49 → j_r1 h C s k o x = false) ∨ (r = 1 ∧ ∃ x, f ≤ x ∧ x < 49 ∧ j_r1 h C s k o x = true ∧ (∀ y, f ≤ y → y < x → j_r1 h C s k o y = false) ∧ ∀ j, st' 29 j = if j = m then p_X1_pairName (nI x) else if j = 0 then nI m else st 29 j)) := by
  have hl : ∀ j, j < 7 → o j < 128 := fun j hj => (c.2.1 j hj).2
  rw [f_X1_findOath]
  refine m_for (σ := px_S) (fun fu i z => f_X1_findOath_2 T fu (nI m) (nI i) z) 49 (fun i z => f ≤ i ∧ m_fr [16, 29] st z ∧ m_CQ z h C s o k ∧ z 29 = st 29 ∧ ∀ x, f ≤ x → x < i → j_r1 h C s k o x = false) (fun r => ∃ (v : Int32) (st' : px_S), r = some (v, st') ∧ m_fr [16, 29] st st' ∧ m_CQ st' h C s o k ∧ ((v = 0 ∧ st' 29 = st 29 ∧ ∀ x, f ≤ x → x < 49 → j_r1 h C s k o x = false) ∨ (v = 1 ∧ ∃ x, f ≤ x ∧ x < 49 ∧ j_r1 h C s k o x = true ∧ (∀ y, f ≤ y → y < x → j_r1 h C s k o y = false) ∧ ∀ j, st' 29 j = if j = m then p_X1_pairName (nI x) else if j = 0 then nI m else st 29 j))) ?_ ?_ (49 - f) f st 1000 (by omega) ⟨Nat.le_refl _, m_fr_refl _ _, c, rfl, fun x h1 h2 => by omega⟩ (by omega)
  · intro fu i z hi hz
    obtain ⟨z0, z1, z2, z3, z4⟩ := hz
    rw [f_X1_findOath_2, if_pos (by rw [show (49 : Int32) = nI 49 from rfl]; exact nI_lt hi (by omega)), m_eq_bind (m_fpC hs z2 hi)]
    have more : j_r1 h C s k o i = false → ∀ x, f ≤ x → x < i + 1 → j_r1 h C s k o x = false := fun hg x h1 h2 => by
      rcases Nat.lt_or_ge x i with hl | hl
      · exact z4 x h1 hl
      · rw [show x = i by omega]; exact hg
    by_cases hfp : j_fp s o i = true
    · rw [if_pos hfp, if_neg (by decide)]
      have hne : i / 7 ≠ i % 7 := by have := (j_fp_iff.mp hfp).1; omega
      obtain ⟨t1, a1, a2, a3⟩ := m_onC (T := T) z2 hi hne true
      have b1 := m_restC (T := T) a3
      obtain ⟨t2, d1, d2, d3⟩ := m_offC (T := T) a3 hi hfp hl hsym
      have f2 : m_fr [16, 29] st t2 := m_fr_tr z1 (m_fr_mono (m_fr_tr a2 d2) (by intro a ha; simp at ha ⊢; omega))
      rw [m_eq_bind (show f_X1_bindPair T (nI i) 1 z = some t1 from a1), m_eq_bind b1, m_eq_bind d1]
      have t29 : t2 29 = st 29 := by rw [d2 29 (by decide), a2 29 (by decide)]; exact z3
      by_cases hr : j_rest (j_ag h C s (j_on o i true)) k = true
      · right
        rw [if_pos hr, if_neg (by decide), if_pos (m_px hm (by omega)), nI_clamp (by omega)]
        refine ⟨1, _, rfl, m_fr_up (m_fr_up f2 (by simp) _ _) (by simp) _ _, ?_, Or.inr ⟨rfl, i, z0, hi, by unfold j_r1; rw [hfp, hr]; rfl, z4, fun j => ?_⟩⟩
        · obtain ⟨⟨u1, u2⟩, u3, u4, u5⟩ := d3
          have nr : ∀ a, a ≠ 29 → (up (up t2 29 0 (nI m)) 29 m (p_X1_pairName (nI i))) a = t2 a := fun a ha => by rw [m_up_row _ _ _ _ ha, m_up_row _ _ _ _ ha]
          exact ⟨⟨by rw [nr 11 (by omega)]; exact u1, fun q hq => by rw [nr 22 (by omega), nr 23 (by omega)]; exact u2 q hq⟩, fun q hq => by rw [nr 16 (by omega)]; exact u3 q hq, by rw [nr 12 (by omega)]; exact u4, u5⟩
        · rw [m_up, if_pos rfl, m_up, if_pos rfl, t29]
      · left
        rw [if_neg hr, if_pos rfl, nI_1]
        exact ⟨t2, ⟨by omega, f2, d3, t29, more (by unfold j_r1; simp [hr])⟩, rfl⟩
    · left
      rw [if_neg hfp, if_pos rfl, nI_1]
      exact ⟨z, ⟨by omega, z1, z2, z3, more (by unfold j_r1; simp [hfp])⟩, rfl⟩
  · intro fu z hz
    obtain ⟨z0, z1, z2, z3, z4⟩ := hz
    rw [f_X1_findOath_2, if_neg (by decide)]
    exact ⟨0, z, rfl, z1, z2, Or.inl ⟨rfl, z3, z4⟩⟩
/-- what OATHS tell -/
def j_OS (R : Bool) (r1 : Nat → Bool) (r2 : Nat → Nat → Bool) (a0 : Int32) (u v : Option Nat) : Prop :=
  (R = true ∧ a0 = 0 ∧ u = none ∧ v = none) ∨ (R = false ∧ ∃ x, x < 49 ∧ r1 x = true ∧ (∀ y, y < x → r1 y = false) ∧ a0 = 1 ∧ u = some x ∧ v = none) ∨ (R = false ∧ (∀ x, x < 49 → r1 x = false) ∧ ∃ x y, x < y ∧ y < 49 ∧ r2 x y = true ∧ (∀ a, a < x → ∀ b, a < b → b < 49 → r2 a b = false) ∧ (∀ b, x < b → b < y → r2 x b = false) ∧ a0 = 2 ∧ u = some x ∧ v = some y) ∨ (R = false ∧ (∀ x, x < 49 → r1 x = false) ∧ (∀ x y, x < y → y < 49 → r2 x y = false) ∧ a0 = -1 ∧ u = none ∧ v = none)
theorem j_OS_uni {R : Bool} {r1 : Nat → Bool} {r2 : Nat → Nat → Bool} {a0 b0 : Int32} {u v u' v' : Option Nat} (h : j_OS R r1 r2 a0 u v) (g : j_OS R r1 r2 b0 u' v') : a0 = b0 ∧ u = u' ∧ v = v' := by
  rcases h with ⟨h0, h1, h2, h3⟩ | ⟨h0, x, hx, h1, h2, h3, h4, h5⟩ | ⟨h0, h1, x, y, hx, hy, h2, h3, h4, h5, h6, h7⟩ | ⟨h0, h1, h2, h3, h4, h5⟩
  · rcases g with ⟨g0, g1, g2, g3⟩ | ⟨g0, _⟩ | ⟨g0, _⟩ | ⟨g0, _⟩
    · exact ⟨h1.trans g1.symm, h2.trans g2.symm, h3.trans g3.symm⟩
    all_goals (rw [h0] at g0; cases g0)
  · rcases g with ⟨g0, _⟩ | ⟨g0, z, hz, g1, g2, g3, g4, g5⟩ | ⟨g0, g1, _⟩ | ⟨g0, g1, _⟩
    · rw [h0] at g0; cases g0
    · have e : x = z := by
        rcases Nat.lt_trichotomy x z with q | q | q
        · rw [g2 x q] at h1; cases h1
        · exact q
        · rw [h2 z q] at g1; cases g1
      subst e
      exact ⟨h3.trans g3.symm, h4.trans g4.symm, h5.trans g5.symm⟩
    · rw [g1 x hx] at h1; cases h1
    · rw [g1 x hx] at h1; cases h1
  · rcases g with ⟨g0, _⟩ | ⟨g0, z, hz, g1, _⟩ | ⟨g0, g1, z, w, hz, hw, g2, g3, g4, g5, g6, g7⟩ | ⟨g0, g1, g2, _⟩
    · rw [h0] at g0; cases g0
    · rw [h1 z hz] at g1; cases g1
    · have e : x = z := by
        rcases Nat.lt_trichotomy x z with q | q | q
        · rw [g3 x q y hx hy] at h2; cases h2
        · exact q
        · rw [h3 z q w hz hw] at g2; cases g2
      subst e
      have e2 : y = w := by
        rcases Nat.lt_trichotomy y w with q | q | q
        · rw [g4 y hx q] at h2; cases h2
        · exact q
        · rw [h4 w hz q] at g2; cases g2
      subst e2
      exact ⟨h5.trans g5.symm, h6.trans g6.symm, h7.trans g7.symm⟩
    · rw [g2 x y hx hy] at h2; cases h2
  · rcases g with ⟨g0, _⟩ | ⟨g0, z, hz, g1, _⟩ | ⟨g0, g1, z, w, hz, hw, g2, _⟩ | ⟨g0, g1, g2, g3, g4, g5⟩
    · rw [h0] at g0; cases g0
    · rw [h1 z hz] at g1; cases g1
    · rw [h2 z w hz hw] at g2; cases g2
    · exact ⟨h3.trans g3.symm, h4.trans g4.symm, h5.trans g5.symm⟩
def j_nm (u : Option Nat) : Int32 := match u with | some x => p_X1_pairName (nI x) | none => -1
def j_ix (u : Option Nat) : Int32 := match u with | some x => nI x | none => -1
theorem m_oathsFC (hs : s < 128) (hsym : ∀ a b, a < 7 → b < 7 → (o a).testBit b = (o b).testBit a) (c : m_CQ st h C s o k) : ∃ (st' : px_S) (a0 : Int32) (u v : Option Nat), f_X1_findOaths T st = some st' ∧ m_fr [16, 29] st st' ∧ j_OS (j_rest (j_ag h C s o) k) (j_r1 h C s k o) (j_r2 h C s k o) a0 u v ∧ st' 29 0 = a0 ∧ st' 29 1 = j_nm u ∧ st' 29 2 = j_nm v := by
  have hl : ∀ j, j < 7 → o j < 128 := fun j hj => (c.2.1 j hj).2
  obtain ⟨s0, es0⟩ : ∃ s0, s0 = up (up (up st 29 0 (-1)) 29 1 (-1)) 29 2 (-1) := ⟨_, rfl⟩
  have r0 : ∀ a, a ≠ 29 → s0 a = st a := fun a ha => by rw [es0, m_up_row _ _ _ _ ha, m_up_row _ _ _ _ ha, m_up_row _ _ _ _ ha]
  have f0 : m_fr [16, 29] st s0 := fun a ha => r0 a (by simp at ha; omega)
  have v0 : ∀ j, j < 3 → s0 29 j = -1 := fun j hj => by
    rcases (show j = 0 ∨ j = 1 ∨ j = 2 by omega) with rfl | rfl | rfl <;> (rw [es0]; simp [m_up])
  have c0 : m_CQ s0 h C s o k := by
    obtain ⟨⟨u1, u2⟩, u3, u4, u5⟩ := c
    exact ⟨⟨by rw [r0 11 (by omega)]; exact u1, fun q hq => by rw [r0 22 (by omega), r0 23 (by omega)]; exact u2 q hq⟩, fun q hq => by rw [r0 16 (by omega)]; exact u3 q hq, by rw [r0 12 (by omega)]; exact u4, u5⟩
  rw [f_X1_findOaths, ← es0, m_eq_bind (m_restC c0)]
  by_cases hR : j_rest (j_ag h C s o) k = true
  · rw [if_pos hR, if_neg (by decide)]
    exact ⟨_, 0, none, none, rfl, m_fr_up f0 (by simp) _ _, Or.inl ⟨hR, rfl, rfl, rfl⟩, by simp [m_up], by rw [m_up, if_pos rfl, if_neg (by decide)]; exact v0 1 (by omega), by rw [m_up, if_pos rfl, if_neg (by decide)]; exact v0 2 (by omega)⟩
  have hR' := Bool.eq_false_iff.mpr hR
  rw [if_neg hR, if_pos rfl]
  obtain ⟨r, s1, e1, f1, c1, d1⟩ := m_findC (T := T) hs hsym c0 (m := 1) (f := 0) (by omega) (by omega)
  rw [m_eq_bind (show f_X1_findOath T 1 0 s0 = some (r, s1) from e1)]
  rcases d1 with ⟨d1, d2, d3⟩ | ⟨d1, x, d2, d3, d4, d5, d6⟩
  case inr =>
    simp only [d1, show ¬ ((1 : Int32) = 0) by decide, if_false]
    exact ⟨s1, 1, some x, none, rfl, m_fr_tr f0 f1, Or.inr (Or.inl ⟨hR', x, d3, d4, fun y hy => d5 y (by omega) hy, rfl, rfl, rfl⟩), by rw [d6, if_neg (by decide), if_pos rfl]; rfl, by rw [d6, if_pos rfl]; rfl, by rw [d6, if_neg (by decide), if_neg (by decide)]; exact v0 2 (by omega)⟩
  simp only [d1, if_true]
  have no1 : ∀ x, x < 49 → j_r1 h C s k o x = false := fun x hx => d3 x (by omega) hx
  have two : ∃ (st' : px_S), f_X1_findTwoOaths T s1 = some st' ∧ m_fr [16, 29] s1 st' ∧ ((st' 29 = s1 29 ∧ ∀ x y, x < y → y < 49 → j_r2 h C s k o x y = false) ∨ ∃ x y, x < y ∧ y < 49 ∧ j_r2 h C s k o x y = true ∧ (∀ a, a < x → ∀ b, a < b → b < 49 → j_r2 h C s k o a b = false) ∧ (∀ b, x < b → b < y → j_r2 h C s k o x b = false) ∧ st' 29 0 = 2 ∧ st' 29 1 = p_X1_pairName (nI x) ∧ st' 29 2 = p_X1_pairName (nI y)) := by
    rw [f_X1_findTwoOaths]
    refine m_for (σ := px_S) (fun fu i z => f_X1_findTwoOaths_2 T fu (nI i) z) 49 (fun i z => m_fr [16, 29] s1 z ∧ m_CQ z h C s o k ∧ z 29 = s1 29 ∧ ∀ a, a < i → ∀ b, a < b → b < 49 → j_r2 h C s k o a b = false) (fun r => ∃ (st' : px_S), r = some st' ∧ m_fr [16, 29] s1 st' ∧ ((st' 29 = s1 29 ∧ ∀ x y, x < y → y < 49 → j_r2 h C s k o x y = false) ∨ ∃ x y, x < y ∧ y < 49 ∧ j_r2 h C s k o x y = true ∧ (∀ a, a < x → ∀ b, a < b → b < 49 → j_r2 h C s k o a b = false) ∧ (∀ b, x < b → b < y → j_r2 h C s k o x b = false) ∧ st' 29 0 = 2 ∧ st' 29 1 = p_X1_pairName (nI x) ∧ st' 29 2 = p_X1_pairName (nI y))) ?_ ?_ 49 0 s1 1000 (by omega) ⟨m_fr_refl _ _, c1, rfl, fun a ha => by omega⟩ (by omega)
    · intro fu i z hi hz
      obtain ⟨z1, z2, z3, z4⟩ := hz
      rw [f_X1_findTwoOaths_2, if_pos (by rw [show (49 : Int32) = nI 49 from rfl]; exact nI_lt hi (by omega)), m_eq_bind (m_fpC hs z2 hi)]
      have more : (∀ b, i < b → b < 49 → j_r2 h C s k o i b = false) → ∀ a, a < i + 1 → ∀ b, a < b → b < 49 → j_r2 h C s k o a b = false := fun hg a ha b h1 h2 => by
        rcases Nat.lt_or_ge a i with hl | hl
        · exact z4 a hl b h1 h2
        · have : a = i := by omega
          subst this; exact hg b h1 h2
      by_cases hfp : j_fp s o i = true
      · rw [if_pos hfp, if_neg (by decide)]
        have hq := j_fp_iff.mp hfp
        have hne : i / 7 ≠ i % 7 := by omega
        obtain ⟨t1, a1, a2, a3⟩ := m_onC (T := T) z2 hi hne true
        obtain ⟨r', t2, b1, b2, b3, b4⟩ := m_findC (T := T) (o := j_on o i true) hs (j_bd_sym hne true hsym) a3 (m := 2) (f := i + 1) (by omega) (by omega)
        obtain ⟨t3, g1, g2, g3⟩ := m_offC (T := T) b3 hi hfp hl hsym
        have f3 : m_fr [16, 29] s1 t3 := m_fr_tr z1 (m_fr_tr (m_fr_mono a2 (by intro a ha; simp at ha ⊢; omega)) (m_fr_tr b2 (m_fr_mono g2 (by intro a ha; simp at ha ⊢; omega))))
        rw [m_eq_bind (show f_X1_bindPair T (nI i) 1 z = some t1 from a1), nI_1, m_eq_bind (show f_X1_findOath T 2 (nI (i + 1)) t1 = some (r', t2) from b1), m_eq_bind g1]
        have t29 : t3 29 = t2 29 := g2 29 (by decide)
        rcases b4 with ⟨b4, b5, b6⟩ | ⟨b4, y, b5, b6, b7, b8, b9⟩
        · left
          simp only [b4, if_true]
          refine ⟨t3, ⟨f3, g3, by rw [t29, b5, a2 29 (by decide)]; exact z3, more (fun b h1 h2 => ?_)⟩, rfl⟩
          unfold j_r2; rw [b6 b (by omega) h2, Bool.and_false]
        · right
          simp only [b4, show ¬ ((1 : Int32) = 0) by decide, if_false]
          refine ⟨_, rfl, m_fr_up f3 (by simp) _ _, Or.inr ⟨i, y, by omega, b6, by unfold j_r2; rw [hfp, b7]; rfl, z4, fun b h1 h2 => ?_, ?_, ?_, ?_⟩⟩
          · unfold j_r2; rw [b8 b (by omega) h2, Bool.and_false]
          · rw [m_up, if_pos rfl, if_neg (by decide), t29, b9, if_neg (by decide), if_pos rfl]; rfl
          · rw [m_up, if_pos rfl, if_pos rfl]
          · rw [m_up, if_pos rfl, if_neg (by decide), t29, b9, if_pos rfl]
      · left
        rw [if_neg hfp, if_pos rfl, nI_1]
        exact ⟨z, ⟨z1, z2, z3, more (fun b _ _ => by unfold j_r2; simp [hfp])⟩, rfl⟩
    · intro fu z hz
      obtain ⟨z1, z2, z3, z4⟩ := hz
      rw [f_X1_findTwoOaths_2, if_neg (by decide)]
      exact ⟨z, rfl, z1, Or.inl ⟨z3, fun x y h1 h2 => z4 x (by omega) y h1 h2⟩⟩
  obtain ⟨s2, e2, f2, d4⟩ := two
  rw [m_eq_bind e2]
  rcases d4 with ⟨d4, d5⟩ | ⟨x, y, d4, d5, d6, d7, d8, d9, d10, d11⟩
  · refine ⟨s2, -1, none, none, rfl, m_fr_tr f0 (m_fr_tr f1 f2), Or.inr (Or.inr (Or.inr ⟨hR', no1, d5, rfl, rfl, rfl⟩)), ?_, ?_, ?_⟩
    · rw [d4, d2]; exact v0 0 (by omega)
    · rw [d4, d2]; exact v0 1 (by omega)
    · rw [d4, d2]; exact v0 2 (by omega)
  · exact ⟨s2, 2, some x, some y, rfl, m_fr_tr f0 (m_fr_tr f1 f2), Or.inr (Or.inr (Or.inl ⟨hR', no1, x, y, d4, d5, d6, d7, d8, rfl, rfl, rfl⟩)), d9, d10, d11⟩
end
