def j_dm (d : Nat) : Nat := if d < 999 then d + 1 else 999
theorem j_dm_le {d : Nat} : j_dm d ≤ 999 := by unfold j_dm; by_cases h : d < 999 <;> simp [h] <;> omega
/-- one leaves, a day goes by -/
def j_lv (h : px_H) (q : Nat) : px_H := hu (hu h 5 0 (m_dif (h 5 0) (2 ^ q))) 8 0 (j_dm (h 8 0))
theorem j_lv_5 (h : px_H) (q : Nat) : (j_lv h q) 5 0 = m_dif (h 5 0) (2 ^ q) := by simp [j_lv, hu]
theorem j_lv_8 (h : px_H) (q : Nat) : (j_lv h q) 8 0 = j_dm (h 8 0) := by simp [j_lv, hu]
theorem j_lv_x (h : px_H) (q x : Nat) (h5 : x ≠ 5) (h8 : x ≠ 8) : (j_lv h q) x = h x := by funext y; simp [j_lv, hu, h5, h8]
theorem j_lv_w {h : px_H} (hw : m_HW h) (q : Nat) : m_HW (j_lv h q) := by
  refine m_HW_set (m_HW_set hw 5 _ (by omega) ⟨fun _ => m_dif_lt' hw.2.1, by omega, by omega, by omega⟩) 8 _ (by omega) ⟨by omega, by omega, by omega, fun _ => j_dm_le⟩
theorem m_JS_set {T : Nat} {st : px_S} {h : px_H} {C : Nat → List Int32} (k : m_JS T st h C) (i v : Nat) (hi : 5 ≤ i ∧ i ≤ 9) : m_JS T (up st 12 i (nI v)) (hu h i 0 v) C := by
  obtain ⟨⟨k4, k5, k6, k7, k8, k9, kr, kl, ko⟩, a, ha, k2, k3, kt⟩ := k
  have na : ∀ b, b ≠ 12 → (up st 12 i (nI v)) b = st b := fun b hb => m_up_row _ _ _ _ hb
  have n4 : (hu h i 0 v) 4 0 = h 4 0 := by unfold hu; rw [if_neg (by omega)]
  have n0 : (hu h i 0 v) 0 = h 0 := by funext y; unfold hu; rw [if_neg (by omega)]
  have n1 : (hu h i 0 v) 1 = h 1 := by funext y; unfold hu; rw [if_neg (by omega)]
  have n2 : (hu h i 0 v) 2 = h 2 := by funext y; unfold hu; rw [if_neg (by omega)]
  have n3 : (hu h i 0 v) 3 = h 3 := by funext y; unfold hu; rw [if_neg (by omega)]
  have nx : ∀ x, (hu h i 0 v) x 0 = if x = i then v else h x 0 := fun x => by
    unfold hu
    by_cases e : x = i
    · rw [if_pos e, if_pos rfl, if_pos e]
    · rw [if_neg e, if_neg e]
  have val : ∀ x, st 12 x = nI (h x 0) → (up st 12 i (nI v)) 12 x = nI ((hu h i 0 v) x 0) := fun x e => by
    rw [m_up, if_pos rfl, nx]
    by_cases c : x = i
    · rw [if_pos c, if_pos c]
    · rw [if_neg c, if_neg c]; exact e
  refine ⟨⟨by rw [n4, m_up, if_pos rfl, if_neg (by omega)]; exact k4, val 5 k5, val 6 k6, val 7 k7, val 8 k8, val 9 k9, ?_, ?_, ?_⟩, a, ha, k2, by rw [na 11 (by omega)]; exact k3, m_TX_eq kt (na _ (by omega)) (na _ (by omega))⟩
  · rw [n4, n0, n1, na _ (by omega), na _ (by omega)]; exact kr
  · rw [n2, na _ (by omega)]; exact kl
  · rw [n3, na _ (by omega)]; exact ko
theorem m_RJ_set {st : px_S} {h : px_H} {C : Nat → List Int32} (k : m_RJ st h C) (i v : Nat) (hi : 5 ≤ i ∧ i ≤ 8) : m_RJ (up st 48 (i + 7) (nI v)) (hu h i 0 v) C := by
  obtain ⟨⟨k4, k5, k6, k7, k8, k9, kr, kl, ko⟩, B, sz, k2, k3, kt⟩ := k
  have na : ∀ b, b ≠ 48 → (up st 48 (i + 7) (nI v)) b = st b := fun b hb => m_up_row _ _ _ _ hb
  have n4 : (hu h i 0 v) 4 0 = h 4 0 := by unfold hu; rw [if_neg (by omega)]
  have n0 : (hu h i 0 v) 0 = h 0 := by funext y; unfold hu; rw [if_neg (by omega)]
  have n1 : (hu h i 0 v) 1 = h 1 := by funext y; unfold hu; rw [if_neg (by omega)]
  have n2 : (hu h i 0 v) 2 = h 2 := by funext y; unfold hu; rw [if_neg (by omega)]
  have n3 : (hu h i 0 v) 3 = h 3 := by funext y; unfold hu; rw [if_neg (by omega)]
  have n9 : (hu h i 0 v) 9 0 = h 9 0 := by unfold hu; rw [if_neg (by omega)]
  have nx : ∀ x, (hu h i 0 v) x 0 = if x = i then v else h x 0 := fun x => by
    unfold hu
    by_cases e : x = i
    · rw [if_pos e, if_pos rfl, if_pos e]
    · rw [if_neg e, if_neg e]
  have val : ∀ x, st 48 (x + 7) = nI (h x 0) → (up st 48 (i + 7) (nI v)) 48 (x + 7) = nI ((hu h i 0 v) x 0) := fun x e => by
    rw [m_up, if_pos rfl, nx]
    by_cases c : x = i
    · rw [if_pos (by omega), if_pos c]
    · rw [if_neg (by omega), if_neg c]; exact e
  refine ⟨⟨by rw [n4, m_up, if_pos rfl, if_neg (by omega)]; exact k4, val 5 k5, val 6 k6, val 7 k7, val 8 k8, by rw [n9, m_up, if_pos rfl, if_neg (by omega)]; exact k9, ?_, ?_, ?_⟩, B, sz, by rw [n9]; exact m_reft_eq k2 (na _ (by omega)) (na _ (by omega)), k3, kt⟩
  · rw [n4, n0, n1, na _ (by omega), na _ (by omega)]; exact kr
  · rw [n4, n2, na _ (by omega)]; exact kl
  · rw [n4, n3, na _ (by omega)]; exact ko
theorem m_lvC {T : Nat} {st : px_S} {h : px_H} {C : Nat → List Int32} (hw : m_HW h) (k : m_JS T st h C) {q : Nat} (hq : q < 7) : ∃ s1 s2, f_X0_leave T 12 (nI q) st = some s1 ∧ f_X0_passDay T 12 s1 = some s2 ∧ m_JS T s2 (j_lv h q) C ∧ m_fr [12] st s2 := by
  have hs7 : h 5 0 < 128 := Nat.lt_of_lt_of_le hw.2.1 (m_pow7 hw.1)
  have k1 := m_JS_set k 5 (m_dif (h 5 0) (2 ^ q)) (by omega)
  have e8 : (up st 12 5 (nI (m_dif (h 5 0) (2 ^ q)))) 12 8 = nI (h 8 0) := by rw [m_up, if_pos rfl, if_neg (by decide)]; exact k.1.2.2.2.2.1
  exact ⟨_, _, m_leaveC hs7 hq k.1.2.1, m_dayC hw.2.2.2.2.1 e8, m_JS_set k1 8 (j_dm (h 8 0)) (by omega), m_fr_up (m_fr_up (m_fr_refl _ _) (by simp) _ _) (by simp) _ _⟩
theorem m_lvR {T : Nat} {st : px_S} {h : px_H} {C : Nat → List Int32} (hw : m_HW h) (k : m_RJ st h C) {q : Nat} (hq : q < 7) : (st 48 12 &&& (((1 : Int32) <<< (nI q &&& 31)) ^^^ (-1))) = nI (m_dif (h 5 0) (2 ^ q)) ∧ f_X6_dayMore T (up st 48 12 (nI (m_dif (h 5 0) (2 ^ q)))) = some (up (up st 48 12 (nI (m_dif (h 5 0) (2 ^ q)))) 48 15 (nI (j_dm (h 8 0)))) ∧ m_RJ (up (up st 48 12 (nI (m_dif (h 5 0) (2 ^ q)))) 48 15 (nI (j_dm (h 8 0)))) (j_lv h q) C := by
  have hs7 : h 5 0 < 128 := Nat.lt_of_lt_of_le hw.2.1 (m_pow7 hw.1)
  have e15 : (up st 48 12 (nI (m_dif (h 5 0) (2 ^ q)))) 48 15 = nI (h 8 0) := by rw [m_up, if_pos rfl, if_neg (by decide)]; exact k.1.2.2.2.2.1
  refine ⟨by rw [k.1.2.1, b_sh1 q (by omega), b_dif _ hs7 _ (m_bit2 q hq)], m_dayR hw.2.2.2.2.1 e15, m_RJ_set (m_RJ_set k 5 _ (by omega)) 8 (j_dm (h 8 0)) (by omega)⟩
def j_gg (h : px_H) (C : Nat → List Int32) (b q : Nat) : Bool := j_g (j_ag h C (h 5 0) (h 3) q) (h 7 0) b
/-- how it goes on -/
def j_run (C : Nat → List Int32) (f : px_H) : List Nat → px_H → Prop
  | [], h => j_F1 (j_gg h C) 128 7 (-1) (-1) ∧ f = h
  | q :: l, h => q < 7 ∧ (∃ fb, j_F1 (j_gg h C) 128 7 fb (nI q)) ∧ j_run C f l (j_lv h q)
theorem j_run_uni {C : Nat → List Int32} {f f' : px_H} : ∀ (l l' : List Nat) (h : px_H), j_run C f l h → j_run C f' l' h → l = l' ∧ f = f'
  | [], [], h, a, b => ⟨rfl, a.2.trans b.2.symm⟩
  | [], q :: l', h, a, b => by
    obtain ⟨hq, ⟨fb, b1⟩, _⟩ := b
    have := (j_F1_uni a.1 b1).2
    exact absurd this.symm (m_n1 (by omega))
  | q :: l, [], h, a, b => by
    obtain ⟨hq, ⟨fb, a1⟩, _⟩ := a
    have := (j_F1_uni a1 b.1).2
    exact absurd this (m_n1 (by omega))
  | q :: l, q' :: l', h, a, b => by
    obtain ⟨hq, ⟨fa, a1⟩, a2⟩ := a
    obtain ⟨hq', ⟨fb, b1⟩, b2⟩ := b
    have e := (nI_eq (by omega) (by omega)).mp (j_F1_uni a1 b1).2
    subst e
    obtain ⟨i1, i2⟩ := j_run_uni l l' (j_lv h q) a2 b2
    exact ⟨by rw [i1], i2⟩
theorem j_gg_in {h : px_H} {C : Nat → List Int32} (hw : m_HW h) {b q : Nat} (hb : b < 128) (hg : j_gg h C b q = true) : (h 5 0).testBit q = true := by
  cases e : (h 5 0).testBit q
  · unfold j_gg at hg
    rw [j_ag_out e, j_g_zero hw.2.2.2.1.1 hb] at hg; cases hg
  · rfl
theorem j_F1_none {h : px_H} {C : Nat → List Int32} {fb : Int32} (F : j_F1 (j_gg h C) 128 7 fb (-1)) : fb = -1 ∧ ∀ b, b < 128 → ∀ q, q < 7 → j_gg h C b q = false := by
  rcases F with ⟨a, _, c⟩ | ⟨b, q, _, h2, _, h4, _⟩
  · exact ⟨a, c⟩
  · exact absurd h4.symm (m_n1 (by omega))
theorem j_F1_rest {h : px_H} {C : Nat → List Int32} (hw : m_HW h) {fb fo : Int32} (F : j_F1 (j_gg h C) 128 7 fb fo) : (j_rest (j_ag h C (h 5 0) (h 3)) (h 7 0) = true ∧ fb = -1 ∧ fo = -1) ∨ (j_rest (j_ag h C (h 5 0) (h 3)) (h 7 0) = false ∧ ∃ q, q < 7 ∧ fo = nI q ∧ (h 5 0).testBit q = true) := by
  rcases F with ⟨a, b, c⟩ | ⟨b, q, h1, h2, h3, h4, h5, _⟩
  · refine Or.inl ⟨j_rest_true.mpr (fun q hq => Nat.lt_of_not_ge (fun g => ?_)), a, b⟩
    obtain ⟨b, hb, hg⟩ := (j_ex (j_ag_lt h C (h 5 0) (h 3) q) hw.2.2.2.1).mpr g
    have := c b hb q hq
    unfold j_gg at this
    rw [this] at hg; cases hg
  · refine Or.inr ⟨Bool.eq_false_iff.mpr (fun g => ?_), q, h2, h4, j_gg_in hw h1 h5⟩
    have := j_rest_true.mp g q h2
    have := (j_ex (j_ag_lt h C (h 5 0) (h 3) q) hw.2.2.2.1).mp ⟨b, h1, h5⟩
    omega
theorem m_pop0 : ∀ s, s < 128 → m_pop s = 0 → s = 0 := by decide +kernel
theorem j_F1_empty {h : px_H} {C : Nat → List Int32} (hw : m_HW h) (h0 : m_pop (h 5 0) = 0) : j_F1 (j_gg h C) 128 7 (-1) (-1) := by
  have hs7 : h 5 0 < 128 := Nat.lt_of_lt_of_le hw.2.1 (m_pow7 hw.1)
  refine Or.inl ⟨rfl, rfl, fun b hb q _ => ?_⟩
  cases e : j_gg h C b q
  · rfl
  · have := j_gg_in hw hb e
    rw [m_pop0 _ hs7 h0, Nat.zero_testBit] at this; cases this
theorem m_goC {T : Nat} {C : Nat → List Int32} : ∀ (d i : Nat) (st : px_S) (h : px_H), i + d = 7 → m_pop (h 5 0) ≤ d → m_HW h → m_JS T st h C → ∀ fuel, d < fuel → ∃ (l : List Nat) (f : px_H) (st' : px_S), f_X1_runOn_4 T fuel (nI i) (nI i) st = some (nI (i + l.length), st') ∧ j_run C f l h ∧ l.length ≤ d ∧ m_fr m_TF st st' ∧ (∀ j, j < i → st' 28 j = st 28 j) ∧ (∀ j, j < l.length → st' 28 (i + j) = nI (l.getD j 0)) ∧ st' 12 5 = nI (f 5 0) ∧ st' 11 1 = st 11 1 := by
  intro d
  induction d with
  | zero =>
    intro i st h hi hp hw k fuel hf
    obtain ⟨fuel, rfl⟩ : ∃ e, fuel = e + 1 := ⟨fuel - 1, by omega⟩
    rw [show i = 7 by omega, f_X1_runOn_4, if_neg (by decide)]
    exact ⟨[], h, st, rfl, ⟨j_F1_empty hw (by omega), rfl⟩, Nat.le_refl _, m_fr_refl _ _, fun _ _ => rfl, fun j hj => absurd hj (Nat.not_lt_zero _), k.1.2.1, rfl⟩
  | succ d ih =>
    intro i st h hi hp hw k fuel hf
    obtain ⟨fuel, rfl⟩ : ∃ e, fuel = e + 1 := ⟨fuel - 1, by omega⟩
    have hs7 : h 5 0 < 128 := Nat.lt_of_lt_of_le hw.2.1 (m_pow7 hw.1)
    obtain ⟨s1, e1, f1, l1, k1, j1, _⟩ := m_lookC k hw hw.2.1
    obtain ⟨fb, fo, g1, g2, _⟩ := m_foC (T := T) (m_CQ_of hw k1 l1)
    rw [f_X1_runOn_4, if_pos (m_7 (by omega)), k.1.2.1, m_eq_bind e1, m_eq_bind g1]
    have r28 : s1 28 = st 28 := f1 28 (by decide)
    rcases j_F1_rest hw g2 with ⟨_, b1, b2⟩ | ⟨_, q, hq, b1, b2⟩
    · rw [if_pos b2]
      have F0 : j_F1 (j_gg h C) 128 7 fb fo := g2
      rw [b1, b2] at F0
      exact ⟨[], h, s1, rfl, ⟨F0, rfl⟩, Nat.zero_le _, m_TFl f1, fun j _ => by rw [r28], fun j hj => absurd hj (Nat.not_lt_zero _), k1.1.2.1, j1 1 (by decide)⟩
    · have ki : m_JS T (up s1 28 i fo) h C := m_JS_fr k1 (m_fr_up (m_fr_refl _ _) (by simp [m_jf]) _ _)
      obtain ⟨s2, s3, x1, x2, x3, x4⟩ := m_lvC (T := T) hw ki hq
      rw [if_neg (by rw [b1]; exact m_n1 (by omega)), if_pos (m_px (by omega) (by omega)), nI_clamp (by omega), nI_1, b1]
      rw [b1] at x1
      rw [m_eq_bind x1, m_eq_bind x2]
      have hp2 : m_pop ((j_lv h q) 5 0) ≤ d := by
        have := c_popd _ hs7 q hq b2
        rw [j_lv_5]; omega
      obtain ⟨l, f, st', y1, y2, y3, y4, y5, y6, y7, y8⟩ := ih (i + 1) s3 (j_lv h q) (by omega) hp2 (j_lv_w hw q) x3 fuel (by omega)
      have r3 : s3 28 = (up s1 28 i fo) 28 := x4 28 (by decide)
      refine ⟨q :: l, f, st', ?_, ⟨hq, ⟨fb, by rw [← b1]; exact g2⟩, y2⟩, by simp; omega, ?_, fun j hj => ?_, fun j hj => ?_, y7, ?_⟩
      · rw [y1, List.length_cons]; congr 3; omega
      · refine m_fr_tr (m_TFl f1) (m_fr_tr (m_fr_up (m_fr_refl _ _) (by simp [m_TF]) _ _) (m_fr_tr (m_fr_mono x4 ?_) y4))
        intro a ha; simp [m_TF] at ha ⊢; omega
      · rw [y5 j (by omega), r3, m_up, if_pos rfl, if_neg (by omega), r28]
      · cases j with
        | zero => rw [Nat.add_zero, y5 i (by omega), r3, m_up, if_pos rfl, if_pos rfl, b1]; rfl
        | succ j =>
          have := y6 j (by simp at hj; omega)
          rw [show i + (j + 1) = i + 1 + j by omega, this]; rfl
      · rw [y8, x4 11 (by decide), m_up_row _ _ _ _ (by decide), j1 1 (by decide)]
theorem m_goR {T : Nat} {C : Nat → List Int32} (y1 y2 y3 : Int32) : ∀ (d i : Nat) (st : px_S) (h : px_H), i + d ≤ 7 → m_pop (h 5 0) ≤ d → m_HW h → m_RJ st h C → m_LR st h C (h 5 0) → ∀ fuel, d < fuel → ∃ (l : List Nat) (f : px_H) (st' : px_S), f_X6_goOn_36 T fuel y1 y2 y3 (nI i) st = (if y1 = 0 then (some ((st' 48 12), (up (up st' 48 12 y2) 48 15 y3))) else (if y1 = 1 then (some (nI (i + l.length), (up (up st' 48 12 y2) 48 15 y3))) else (if (y1 - 2) < nI (i + l.length) then (if px_in (y1 - 2) 7 then (some (((up (up st' 48 12 y2) 48 15 y3) 59 (y1 - 2).toNatClampNeg), (up (up st' 48 12 y2) 48 15 y3))) else none) else (some ((-1), (up (up st' 48 12 y2) 48 15 y3)))))) ∧ j_run C f l h ∧ l.length ≤ d ∧ (∀ a, a ≠ 48 → ¬ (56 ≤ a ∧ a ≤ 62) → st' a = st a) ∧ (∀ j, ¬ (j = 12 ∨ j = 15 ∨ 16 ≤ j ∧ j ≤ 47) → st' 48 j = st 48 j) ∧ (∀ j, j < i → st' 59 j = st 59 j) ∧ (∀ j, j < l.length → st' 59 (i + j) = nI (l.getD j 0)) ∧ st' 48 12 = nI (f 5 0) := by
  intro d
  induction d with
  | zero =>
    intro i st h hi hp hw k lr fuel hf
    obtain ⟨fuel, rfl⟩ : ∃ e, fuel = e + 1 := ⟨fuel - 1, by omega⟩
    obtain ⟨s1, e1, f1, g1⟩ := m_restR (T := T) (m_RQ_of k hw lr) hw hw.2.1
    have F0 := j_F1_empty (C := C) hw (by omega)
    rcases j_F1_rest hw F0 with ⟨b0, _, _⟩ | ⟨_, q, hq, b1, _⟩
    case inr => exact absurd b1.symm (m_n1 (by omega))
    rw [f_X6_goOn_36, m_eq_bind e1, if_pos b0]
    simp only [show ¬ ((1 : Int32) = 0) by decide, if_false]
    exact ⟨[], h, s1, rfl, ⟨F0, rfl⟩, Nat.le_refl _, fun a ha _ => f1.1 a ha, fun j hj => f1.2 j (by simp; omega), fun j _ => by rw [f1.1 59 (by decide)], fun j hj => absurd hj (Nat.not_lt_zero _), by rw [f1.2 12 (by decide)]; exact k.1.2.1⟩
  | succ d ih =>
    intro i st h hi hp hw k lr fuel hf
    obtain ⟨fuel, rfl⟩ : ∃ e, fuel = e + 1 := ⟨fuel - 1, by omega⟩
    have hs7 : h 5 0 < 128 := Nat.lt_of_lt_of_le hw.2.1 (m_pow7 hw.1)
    obtain ⟨s1, e1, f1, g1⟩ := m_restR (T := T) (m_RQ_of k hw lr) hw hw.2.1
    have k1 : m_RJ s1 h C := m_RJ_sc k (m_sc_48 f1 (by intro j hj; simp at hj; omega))
    rcases j_F1_rest hw g1 with ⟨b0, b1, b2⟩ | ⟨b0, q, hq, b1, b2⟩
    · rw [f_X6_goOn_36, m_eq_bind e1, if_pos b0]
      simp only [show ¬ ((1 : Int32) = 0) by decide, if_false]
      have F0 : j_F1 (j_gg h C) 128 7 (s1 48 35) (s1 48 36) := g1
      rw [b1, b2] at F0
      exact ⟨[], h, s1, rfl, ⟨F0, rfl⟩, Nat.zero_le _, fun a ha _ => f1.1 a ha, fun j hj => f1.2 j (by simp; omega), fun j _ => by rw [f1.1 59 (by decide)], fun j hj => absurd hj (Nat.not_lt_zero _), by rw [f1.2 12 (by decide)]; exact k.1.2.1⟩
    · rw [f_X6_goOn_36, m_eq_bind e1, b0]
      simp only [Bool.false_eq_true, if_false, if_true]
      have ki : m_RJ (up s1 59 i (nI q)) h C := m_RJ_sc k1 (m_sc_up (m_sc_refl _) (by omega) _ _)
      obtain ⟨x1, x2, x3⟩ := m_lvR (T := T) hw ki hq
      have e12 : (up s1 59 i (nI q)) 48 12 = s1 48 12 := by rw [m_up_row _ _ _ _ (by decide)]
      rw [e12] at x1
      rw [if_pos (m_px (by omega) (by omega)), nI_clamp (by omega), b1, x1, m_eq_bind x2]
      obtain ⟨s2, es2⟩ : ∃ s2, s2 = up (up (up s1 59 i (nI q)) 48 12 (nI (m_dif (h 5 0) (2 ^ q)))) 48 15 (nI (j_dm (h 8 0))) := ⟨_, rfl⟩
      rw [← es2] at x3 ⊢
      have hw2 := j_lv_w hw q
      obtain ⟨s3, z1, z2, z3, z4⟩ := m_looksR (T := T) x3 hw2 hw2.2.1
      rw [x3.1.2.1, m_eq_bind z1, nI_1]
      have hp2 : m_pop ((j_lv h q) 5 0) ≤ d := by
        have := c_popd _ hs7 q hq b2
        rw [j_lv_5]; omega
      obtain ⟨l, f, st', w1, w2, w3, w4, w5, w6, w7, w8⟩ := ih (i + 1) s3 (j_lv h q) (by omega) hp2 hw2 (m_RJ_sc x3 z2) z3 fuel (by omega)
      have q59 : s3 59 = (up s1 59 i (nI q)) 59 := by rw [z4 59 (by decide), es2, m_up_row _ _ _ _ (by decide), m_up_row _ _ _ _ (by decide)]
      refine ⟨q :: l, f, st', ?_, ⟨hq, ⟨s1 48 35, by rw [← b1]; exact g1⟩, w2⟩, by simp; omega, fun a ha hb => ?_, fun j hj => ?_, fun j hj => ?_, fun j hj => ?_, w8⟩
      · rw [w1, List.length_cons, show i + 1 + l.length = i + (l.length + 1) by omega]
      · rw [w4 a ha hb, z2.1 a ha hb, es2, m_up_row _ _ _ _ ha, m_up_row _ _ _ _ ha, m_up_row _ _ _ _ (by omega), f1.1 a ha]
      · rw [w5 j hj, z2.2 j (by omega), es2, m_up, if_pos rfl, if_neg (by omega), m_up, if_pos rfl, if_neg (by omega), m_up_row _ _ _ _ (by decide), f1.2 j (by simp; omega)]
      · rw [w6 j (by omega), q59, m_up, if_pos rfl, if_neg (by omega), f1.1 59 (by decide)]
      · cases j with
        | zero => rw [Nat.add_zero, w6 i (by omega), q59, m_up, if_pos rfl, if_pos rfl]; rfl
        | succ j =>
          have := w7 j (by simp at hj; omega)
          rw [show i + (j + 1) = i + 1 + j by omega, this]; rfl
theorem op_goOn {T : Nat} {st : px_S} (ag : px_ag) (hI : Inv T st) : ∃ T2 st2, px_op11 T st ag T2 st2 ∧ Inv T2 st2 := by
  have hI0 := hI
  obtain ⟨h1, h2, h3, h4, h5, h, hh, him⟩ := hI
  have hh0 := hh
  obtain ⟨hw, h9, hc, hr⟩ := hh
  have hi := m_i (ag 1) 0 6 (A := 0) (B := 6) rfl rfl
  by_cases q1 : ag 1 < 0
  · exact ⟨T, st, ⟨rfl, -2, st, by rw [f_X5_goOn, if_pos q1], by rw [f_X6_goOn, if_pos (hi.mpr (Or.inl q1))]⟩, hI0⟩
  by_cases q2 : 6 < ag 1
  · exact ⟨T, st, ⟨rfl, -2, st, by rw [f_X5_goOn, if_neg q1, if_pos q2], by rw [f_X6_goOn, if_pos (hi.mpr (Or.inr q2))]⟩, hI0⟩
  obtain ⟨C, s0, e0, f0, k0, j0, r0, q0⟩ := m_thinkC h1 h3 hh0
  have hpop := m_pop_le (h 5 0)
  obtain ⟨l, f, s1, e1, g1, g2, f1, g3, g4, g5, g6⟩ := m_goC (T := T + 2) 7 0 s0 h (by omega) hpop hw k0 1000 (by omega)
  have f01 : m_fr m_TF st s1 := m_fr_tr (m_TFt f0) f1
  have jr : m_RJ s1 h C := m_RJ_fr q0 (fun a h1 h2 => f01 a (by simp [m_TF]; omega))
  obtain ⟨s2, e2, f2, l2, _⟩ := m_looksR (T := T) jr hw hw.2.1
  obtain ⟨l', f', s3, e3, x1, x2, x3, x4, x5, x6, x7⟩ := m_goR (T := T) (C := C) (ag 1) (s1 48 12) (s1 48 15) 7 0 s2 h (by omega) hpop hw (m_RJ_sc jr f2) l2 1000 (by omega)
  obtain ⟨i1, i2⟩ := j_run_uni l l' h g1 x1
  subst i1 i2
  simp only [Nat.zero_add] at e1 e3 g4 x6
  obtain ⟨s4, es4⟩ : ∃ s4, s4 = up (up s3 48 12 (s1 48 12)) 48 15 (s1 48 15) := ⟨_, rfl⟩
  have hsc : m_sc s1 s4 := by
    refine ⟨fun a ha hb => ?_, fun j hj => ?_⟩
    · rw [es4, m_up_row _ _ _ _ ha, m_up_row _ _ _ _ ha, x3 a ha hb, f2.1 a ha hb]
    · rw [es4, m_up, if_pos rfl]
      by_cases a1 : j = 15
      · rw [if_pos a1, a1]
      · rw [if_neg a1, m_up, if_pos rfl]
        by_cases a2 : j = 12
        · rw [if_pos a2, a2]
        · rw [if_neg a2, x4 j (by omega), f2.2 j hj]
  obtain ⟨a, ha, ea⟩ := m_rng' (n := 6) (by omega) q1 q2
  have c0 : f_X5_goOn (T + 2) (ag 1) st = (if ag 1 = 0 then (some ((s1 12 5), s1)) else (if ag 1 = 1 then (some (nI l.length, s1)) else (if (ag 1 - 2) < nI l.length then (if px_in (ag 1 - 2) 7 then (some ((s1 28 (ag 1 - 2).toNatClampNeg), s1)) else none) else (some ((-1), s1))))) := by
    rw [f_X5_goOn, if_neg q1, if_neg q2, m_eq_bind e0, f_X1_runOn, m_eq_bind (show f_X1_runOn_4 (T + 2) 1000 0 0 s0 = _ from e1)]
  have r0' : f_X6_goOn T (ag 1) s1 = (if ag 1 = 0 then (some ((s3 48 12), s4)) else (if ag 1 = 1 then (some (nI l.length, s4)) else (if (ag 1 - 2) < nI l.length then (if px_in (ag 1 - 2) 7 then (some ((s4 59 (ag 1 - 2).toNatClampNeg), s4)) else none) else (some ((-1), s4))))) := by
    rw [f_X6_goOn, if_neg (fun g => (hi.mp g).elim q1 q2), jr.1.2.1, m_eq_bind e2, ← jr.1.2.1]
    rw [show f_X6_goOn_36 T 1000 (ag 1) (s1 48 12) (s1 48 15) 0 s2 = _ from e3, ← es4]
  refine ⟨T, s4, ?_, Inv_sc hI0 f01 (by rw [g6]; exact r0) hsc⟩
  by_cases b0 : ag 1 = 0
  · exact ⟨rfl, nI (f 5 0), s1, by rw [c0, if_pos b0, g5], by rw [r0', if_pos b0, x7]⟩
  by_cases b1 : ag 1 = 1
  · exact ⟨rfl, nI l.length, s1, by rw [c0, if_neg b0, if_pos b1], by rw [r0', if_neg b0, if_pos b1]⟩
  have ha2 : 2 ≤ a := by
    rcases (show a = 0 ∨ a = 1 ∨ 2 ≤ a by omega) with e | e | e
    · rw [ea, e] at b0; exact absurd rfl b0
    · rw [ea, e] at b1; exact absurd rfl b1
    · exact e
  have ea2 : ag 1 - 2 = nI (a - 2) := by rw [ea, show (2 : Int32) = nI 2 from rfl, pk_sub ha2]
  by_cases b2 : a - 2 < l.length
  · have hlt : ag 1 - 2 < nI l.length := by rw [ea2]; exact nI_lt b2 (by omega)
    have hin : px_in (ag 1 - 2) 7 := by rw [ea2]; exact m_px (by omega) (by omega)
    have hcl : (ag 1 - 2).toNatClampNeg = a - 2 := by rw [ea2, nI_clamp (by omega)]
    have s459 : s4 59 = s3 59 := by rw [es4, m_up_row _ _ _ _ (by decide), m_up_row _ _ _ _ (by decide)]
    exact ⟨rfl, nI (l.getD (a - 2) 0), s1, by rw [c0, if_neg b0, if_neg b1, if_pos hlt, if_pos hin, hcl, g4 _ b2], by rw [r0', if_neg b0, if_neg b1, if_pos hlt, if_pos hin, hcl, s459, x6 _ b2]⟩
  · have hlt : ¬ ag 1 - 2 < nI l.length := by rw [ea2]; exact nI_nlt (by omega) (by omega)
    exact ⟨rfl, -1, s1, by rw [c0, if_neg b0, if_neg b1, if_neg hlt], by rw [r0', if_neg b0, if_neg b1, if_neg hlt]⟩
