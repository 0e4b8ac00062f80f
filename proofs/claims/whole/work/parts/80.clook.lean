theorem j_sm_del {f g : Nat → Int32} {q : Nat} : ∀ k, q < k → (∀ i, i < k → i ≠ q → g i = f i) → g q = 0 → j_sm g k = j_sm f k - f q
  | 0, h, _, _ => by omega
  | k + 1, h, h1, h2 => by
    rw [j_sm, j_sm]
    by_cases e : k = q
    · subst e
      rw [h2, j_sm_congr k (fun i hi => h1 i (by omega) (by omega))]
      grind
    · rw [j_sm_del k (by omega) (fun i hi => h1 i (by omega)) h2, h1 k (by omega) e]
      grind
theorem j_sm_sub (f g : Nat → Int32) : ∀ k, j_sm (fun i => f i - g i) k = j_sm f k - j_sm g k
  | 0 => by rw [j_sm, j_sm, j_sm]; rfl
  | k + 1 => by rw [j_sm, j_sm, j_sm, j_sm_sub f g k]; grind
theorem j_gain_eq (h : px_H) (C : Nat → List Int32) {s p q : Nat} (hs : s < 128) (hp : p < 7) (hq : q < 7) (hpr : j_pr s p q = true) : (-(j_wo h C p q (m_pop s - 1)) + j_sm (fun x => j_gf h C p s (m_pop s - 1) x - j_gf h C p s (m_pop s) x) 7) + (nI (h 6 0 / (m_pop s - 1)) - nI (h 6 0 / m_pop s)) = j_gain h C s p q := by
  obtain ⟨h1, h2, h3⟩ := j_pr_iff.mp hpr
  have e1 : m_pop (m_dif s (2 ^ q)) = m_pop s - 1 := by have := c_popd s hs q hq h3; omega
  have e2 : j_sm (j_gf h C p (m_dif s (2 ^ q)) (m_pop s - 1)) 7 = j_sm (j_gf h C p s (m_pop s - 1)) 7 - j_gf h C p s (m_pop s - 1) q := by
    refine j_sm_del 7 hq (fun i hi hne => ?_) ?_
    · unfold j_gf; rw [m_dq hi]; simp [hne]
    · unfold j_gf; rw [m_dq hq]; simp
  have e3 : j_gf h C p s (m_pop s - 1) q = j_wo h C p q (m_pop s - 1) := by
    unfold j_gf; rw [if_pos (by simp [h3, Ne.symm h1])]
  unfold j_gain j_gd
  rw [e1, e2, e3, j_sm_sub]
  grind
section
variable {T : Nat} {h : px_H} {C : Nat → List Int32}
theorem m_pairC {st : px_S} {s : Nat} (hs : s < 128) (h4 : st 11 4 = nI s) {p q : Nat} (hp : p < 7) (hq : q < 7) : f_X1_isLookedPair T st (nI p) (nI q) = some (if j_pr s p q then 1 else 0) := by
  rw [f_X1_isLookedPair, h4, b_has s hs p (by omega), b_has s hs q (by omega)]
  by_cases e : p = q
  · subst e
    rw [if_pos rfl, if_neg (by simp [j_pr])]
  · rw [if_neg (by rw [nI_eq (by omega) (by omega)]; exact e)]
    by_cases h1 : s.testBit p = true
    · rw [if_neg (by rw [if_pos h1]; decide)]
      by_cases h2 : s.testBit q = true
      · rw [if_neg (by rw [if_pos h2]; decide), if_pos (j_pr_iff.mpr ⟨e, h1, h2⟩)]
      · rw [if_pos (by rw [if_neg h2]), if_neg (fun g => h2 (j_pr_iff.mp g).2.2)]
    · rw [if_pos (by rw [if_neg h1]), if_neg (fun g => h1 (j_pr_iff.mp g).2.1)]
def m_f3 : List Nat := [19, 20, 21]
theorem m_f23 {s t : px_S} (f : m_fr m_f2 s t) : m_fr m_f3 s t := m_fr_mono f (by intro a ha; simp [m_f2, m_f3] at ha ⊢; omega)
theorem m_f3j {s t : px_S} (f : m_fr m_f3 s t) : m_fr m_jf s t := m_fr_mono f (by intro a ha; simp [m_f3, m_jf] at ha ⊢; omega)
/-- what compare() leaves in the row 21, of a pair -/
def j_cmp (h : px_H) (C : Nat → List Int32) (s p q : Nat) : Int32 := -(j_wo h C p q (m_pop s - 1)) + j_sm (fun x => j_gf h C p s (m_pop s - 1) x - j_gf h C p s (m_pop s) x) 7
theorem m_compareC {st : px_S} (k : m_JS T st h C) (hw : m_HW h) {s : Nat} (hs : s < 2 ^ h 4 0) (h4 : st 11 4 = nI s) : ∃ st', f_X1_compare T st = some st' ∧ m_fr m_f3 st st' ∧ ∀ p q, p < 7 → q < 7 → j_pr s p q = true → st' 21 (7 * p + q) = j_cmp h C s p q := by
  have hn := hw.1
  have hs7 : s < 128 := Nat.lt_of_lt_of_le hs (m_pow7 hn)
  have hm : m_pop s < 8 := by have := m_pop_le s; omega
  rw [f_X1_compare, h4, b_pop s hs7]
  refine m_for (σ := px_S) (fun n i z => f_X1_compare_10 T n (nI (m_pop s)) (nI i) z) 7 (fun i z => m_fr m_f3 st z ∧ ∀ p q, p < i → q < 7 → j_pr s p q = true → z 21 (7 * p + q) = j_cmp h C s p q) (fun r => ∃ st', r = some st' ∧ m_fr m_f3 st st' ∧ ∀ p q, p < 7 → q < 7 → j_pr s p q = true → st' 21 (7 * p + q) = j_cmp h C s p q) ?_ ?_ 7 0 st 1000 (by omega) ⟨m_fr_refl _ _, fun p q hp => by omega⟩ (by omega)
  · intro n p z hp hz
    obtain ⟨z1, z2⟩ := hz
    left
    try simp only
    rw [f_X1_compare_10, if_pos (by rw [show (7 : Int32) = nI 7 from rfl]; exact nI_lt hp (by omega))]
    have inner : ∃ z', f_X1_compare_21 T (f_X1_compare_10 T n) 1000 (nI (m_pop s)) (nI p) 0 (nI 0) z = f_X1_compare_10 T n (nI (m_pop s)) (nI p + 1) z' ∧ m_fr m_f3 st z' ∧ ∀ p' q, p' < p + 1 → q < 7 → j_pr s p' q = true → z' 21 (7 * p' + q) = j_cmp h C s p' q := by
      refine m_for (σ := Int32 × px_S) (fun n' i z => f_X1_compare_21 T (f_X1_compare_10 T n) n' (nI (m_pop s)) (nI p) z.1 (nI i) z.2) 7 (fun i z => (s.testBit p = true → z.1 = j_sm (fun x => j_gf h C p s (m_pop s - 1) x - j_gf h C p s (m_pop s) x) i) ∧ m_fr m_f3 st z.2 ∧ (∀ p' q, p' < p → q < 7 → j_pr s p' q = true → z.2 21 (7 * p' + q) = j_cmp h C s p' q) ∧ ∀ q, q < i → j_pr s p q = true → z.2 21 (7 * p + q) = -(j_wo h C p q (m_pop s - 1))) (fun r => ∃ z', r = f_X1_compare_10 T n (nI (m_pop s)) (nI p + 1) z' ∧ m_fr m_f3 st z' ∧ ∀ p' q, p' < p + 1 → q < 7 → j_pr s p' q = true → z' 21 (7 * p' + q) = j_cmp h C s p' q) ?_ ?_ 7 0 (0, z) 1000 (by omega) ⟨fun _ => rfl, z1, z2, fun q hq => by omega⟩ (by omega)
      · intro n' q y hq hy
        obtain ⟨ym, yz⟩ := y
        obtain ⟨y1, y2, y3, y4⟩ := hy
        simp only at y1 y2 y3 y4 ⊢
        left
        have ky := m_JS_fr k (m_f3j y2)
        rw [f_X1_compare_21, if_pos (by rw [show (7 : Int32) = nI 7 from rfl]; exact nI_lt hq (by omega)), m_eq_bind (m_pairC hs7 (by rw [y2 11 (by decide)]; exact h4) hp hq)]
        by_cases hpr : j_pr s p q = true
        · rw [if_neg (by rw [if_pos hpr]; decide)]
          obtain ⟨h1, h2, h3⟩ := j_pr_iff.mp hpr
          have hqn := m_bit_lt hs h3
          have hpos := c_pop2 s hs7 p hp h2
          obtain ⟨t1, e1, g1⟩ := m_worthC ky hw hp hqn (m := m_pop s - 1) (by omega)
          obtain ⟨t2, e2, g2⟩ := m_worthC (m_JS_fr ky (m_f2j g1)) hw hp hqn hm
          have em : nI (m_pop s) - 1 = nI (m_pop s - 1) := by
            rw [show (1 : Int32) = nI 1 from rfl, pk_sub hpos]
          rw [em, m_eq_bind e1, m_eq_bind e2, m_ix', if_pos (m_px (by omega) (by omega)), nI_clamp (by omega)]
          refine ⟨(ym + (j_wo h C p q (m_pop s - 1) - j_wo h C p q (m_pop s)), up t2 21 (7 * p + q) (-(j_wo h C p q (m_pop s - 1)))), ⟨fun _ => ?_, m_fr_up (m_fr_tr y2 (m_f23 (m_fr_tr g1 g2))) (by simp [m_f3]) _ _, fun p' r h1 h2 h3 => ?_, fun r hr hp2 => ?_⟩, by rw [nI_1]⟩
          · simp only
            rw [j_sm, y1 h2]
            have q1 : ∀ m, j_gf h C p s m q = j_wo h C p q m := fun m => by unfold j_gf; rw [if_pos (by simp [h3, Ne.symm h1])]
            rw [q1, q1]
          · simp only
            rw [m_up, if_pos rfl, if_neg (by omega), g2 21 (by decide), g1 21 (by decide)]
            exact y3 p' r h1 h2 h3
          · simp only
            rw [m_up, if_pos rfl]
            rcases Nat.lt_or_ge r q with hl | hl
            · rw [if_neg (by omega), g2 21 (by decide), g1 21 (by decide)]; exact y4 r hl hp2
            · have : r = q := by omega
              subst this
              rw [if_pos rfl]
        · rw [if_pos (by rw [if_neg hpr]), nI_1]
          refine ⟨(ym, yz), ⟨fun hb => ?_, y2, y3, fun r hr hp2 => ?_⟩, rfl⟩
          · simp only
            have q1 : ∀ m, j_gf h C p s m q = 0 := fun m => by
              unfold j_gf
              refine if_neg (fun hc => hpr ?_)
              rw [Bool.and_eq_true, decide_eq_true_iff] at hc
              exact j_pr_iff.mpr ⟨Ne.symm hc.2, hb, hc.1⟩
            rw [j_sm, y1 hb, q1, q1]
            grind
          · rcases Nat.lt_or_ge r q with hl | hl
            · exact y4 r hl hp2
            · rw [show r = q by omega] at hp2; exact absurd hp2 hpr
      · intro n' y hy
        obtain ⟨ym, yz⟩ := y
        obtain ⟨y1, y2, y3, y4⟩ := hy
        simp only at y1 y2 y3 y4 ⊢
        rw [f_X1_compare_21, if_neg (by decide)]
        refine m_for (σ := px_S) (fun n' i z => f_X1_compare_88 T (f_X1_compare_10 T n) n' (nI (m_pop s)) (nI p) ym (nI i) z) 7 (fun i z => m_fr m_f3 st z ∧ (∀ p' q, p' < p → q < 7 → j_pr s p' q = true → z 21 (7 * p' + q) = j_cmp h C s p' q) ∧ ∀ q, q < 7 → j_pr s p q = true → z 21 (7 * p + q) = if q < i then j_cmp h C s p q else -(j_wo h C p q (m_pop s - 1))) (fun r => ∃ z', r = f_X1_compare_10 T n (nI (m_pop s)) (nI p + 1) z' ∧ m_fr m_f3 st z' ∧ ∀ p' q, p' < p + 1 → q < 7 → j_pr s p' q = true → z' 21 (7 * p' + q) = j_cmp h C s p' q) ?_ ?_ 7 0 yz 1000 (by omega) ⟨y2, y3, fun q hq hp2 => by rw [if_neg (by omega)]; exact y4 q hq hp2⟩ (by omega)
        · intro n'' q x hq hx
          obtain ⟨x1, x2, x3⟩ := hx
          left
          have hin : px_in (nI (7 * p + q)) 49 := m_px (by omega) (by omega)
          try simp only
          rw [f_X1_compare_88, if_pos (by rw [show (7 : Int32) = nI 7 from rfl]; exact nI_lt hq (by omega)), m_ix', if_pos hin, if_pos hin, nI_clamp (by omega), nI_1]
          refine ⟨_, ⟨m_fr_up x1 (by simp [m_f3]) _ _, fun p' r h1 h2 h3 => ?_, fun r hr hp2 => ?_⟩, rfl⟩
          · rw [m_up, if_pos rfl, if_neg (by omega)]; exact x2 p' r h1 h2 h3
          · rw [m_up, if_pos rfl]
            by_cases e : r = q
            · subst e
              have := x3 r hr hp2
              rw [if_neg (by omega)] at this
              rw [if_pos rfl, if_pos (by omega), this, y1 (j_pr_iff.mp hp2).2.1]; rfl
            · rw [if_neg (by omega), x3 r hr hp2]
              by_cases hl : r < q
              · rw [if_pos hl, if_pos (by omega)]
              · rw [if_neg hl, if_neg (by omega)]
        · intro n'' x hx
          obtain ⟨x1, x2, x3⟩ := hx
          try simp only
          rw [f_X1_compare_88, if_neg (by decide)]
          refine ⟨x, rfl, x1, fun p' q h1 h2 h3 => ?_⟩
          rcases Nat.lt_or_ge p' p with hl | hl
          · exact x2 p' q hl h2 h3
          · have : p' = p := by omega
            subst this
            rw [x3 q h2 h3, if_pos h2]
    obtain ⟨z', e', i1, i2⟩ := inner
    exact ⟨z', ⟨i1, i2⟩, by rw [← nI_1]; exact e'⟩
  · intro n z hz
    obtain ⟨z1, z2⟩ := hz
    try simp only
    rw [f_X1_compare_10, if_neg (by decide)]
    exact ⟨z, rfl, z1, z2⟩
/-- who would join against q, of s, unsworn or sworn -/
def j_fr (h : px_H) (C : Nat → List Int32) (s q : Nat) (b : Bool) (p : Nat) : Bool := j_pr s p q && j_w h C s p q b
def m_f5 : List Nat := [19, 20, 22, 23]
theorem m_f25 {s t : px_S} (f : m_fr m_f2 s t) : m_fr m_f5 s t := m_fr_mono f (by intro a ha; simp [m_f2, m_f5] at ha ⊢; omega)
theorem m_f5j {s t : px_S} (f : m_fr m_f5 s t) : m_fr m_jf s t := m_fr_mono f (by intro a ha; simp [m_f5, m_jf] at ha ⊢; omega)
/-- the class's judge has looked at s -/
def m_LK (st : px_S) (h : px_H) (C : Nat → List Int32) (s : Nat) : Prop := st 11 4 = nI s ∧ ∀ q, q < 7 → st 22 q = nI (j_bt (j_fr h C s q false) 7) ∧ st 23 q = nI (j_bt (j_fr h C s q true) 7)
theorem m_orbit {P : Nat → Bool} {p : Nat} (hp : p < 7) (b : Bool) (hb : P p = b) : nI (j_bt P p) ||| (if b then nI (2 ^ p) else 0) = nI (j_bt P (p + 1)) := by
  have h1 : j_bt P p < 128 := Nat.lt_of_lt_of_le (j_bt_lt P p) (m_pow7 (by omega))
  rw [j_bt, hb]
  cases b with
  | true => simp only [if_true]; exact b_or _ h1 _ (m_bit2 p hp)
  | false => simp only [Bool.false_eq_true, if_false]; exact b_or _ h1 0 (by decide)
theorem m_weighC {st : px_S} (k : m_JS T st h C) (hw : m_HW h) {s : Nat} (hs : s < 2 ^ h 4 0) (h4 : st 11 4 = nI s) (hc : ∀ p q, p < 7 → q < 7 → j_pr s p q = true → st 21 (7 * p + q) = j_cmp h C s p q) : ∃ st', f_X1_weigh T st = some st' ∧ m_fr m_f5 st st' ∧ m_LK st' h C s := by
  have hn := hw.1
  have hs7 : s < 128 := Nat.lt_of_lt_of_le hs (m_pow7 hn)
  have hm : m_pop s < 8 := by have := m_pop_le s; omega
  have fr0 : m_fr m_f5 st (upr (upr st 22 (fun _ => 0)) 23 (fun _ => 0)) := m_fr_upr (m_fr_upr (m_fr_refl _ _) (by simp [m_f5]) _) (by simp [m_f5]) _
  have k12 : (upr (upr st 22 (fun _ => 0)) 23 (fun _ => 0)) 12 6 = nI (h 6 0) := by rw [fr0 12 (by decide)]; exact k.1.2.2.1
  rw [f_X1_weigh, h4, b_pop s hs7]
  have z22 : (upr (upr st 22 (fun _ => 0)) 23 (fun _ => 0)) 22 = fun _ => 0 := by rw [m_upr, if_neg (by decide), m_upr, if_pos rfl]
  have z23 : (upr (upr st 22 (fun _ => 0)) 23 (fun _ => 0)) 23 = fun _ => 0 := by rw [m_upr, if_pos rfl]
  obtain ⟨D, hD, eD⟩ : ∃ D : Int32, (1 ≤ m_pop s → D = nI (h 6 0 / (m_pop s - 1)) - nI (h 6 0 / m_pop s)) ∧ ((f_X0_share T (upr (upr st 22 (fun _ => 0)) 23 (fun _ => 0)) 12 (nI (m_pop s) - 1)).bind fun b15 => ((f_X0_share T (upr (upr st 22 (fun _ => 0)) 23 (fun _ => 0)) 12 (nI (m_pop s))).bind fun b16 => (f_X1_weigh_46 T 1000 (nI (m_pop s)) (b15 - b16) 0 (upr (upr st 22 (fun _ => 0)) 23 (fun _ => 0))))) = f_X1_weigh_46 T 1000 (nI (m_pop s)) D (nI 0) (upr (upr st 22 (fun _ => 0)) 23 (fun _ => 0)) := by
    rcases Nat.eq_zero_or_pos (m_pop s) with h0 | h0
    · have e1 : f_X0_share T (upr (upr st 22 (fun _ => 0)) 23 (fun _ => 0)) 12 (nI (m_pop s) - 1) = some 0 := by
        rw [h0, f_X0_share, if_neg (by decide)]
      rw [m_eq_bind e1, m_eq_bind (m_shareC (h := h) k12 hw.2.2.1 (by omega))]
      exact ⟨_, fun h => by omega, rfl⟩
    · have em : nI (m_pop s) - 1 = nI (m_pop s - 1) := by
        rw [show (1 : Int32) = nI 1 from rfl, pk_sub h0]
      rw [em, m_eq_bind (m_shareC (h := h) k12 hw.2.2.1 (by omega)), m_eq_bind (m_shareC (h := h) k12 hw.2.2.1 (by omega))]
      exact ⟨_, fun _ => rfl, rfl⟩
  rw [eD]
  refine m_for (σ := px_S) (fun n i z => f_X1_weigh_46 T n (nI (m_pop s)) D (nI i) z) 7 (fun i z => m_fr m_f5 st z ∧ ∀ q, q < 7 → z 22 q = nI (j_bt (j_fr h C s q false) i) ∧ z 23 q = nI (j_bt (j_fr h C s q true) i)) (fun r => ∃ st', r = some st' ∧ m_fr m_f5 st st' ∧ m_LK st' h C s) ?_ ?_ 7 0 _ 1000 (by omega) ⟨fr0, fun q _ => by rw [z22, z23]; exact ⟨rfl, rfl⟩⟩ (by omega)
  · intro n p z hp hz
    obtain ⟨z1, z2⟩ := hz
    left
    try simp only
    rw [f_X1_weigh_46, if_pos (by rw [show (7 : Int32) = nI 7 from rfl]; exact nI_lt hp (by omega))]
    have inner : ∃ z', f_X1_weigh_55 T (f_X1_weigh_46 T n) 1000 (nI (m_pop s)) D (nI p) (nI 0) z = f_X1_weigh_46 T n (nI (m_pop s)) D (nI p + 1) z' ∧ m_fr m_f5 st z' ∧ ∀ q, q < 7 → z' 22 q = nI (j_bt (j_fr h C s q false) (p + 1)) ∧ z' 23 q = nI (j_bt (j_fr h C s q true) (p + 1)) := by
      refine m_for (σ := px_S) (fun n' i z => f_X1_weigh_55 T (f_X1_weigh_46 T n) n' (nI (m_pop s)) D (nI p) (nI i) z) 7 (fun i z => m_fr m_f5 st z ∧ ∀ q, q < 7 → z 22 q = nI (j_bt (j_fr h C s q false) (if q < i then p + 1 else p)) ∧ z 23 q = nI (j_bt (j_fr h C s q true) (if q < i then p + 1 else p))) (fun r => ∃ z', r = f_X1_weigh_46 T n (nI (m_pop s)) D (nI p + 1) z' ∧ m_fr m_f5 st z' ∧ ∀ q, q < 7 → z' 22 q = nI (j_bt (j_fr h C s q false) (p + 1)) ∧ z' 23 q = nI (j_bt (j_fr h C s q true) (p + 1))) ?_ ?_ 7 0 z 1000 (by omega) ⟨z1, fun q hq => by rw [if_neg (by omega)]; exact z2 q hq⟩ (by omega)
      · intro n' q y hq hy
        obtain ⟨y1, y2⟩ := hy
        left
        have ky := m_JS_fr k (m_f5j y1)
        try simp only
        rw [f_X1_weigh_55, if_pos (by rw [show (7 : Int32) = nI 7 from rfl]; exact nI_lt hq (by omega)), m_eq_bind (m_pairC hs7 (by rw [y1 11 (by decide)]; exact h4) hp hq)]
        have hin : px_in (nI q) 7 := m_px hq (by omega)
        by_cases hpr : j_pr s p q = true
        · obtain ⟨h1, h2, h3⟩ := j_pr_iff.mp hpr
          have hpn := m_bit_lt hs h2
          have hpos := c_pop2 s hs7 p hp h2
          have eg : y 21 (7 * p + q) + D = j_gain h C s p q := by
            rw [y1 21 (by decide), hc p q hp hq hpr, hD hpos, ← j_gain_eq h C hs7 hp hq hpr]; rfl
          rw [if_neg (by rw [if_pos hpr]; decide), m_ix', if_pos (m_px (by omega) (by omega)), if_pos hin, nI_clamp (n := 7 * p + q) (by omega), nI_clamp (n := q) (by omega), eg]
          obtain ⟨t1, e1, g1⟩ := m_movesC ky hw (j_gain h C s p q) hpn hq hm false
          rw [m_eq_bind (show f_X1_moves T (j_gain h C s p q) (nI p) (nI q) (nI (m_pop s)) 0 y = _ from e1)]
          -- the first of both bits
          have b0 : j_fr h C s q false p = j_w h C s p q false := by unfold j_fr; rw [hpr, Bool.true_and]
          have b1 : j_fr h C s q true p = j_w h C s p q true := by unfold j_fr; rw [hpr, Bool.true_and]
          have yq := y2 q hq
          rw [if_neg (show ¬ q < q by omega)] at yq
          have second : ∀ z0 : Int32, z0 = (if j_w h C s p q false then nI (2 ^ p) else 0) → ∃ s', (m_fr m_f5 st s' ∧ ∀ r, r < 7 → s' 22 r = nI (j_bt (j_fr h C s r false) (if r < q + 1 then p + 1 else p)) ∧ s' 23 r = nI (j_bt (j_fr h C s r true) (if r < q + 1 then p + 1 else p))) ∧ f_X1_weigh_118 T (f_X1_weigh_55 T (f_X1_weigh_46 T n) n') (nI (m_pop s)) D (nI p) (nI q) (j_gain h C s p q) z0 (y 22 q) (nI q) t1 = f_X1_weigh_55 T (f_X1_weigh_46 T n) n' (nI (m_pop s)) D (nI p) (nI (q + 1)) s' := by
            intro z0 hz0
            rw [f_X1_weigh_118]
            simp only [if_pos hin, nI_clamp (show q < 2 ^ 31 by omega)]
            rw [yq.1, hz0, m_orbit hp _ b0]
            have f2 : m_fr m_f5 st (up t1 22 q (nI (j_bt (j_fr h C s q false) (p + 1)))) := m_fr_up (m_fr_tr y1 (m_f25 g1)) (by simp [m_f5]) _ _
            obtain ⟨t2, e2, g2⟩ := m_movesC (m_JS_fr k (m_f5j f2)) hw (j_gain h C s p q) hpn hq hm true
            rw [m_eq_bind (show f_X1_moves T (j_gain h C s p q) (nI p) (nI q) (nI (m_pop s)) 1 (up t1 22 q (nI (j_bt (j_fr h C s q false) (p + 1)))) = _ from e2)]
            have v23 : (up t1 22 q (nI (j_bt (j_fr h C s q false) (p + 1)))) 23 q = nI (j_bt (j_fr h C s q true) p) := by
              rw [m_up_row _ _ _ _ (by decide), g1 23 (by decide)]; exact yq.2
            have both : ∀ z9 : Int32, z9 = nI (j_bt (j_fr h C s q true) (p + 1)) → (m_fr m_f5 st (up t2 23 q z9) ∧ ∀ r, r < 7 → (up t2 23 q z9) 22 r = nI (j_bt (j_fr h C s r false) (if r < q + 1 then p + 1 else p)) ∧ (up t2 23 q z9) 23 r = nI (j_bt (j_fr h C s r true) (if r < q + 1 then p + 1 else p))) := by
              intro z9 hz9
              refine ⟨m_fr_up (m_fr_tr f2 (m_f25 g2)) (by simp [m_f5]) _ _, fun r hr => ?_⟩
              have yr := y2 r hr
              rw [m_up_row _ _ _ _ (by decide), g2 22 (by decide), m_up, if_pos rfl, m_up, if_pos rfl, g2 23 (by decide), m_up_row _ _ _ _ (by decide), g1 22 (by decide), g1 23 (by decide)]
              by_cases e : r = q
              · subst e
                rw [if_pos rfl, if_pos rfl, if_pos (by omega)]
                exact ⟨rfl, hz9⟩
              · rw [if_neg e, if_neg e, yr.1, yr.2]
                by_cases hl : r < q
                · rw [if_pos hl, if_pos (show r < q + 1 by omega)]; exact ⟨rfl, rfl⟩
                · rw [if_neg hl, if_neg (show ¬ r < q + 1 by omega)]; exact ⟨rfl, rfl⟩
            rw [v23, nI_1, b_bit p (by omega)]
            by_cases hj : j_w h C s p q true = true
            · rw [if_neg (by simp only [show j_mv h C (j_gain h C s p q) p q (m_pop s) true = true from hj]; decide)]
              have := m_orbit hp _ b1
              rw [hj] at this
              exact ⟨_, both _ this, rfl⟩
            · rw [if_pos (by simp only [show j_mv h C (j_gain h C s p q) p q (m_pop s) true = false from Bool.eq_false_iff.mpr hj]; decide)]
              have := m_orbit hp _ b1
              rw [Bool.eq_false_iff.mpr hj] at this
              exact ⟨_, both _ this, rfl⟩
          rw [b_bit p (by omega)]
          by_cases hj : j_w h C s p q false = true
          · rw [if_neg (by simp only [show j_mv h C (j_gain h C s p q) p q (m_pop s) false = true from hj]; decide)]
            exact second _ (by rw [if_pos hj])
          · rw [if_pos (by simp only [show j_mv h C (j_gain h C s p q) p q (m_pop s) false = false from Bool.eq_false_iff.mpr hj]; decide)]
            exact second _ (by rw [if_neg hj])
        · rw [if_pos (by rw [if_neg hpr]), nI_1]
          refine ⟨y, ⟨y1, fun r hr => ?_⟩, rfl⟩
          have yr := y2 r hr
          by_cases e : r = q
          · subst e
            rw [if_neg (by omega)] at yr
            rw [if_pos (by omega), yr.1, yr.2]
            have n0 : ∀ b, j_bt (j_fr h C s r b) (p + 1) = j_bt (j_fr h C s r b) p := fun b => by
              rw [j_bt, if_neg (by unfold j_fr; simp [hpr]), Nat.or_zero]
            rw [n0, n0]; exact ⟨rfl, rfl⟩
          · by_cases hl : r < q
            · rw [if_pos hl] at yr; rw [if_pos (by omega)]; exact yr
            · rw [if_neg hl] at yr; rw [if_neg (by omega)]; exact yr
      · intro n' y hy
        obtain ⟨y1, y2⟩ := hy
        try simp only
        rw [f_X1_weigh_55, if_neg (by decide)]
        exact ⟨y, rfl, y1, fun q hq => by have := y2 q hq; rw [if_pos hq] at this; exact this⟩
    obtain ⟨z', e', i1, i2⟩ := inner
    exact ⟨z', ⟨i1, i2⟩, by rw [← nI_1]; exact e'⟩
  · intro n z hz
    obtain ⟨z1, z2⟩ := hz
    try simp only
    rw [f_X1_weigh_46, if_neg (by decide)]
    exact ⟨z, rfl, z1, by rw [z1 11 (by decide)]; exact h4, z2⟩
theorem m_lookC {st : px_S} (k : m_JS T st h C) (hw : m_HW h) {s : Nat} (hs : s < 2 ^ h 4 0) : ∃ st', f_X1_lookAt T (nI s) st = some st' ∧ m_fr [11, 19, 20, 21, 22, 23] st st' ∧ m_LK st' h C s ∧ m_JS T st' h C ∧ (∀ j, j ≠ 4 → st' 11 j = st 11 j) ∧ ∀ p q, p < 7 → q < 7 → j_pr s p q = true → st' 21 (7 * p + q) = j_cmp h C s p q := by
  have k0 := m_JS_11 k 4 (by decide) (nI s)
  obtain ⟨s1, e1, f1, c1⟩ := m_compareC k0 hw hs (by simp [m_up])
  have k1 := m_JS_fr k0 (m_f3j f1)
  obtain ⟨s2, e2, f2, l2⟩ := m_weighC k1 hw hs (by rw [f1 11 (by decide)]; simp [m_up]) c1
  rw [f_X1_lookAt, m_eq_bind e1, m_eq_bind e2]
  refine ⟨s2, rfl, ?_, l2, m_JS_fr k1 (m_f5j f2), fun j hj => ?_, fun p q hp hq hpr => by rw [f2 21 (by decide)]; exact c1 p q hp hq hpr⟩
  · refine m_fr_tr (m_fr_up (m_fr_refl _ _) (by simp) _ _) (m_fr_tr (m_fr_mono f1 ?_) (m_fr_mono f2 ?_))
    · intro a ha; simp [m_f3] at ha ⊢; omega
    · intro a ha; simp [m_f5] at ha ⊢; omega
  · rw [f2 11 (by decide), f1 11 (by decide), m_up, if_pos rfl, if_neg hj]
end
