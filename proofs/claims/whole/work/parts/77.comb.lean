/-- one loop that counts up to N -/
theorem m_for {σ γ : Type} (L : Nat → Nat → σ → γ) (N : Nat) (I : Nat → σ → Prop) (Q : γ → Prop)
    (hstep : ∀ n i s, i < N → I i s → (∃ s', I (i + 1) s' ∧ L (n + 1) i s = L n (i + 1) s') ∨ Q (L (n + 1) i s))
    (hend : ∀ n s, I N s → Q (L (n + 1) N s)) : ∀ k i s n, i + k = N → I i s → k < n → Q (L n i s) := by
  intro k
  induction k with
  | zero =>
    intro i s n hi hI hn
    obtain ⟨n, rfl⟩ : ∃ e, n = e + 1 := ⟨n - 1, by omega⟩
    have : i = N := by omega
    subst this
    exact hend n s hI
  | succ k ih =>
    intro i s n hi hI hn
    obtain ⟨n, rfl⟩ : ∃ e, n = e + 1 := ⟨n - 1, by omega⟩
    rcases hstep n i s (by omega) hI with ⟨s', h1, h2⟩ | h
    · rw [h2]; exact ih (i + 1) s' n (by omega) h1 (by omega)
    · exact h
/-- bits by a predicate -/
def j_bt (P : Nat → Bool) : Nat → Nat
  | 0 => 0
  | k + 1 => j_bt P k ||| (if P k then 2 ^ k else 0)
theorem j_bt_lt (P : Nat → Bool) : ∀ k, j_bt P k < 2 ^ k
  | 0 => by simp [j_bt]
  | k + 1 => by
    rw [j_bt]
    refine Nat.or_lt_two_pow (Nat.lt_of_lt_of_le (j_bt_lt P k) (Nat.pow_le_pow_right (by omega) (by omega))) ?_
    by_cases h : P k
    · rw [if_pos h]; exact Nat.pow_lt_pow_right (by omega) (by omega)
    · rw [if_neg h]; exact Nat.two_pow_pos _
theorem j_bt_bit (P : Nat → Bool) : ∀ k j, (j_bt P k).testBit j = (decide (j < k) && P j)
  | 0, j => by simp [j_bt]
  | k + 1, j => by
    rw [j_bt, Nat.testBit_or, j_bt_bit P k j]
    by_cases h : P k
    · rw [if_pos h, Nat.testBit_two_pow]
      by_cases e : k = j
      · subst e; simp [h]
      · by_cases l : j < k
        · simp [l, e, show j < k + 1 by omega]
        · simp [l, e, show ¬ (j < k + 1) by omega]
    · rw [if_neg h, Nat.zero_testBit]
      by_cases e : k = j
      · subst e; simp [h]
      · by_cases l : j < k
        · simp [l, show j < k + 1 by omega]
        · simp [l, show ¬ (j < k + 1) by omega]
theorem m_ext7 {a b : Nat} (ha : a < 128) (hb : b < 128) (h : ∀ j, j < 7 → a.testBit j = b.testBit j) : a = b := by
  refine Nat.eq_of_testBit_eq (fun i => ?_)
  rcases Nat.lt_or_ge i 7 with hi | hi
  · exact h i hi
  · have hp : 2 ^ 7 ≤ 2 ^ i := Nat.pow_le_pow_right (by omega) hi
    rw [Nat.testBit_lt_two_pow (Nat.lt_of_lt_of_le (show a < 2 ^ 7 from ha) hp), Nat.testBit_lt_two_pow (Nat.lt_of_lt_of_le (show b < 2 ^ 7 from hb) hp)]
theorem m_127 : ∀ j, j < 7 → Nat.testBit 127 j = true := by decide +kernel
theorem m_dif_bit (a b : Nat) {j : Nat} (hj : j < 7) : (m_dif a b).testBit j = (a.testBit j && !(b.testBit j)) := by
  unfold m_dif
  rw [Nat.testBit_and, Nat.testBit_xor, m_127 j hj]
  cases b.testBit j <;> simp
theorem m_dif_lt {a b : Nat} (h : a < 128) : m_dif a b < 128 := Nat.lt_of_le_of_lt Nat.and_le_left h
theorem m_dif_lt' {a b N : Nat} (h : a < N) : m_dif a b < N := Nat.lt_of_le_of_lt Nat.and_le_left h
theorem m_sub {a b : Nat} (ha : a < 128) : m_dif a b = 0 ↔ ∀ j, j < 7 → a.testBit j = true → b.testBit j = true := by
  constructor
  · intro h j hj h1
    have := m_dif_bit a b hj
    rw [h, h1, Nat.zero_testBit] at this
    cases hb : b.testBit j
    · rw [hb] at this; exact absurd this (by decide)
    · rfl
  · intro h
    refine m_ext7 (m_dif_lt ha) (by decide) (fun j hj => ?_)
    rw [m_dif_bit a b hj, Nat.zero_testBit]
    cases h1 : a.testBit j
    · rfl
    · rw [h j hj h1]; rfl
theorem m_sub_le {a b : Nat} (ha : a < 128) (h : m_dif a b = 0) : a ≤ b := by
  have : a = a &&& b := by
    refine m_ext7 ha (Nat.lt_of_le_of_lt Nat.and_le_left ha) (fun j hj => ?_)
    rw [Nat.testBit_and]
    cases h1 : a.testBit j
    · rfl
    · rw [(m_sub ha).mp h j hj h1]; rfl
  rw [this]; exact Nat.and_le_right
theorem m_lt_bit {a n j : Nat} (h : a < 2 ^ n) (hj : n ≤ j) : a.testBit j = false := Nat.testBit_lt_two_pow (Nat.lt_of_lt_of_le h (Nat.pow_le_pow_right (by omega) hj))
theorem m_pow7 {n : Nat} (h : n ≤ 7) : 2 ^ n ≤ 128 := Nat.pow_le_pow_right (show 0 < 2 by omega) h
/-- the bands: b of a, k of them -/
def j_g (a k b : Nat) : Bool := (m_dif b a == 0) && (m_pop b == k)
/-- sums -/
def j_su (f : Nat → Nat) : Nat → Nat
  | 0 => 0
  | k + 1 => j_su f k + f k
theorem j_su_congr {f g : Nat → Nat} : ∀ N, (∀ i, i < N → f i = g i) → j_su f N = j_su g N
  | 0, _ => rfl
  | N + 1, h => by rw [j_su, j_su, j_su_congr N (fun i hi => h i (by omega)), h N (by omega)]
theorem j_su_zero : ∀ N, j_su (fun _ => 0) N = 0
  | 0 => rfl
  | N + 1 => by rw [j_su, j_su_zero N]
theorem j_su_add (f g : Nat → Nat) : ∀ N, j_su (fun i => f i + g i) N = j_su f N + j_su g N
  | 0 => rfl
  | N + 1 => by rw [j_su, j_su, j_su, j_su_add f g N]; omega
theorem j_su_swap (f : Nat → Nat → Nat) (n : Nat) : ∀ N, j_su (fun b => j_su (f b) n) N = j_su (fun q => j_su (fun b => f b q) N) n
  | 0 => by
    rw [j_su]
    exact ((j_su_congr n (fun _ _ => rfl)).trans (j_su_zero n)).symm
  | N + 1 => by
    rw [j_su, j_su_swap f n N, ← j_su_add]
    exact j_su_congr n (fun q _ => rfl)
theorem j_su_tail {f : Nat → Nat} {N : Nat} : ∀ k, (∀ i, N ≤ i → i < N + k → f i = 0) → j_su f (N + k) = j_su f N
  | 0, _ => rfl
  | k + 1, h => by rw [← Nat.add_assoc, j_su, h (N + k) (by omega) (by omega), j_su_tail k (fun i h1 h2 => h i h1 (by omega))]; rfl
def j_cn (a k : Nat) : Nat := j_su (fun b => (j_g a k b).toNat) 128
theorem c_safe : ∀ a, a < 128 → ∀ k, k < 6 → 2 ≤ k → (List.range 128).any (j_g a k) = decide (k ≤ m_pop a) := by decide +kernel
theorem c_low : ∀ a, a < 128 → ∀ k, k < 6 → 2 ≤ k → f_X5_lowest (nI a) (nI k) = some (match (List.range 128).find? (j_g a k) with | some b => nI b | none => -1) := by decide +kernel
theorem c_cho : ∀ a, a < 128 → ∀ k, k < 6 → 2 ≤ k → f_X5_choose (nI (m_pop a)) (nI k) = some (nI (j_cn a k)) := by decide +kernel
theorem c_cho0 : ∀ a, a < 128 → ∀ k, k < 6 → 2 ≤ k → (j_cn a k < 60 ∧ (j_cn a k = 0 ↔ m_pop a < k)) := by decide +kernel
theorem j_g_iff {a k b : Nat} (hb : b < 128) : j_g a k b = true ↔ (∀ j, j < 7 → b.testBit j = true → a.testBit j = true) ∧ m_pop b = k := by
  unfold j_g
  rw [Bool.and_eq_true, beq_iff_eq, beq_iff_eq, m_sub hb]
theorem j_g_lt {a k b n : Nat} (hn : n ≤ 7) (ha : a < 2 ^ n) (hb : b < 128) (h : j_g a k b = true) : b < 2 ^ n := by
  unfold j_g at h
  rw [Bool.and_eq_true, beq_iff_eq] at h
  exact Nat.lt_of_le_of_lt (m_sub_le hb h.1) ha
theorem j_g_0 {a k : Nat} (hk : 2 ≤ k) : j_g a k 0 = false := by
  unfold j_g
  have : (m_pop 0 == k) = false := by
    rw [show m_pop 0 = 0 from by decide]
    exact beq_eq_false_iff_ne.mpr (by omega)
  rw [this, Bool.and_false]
/-- what a house's least band is -/
def j_lo (a k : Nat) : Option Nat := (List.range 128).find? (j_g a k)
theorem j_lo_some {a k b : Nat} (h : j_lo a k = some b) : b < 128 ∧ j_g a k b = true ∧ ∀ c, c < b → j_g a k c = false := by
  have := List.find?_range_eq_some.mp h
  refine ⟨List.mem_range.mp this.2.1, this.1, fun c hc => ?_⟩
  have := this.2.2 c hc
  simpa using this
theorem j_lo_none {a k : Nat} (h : j_lo a k = none) : ∀ c, c < 128 → j_g a k c = false := by
  intro c hc
  have := List.find?_range_eq_none.mp h c hc
  simpa using this
theorem j_ex {a k : Nat} (ha : a < 128) (hk : 2 ≤ k ∧ k ≤ 5) : (∃ b, b < 128 ∧ j_g a k b = true) ↔ k ≤ m_pop a := by
  have := c_safe a ha k (by omega) hk.1
  rw [Bool.eq_iff_iff, List.any_eq_true, decide_eq_true_iff] at this
  rw [← this]
  constructor
  · intro ⟨b, h1, h2⟩; exact ⟨b, List.mem_range.mpr h1, h2⟩
  · intro ⟨b, h1, h2⟩; exact ⟨b, List.mem_range.mp h1, h2⟩
/-- the first pair, by b, then by q -/
def j_F1 (g : Nat → Nat → Bool) (N n : Nat) (fb fo : Int32) : Prop :=
  (fb = -1 ∧ fo = -1 ∧ ∀ b, b < N → ∀ q, q < n → g b q = false) ∨ ∃ b q, b < N ∧ q < n ∧ fb = nI b ∧ fo = nI q ∧ g b q = true ∧ (∀ c, c < b → ∀ r, r < n → g c r = false) ∧ ∀ r, r < q → g b r = false
theorem j_F1_uni {g : Nat → Nat → Bool} {N n : Nat} {fb fo gb go : Int32} (h : j_F1 g N n fb fo) (k : j_F1 g N n gb go) : fb = gb ∧ fo = go := by
  rcases h with ⟨h1, h2, h3⟩ | ⟨b, q, h1, h2, h3, h4, h5, h6, h7⟩
  · rcases k with ⟨k1, k2, k3⟩ | ⟨c, r, k1, k2, k3, k4, k5, k6, k7⟩
    · exact ⟨h1.trans k1.symm, h2.trans k2.symm⟩
    · rw [h3 c k1 r k2] at k5; exact absurd k5 (by decide)
  · rcases k with ⟨k1, k2, k3⟩ | ⟨c, r, k1, k2, k3, k4, k5, k6, k7⟩
    · rw [k3 b h1 q h2] at h5; exact absurd h5 (by decide)
    · have e1 : b = c := by
        rcases Nat.lt_trichotomy b c with h | h | h
        · rw [k6 b h q h2] at h5; exact absurd h5 (by decide)
        · exact h
        · rw [h6 c h r k2] at k5; exact absurd k5 (by decide)
      subst e1
      have e2 : q = r := by
        rcases Nat.lt_trichotomy q r with h | h | h
        · rw [k7 q h] at h5; exact absurd h5 (by decide)
        · exact h
        · rw [h7 r h] at k5; exact absurd k5 (by decide)
      subst e2
      exact ⟨h3.trans k3.symm, h4.trans k4.symm⟩
theorem m_n1 {a : Nat} (h : a < 2 ^ 31) : ¬ nI a = -1 := fun e => by
  have : nI a < 0 := by rw [e]; decide
  exact nI_pos h this
