theorem m_i64 (x y : Int32) : x.toInt64 < y.toInt64 ↔ x < y := by
  rw [Int64.lt_iff_toInt_lt, Int32.lt_iff_toInt_lt, Int32.toInt_toInt64, Int32.toInt_toInt64]
theorem m_in (x a b : Int32) : p_X6_in x.toInt64 a.toInt64 b.toInt64 = if x < a then 0 else if b < x then 0 else 1 := by
  have h1 : (lg_cmp x.toInt64 a.toInt64 < 0) ↔ x < a := by
    rw [← Int32.not_le, lg_cmp_ge, Int64.not_le, m_i64]
  have h2 : (0 < lg_cmp x.toInt64 b.toInt64) ↔ b < x := by
    rw [← Int32.not_le, lg_cmp_le, Int64.not_le, m_i64]
  unfold p_X6_in
  simp only [h1, h2]
theorem m_ix (p q : Nat) : (7 : Int32) * nI p + nI q = nI (7 * p + q) := by
  rw [show (7 : Int32) = nI 7 from rfl, pk_mul, nI_add]
theorem m_ix' (p q : Nat) : nI p * (7 : Int32) + nI q = nI (7 * p + q) := by
  rw [show (7 : Int32) = nI 7 from rfl, pk_mul, nI_add, Nat.mul_comm]
theorem m_ix40 (p q : Nat) : (40 : Int32) * nI p + nI q = nI (40 * p + q) := by
  rw [show (40 : Int32) = nI 40 from rfl, pk_mul, nI_add]
theorem m_ix160 (p q : Nat) : (160 : Int32) * nI p + nI q = nI (160 * p + q) := by
  rw [show (160 : Int32) = nI 160 from rfl, pk_mul, nI_add]
theorem m_px {j N : Nat} (h : j < N) (hN : j < 2 ^ 31) : px_in (nI j) N := ⟨nI_pos' hN, by rw [nI_clamp hN]; exact h⟩
theorem m_px_of {x : Int32} {N : Nat} (h : px_in x N) : ∃ j, j < N ∧ j < 2 ^ 31 ∧ x = nI j := by
  obtain ⟨j, hj, rfl⟩ := nI_of (x := x) (by have := h.1; rw [Int32.le_iff_toInt_le] at this; rw [Int32.lt_iff_toInt_lt]; omega)
  exact ⟨j, by have := h.2; rwa [nI_clamp hj] at this, hj, rfl⟩
theorem m_rng {x : Int32} {n : Nat} (hn : n < 2 ^ 31) (h : ¬ x < 0) (h2 : x < nI n) : ∃ j, j < n ∧ x = nI j := by
  obtain ⟨j, hj, rfl⟩ := nI_of h
  exact ⟨j, (nI_ltI hj hn).mp h2, rfl⟩
theorem m_rng' {x : Int32} {n : Nat} (hn : n < 2 ^ 31) (h : ¬ x < 0) (h2 : ¬ nI n < x) : ∃ j, j ≤ n ∧ x = nI j := by
  obtain ⟨j, hj, rfl⟩ := nI_of h
  exact ⟨j, by have := mt (nI_ltI hn hj).mpr h2; omega, rfl⟩
theorem m_eq_bind {α β : Type} {o : Option α} {a : α} (h : o = some a) (f : α → Option β) : o.bind f = f a := by rw [h]; rfl
