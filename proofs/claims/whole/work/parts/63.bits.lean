theorem m_up (st : px_S) (a j : Nat) (x : Int32) (b i : Nat) : up st a j x b i = if b = a then (if i = j then x else st b i) else st b i := by
  unfold up upr upd
  by_cases h : b = a
  · subst h; simp
  · simp [h]
theorem m_up_row (st : px_S) (a j : Nat) (x : Int32) {b : Nat} (h : b ≠ a) : up st a j x b = st b := by
  unfold up upr; simp [h]
theorem m_upr (st : px_S) (a : Nat) (w : Nat → Int32) (b : Nat) : upr st a w b = if b = a then w else st b := rfl
theorem m_let (st : px_S) {β : Type} (F : px_S → Option β) : px_let st F = F st := rfl
/-- only these places changed -/
def m_fr (l : List Nat) (s t : px_S) : Prop := ∀ a, a ∉ l → t a = s a
theorem m_fr_refl (l : List Nat) (s : px_S) : m_fr l s s := fun _ _ => rfl
theorem m_fr_tr {l : List Nat} {s t u : px_S} (h : m_fr l s t) (k : m_fr l t u) : m_fr l s u := fun a ha => (k a ha).trans (h a ha)
theorem m_fr_mono {l k : List Nat} {s t : px_S} (h : m_fr l s t) (hs : ∀ a ∈ l, a ∈ k) : m_fr k s t := fun a ha => h a (fun hb => ha (hs a hb))
theorem m_fr_up {l : List Nat} {s t : px_S} (h : m_fr l s t) {a : Nat} (ha : a ∈ l) (j : Nat) (x : Int32) : m_fr l s (up t a j x) := by
  intro b hb
  have hne : b ≠ a := fun h => hb (h ▸ ha)
  rw [m_up_row _ _ _ _ hne]; exact h b hb
theorem m_fr_upr {l : List Nat} {s t : px_S} (h : m_fr l s t) {a : Nat} (ha : a ∈ l) (w : Nat → Int32) : m_fr l s (upr t a w) := by
  intro b hb
  have hne : b ≠ a := fun h => hb (h ▸ ha)
  rw [m_upr, if_neg hne]; exact h b hb
/-- the one of 7 -/
def m_pop (a : Nat) : Nat := (a.testBit 0).toNat + (a.testBit 1).toNat + (a.testBit 2).toNat + (a.testBit 3).toNat + (a.testBit 4).toNat + (a.testBit 5).toNat + (a.testBit 6).toNat
def m_dif (a b : Nat) : Nat := a &&& (127 ^^^ b)
theorem m_pop_le (a : Nat) : m_pop a ≤ 7 := by
  unfold m_pop
  cases a.testBit 0 <;> cases a.testBit 1 <;> cases a.testBit 2 <;> cases a.testBit 3 <;> cases a.testBit 4 <;> cases a.testBit 5 <;> cases a.testBit 6 <;> decide
theorem b_sh1 : ∀ j, j < 8 → (1 : Int32) <<< (nI j &&& 31) = nI (2 ^ j) := by decide +kernel
theorem b_bit : ∀ j, j < 8 → p_X5_bit (nI j) = nI (2 ^ j) := by decide +kernel
theorem b_has : ∀ a, a < 128 → ∀ j, j < 8 → p_X5_has (nI a) (nI j) = if a.testBit j then 1 else 0 := by decide +kernel
theorem b_shr : ∀ a, a < 128 → ∀ j, j < 8 → (nI a >>> (nI j &&& 31)) &&& 1 = if a.testBit j then 1 else 0 := by decide +kernel
theorem b_pop : ∀ a, a < 128 → p_J6_bitCount_0f7a4 (nI a) = nI (m_pop a) := by decide +kernel
theorem b_bits : ∀ a, a < 128 → f_X6_bitsOf (nI a) = some (nI (m_pop a)) := by decide +kernel
theorem b_and : ∀ a, a < 128 → ∀ b, b < 128 → nI a &&& nI b = nI (a &&& b) := by decide +kernel
theorem b_or : ∀ a, a < 128 → ∀ b, b < 128 → nI a ||| nI b = nI (a ||| b) := by decide +kernel
theorem b_dif : ∀ a, a < 128 → ∀ b, b < 128 → nI a &&& (nI b ^^^ (-1)) = nI (m_dif a b) := by decide +kernel
