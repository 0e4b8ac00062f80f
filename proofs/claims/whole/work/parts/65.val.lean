/-- one step of a text's code over a stack -/
def m_step (F : Nat → Int32) (c : Int32) (s : List Int32) : List Int32 :=
  if c < -6 then
    (if c = -9 ∨ c = -15 then (match s with
      | [] => []
      | a :: r => (if c = -15 then -a else if a = 0 then 1 else 0) :: r)
    else (match s with
      | b :: a :: r => p_X4_join c a b :: r
      | t => t))
  else (if c < 0 then F ((-1 : Int32) - c).toNatClampNeg else c) :: s
def m_ev (F : Nat → Int32) : List Int32 → List Int32 → List Int32
  | [], s => s
  | c :: r, s => m_ev F r (m_step F c s)
theorem m_ev_app (F : Nat → Int32) : ∀ (c d s : List Int32), m_ev F (c ++ d) s = m_ev F d (m_ev F c s)
  | [], _, _ => rfl
  | c :: r, d, s => m_ev_app F r d (m_step F c s)
def m_out (r : List Int32) : Int32 := r.getD (r.length - 1) 0
def m_stk (st : px_S) (s : List Int32) : Prop := ∀ k, k < s.length → st 20 (s.length - 1 - k) = s.getD k 0
theorem m_stk_nil (st : px_S) : m_stk st [] := fun k h => absurd h (Nat.not_lt_zero _)
theorem m_stk_push {st : px_S} {s : List Int32} (h : m_stk st s) (x : Int32) : m_stk (up st 20 s.length x) (x :: s) := by
  intro k hk
  rw [m_up, if_pos rfl]
  cases k with
  | zero => simp
  | succ k =>
    simp only [List.length_cons] at hk ⊢
    rw [if_neg (by omega), show s.length + 1 - 1 - (k + 1) = s.length - 1 - k by omega, h k (by omega)]; rfl
theorem m_stk_top {st : px_S} {a : Int32} {s : List Int32} (h : m_stk st (a :: s)) (x : Int32) : m_stk (up st 20 s.length x) (x :: s) := by
  intro k hk
  rw [m_up, if_pos rfl]
  cases k with
  | zero => simp
  | succ k =>
    have := h (k + 1) hk
    simp only [List.length_cons] at hk this ⊢
    rw [if_neg (by omega), this]; rfl
theorem m_stk_tail {st : px_S} {a : Int32} {s : List Int32} (h : m_stk st (a :: s)) : m_stk st s := by
  intro k hk
  have := h (k + 1) (by simp only [List.length_cons]; omega)
  simp only [List.length_cons] at this
  rw [show s.length + 1 - 1 - (k + 1) = s.length - 1 - k by omega] at this
  rw [this]; rfl
theorem m_stk_hd {st : px_S} {a : Int32} {s : List Int32} (h : m_stk st (a :: s)) : st 20 s.length = a := by
  have := h 0 (by simp)
  simpa using this
set_option maxHeartbeats 1000000 in
theorem m_val69 {T a : Nat} (ha : a + 1 ≠ 19 ∧ a + 1 ≠ 20) (F : Nat → Int32) (len : Nat) (hlen : len < 2 ^ 31) : ∀ (c : List Int32) (s : List Int32) (i fuel : Nat) (st : px_S),
    st (a + 1) 100000 = nI len → i + c.length ≤ len → c.length < fuel → s.length + c.length ≤ 160 → (∀ k, k < c.length → st (a + 1) (i + k) = c.getD k 0) → (∀ j, j < 6 → st 19 j = F j) → m_stk st s →
    ∃ st', f_X4_value_69 T a fuel (nI (i + c.length)) (nI s.length) (nI i) st = some (m_out (m_ev F c s), st') ∧ m_fr [20] st st' := by
  intro c
  induction c with
  | nil =>
    intro s i fuel st h1 h2 h3 h4 h5 h6 h7
    obtain ⟨n, rfl⟩ : ∃ n, fuel = n + 1 := ⟨fuel - 1, by omega⟩
    rw [f_X4_value_69, List.length_nil, Nat.add_zero, if_neg (nI_nlt (Nat.le_refl _) (by omega))]
    cases s with
    | nil => exact ⟨st, rfl, m_fr_refl _ _⟩
    | cons x s =>
      rw [if_neg (by rw [show (1 : Int32) = nI 1 from rfl]; exact nI_nlt (by simp) (by simp only [List.length_cons, List.length_nil] at *; omega))]
      refine ⟨st, ?_, m_fr_refl _ _⟩
      have := h7 s.length (by simp)
      simp only [List.length_cons] at this
      rw [show s.length + 1 - 1 - s.length = 0 by omega] at this
      rw [this]; rfl
  | cons c r ih =>
    intro s i fuel st h1 h2 h3 h4 h5 h6 h7
    obtain ⟨n, rfl⟩ : ∃ n, fuel = n + 1 := ⟨fuel - 1, by omega⟩
    simp only [List.length_cons] at h2 h3 h4 h5 ⊢
    have hc : st (a + 1) i = c := by have := h5 0 (by omega); simpa using this
    have hr : ∀ k, k < r.length → st (a + 1) (i + 1 + k) = r.getD k 0 := fun k hk => by
      have := h5 (k + 1) (by omega)
      rw [show i + 1 + k = i + (k + 1) by omega, this]; rfl
    have fin : ∀ (s2 : List Int32) (st2 : px_S), m_fr [20] st st2 → m_stk st2 s2 → s2.length + r.length ≤ 160 → m_step F c s = s2 → ∃ st', f_X4_value_69 T a n (nI (i + (r.length + 1))) (nI s2.length) (nI i + 1) st2 = some (m_out (m_ev F (c :: r) s), st') ∧ m_fr [20] st st' := by
      intro s2 st2 hf hs hl he
      have ra : st2 (a + 1) = st (a + 1) := hf _ (by simp; omega)
      obtain ⟨st', e, f⟩ := ih s2 (i + 1) n st2 (by rw [ra]; exact h1) (by omega) (by omega) hl (fun k hk => by rw [ra]; exact hr k hk) (fun j hj => by rw [hf 19 (by decide)]; exact h6 j hj) hs
      refine ⟨st', ?_, m_fr_tr hf f⟩
      rw [nI_1, show i + (r.length + 1) = i + 1 + r.length by omega, e, m_ev, he]
    have hci : st (a + 1) (nI i).toNatClampNeg = c := by rw [nI_clamp (by omega), hc]
    rw [f_X4_value_69, if_pos (nI_lt (by omega) (by omega)), if_pos (by rw [h1, nI_clamp hlen]; exact m_px (by omega) (by omega)), hci]
    by_cases hneg : c < -6
    · rw [if_pos hneg, f_X4_value_125]
      have binary : ¬ (c = -9 ∨ c = -15) → ∃ st', f_X4_value_185 T a (f_X4_value_69 T a n) (nI (i + (r.length + 1))) (nI s.length) (nI i) c st = some (m_out (m_ev F (c :: r) s), st') ∧ m_fr [20] st st' := by
        intro hno
        rw [f_X4_value_185]
        match s, h4, h7 with
        | [], h4, h7 =>
          rw [if_pos (by decide)]
          exact fin [] st (m_fr_refl _ _) h7 (by simp; omega) (by rw [m_step, if_pos hneg, if_neg hno])
        | [x], h4, h7 =>
          rw [if_pos (show nI [x].length < 2 from (by decide : nI 1 < 2))]
          exact fin [x] st (m_fr_refl _ _) h7 (by simp at h4 ⊢; omega) (by rw [m_step, if_pos hneg, if_neg hno])
        | b :: x :: s, h4, h7 =>
          simp only [List.length_cons] at h4 ⊢
          rw [if_neg (by rw [show (2 : Int32) = nI 2 from rfl]; exact nI_nlt (by omega) (by omega))]
          have e1 : nI (s.length + 1 + 1) + (-1) = nI (s.length + 1) := pk_m1 _
          have e2 : nI (s.length + 1) - 1 = nI s.length := nI_pred _
          rw [e1, e2, if_pos (m_px (by omega) (by omega)), if_pos (m_px (by omega) (by omega)), if_pos (m_px (by omega) (by omega)), nI_clamp (by omega), nI_clamp (by omega)]
          have hb : st 20 (s.length + 1) = b := by have := m_stk_hd h7; simpa using this
          have hx : st 20 s.length = x := m_stk_hd (m_stk_tail h7)
          rw [hb, hx]
          exact fin (p_X4_join c x b :: s) _ (m_fr_up (m_fr_refl _ _) (by simp) _ _) (m_stk_top (m_stk_tail h7) _) (by simp only [List.length_cons]; omega) (by rw [m_step, if_pos hneg, if_neg hno])
      have unary : (c = -9 ∨ c = -15) → ∃ st', f_X4_value_139 T a (f_X4_value_69 T a n) (nI (i + (r.length + 1))) (nI s.length) (nI i) c st = some (m_out (m_ev F (c :: r) s), st') ∧ m_fr [20] st st' := by
        intro hyes
        rw [f_X4_value_139]
        match s, h4, h7 with
        | [], h4, h7 =>
          rw [if_pos (by decide), f_X4_value_185, if_pos (by decide)]
          exact fin [] st (m_fr_refl _ _) h7 (by simp; omega) (by rw [m_step, if_pos hneg, if_pos hyes])
        | x :: s, h4, h7 =>
          simp only [List.length_cons] at h4 ⊢
          rw [if_neg (by rw [show (1 : Int32) = nI 1 from rfl]; exact nI_nlt (by omega) (by omega))]
          have e2 : nI (s.length + 1) - 1 = nI s.length := nI_pred _
          have hx : st 20 s.length = x := m_stk_hd h7
          have hp : px_in (nI s.length) 160 := m_px (by omega) (by omega)
          rw [e2, if_pos hp, if_pos hp, if_pos hp, if_pos hp, nI_clamp (by omega), hx]
          have go : ∀ y, m_step F c (x :: s) = y :: s → ∃ st', f_X4_value_69 T a n (nI (i + (r.length + 1))) (nI (s.length + 1)) (nI i + 1) (up st 20 s.length y) = some (m_out (m_ev F (c :: r) (x :: s)), st') ∧ m_fr [20] st st' := fun y hy =>
            fin (y :: s) _ (m_fr_up (m_fr_refl _ _) (by simp) _ _) (m_stk_top h7 _) (by simp only [List.length_cons]; omega) hy
          by_cases h15 : c = -15
          · rw [if_pos h15]; exact go _ (by rw [m_step, if_pos hneg, if_pos hyes]; simp only [if_pos h15])
          · rw [if_neg h15]
            by_cases h0 : x = 0
            · rw [if_pos h0]; exact go _ (by rw [m_step, if_pos hneg, if_pos hyes]; simp only [if_neg h15, if_pos h0])
            · rw [if_neg h0]; exact go _ (by rw [m_step, if_pos hneg, if_pos hyes]; simp only [if_neg h15, if_neg h0])
      by_cases h9 : c = -9
      · rw [if_pos h9]; exact unary (Or.inl h9)
      · rw [if_neg h9]
        by_cases h15 : c = -15
        · rw [if_pos h15]; exact unary (Or.inr h15)
        · rw [if_neg h15]; exact binary (fun h => h.elim h9 h15)
    · rw [if_neg hneg, if_pos (by rw [show (160 : Int32) = nI 160 from rfl]; exact nI_lt (by omega) (by omega))]
      have hp : px_in (nI s.length) 160 := m_px (by omega) (by omega)
      have push : ∀ y, m_step F c s = y :: s → ∃ st', f_X4_value_69 T a n (nI (i + (r.length + 1))) (nI s.length + 1) (nI i + 1) (up st 20 (nI s.length).toNatClampNeg y) = some (m_out (m_ev F (c :: r) s), st') ∧ m_fr [20] st st' := fun y hy => by
        rw [nI_clamp (by omega), nI_1]
        exact fin (y :: s) _ (m_fr_up (m_fr_refl _ _) (by simp) _ _) (m_stk_push h7 _) (by simp only [List.length_cons]; omega) hy
      by_cases h0 : c < 0
      · obtain ⟨j, hj, ej⟩ : ∃ j, j < 6 ∧ (-1 : Int32) - c = nI j := by
          have e : ((-1 : Int32) - c).toInt = -1 - c.toInt := by
            rw [Int32.lt_iff_toInt_lt] at h0 hneg
            rw [Int32.toInt_sub, show (-1 : Int32).toInt = -1 from rfl]
            have : (-6 : Int32).toInt = -6 := rfl
            have : (0 : Int32).toInt = 0 := rfl
            exact Int.bmod_eq_of_le (by omega) (by omega)
          rw [Int32.lt_iff_toInt_lt] at h0 hneg
          have : (-6 : Int32).toInt = -6 := rfl
          have : (0 : Int32).toInt = 0 := rfl
          refine ⟨(-1 - c.toInt).toNat, by omega, Int32.toInt_inj.mp ?_⟩
          rw [e, nI_toInt (by omega)]; omega
        rw [if_pos h0, ej, if_pos (m_px hj (by omega)), if_pos hp, nI_clamp (n := j) (by omega)]
        rw [h6 j hj]
        exact push _ (by unfold m_step; rw [if_neg hneg, if_pos h0, ej, nI_clamp (by omega)])
      · rw [if_neg h0, if_pos hp]
        exact push _ (by unfold m_step; rw [if_neg hneg, if_neg h0])

/-- a TEXT at the place a: its three parts of code -/
def m_TX (st : px_S) (a : Nat) (C : Nat → List Int32) : Prop :=
  st a 1 = nI (C 0).length ∧ st a 2 = nI ((C 0).length + (C 1).length) ∧ st (a + 1) 100000 = nI ((C 0).length + (C 1).length + (C 2).length) ∧ (C 0).length + (C 1).length + (C 2).length < 160 ∧ ∀ k, k < (C 0 ++ C 1 ++ C 2).length → st (a + 1) k = (C 0 ++ C 1 ++ C 2).getD k 0
theorem m_TX_len {st : px_S} {a : Nat} {C : Nat → List Int32} (h : m_TX st a C) : (C 0).length + (C 1).length + (C 2).length < 160 := h.2.2.2.1
theorem m_TX_eq {st st' : px_S} {a : Nat} {C : Nat → List Int32} (h : m_TX st a C) (h1 : st' a = st a) (h2 : st' (a + 1) = st (a + 1)) : m_TX st' a C := by
  unfold m_TX at *; rw [h1, h2]; exact h
def m_key (w : Nat) : Int32 := if w = 0 then (-19) else if w = 1 then (-20) else (-21)
theorem m_value {T a : Nat} (ha : a + 1 ≠ 19 ∧ a + 1 ≠ 20) {st : px_S} {F : Nat → Int32} {C : Nat → List Int32} (hT : m_TX st a C) (hF : ∀ j, j < 6 → st 19 j = F j) {w : Nat} (hw : w < 3) :
    ∃ st', f_X4_value T a (m_key w) st = some (m_out (m_ev F (C w) []), st') ∧ m_fr [20] st st' := by
  obtain ⟨h1, h2, h3, h4, h5⟩ := hT
  simp only [List.length_append] at h5
  have hl : (nI ((C 0).length + (C 1).length + (C 2).length)).toNatClampNeg = (C 0).length + (C 1).length + (C 2).length := nI_clamp (by omega)
  have key := fun (c : List Int32) (i : Nat) (hi : i + c.length ≤ (C 0).length + (C 1).length + (C 2).length) (hc : ∀ k, k < c.length → st (a + 1) (i + k) = c.getD k 0) => m_val69 (T := T) ha F ((C 0).length + (C 1).length + (C 2).length) (by omega) c [] i 1000 st h3 hi (by omega) (by simp; omega) hc hF (m_stk_nil _)
  rcases (show w = 0 ∨ w = 1 ∨ w = 2 by omega) with rfl | rfl | rfl
  · have := key (C 0) 0 (by omega) (fun k hk => by
      rw [Nat.zero_add, h5 k (by omega), List.getD_eq_getElem?_getD, List.getD_eq_getElem?_getD, List.append_assoc, List.getElem?_append_left hk])
    rw [Nat.zero_add] at this
    rw [show m_key 0 = -19 from rfl, f_X4_value, if_pos rfl, f_X4_value_27, if_pos rfl, h1]
    exact this
  · have := key (C 1) (C 0).length (by omega) (fun k hk => by
      rw [h5 _ (by omega), List.getD_eq_getElem?_getD, List.getD_eq_getElem?_getD, List.append_assoc, List.getElem?_append_right (by omega), List.getElem?_append_left (by omega)]; congr 2; omega)
    rw [show m_key 1 = -20 from rfl, f_X4_value, if_neg (by decide), if_pos rfl, f_X4_value_27, if_neg (by decide), if_pos rfl, h1, h2]
    exact this
  · have := key (C 2) ((C 0).length + (C 1).length) (by omega) (fun k hk => by
      rw [h5 _ (by omega), List.getD_eq_getElem?_getD, List.getD_eq_getElem?_getD, List.getElem?_append_right (by simp), List.length_append]; congr 2; omega)
    rw [show m_key 2 = -21 from rfl, f_X4_value, if_neg (by decide), if_neg (by decide), f_X4_value_27, if_neg (by decide), if_neg (by decide), h2, h3, hl]
    exact this
