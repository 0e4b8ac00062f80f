theorem m_isL (b : Int32) : p_X6_in b.toInt64 97 122 = p_X2_isLetter b := m_in b 97 122
theorem m_isD (b : Int32) : p_X6_in b.toInt64 48 57 = p_X2_isDigit b := m_in b 48 57
theorem m_chain {α : Type} (b : Int32) (X Y : α) : (if b = 40 then X else (if b = 41 then X else (if b = 59 then X else (if b = 43 then X else (if b = 45 then X else (if b = 42 then X else (if b = 60 then X else (if b = 61 then X else Y)))))))) = if p_X2_signOf b = -23 then Y else X := by
  by_cases h40 : b = 40
  · subst h40; rfl
  by_cases h41 : b = 41
  · subst h41; rfl
  by_cases h59 : b = 59
  · subst h59; rfl
  by_cases h43 : b = 43
  · subst h43; rfl
  by_cases h45 : b = 45
  · subst h45; rfl
  by_cases h42 : b = 42
  · subst h42; rfl
  by_cases h60 : b = 60
  · subst h60; rfl
  by_cases h61 : b = 61
  · subst h61; rfl
  have : p_X2_signOf b = -23 := by
    unfold p_X2_signOf
    rw [if_neg h40, if_neg h41, if_neg h42, if_neg h43, if_neg h45, if_neg h59, if_neg h60, if_neg h61]
    simp only [ite_self]
  rw [if_pos this, if_neg h40, if_neg h41, if_neg h59, if_neg h43, if_neg h45, if_neg h42, if_neg h60, if_neg h61]
/-- the reference reads the text t, of these bytes -/
def m_rt (st : px_S) (t : Nat) (B : Nat → Int32) (sz : Nat) : Prop :=
  st 48 22 = nI (160 * t) ∧ st 48 23 = nI sz ∧ (∀ j, j < sz → st 49 (160 * t + j) = B j) ∧ t < 6 ∧ sz ≤ 160 ∧ ∀ j, j < sz → ¬ B j < 0
/-- of the place 48 only these slots changed -/
def m_f48 (l : List Nat) (s t : px_S) : Prop := (∀ a, a ≠ 48 → t a = s a) ∧ ∀ j, j ∉ l → t 48 j = s 48 j
theorem m_f48_refl (l : List Nat) (s : px_S) : m_f48 l s s := ⟨fun _ _ => rfl, fun _ _ => rfl⟩
theorem m_f48_tr {l : List Nat} {s t u : px_S} (h : m_f48 l s t) (k : m_f48 l t u) : m_f48 l s u := ⟨fun a ha => (k.1 a ha).trans (h.1 a ha), fun j hj => (k.2 j hj).trans (h.2 j hj)⟩
theorem m_f48_mono {l k : List Nat} {s t : px_S} (h : m_f48 l s t) (hs : ∀ a ∈ l, a ∈ k) : m_f48 k s t := ⟨h.1, fun j hj => h.2 j (fun hb => hj (hs j hb))⟩
theorem m_f48_up {l : List Nat} {s t : px_S} (h : m_f48 l s t) {j : Nat} (hj : j ∈ l) (x : Int32) : m_f48 l s (up t 48 j x) := by
  refine ⟨fun a ha => ?_, fun i hi => ?_⟩
  · rw [m_up_row _ _ _ _ ha]; exact h.1 a ha
  · rw [m_up, if_pos rfl, if_neg (show ¬ i = j from fun e => hi (e ▸ hj))]; exact h.2 i hi
theorem m_rt_fr {st st' : px_S} {t : Nat} {B : Nat → Int32} {sz : Nat} (h : m_rt st t B sz) {l : List Nat} (k : m_f48 l st st') (h22 : 22 ∉ l) (h23 : 23 ∉ l) : m_rt st' t B sz := by
  unfold m_rt at *
  rw [k.2 22 h22, k.2 23 h23, k.1 49 (by decide)]; exact h
section
variable {T t : Nat} {B : Nat → Int32} {sz : Nat}
theorem m_byteAt {st : px_S} (h : m_rt st t B sz) (p : Nat) (hp : p < 1000) : f_X6_byteAt T st (nI p) = some (if p < sz then B p else -1) := by
  obtain ⟨h1, h2, h3, h4, h5, h6⟩ := h
  rw [f_X6_byteAt, h1, h2]
  rcases Nat.lt_or_ge p sz with hl | hl
  · rw [if_pos (nI_lt hl (by omega)), nI_add, if_pos (m_px (by omega) (by omega)), nI_clamp (by omega), h3 p hl, if_pos hl]
  · rw [if_neg (nI_nlt hl (by omega)), if_neg (by omega)]
theorem m_byteIn {st : px_S} (h : m_rt st t B sz) {p : Nat} (hp : p < sz) : f_X6_byteAt T st (nI p) = some (B p) := by
  rw [m_byteAt h p (by have := h.2.2.2.2.1; omega), if_pos hp]
theorem m_byteOut {st : px_S} (h : m_rt st t B sz) {p : Nat} (hp : sz ≤ p) (hp2 : p < 1000) : f_X6_byteAt T st (nI p) = some (-1) := by
  rw [m_byteAt h p hp2, if_neg (by omega)]
/-- the reference's token at hand: from p to e -/
def m_at6 (st : px_S) (B : Nat → Int32) (sz p e : Nat) : Prop :=
  st 48 26 = nI p ∧ (if p < sz then (if p_X2_isLetter (B p) = 0 then (if p_X2_isDigit (B p) = 0 then (if p_X2_signOf (B p) = -23 then st 48 25 = 4 else st 48 24 = nI e ∧ st 48 25 = 3 ∧ st 48 27 = B p) else st 48 24 = nI e ∧ (if 4 < e - p then st 48 25 = 4 else st 48 25 = 2 ∧ st 48 27 = m_num B (e - p) p 0)) else st 48 24 = nI e ∧ st 48 25 = 1) else st 48 25 = 0)
theorem m_num_snoc (B : Nat → Int32) : ∀ k p v, m_num B (k + 1) p v = m_num B k p v * 10 + B (p + k) - 48 := by
  intro k
  induction k with
  | zero => intro p v; rfl
  | succ k ih => intro p v; rw [m_num, ih (p + 1), show p + 1 + k = p + (k + 1) by omega]; rfl
theorem m_dig {b : Int32} (h : ¬ p_X2_isDigit b = 0) : ∃ d, d < 10 ∧ b = nI (d + 48) := by
  unfold p_X2_isDigit at h
  by_cases h1 : b < 48
  · rw [if_pos h1] at h; exact absurd rfl h
  rw [if_neg h1] at h
  by_cases h2 : 57 < b
  · rw [if_pos h2] at h; exact absurd rfl h
  have h3 : ¬ b < 0 := by
    rw [Int32.lt_iff_toInt_lt] at *
    have : (48 : Int32).toInt = 48 := rfl
    have : (0 : Int32).toInt = 0 := rfl
    omega
  obtain ⟨j, hj, rfl⟩ := nI_of h3
  rw [show (48 : Int32) = nI 48 from rfl, nI_ltI hj (by omega)] at h1
  rw [show (57 : Int32) = nI 57 from rfl, nI_ltI (by omega) hj] at h2
  exact ⟨j - 48, by omega, by congr 1; omega⟩
theorem m_num_val {B : Nat → Int32} {p : Nat} : ∀ k, (∀ j, j < k → ¬ p_X2_isDigit (B (p + j)) = 0) → ∃ v, v < 10 ^ k ∧ m_num B k p 0 = nI v := by
  intro k
  induction k with
  | zero => intro _; exact ⟨0, by decide, rfl⟩
  | succ k ih =>
    intro h
    obtain ⟨v, hv, e⟩ := ih (fun j hj => h j (by omega))
    obtain ⟨d, hd, eb⟩ := m_dig (h k (by omega))
    refine ⟨v * 10 + d, by rw [Nat.pow_succ]; omega, ?_⟩
    rw [m_num_snoc, e, eb, show (10 : Int32) = nI 10 from rfl, pk_mul, nI_add, show (48 : Int32) = nI 48 from rfl, pk_sub (by omega)]
    congr 1
/-- the letters of a word -/
theorem m_next100 : ∀ k q fuel (st : px_S), m_rt st t B sz → sz - q ≤ k → k < fuel → q ≤ sz → st 48 24 = nI q → ∃ st', f_X6_next_100 T fuel st = some st' ∧ m_f48 [24] st st' ∧ st' 48 24 = nI (m_run p_X2_isLetter B sz k q) := by
  intro k
  induction k with
  | zero =>
    intro q fuel st h hk hf hq h24
    obtain ⟨n, rfl⟩ : ∃ n, fuel = n + 1 := ⟨fuel - 1, by omega⟩
    have := h.2.2.2.2.1
    rw [f_X6_next_100, h24, m_eq_bind (m_byteOut h (by omega) (by omega)), if_pos (by decide), m_run]
    exact ⟨_, rfl, m_f48_refl _ _, h24⟩
  | succ k ih =>
    intro q fuel st h hk hf hq h24
    obtain ⟨n, rfl⟩ : ∃ n, fuel = n + 1 := ⟨fuel - 1, by omega⟩
    have := h.2.2.2.2.1
    rw [f_X6_next_100, h24, m_run]
    rcases Nat.lt_or_ge q sz with hl | hl
    · rw [m_eq_bind (m_byteIn h hl), if_pos hl, m_isL]
      by_cases h0 : p_X2_isLetter (B q) = 0
      · rw [if_pos h0, if_pos h0]; exact ⟨_, rfl, m_f48_refl _ _, h24⟩
      · rw [if_neg h0, if_neg h0, nI_1]
        have f1 : m_f48 [24] st (up st 48 24 (nI (q + 1))) := m_f48_up (m_f48_refl _ _) (by simp) _
        obtain ⟨st', e, f, g⟩ := ih (q + 1) n _ (m_rt_fr h f1 (by decide) (by decide)) (by omega) (by omega) hl (by simp [m_up])
        exact ⟨st', e, m_f48_tr f1 f, g⟩
    · rw [m_eq_bind (m_byteOut h hl (by omega)), if_neg (show ¬ q < sz by omega), if_pos (by decide)]; exact ⟨_, rfl, m_f48_refl _ _, h24⟩
/-- the digits of a number: c of them are read -/
theorem m_next160 (p : Nat) : ∀ k q fuel (st : px_S), m_rt st t B sz → sz - q ≤ k → k < fuel → q ≤ sz → p ≤ q → (∀ j, j < q - p → ¬ p_X2_isDigit (B (p + j)) = 0) → st 48 24 = nI q → st 48 27 = m_num B (min (q - p) 4) p 0 →
    ∃ st', f_X6_next_160 T fuel (nI (q - p)) st = some st' ∧ m_f48 [24, 25, 27] st st' ∧ st' 48 24 = nI (m_run p_X2_isDigit B sz k q) ∧ (if 4 < m_run p_X2_isDigit B sz k q - p then st' 48 25 = 4 else st' 48 25 = 2 ∧ st' 48 27 = m_num B (m_run p_X2_isDigit B sz k q - p) p 0) := by
  intro k
  have stop : ∀ (q n : Nat) (st : px_S), m_rt st t B sz → q ≤ sz → st 48 24 = nI q → st 48 27 = m_num B (min (q - p) 4) p 0 → ∃ st', (if 4 < nI (q - p) then (some (up st 48 25 4)) else (some (up st 48 25 2))) = some st' ∧ m_f48 [24, 25, 27] st st' ∧ st' 48 24 = nI q ∧ (if 4 < q - p then st' 48 25 = 4 else st' 48 25 = 2 ∧ st' 48 27 = m_num B (q - p) p 0) := by
    intro q n st h hq h24 h27
    have := h.2.2.2.2.1
    by_cases h4 : 4 < q - p
    · rw [if_pos (by rw [show (4 : Int32) = nI 4 from rfl]; exact nI_lt h4 (by omega))]
      simp only [if_pos h4]
      exact ⟨_, rfl, m_f48_up (m_f48_refl _ _) (by simp) _, by simp [m_up, h24], by simp [m_up]⟩
    · rw [if_neg (by rw [show (4 : Int32) = nI 4 from rfl]; exact nI_nlt (by omega) (by omega))]
      simp only [if_neg h4]
      exact ⟨_, rfl, m_f48_up (m_f48_refl _ _) (by simp) _, by simp [m_up, h24], by simp [m_up], by rw [Nat.min_eq_left (by omega)] at h27; simp [m_up, h27]⟩
  induction k with
  | zero =>
    intro q fuel st h hk hf hq hpq hd h24 h27
    obtain ⟨n, rfl⟩ : ∃ n, fuel = n + 1 := ⟨fuel - 1, by omega⟩
    have := h.2.2.2.2.1
    rw [f_X6_next_160, h24, m_eq_bind (m_byteOut h (by omega) (by omega)), if_pos (by decide), m_run]
    exact stop q n st h hq h24 h27
  | succ k ih =>
    intro q fuel st h hk hf hq hpq hd h24 h27
    obtain ⟨n, rfl⟩ : ∃ n, fuel = n + 1 := ⟨fuel - 1, by omega⟩
    have := h.2.2.2.2.1
    rw [f_X6_next_160, h24, m_run]
    rcases Nat.lt_or_ge q sz with hl | hl
    · rw [m_eq_bind (m_byteIn h hl), if_pos hl, m_isD]
      by_cases h0 : p_X2_isDigit (B q) = 0
      · rw [if_pos h0, if_pos h0]; exact stop q n st h hq h24 h27
      · rw [if_neg h0, if_neg h0, m_eq_bind (m_byteIn h hl)]
        have hd2 : ∀ j, j < q + 1 - p → ¬ p_X2_isDigit (B (p + j)) = 0 := fun j hj => by
          rcases Nat.lt_or_ge j (q - p) with hj2 | hj2
          · exact hd j hj2
          · rw [show p + j = q by omega]; exact h0
        have go : ∀ z : Int32, z = m_num B (min (q + 1 - p) 4) p 0 → ∃ st', f_X6_next_160 T n (nI (q + 1 - p)) (up (up st 48 27 z) 48 24 (nI (q + 1))) = some st' ∧ m_f48 [24, 25, 27] st st' ∧ st' 48 24 = nI (m_run p_X2_isDigit B sz k (q + 1)) ∧ (if 4 < m_run p_X2_isDigit B sz k (q + 1) - p then st' 48 25 = 4 else st' 48 25 = 2 ∧ st' 48 27 = m_num B (m_run p_X2_isDigit B sz k (q + 1) - p) p 0) := by
          intro z hz
          have f1 : m_f48 [24, 25, 27] st (up (up st 48 27 z) 48 24 (nI (q + 1))) := m_f48_up (m_f48_up (m_f48_refl _ _) (by simp) _) (by simp) _
          obtain ⟨st', e, f, g⟩ := ih (q + 1) n _ (m_rt_fr h f1 (by decide) (by decide)) (by omega) (by omega) hl (by omega) hd2 (by simp [m_up]) (by simp [m_up, hz])
          exact ⟨st', e, m_f48_tr f1 f, g⟩
        by_cases h4 : q - p < 4
        · rw [if_pos (by rw [show (4 : Int32) = nI 4 from rfl]; exact nI_lt h4 (by omega)), f_X6_next_216]
          obtain ⟨v, hv, ev⟩ := m_num_val (q - p) hd
          obtain ⟨d, hdd, eb⟩ := m_dig h0
          rw [Nat.min_eq_left (by omega)] at h27
          have hv3 : v < 10 ^ 3 := Nat.lt_of_lt_of_le hv (Nat.pow_le_pow_right (by omega) (by omega))
          have ez : 10 * (st 48 27).toInt64 + (B q).toInt64 - 48 = lN (10 * v + d) := by
            rw [h27, ev, eb, nI_l (by omega), nI_l (by omega), show (10 : Int64) = lN 10 from rfl, lN_mul, lN_add, show (48 : Int64) = lN 48 from rfl, lN_sub (by omega)]
            congr 1
          rw [ez, lN_i, nI_l (by omega), if_pos rfl, nI_1, h24, nI_1, show q - p + 1 = q + 1 - p by omega]
          refine go _ ?_
          rw [Nat.min_eq_left (by omega), show q + 1 - p = q - p + 1 by omega, m_num_snoc, ev, show p + (q - p) = q by omega, eb, show (10 : Int32) = nI 10 from rfl, pk_mul, nI_add, show (48 : Int32) = nI 48 from rfl, pk_sub (by omega)]
          congr 1; omega
        · rw [if_neg (by rw [show (4 : Int32) = nI 4 from rfl]; exact nI_nlt (by omega) (by omega)), f_X6_next_216]
          have e64 : (st 48 27).toInt64.toInt32 = st 48 27 := by simp
          rw [e64, if_pos rfl, nI_1, h24, nI_1, show q - p + 1 = q + 1 - p by omega]
          refine go _ ?_
          rw [h27, Nat.min_eq_right (by omega), Nat.min_eq_right (by omega)]
    · rw [m_eq_bind (m_byteOut h hl (by omega)), if_neg (show ¬ q < sz by omega), if_pos (by decide)]; exact stop q n st h hq h24 h27
theorem m_next {st : px_S} {q : Nat} (h : m_rt st t B sz) (hq : q ≤ sz) (h24 : st 48 24 = nI q) : ∃ st', f_X6_next T st = some st' ∧ m_f48 [24, 25, 26, 27] st st' ∧
    ((m_lx B sz q = [] ∧ m_at6 st' B sz sz sz) ∨ ∃ p, p < sz ∧ m_lx B sz q = (m_tokc B p (m_beh B sz p), p) :: m_lx B sz (m_beh B sz p) ∧ m_at6 st' B sz p (m_beh B sz p)) := by
  have hsz := h.2.2.2.2.1
  have main : ∀ k q fuel (st : px_S), m_rt st t B sz → sz - q ≤ k → k < fuel → q ≤ sz → st 48 24 = nI q → ∃ st', f_X6_next_0 T fuel st = some st' ∧ m_f48 [24, 25, 26, 27] st st' ∧ ((m_lx B sz q = [] ∧ m_at6 st' B sz sz sz) ∨ ∃ p, p < sz ∧ m_lx B sz q = (m_tokc B p (m_beh B sz p), p) :: m_lx B sz (m_beh B sz p) ∧ m_at6 st' B sz p (m_beh B sz p)) := by
    intro k
    induction k with
    | zero =>
      intro q fuel st h hk hf hq h24
      obtain ⟨n, rfl⟩ : ∃ n, fuel = n + 1 := ⟨fuel - 1, by omega⟩
      obtain rfl : q = sz := by omega
      have hb : ∀ s : px_S, m_rt s t B q → f_X6_byteAt T s (nI q) = some (-1) := fun s hs => by rw [m_byteAt hs q (by omega), if_neg (by omega)]
      have h2 : m_rt (up st 48 26 (nI q)) t B q := m_rt_fr h (m_f48_up (m_f48_refl [24, 25, 26, 27] _) (by simp) _) (by decide) (by decide)
      rw [f_X6_next_0, h24, m_eq_bind (hb _ h), if_neg (by decide), m_eq_bind (hb _ h), if_neg (by decide), m_eq_bind (hb _ h2), if_pos (by decide)]
      refine ⟨_, rfl, m_f48_up (m_f48_up (m_f48_up (m_f48_up (m_f48_refl _ _) (by simp) _) (by simp) _) (by simp) _) (by simp) _, Or.inl ⟨m_lx_end B (Nat.le_refl _), ?_⟩⟩
      unfold m_at6
      rw [if_neg (by omega)]
      simp [m_up, h.2.1]
    | succ k ih =>
      intro q fuel st h hk hf hq h24
      obtain ⟨n, rfl⟩ : ∃ n, fuel = n + 1 := ⟨fuel - 1, by omega⟩
      rcases Nat.lt_or_ge q sz with hl | hl
      · have hb : ∀ s : px_S, m_rt s t B sz → f_X6_byteAt T s (nI q) = some (B q) := fun s hs => by rw [m_byteAt hs q (by omega), if_pos hl]
        have h2 : m_rt (up st 48 26 (nI q)) t B sz := m_rt_fr h (m_f48_up (m_f48_refl [24, 25, 26, 27] _) (by simp) _) (by decide) (by decide)
        have f1 : m_f48 [24, 25, 26, 27] st (up st 48 24 (nI (q + 1))) := m_f48_up (m_f48_refl _ _) (by simp) _
        rw [f_X6_next_0, h24, m_eq_bind (hb _ h), nI_1]
        by_cases h32 : B q = 32
        · rw [if_pos h32, m_lx_sp B hl (Or.inl h32)]
          obtain ⟨st', e, f, g⟩ := ih (q + 1) n _ (m_rt_fr h f1 (by decide) (by decide)) (by omega) (by omega) hl (by simp [m_up])
          exact ⟨st', e, m_f48_tr f1 f, g⟩
        rw [if_neg h32, m_eq_bind (hb _ h)]
        by_cases h10 : B q = 10
        · rw [if_pos h10, m_lx_sp B hl (Or.inr h10)]
          obtain ⟨st', e, f, g⟩ := ih (q + 1) n _ (m_rt_fr h f1 (by decide) (by decide)) (by omega) (by omega) hl (by simp [m_up])
          exact ⟨st', e, m_f48_tr f1 f, g⟩
        rw [if_neg h10, m_eq_bind (hb _ h2), if_neg (h.2.2.2.2.2 q hl), m_isL, m_isD, m_chain]
        have hlx := m_lx_tok B hl (fun h => h.elim h32 h10)
        have fr0 : m_f48 [24, 25, 26, 27] st (up (up st 48 26 (nI q)) 48 25 4) := m_f48_up (m_f48_up (m_f48_refl _ _) (by simp) _) (by simp) _
        have fin : ∀ st', m_f48 [24, 25, 26, 27] st st' → m_at6 st' B sz q (m_beh B sz q) → m_f48 [24, 25, 26, 27] st st' ∧ ((m_lx B sz q = [] ∧ m_at6 st' B sz sz sz) ∨ ∃ p, p < sz ∧ m_lx B sz q = (m_tokc B p (m_beh B sz p), p) :: m_lx B sz (m_beh B sz p) ∧ m_at6 st' B sz p (m_beh B sz p)) := fun st' a b => ⟨a, Or.inr ⟨q, hl, hlx, b⟩⟩
        by_cases hL : p_X2_isLetter (B q) = 0
        · rw [if_pos hL]
          by_cases hD : p_X2_isDigit (B q) = 0
          · rw [if_pos hD]
            by_cases hS : p_X2_signOf (B q) = -23
            · rw [if_pos hS]
              refine ⟨_, rfl, fin _ fr0 ?_⟩
              unfold m_at6
              rw [if_pos hl, if_pos hL, if_pos hD, if_pos hS]
              simp [m_up]
            · rw [if_neg hS, f_X6_next_300]
              refine ⟨_, rfl, fin _ (m_f48_up (m_f48_up (m_f48_up fr0 (by simp) _) (by simp) _) (by simp) _) ?_⟩
              unfold m_at6
              rw [if_pos hl, if_pos hL, if_pos hD, if_neg hS]
              have : m_beh B sz q = q + 1 := by rw [m_beh, if_pos hL, if_pos hD]
              rw [this]
              simp [m_up, h24, nI_1]
          · rw [if_neg hD]
            have f2 : m_f48 [24, 25, 26, 27] st (up (up (up (up st 48 26 (nI q)) 48 25 4) 48 25 2) 48 27 0) := m_f48_up (m_f48_up fr0 (by simp) _) (by simp) _
            obtain ⟨st', e, f, g1, g2⟩ := m_next160 (T := T) q sz q 1000 _ (m_rt_fr h f2 (by decide) (by decide)) (by omega) (by omega) hq (Nat.le_refl _) (fun j hj => by omega) (by simp [m_up, h24]) (by simp [m_up, m_num])
            rw [Nat.sub_self] at e
            refine ⟨st', e, fin _ (m_f48_tr f2 (m_f48_mono f (by intro a ha; simp at ha ⊢; omega))) ?_⟩
            have eb : m_beh B sz q = m_run p_X2_isDigit B sz sz q := by
              obtain ⟨s, hs⟩ : ∃ s, sz = s + 1 := ⟨sz - 1, by omega⟩
              rw [m_beh, if_pos hL, if_neg hD]
              rw [m_run_fuel _ B sz sz (sz + 1) q (by omega) (by omega), m_run, if_pos hl, if_neg hD]
            unfold m_at6
            rw [if_pos hl, if_pos hL, if_neg hD, eb]
            refine ⟨?_, g1, g2⟩
            rw [f.2 26 (by decide)]; simp [m_up]
        · rw [if_neg hL]
          have f2 : m_f48 [24, 25, 26, 27] st (up (up (up st 48 26 (nI q)) 48 25 4) 48 25 1) := m_f48_up fr0 (by simp) _
          obtain ⟨st', e, f, g1⟩ := m_next100 (T := T) sz q 1000 _ (m_rt_fr h f2 (by decide) (by decide)) (by omega) (by omega) hq (by simp [m_up, h24])
          refine ⟨st', e, fin _ (m_f48_tr f2 (m_f48_mono f (by intro a ha; simp at ha ⊢; omega))) ?_⟩
          have eb : m_beh B sz q = m_run p_X2_isLetter B sz sz q := by
            rw [m_beh, if_neg hL]
            rw [m_run_fuel _ B sz sz (sz + 1) q (by omega) (by omega), m_run, if_pos hl, if_neg hL]
          unfold m_at6
          rw [if_pos hl, if_neg hL, eb]
          refine ⟨?_, g1, ?_⟩
          · rw [f.2 26 (by decide)]; simp [m_up]
          · rw [f.2 25 (by decide)]; simp [m_up]
      · exact ih q (n + 1) st h (by omega) (by omega) hq h24
  exact main sz q 1000 st h (by omega) (by omega) hq h24
end
