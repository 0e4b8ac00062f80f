theorem m_letE {s : px_S} {F : px_S → Option px_S} {P : px_S → Prop} (h : ∀ s1, s1 = s → ∃ r, F s1 = some r ∧ P r) : ∃ r, px_let s F = some r ∧ P r := h s rfl
theorem m_becomeC {T a b : Nat} {st : px_S} {h : px_H} (hab : a + 4 < b ∨ b + 4 < a) (hn : h 4 0 ≤ 7) (k : m_HC st b h) : ∃ st', f_X0_become T a b st = some st' ∧ (m_fr [a, a + 1, a + 2, a + 3, a + 4] st st' ∧ m_HC st' a h) := by
  rw [f_X0_become, if_pos (by decide)]
  refine m_letE (fun s1 h1 => ?_)
  rw [if_pos (by decide)]
  refine m_letE (fun s2 h2 => ?_)
  rw [if_pos (by decide)]
  refine m_letE (fun s3 h3 => ?_)
  rw [if_pos (by decide)]
  refine m_letE (fun s4 h4 => ?_)
  refine m_letE (fun s5 h5 => ?_)
  refine m_letE (fun s6 h6 => ?_)
  refine m_letE (fun s7 h7 => ?_)
  refine m_letE (fun s8 h8 => ?_)
  refine m_letE (fun s9 h9 => ?_)
  refine m_letE (fun s10 h10 => ?_)
  have o1 : ∀ x, x ≠ a + 1 → s1 x = st x := fun x hx => by rw [h1, m_upr, if_neg hx]
  have o2 : ∀ x, x ≠ a + 2 → s2 x = s1 x := fun x hx => by rw [h2, m_upr, if_neg hx]
  have o3 : ∀ x, x ≠ a + 3 → s3 x = s2 x := fun x hx => by rw [h3, m_upr, if_neg hx]
  have o4 : ∀ x, x ≠ a + 4 → s4 x = s3 x := fun x hx => by rw [h4, m_upr, if_neg hx]
  have o5 : ∀ x, x ≠ a → s5 x = s4 x := fun x hx => by rw [h5, m_up_row _ _ _ _ hx]
  have o6 : ∀ x, x ≠ a → s6 x = s5 x := fun x hx => by rw [h6, m_up_row _ _ _ _ hx]
  have o7 : ∀ x, x ≠ a → s7 x = s6 x := fun x hx => by rw [h7, m_up_row _ _ _ _ hx]
  have o8 : ∀ x, x ≠ a → s8 x = s7 x := fun x hx => by rw [h8, m_up_row _ _ _ _ hx]
  have o9 : ∀ x, x ≠ a → s9 x = s8 x := fun x hx => by rw [h9, m_up_row _ _ _ _ hx]
  have o10 : ∀ x, x ≠ a → s10 x = s9 x := fun x hx => by rw [h10, m_up_row _ _ _ _ hx]
  have all : ∀ x, x ≠ a → s10 x = s4 x := fun x hx => by rw [o10 x hx, o9 x hx, o8 x hx, o7 x hx, o6 x hx, o5 x hx]
  obtain ⟨k4, k5, k6, k7, k8, k9, kr, kl, ko⟩ := k
  have b4 : s4 b = st b := by rw [o4 _ (by omega), o3 _ (by omega), o2 _ (by omega), o1 _ (by omega)]
  have b5 : s5 b = st b := by rw [o5 _ (by omega), b4]
  have b6 : s6 b = st b := by rw [o6 _ (by omega), b5]
  have b7 : s7 b = st b := by rw [o7 _ (by omega), b6]
  have b8 : s8 b = st b := by rw [o8 _ (by omega), b7]
  have b9 : s9 b = st b := by rw [o9 _ (by omega), b8]
  have v5 : ∀ j, s5 a j = if j = 4 then st b 4 else s4 a j := fun j => by rw [h5, m_up, if_pos rfl, b4]
  have v6 : ∀ j, s6 a j = if j = 5 then st b 5 else s5 a j := fun j => by rw [h6, m_up, if_pos rfl, b5]
  have v7 : ∀ j, s7 a j = if j = 6 then st b 6 else s6 a j := fun j => by rw [h7, m_up, if_pos rfl, b6]
  have v8 : ∀ j, s8 a j = if j = 7 then st b 7 else s7 a j := fun j => by rw [h8, m_up, if_pos rfl, b7]
  have v9 : ∀ j, s9 a j = if j = 8 then st b 8 else s8 a j := fun j => by rw [h9, m_up, if_pos rfl, b8]
  have v10 : ∀ j, s10 a j = if j = 9 then st b 9 else s9 a j := fun j => by rw [h10, m_up, if_pos rfl, b9]
  have c0 : (0 : Int32).toNatClampNeg = 0 := by decide
  have c7 : (7 : Int32).toNatClampNeg = 7 := by decide
  have c49 : (49 : Int32).toNatClampNeg = 49 := by decide
  have r1 : s10 (a + 1) = va_cpy (st (b + 1)) (st (a + 1)) 0 0 7 := by
    rw [all _ (by omega), o4 _ (by omega), o3 _ (by omega), o2 _ (by omega), h1, m_upr, if_pos rfl, c0, c7]
  have r2 : s10 (a + 2) = va_cpy (st (b + 2)) (s1 (a + 2)) 0 0 7 := by
    rw [all _ (by omega), o4 _ (by omega), o3 _ (by omega), h2, m_upr, if_pos rfl, c0, c7, o1 (b + 2) (by omega)]
  have r3 : s10 (a + 3) = va_cpy (st (b + 3)) (s2 (a + 3)) 0 0 49 := by
    rw [all _ (by omega), o4 _ (by omega), h3, m_upr, if_pos rfl, c0, c49, o2 (b + 3) (by omega), o1 (b + 3) (by omega)]
  have r4 : s10 (a + 4) = va_cpy (st (b + 4)) (s3 (a + 4)) 0 0 7 := by
    rw [all _ (by omega), h4, m_upr, if_pos rfl, c0, c7, o3 (b + 4) (by omega), o2 (b + 4) (by omega), o1 (b + 4) (by omega)]
  refine ⟨s10, rfl, fun x hx => ?_, ?_, ?_, ?_, ?_, ?_, ?_, fun j hj => ?_, fun j hj => ?_, fun j hj => ?_⟩
  · simp only [List.mem_cons, List.not_mem_nil, or_false, not_or] at hx
    rw [all x hx.1, o4 x hx.2.2.2.2, o3 x hx.2.2.2.1, o2 x hx.2.2.1, o1 x hx.2.1]
  · rw [v10, if_neg (by decide), v9, if_neg (by decide), v8, if_neg (by decide), v7, if_neg (by decide), v6, if_neg (by decide), v5, if_pos rfl]; exact k4
  · rw [v10, if_neg (by decide), v9, if_neg (by decide), v8, if_neg (by decide), v7, if_neg (by decide), v6, if_pos rfl]; exact k5
  · rw [v10, if_neg (by decide), v9, if_neg (by decide), v8, if_neg (by decide), v7, if_pos rfl]; exact k6
  · rw [v10, if_neg (by decide), v9, if_neg (by decide), v8, if_pos rfl]; exact k7
  · rw [v10, if_neg (by decide), v9, if_pos rfl]; exact k8
  · rw [v10, if_pos rfl]; exact k9
  · rw [r1, r2, pk_cpy_in (by omega) (by omega), pk_cpy_in (by omega) (by omega), Nat.zero_add, Nat.sub_zero]; exact kr j hj
  · rw [r3, pk_cpy_in (by omega) (by omega), Nat.zero_add, Nat.sub_zero]; exact kl j hj
  · rw [r4, pk_cpy_in (by omega) (by omega), Nat.zero_add, Nat.sub_zero]; exact ko j hj
/-- where the class keeps a TEXT -/
def m_plc (k : Nat) : Nat := if k = 0 then 46 else 68 + 2 * k
def I_tx (T : Nat) (st : px_S) : Prop := st 0 6 = nI (T + 1) ∧ st 48 3 = nI (T + 1) ∧ ∀ k, k ≤ T → ∃ B sz, st 36 k = nI (m_plc k) ∧ m_TX st (m_plc k) (m_C (m_tk (m_lx B sz 0))) ∧ m_reft st k B sz ∧ m_ok (m_tk (m_lx B sz 0)) = true
def I_tp (st : px_S) : Prop := ∃ sz, sz ≤ 160 ∧ st 31 1 = nI sz ∧ st 48 6 = nI sz ∧ ∀ j, j < sz → st 32 j = st 51 j ∧ ¬ st 32 j < 0
def I_s1 (st : px_S) (k : Nat) : Prop := (st (38 + 2 * k) 1 = -1 ∧ st 66 k = 0) ∨ ∃ so n, so < 3 ∧ n ≤ 40 ∧ st (38 + 2 * k) 1 = nI so ∧ st (38 + 2 * k) 2 = nI n ∧ st 66 k = 1 ∧ st 67 k = nI so ∧ st 68 k = nI n ∧ ∀ i, i < n → st (39 + 2 * k) i = st 69 (40 * k + i)
def I_sh (st : px_S) : Prop := ∀ k, k < 4 → I_s1 st k
/-- the reference's image -/
def m_HK (st : px_S) (h : px_H) : Prop :=
  st 48 48 = nI (h 4 0) ∧ st 48 49 = nI (h 5 0) ∧ st 48 50 = nI (h 6 0) ∧ st 48 51 = nI (h 7 0) ∧ st 48 52 = nI (h 8 0) ∧ st 48 53 = nI (h 9 0) ∧ (∀ j, j < h 4 0 → st 65 j = nI (h 1 j)) ∧ (∀ p q, p < h 4 0 → q < h 4 0 → st 63 (7 * p + q) = nI (h 2 (7 * p + q))) ∧ ∀ j, j < h 4 0 → st 64 j = nI (h 3 j)
def I_im (T : Nat) (st : px_S) (h : px_H) : Prop := (st 0 7 = 0 ∧ st 48 48 = -1) ∨ (st 0 7 = 1 ∧ ∃ g, m_HW g ∧ g 9 0 ≤ T ∧ m_HC st 6 g ∧ m_HK st g ∧ g 4 0 ≤ h 4 0 ∧ ∀ j, j < g 4 0 → g 0 j = h 0 j)
def I_ho (T : Nat) (st : px_S) (h : px_H) : Prop := m_HW h ∧ h 9 0 ≤ T ∧ m_HC st 1 h ∧ m_HR st h
def Inv (T : Nat) (st : px_S) : Prop := T ≤ 5 ∧ px_ok (T + 2) st ∧ I_tx T st ∧ I_tp st ∧ I_sh st ∧ ∃ h, I_ho T st h ∧ I_im T st h
theorem I_tx_fr {T : Nat} {st st' : px_S} (h : I_tx T st) (h0 : st' 0 6 = st 0 6) (h3 : st' 48 3 = st 48 3) (hr : ∀ a, a = 36 ∨ a = 46 ∨ a = 47 ∨ a = 49 ∨ a = 50 ∨ 70 ≤ a → st' a = st a) : I_tx T st' := by
  refine ⟨h0.trans h.1, h3.trans h.2.1, fun k hk => ?_⟩
  obtain ⟨B, sz, h1, h2, h4, h5⟩ := h.2.2 k hk
  have e : m_plc k = 46 ∨ 70 ≤ m_plc k := by unfold m_plc; by_cases hk : k = 0 <;> simp [hk] <;> omega
  exact ⟨B, sz, by rw [hr 36 (by omega)]; exact h1, m_TX_eq h2 (hr _ (by omega)) (hr _ (by omega)), m_reft_eq h4 (hr 49 (by omega)) (hr 50 (by omega)), h5⟩
theorem I_tp_fr {st st' : px_S} (h : I_tp st) (h1 : st' 31 1 = st 31 1) (h2 : st' 48 6 = st 48 6) (hr : ∀ a, a = 32 ∨ a = 51 → st' a = st a) : I_tp st' := by
  unfold I_tp at *; rw [h1, h2, hr 32 (by omega), hr 51 (by omega)]; exact h
theorem I_sh_fr {st st' : px_S} (h : I_sh st) (hr : ∀ a, 38 ≤ a ∧ a ≤ 45 ∨ 66 ≤ a ∧ a ≤ 69 → st' a = st a) : I_sh st' := by
  intro k hk
  have := h k hk
  unfold I_s1 at *
  rw [hr (38 + 2 * k) (by omega), hr (39 + 2 * k) (by omega), hr 66 (by omega), hr 67 (by omega), hr 68 (by omega), hr 69 (by omega)]
  exact this
theorem m_HK_eq {st st' : px_S} {g : px_H} (h : m_HK st g) (h48 : ∀ j, 48 ≤ j ∧ j ≤ 53 → st' 48 j = st 48 j) (hr : ∀ a, 63 ≤ a ∧ a ≤ 65 → st' a = st a) : m_HK st' g := by
  unfold m_HK at *
  rw [h48 48 (by omega), h48 49 (by omega), h48 50 (by omega), h48 51 (by omega), h48 52 (by omega), h48 53 (by omega), hr 63 (by omega), hr 64 (by omega), hr 65 (by omega)]
  exact h
theorem I_im_fr {T : Nat} {st st' : px_S} {h : px_H} (k : I_im T st h) (h7 : st' 0 7 = st 0 7) (h48 : ∀ j, 48 ≤ j ∧ j ≤ 53 → st' 48 j = st 48 j) (hr : ∀ a, 6 ≤ a ∧ a ≤ 10 ∨ 63 ≤ a ∧ a ≤ 65 → st' a = st a) : I_im T st' h := by
  rcases k with ⟨k1, k2⟩ | ⟨k1, g, k2, k3, k4, k5, k6⟩
  · exact Or.inl ⟨h7.trans k1, (h48 48 (by omega)).trans k2⟩
  · exact Or.inr ⟨h7.trans k1, g, k2, k3, m_HC_eq k4 (hr _ (by omega)) (hr _ (by omega)) (hr _ (by omega)) (hr _ (by omega)) (hr _ (by omega)), m_HK_eq k5 h48 (fun a ha => hr a (by omega)), k6⟩
theorem m_HR_eq {st st' : px_S} {h : px_H} (k : m_HR st h) (h48 : ∀ j, j = 4 ∨ 11 ≤ j ∧ j ≤ 15 → st' 48 j = st 48 j) (hr : ∀ a, 52 ≤ a ∧ a ≤ 55 → st' a = st a) : m_HR st' h := by
  unfold m_HR at *
  rw [h48 4 (by omega), h48 11 (by omega), h48 12 (by omega), h48 13 (by omega), h48 14 (by omega), h48 15 (by omega), hr 52 (by omega), hr 53 (by omega), hr 54 (by omega), hr 55 (by omega)]
  exact k
theorem px_n2 (T : Nat) : px_n (T + 2) = 70 + 2 * T := by unfold px_n; rw [if_neg (by omega), if_neg (by omega)]; omega
/-- thought changes nothing that lasts -/
theorem Inv_sc {T : Nat} {st s1 st2 : px_S} (hI : Inv T st) (f : m_fr [11, 12, 13, 14, 15, 16, 19, 20, 21, 22, 23, 24, 25, 26, 27, 28, 29, 30] st s1) (hr : (s1 11 1).toNatClampNeg < 70 + 2 * T) (g : m_sc s1 st2) : Inv T st2 := by
  obtain ⟨h1, h2, h3, h4, h5, h, ⟨h6, h7, h8, h9⟩, h10⟩ := hI
  have row : ∀ a, a ≠ 48 → ¬ (56 ≤ a ∧ a ≤ 62) → ¬ (11 ≤ a ∧ a ≤ 30) → st2 a = st a := fun a ha hb hc => by
    rw [g.1 a ha hb, f a (by simp only [List.mem_cons, List.not_mem_nil, or_false, not_or]; omega)]
  have sl : ∀ j, ¬ (16 ≤ j ∧ j ≤ 47) → st2 48 j = st 48 j := fun j hj => by rw [g.2 j hj, f 48 (by decide)]
  have o0 : st2 0 = st 0 := row 0 (by omega) (by omega) (by omega)
  refine ⟨h1, ⟨?_, fun j hj => ?_⟩, I_tx_fr h3 (by rw [o0]) (sl 3 (by omega)) (fun a ha => row a (by omega) (by omega) (by omega)), I_tp_fr h4 (by rw [row 31 (by omega) (by omega) (by omega)]) (sl 6 (by omega)) (fun a ha => row a (by omega) (by omega) (by omega)), I_sh_fr h5 (fun a ha => row a (by omega) (by omega) (by omega)), h, ⟨h6, h7, m_HC_eq h8 (row _ (by omega) (by omega) (by omega)) (row _ (by omega) (by omega) (by omega)) (row _ (by omega) (by omega) (by omega)) (row _ (by omega) (by omega) (by omega)) (row _ (by omega) (by omega) (by omega)), m_HR_eq h9 (fun j hj => sl j (by omega)) (fun a ha => row a (by omega) (by omega) (by omega))⟩, I_im_fr h10 (by rw [o0]) (fun j hj => sl j (by omega)) (fun a ha => row a (by omega) (by omega) (by omega))⟩
  · rw [g.1 11 (by omega) (by omega), px_n2]; exact hr
  · rw [row 36 (by omega) (by omega) (by omega)]; exact h2.2 j hj
def m_tf : List Nat := [11, 12, 13, 14, 15, 16]
theorem m_thinkC {T : Nat} {st : px_S} {h : px_H} (hT : T ≤ 5) (hx : I_tx T st) (hh : I_ho T st h) : ∃ C s1, f_X5_thinking (T + 2) st = some s1 ∧ m_fr m_tf st s1 ∧ m_JS (T + 2) s1 h C ∧ (∀ j, j ≠ 1 → s1 11 j = st 11 j) ∧ (s1 11 1).toNatClampNeg < 70 + 2 * T ∧ m_RJ st h C := by
  obtain ⟨hw, h9, hc, hr⟩ := hh
  have hn := hw.1
  obtain ⟨B, sz, t1, t2, t3, t4⟩ := hx.2.2 (h 9 0) h9
  have e : (m_plc (h 9 0) = 46 ∨ 70 ≤ m_plc (h 9 0)) ∧ m_plc (h 9 0) < 70 + 2 * T ∧ px_isT (T + 2) (m_plc (h 9 0)) := by
    unfold m_plc px_isT
    by_cases hk : h 9 0 = 0
    · simp [hk]; omega
    · simp [hk]; omega
  obtain ⟨b, eb, fb, cb⟩ := m_becomeC (T := T + 2) (a := 12) (b := 1) (by omega) hn hc
  have b1 : b 1 = st 1 := fb 1 (by decide)
  have b36 : b 36 = st 36 := fb 36 (by decide)
  have k9 : st 1 9 = nI (h 9 0) := hc.2.2.2.2.2.1
  have up11 : ∀ a, a ≠ 11 → (up b 11 1 (nI (m_plc (h 9 0)))) a = b a := fun a ha => m_up_row _ _ _ _ ha
  refine ⟨m_C (m_tk (m_lx B sz 0)), up b 11 1 (nI (m_plc (h 9 0))), ?_, ?_, ⟨?_, m_plc (h 9 0), by omega, e.2.2, by simp [m_up], ?_⟩, fun j hj => ?_, ?_, hr, B, sz, t3, t4, rfl⟩
  · rw [f_X5_thinking, m_eq_bind eb, b1, k9, if_pos (m_px (by omega) (by omega)), nI_clamp (by omega), b36, t1, if_neg (nI_pos (by omega))]
  · exact m_fr_up (m_fr_mono fb (by intro a ha; simp [m_tf] at ha ⊢; omega)) (by simp [m_tf]) _ _
  · exact m_HC_eq cb (up11 _ (by omega)) (up11 _ (by omega)) (up11 _ (by omega)) (up11 _ (by omega)) (up11 _ (by omega))
  · refine m_TX_eq t2 ?_ ?_
    · rw [up11 _ (by omega), fb _ (by simp; omega)]
    · rw [up11 _ (by omega), fb _ (by simp; omega)]
  · rw [m_up, if_pos rfl, if_neg hj, fb 11 (by decide)]
  · rw [m_up, if_pos rfl, if_pos rfl, nI_clamp (by omega)]; exact e.2.1
/-- which is an INMATE -/
def j_kn (n : Nat) (x : Int32) : Int32 := if x < 0 then 0 else (if x < nI n then 1 else 0)
theorem m_knC {T : Nat} {st : px_S} {a : Nat} {n : Nat} (h4 : st a 4 = nI n) (x : Int32) : f_X0_knows T st a x = some (j_kn n x) := by
  rw [f_X0_knows, h4, j_kn]
  by_cases h1 : x < 0
  · rw [if_pos h1, if_pos h1]
  · rw [if_neg h1, if_neg h1]
    by_cases h2 : x < nI n
    · rw [if_pos h2, if_pos h2]
    · rw [if_neg h2, if_neg h2]
theorem m_knR {T : Nat} {st : px_S} {n : Nat} (hn : n ≤ 7) (h4 : st 48 11 = nI n) (x : Int32) : f_X6_isOne T st x = some (j_kn n x) := by
  have e : p_X6_in x.toInt64 0 ((st 48 11) - 1).toInt64 = j_kn n x := by
    rw [h4, show (0 : Int64) = (0 : Int32).toInt64 from rfl, m_in, j_kn]
    by_cases h1 : x < 0
    · rw [if_pos h1, if_pos h1]
    · rw [if_neg h1, if_neg h1]
      have e1 : (nI n - 1).toInt = (n : Int) - 1 := pk_sub_toInt (a := n) (b := 1) (by omega) (by omega)
      have e2 : (nI n).toInt = (n : Int) := nI_toInt (by omega)
      by_cases h2 : x < nI n
      · rw [if_pos h2, if_neg (by rw [Int32.lt_iff_toInt_lt] at h2 ⊢; omega)]
      · rw [if_neg h2, if_pos (by rw [Int32.lt_iff_toInt_lt] at h2 ⊢; omega)]
  rw [f_X6_isOne, e, if_pos]
  unfold j_kn
  by_cases h1 : x < 0
  · rw [if_pos h1]; exact Or.inl rfl
  · rw [if_neg h1]
    by_cases h2 : x < nI n
    · rw [if_pos h2]; exact Or.inr rfl
    · rw [if_neg h2]; exact Or.inl rfl
theorem j_kn_cases {n : Nat} (hn : n ≤ 7) (x : Int32) : j_kn n x = 0 ∨ ∃ j, j < n ∧ x = nI j ∧ j_kn n x = 1 := by
  unfold j_kn
  by_cases h1 : x < 0
  · rw [if_pos h1]; exact Or.inl rfl
  · rw [if_neg h1]
    by_cases h2 : x < nI n
    · obtain ⟨j, hj, e⟩ := m_rng (by omega) h1 h2
      rw [if_pos h2]; exact Or.inr ⟨j, hj, e, rfl⟩
    · rw [if_neg h2]; exact Or.inl rfl
theorem m_lt6 (x : Int32) : x < 6 ↔ ¬ 5 < x := by
  rw [Int32.lt_iff_toInt_lt, Int32.lt_iff_toInt_lt]
  have : (6 : Int32).toInt = 6 := rfl
  have : (5 : Int32).toInt = 5 := rfl
  omega
theorem m_lt3 (x : Int32) : x < 3 ↔ ¬ 2 < x := by
  rw [Int32.lt_iff_toInt_lt, Int32.lt_iff_toInt_lt]
  have : (3 : Int32).toInt = 3 := rfl
  have : (2 : Int32).toInt = 2 := rfl
  omega
theorem m_lt4 (x : Int32) : x < 4 ↔ ¬ 3 < x := by
  rw [Int32.lt_iff_toInt_lt, Int32.lt_iff_toInt_lt]
  have : (4 : Int32).toInt = 4 := rfl
  have : (3 : Int32).toInt = 3 := rfl
  omega
theorem m_i (x a b : Int32) {A B : Int64} (hA : A = a.toInt64) (hB : B = b.toInt64) : (p_X6_in x.toInt64 A B = 0) ↔ (x < a ∨ b < x) := by
  rw [hA, hB, m_in]
  by_cases h1 : x < a
  · rw [if_pos h1]; simp [h1]
  · rw [if_neg h1]
    by_cases h2 : b < x
    · rw [if_pos h2]; simp [h2]
    · rw [if_neg h2]; simp [h1, h2]
/-- a house with one thing changed -/
def hu (h : px_H) (i j v : Nat) : px_H := fun x y => if x = i then (if y = j then v else h x y) else h x y
