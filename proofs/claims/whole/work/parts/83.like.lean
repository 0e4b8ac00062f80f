theorem Inv_ho {T : Nat} {st st2 : px_S} {h h' : px_H} (hI : Inv T st) (him : I_im T st h) (f : m_fr [1, 2, 3, 4, 5, 48, 52, 53, 54, 55] st st2) (s : ∀ j, ¬ (j = 4 ∨ 11 ≤ j ∧ j ≤ 15) → st2 48 j = st 48 j) (hh : I_ho T st2 h') (hn : h 4 0 ≤ h' 4 0) (hk : ∀ j, j < h 4 0 → h' 0 j = h 0 j) : Inv T st2 := by
  obtain ⟨h1, h2, h3, h4, h5, _⟩ := hI
  have row : ∀ a, ¬ (1 ≤ a ∧ a ≤ 5) → a ≠ 48 → ¬ (52 ≤ a ∧ a ≤ 55) → st2 a = st a := fun a ha hb hc => f a (by simp only [List.mem_cons, List.not_mem_nil, or_false, not_or]; omega)
  have o0 : st2 0 = st 0 := row 0 (by omega) (by omega) (by omega)
  refine ⟨h1, ⟨?_, fun j hj => ?_⟩, I_tx_fr h3 (by rw [o0]) (s 3 (by omega)) (fun a ha => row a (by omega) (by omega) (by omega)), I_tp_fr h4 (by rw [row 31 (by omega) (by omega) (by omega)]) (s 6 (by omega)) (fun a ha => row a (by omega) (by omega) (by omega)), I_sh_fr h5 (fun a ha => row a (by omega) (by omega) (by omega)), h', hh, ?_⟩
  · rw [row 11 (by omega) (by omega) (by omega)]; exact h2.1
  · rw [row 36 (by omega) (by omega) (by omega)]; exact h2.2 j hj
  · have k := I_im_fr him (st' := st2) (by rw [o0]) (fun j hj => s j (by omega)) (fun a ha => row a (by omega) (by omega) (by omega))
    rcases k with k | ⟨k1, g, k2, k3, k4, k5, k6, k7⟩
    · exact Or.inl k
    · exact Or.inr ⟨k1, g, k2, k3, k4, k5, by omega, fun j hj => by rw [hk j (by omega)]; exact k7 j hj⟩
/-- like, as both do it -/
def j_like (h : px_H) (x0 x1 x2 : Int32) : Int32 × px_H :=
  if j_kn (h 4 0) x0 = 0 then (-2, h) else if j_kn (h 4 0) x1 = 0 then (-2, h) else if x0 = x1 then (-2, h) else if x2 < 0 then (-2, h) else if 9 < x2 then (-2, h) else (nI (h 2 (7 * x0.toNatClampNeg + x1.toNatClampNeg)), hu h 2 (7 * x0.toNatClampNeg + x1.toNatClampNeg) x2.toNatClampNeg)
theorem m_likeC {T : Nat} {st : px_S} {h : px_H} (hw : m_HW h) (k : m_HC st 1 h) (x0 x1 x2 : Int32) : ∃ s1, f_X5_like T x0 x1 x2 st = some ((j_like h x0 x1 x2).1, s1) ∧ m_fr [4] st s1 ∧ m_HC s1 1 (j_like h x0 x1 x2).2 := by
  have hn := hw.1
  have bad : f_X5_like T x0 x1 x2 st = some (-2, st) → j_like h x0 x1 x2 = (-2, h) → ∃ s1, f_X5_like T x0 x1 x2 st = some ((j_like h x0 x1 x2).1, s1) ∧ m_fr [4] st s1 ∧ m_HC s1 1 (j_like h x0 x1 x2).2 := fun e1 e2 => ⟨st, by rw [e1, e2], m_fr_refl _ _, by rw [e2]; exact k⟩
  have e0 : f_X5_like T x0 x1 x2 st = (if (if j_kn (h 4 0) x0 = 0 then (0 : Int32) else if j_kn (h 4 0) x1 = 0 then 0 else if x0 = x1 then 0 else 1) = 0 then (some ((-2), st)) else (if x2 < 0 then (some ((-2), st)) else (if 9 < x2 then (some ((-2), st)) else ((f_X0_changeLike T 1 x0 x1 x2 st).bind fun b5 => (some (b5.1, b5.2)))))) := by
    have e1 : f_X0_knowsPair T st 1 x0 x1 = some (if j_kn (h 4 0) x0 = 0 then (0 : Int32) else if j_kn (h 4 0) x1 = 0 then 0 else if x0 = x1 then 0 else 1) := by
      rw [f_X0_knowsPair, m_eq_bind (m_knC k.1 x0)]
      by_cases h1 : j_kn (h 4 0) x0 = 0
      · rw [if_pos h1, if_pos h1]
      · rw [if_neg h1, if_neg h1, m_eq_bind (m_knC k.1 x1)]
        by_cases h2 : j_kn (h 4 0) x1 = 0
        · rw [if_pos h2, if_pos h2]
        · rw [if_neg h2, if_neg h2]
          by_cases h3 : x0 = x1
          · rw [if_pos h3, if_pos h3]
          · rw [if_neg h3, if_neg h3]
    rw [f_X5_like, m_eq_bind e1]
  by_cases h1 : j_kn (h 4 0) x0 = 0
  · exact bad (by rw [e0]; simp only [if_pos h1, if_true]) (by rw [j_like, if_pos h1])
  by_cases h2 : j_kn (h 4 0) x1 = 0
  · exact bad (by rw [e0]; simp only [if_neg h1, if_pos h2, if_true]) (by rw [j_like, if_neg h1, if_pos h2])
  by_cases h3 : x0 = x1
  · exact bad (by rw [e0]; simp only [if_neg h1, if_neg h2, if_pos h3, if_true]) (by rw [j_like, if_neg h1, if_neg h2, if_pos h3])
  by_cases h4 : x2 < 0
  · exact bad (by rw [e0]; simp only [if_neg h1, if_neg h2, if_neg h3, if_pos h4]; rw [if_neg (by decide)]) (by rw [j_like, if_neg h1, if_neg h2, if_neg h3, if_pos h4])
  by_cases h5 : 9 < x2
  · exact bad (by rw [e0]; simp only [if_neg h1, if_neg h2, if_neg h3, if_neg h4, if_pos h5]; rw [if_neg (by decide)]) (by rw [j_like, if_neg h1, if_neg h2, if_neg h3, if_neg h4, if_pos h5])
  have ej : j_like h x0 x1 x2 = (nI (h 2 (7 * x0.toNatClampNeg + x1.toNatClampNeg)), hu h 2 (7 * x0.toNatClampNeg + x1.toNatClampNeg) x2.toNatClampNeg) := by rw [j_like, if_neg h1, if_neg h2, if_neg h3, if_neg h4, if_neg h5]
  rw [ej, e0]
  simp only [if_neg h1, if_neg h2, if_neg h3, if_neg h4, if_neg h5]
  rw [if_neg (by decide)]
  obtain ⟨p, hp, rfl, _⟩ := (j_kn_cases hn x0).resolve_left h1
  obtain ⟨q, hq, rfl, _⟩ := (j_kn_cases hn x1).resolve_left h2
  obtain ⟨v, hv, rfl⟩ := m_rng' (n := 9) (by omega) h4 h5
  have hin : px_in (nI (7 * p + q)) 49 := m_px (by omega) (by omega)
  rw [f_X0_changeLike, m_ix', if_pos hin, if_pos hin, m_let, Option.bind_some, nI_clamp (n := 7 * p + q) (by omega), nI_clamp (n := p) (by omega), nI_clamp (n := q) (by omega), nI_clamp (n := v) (by omega)]
  obtain ⟨k4, k5, k6, k7, k8, k9, kr, kl, ko⟩ := k
  refine ⟨_, by rw [kl _ (by omega)], m_fr_up (m_fr_refl _ _) (by simp) _ _, ?_⟩
  refine ⟨by simp [m_up, k4, hu], by simp [m_up, k5, hu], by simp [m_up, k6, hu], by simp [m_up, k7, hu], by simp [m_up, k8, hu], by simp [m_up, k9, hu], fun j hj => ?_, fun j hj => ?_, fun j hj => ?_⟩
  · have := kr j (by simpa [hu] using hj)
    simpa [m_up, hu] using this
  · simp only [m_up, hu, if_true]
    by_cases e : j = 7 * p + q
    · rw [if_pos e, if_pos e]
    · rw [if_neg e, if_neg e]; exact kl j hj
  · have := ko j hj
    simpa [m_up, hu] using this
theorem m_likeR {T : Nat} {st : px_S} {h : px_H} (hw : m_HW h) (k : m_HR st h) (x0 x1 x2 : Int32) : ∃ s1, f_X6_like T x0 x1 x2 st = some ((j_like h x0 x1 x2).1, s1) ∧ m_fr [54] st s1 ∧ m_HR s1 (j_like h x0 x1 x2).2 := by
  have hn := hw.1
  have bad : f_X6_like T x0 x1 x2 st = some (-2, st) → j_like h x0 x1 x2 = (-2, h) → ∃ s1, f_X6_like T x0 x1 x2 st = some ((j_like h x0 x1 x2).1, s1) ∧ m_fr [54] st s1 ∧ m_HR s1 (j_like h x0 x1 x2).2 := fun e1 e2 => ⟨st, by rw [e1, e2], m_fr_refl _ _, by rw [e2]; exact k⟩
  have hi := m_i x2 0 9 (A := 0) (B := 9) rfl rfl
  by_cases h1 : j_kn (h 4 0) x0 = 0
  · exact bad (by rw [f_X6_like, m_eq_bind (m_knR hn k.1 x0), if_pos h1]) (by rw [j_like, if_pos h1])
  by_cases h2 : j_kn (h 4 0) x1 = 0
  · exact bad (by rw [f_X6_like, m_eq_bind (m_knR hn k.1 x0), if_neg h1, m_eq_bind (m_knR hn k.1 x1), if_pos h2]) (by rw [j_like, if_neg h1, if_pos h2])
  by_cases h3 : x0 = x1
  · exact bad (by rw [f_X6_like, m_eq_bind (m_knR hn k.1 x0), if_neg h1, m_eq_bind (m_knR hn k.1 x1), if_neg h2, if_pos h3]) (by rw [j_like, if_neg h1, if_neg h2, if_pos h3])
  by_cases h4 : x2 < 0
  · exact bad (by rw [f_X6_like, m_eq_bind (m_knR hn k.1 x0), if_neg h1, m_eq_bind (m_knR hn k.1 x1), if_neg h2, if_neg h3, if_pos (hi.mpr (Or.inl h4))]) (by rw [j_like, if_neg h1, if_neg h2, if_neg h3, if_pos h4])
  by_cases h5 : 9 < x2
  · exact bad (by rw [f_X6_like, m_eq_bind (m_knR hn k.1 x0), if_neg h1, m_eq_bind (m_knR hn k.1 x1), if_neg h2, if_neg h3, if_pos (hi.mpr (Or.inr h5))]) (by rw [j_like, if_neg h1, if_neg h2, if_neg h3, if_neg h4, if_pos h5])
  have ej : j_like h x0 x1 x2 = (nI (h 2 (7 * x0.toNatClampNeg + x1.toNatClampNeg)), hu h 2 (7 * x0.toNatClampNeg + x1.toNatClampNeg) x2.toNatClampNeg) := by rw [j_like, if_neg h1, if_neg h2, if_neg h3, if_neg h4, if_neg h5]
  rw [ej, f_X6_like, m_eq_bind (m_knR hn k.1 x0), if_neg h1, m_eq_bind (m_knR hn k.1 x1), if_neg h2, if_neg h3, if_neg (fun g => (hi.mp g).elim h4 h5)]
  obtain ⟨p, hp, rfl, _⟩ := (j_kn_cases hn x0).resolve_left h1
  obtain ⟨q, hq, rfl, _⟩ := (j_kn_cases hn x1).resolve_left h2
  obtain ⟨v, hv, rfl⟩ := m_rng' (n := 9) (by omega) h4 h5
  have hin : px_in (nI (7 * p + q)) 49 := m_px (by omega) (by omega)
  rw [m_ix, if_pos hin, if_pos hin, nI_clamp (n := 7 * p + q) (by omega), nI_clamp (n := p) (by omega), nI_clamp (n := q) (by omega), nI_clamp (n := v) (by omega)]
  obtain ⟨k4, k5, k6, k7, k8, k9, kr, kl, ko⟩ := k
  refine ⟨_, by rw [kl p q hp hq], m_fr_up (m_fr_refl _ _) (by simp) _ _, ?_⟩
  refine ⟨by simp [m_up, k4, hu], by simp [m_up, k5, hu], by simp [m_up, k6, hu], by simp [m_up, k7, hu], by simp [m_up, k8, hu], by simp [m_up, k9, hu], fun j hj => ?_, fun a b ha hb => ?_, fun j hj => ?_⟩
  · have := kr j (by simpa [hu] using hj)
    simpa [m_up, hu] using this
  · have := kl a b (by simpa [hu] using ha) (by simpa [hu] using hb)
    simp only [m_up, hu, if_true]
    by_cases e : 7 * a + b = 7 * p + q
    · rw [if_pos e, if_pos e]
    · rw [if_neg e, if_neg e]; exact this
  · have := ko j (by simpa [hu] using hj)
    simpa [m_up, hu] using this
theorem j_like_ok {h : px_H} (hw : m_HW h) (x0 x1 x2 : Int32) : m_HW (j_like h x0 x1 x2).2 ∧ (j_like h x0 x1 x2).2 4 0 = h 4 0 ∧ (j_like h x0 x1 x2).2 0 = h 0 ∧ (j_like h x0 x1 x2).2 9 0 = h 9 0 ∧ ((j_like h x0 x1 x2).1 = -2 ∨ ∃ v, v ≤ 9 ∧ (j_like h x0 x1 x2).1 = nI v) := by
  have hn := hw.1
  have bad : j_like h x0 x1 x2 = (-2, h) → m_HW (j_like h x0 x1 x2).2 ∧ (j_like h x0 x1 x2).2 4 0 = h 4 0 ∧ (j_like h x0 x1 x2).2 0 = h 0 ∧ (j_like h x0 x1 x2).2 9 0 = h 9 0 ∧ ((j_like h x0 x1 x2).1 = -2 ∨ ∃ v, v ≤ 9 ∧ (j_like h x0 x1 x2).1 = nI v) := fun e => by rw [e]; exact ⟨hw, rfl, rfl, rfl, Or.inl rfl⟩
  by_cases h1 : j_kn (h 4 0) x0 = 0
  · exact bad (by rw [j_like, if_pos h1])
  by_cases h2 : j_kn (h 4 0) x1 = 0
  · exact bad (by rw [j_like, if_neg h1, if_pos h2])
  by_cases h3 : x0 = x1
  · exact bad (by rw [j_like, if_neg h1, if_neg h2, if_pos h3])
  by_cases h4 : x2 < 0
  · exact bad (by rw [j_like, if_neg h1, if_neg h2, if_neg h3, if_pos h4])
  by_cases h5 : 9 < x2
  · exact bad (by rw [j_like, if_neg h1, if_neg h2, if_neg h3, if_neg h4, if_pos h5])
  have ej : j_like h x0 x1 x2 = (nI (h 2 (7 * x0.toNatClampNeg + x1.toNatClampNeg)), hu h 2 (7 * x0.toNatClampNeg + x1.toNatClampNeg) x2.toNatClampNeg) := by rw [j_like, if_neg h1, if_neg h2, if_neg h3, if_neg h4, if_neg h5]
  rw [ej]
  obtain ⟨p, hp, rfl, _⟩ := (j_kn_cases hn x0).resolve_left h1
  obtain ⟨q, hq, rfl, _⟩ := (j_kn_cases hn x1).resolve_left h2
  obtain ⟨v, hv, rfl⟩ := m_rng' (n := 9) (by omega) h4 h5
  rw [nI_clamp (n := p) (by omega), nI_clamp (n := q) (by omega), nI_clamp (n := v) (by omega)]
  obtain ⟨w1, w2, w3, w4, w5, w6, w7, w8, w9, w10⟩ := hw
  refine ⟨⟨w1, w2, w3, w4, w5, w6, fun a b ha hb => ?_, w8, w9, w10⟩, rfl, by funext y; simp [hu], rfl, Or.inr ⟨_, (w7 p q (by omega) (by omega)).1, rfl⟩⟩
  have := w7 a b ha hb
  simp only [hu, if_true]
  by_cases e : 7 * a + b = 7 * p + q
  · rw [if_pos e]
    refine ⟨hv, fun hx => ?_⟩
    have hx2 : h 4 0 ≤ a ∨ h 4 0 ≤ b := by simpa using hx
    omega
  · rw [if_neg e]; exact this
theorem op_like {T : Nat} {st : px_S} (ag : px_ag) (hI : Inv T st) : ∃ T2 st2, px_op1 T st ag T2 st2 ∧ Inv T2 st2 := by
  have hI0 := hI
  obtain ⟨h1, h2, h3, h4, h5, h, ⟨hw, h9, hc, hr⟩, him⟩ := hI
  obtain ⟨s1, e1, f1, c1⟩ := m_likeC (T := T + 2) hw hc (ag 1) (ag 2) (ag 3)
  have hr1 : m_HR s1 h := m_HR_eq hr (fun j _ => by rw [f1 48 (by decide)]) (fun a ha => f1 a (by simp; omega))
  obtain ⟨s2, e2, f2, c2⟩ := m_likeR (T := T) hw hr1 (ag 1) (ag 2) (ag 3)
  obtain ⟨k1, k2, k3, k4, _⟩ := j_like_ok hw (ag 1) (ag 2) (ag 3)
  refine ⟨T, s2, ⟨rfl, _, s1, e1, e2⟩, Inv_ho (h := h) hI0 him (fun a ha => ?_) (fun j _ => by rw [f2 48 (by decide), f1 48 (by decide)]) ⟨k1, by rw [k4]; exact h9, m_HC_eq c1 (f2 _ (by decide)) (f2 _ (by decide)) (f2 _ (by decide)) (f2 _ (by decide)) (f2 _ (by decide)), c2⟩ (by rw [k2]; exact Nat.le_refl _) (fun j _ => by rw [k3])⟩
  simp only [List.mem_cons, List.not_mem_nil, or_false, not_or] at ha
  rw [f2 a (by simp; omega), f1 a (by simp; omega)]
/-- one oath more, or less -/
def j_b1 (a q : Nat) (b : Bool) : Nat := if b then a ||| 2 ^ q else m_dif a (2 ^ q)
def j_bd (o : Nat → Nat) (p q : Nat) (b : Bool) (j : Nat) : Nat := if j = p then j_b1 (o p) q b else if j = q then j_b1 (o q) p b else o j
theorem c_b1 : ∀ a, a < 128 → ∀ q, q < 7 → ∀ b : Bool, j_b1 a q b < 128 ∧ ((if b then nI a ||| p_X5_bit (nI q) else nI a &&& ((p_X5_bit (nI q)) ^^^ (-1))) = nI (j_b1 a q b)) ∧ ((nI a &&& (((1 : Int32) <<< (nI q &&& 31)) ^^^ (-1))) ||| ((if b then (1 : Int32) else 0) <<< (nI q &&& 31)) = nI (j_b1 a q b)) := by decide +kernel
theorem j_b1_bit {a q : Nat} (b : Bool) {j : Nat} (hj : j < 7) : (j_b1 a q b).testBit j = if j = q then b else a.testBit j := by
  unfold j_b1
  cases b with
  | true =>
    rw [if_pos rfl, Nat.testBit_or, m_bitq]
    by_cases e : j = q
    · subst e; simp
    · simp [e, Ne.symm e]
  | false =>
    rw [if_neg (by decide), m_dq hj]
    by_cases e : j = q
    · subst e; simp
    · simp [e]
theorem j_bd_bit {o : Nat → Nat} {p q : Nat} (b : Bool) {i j : Nat} (hpq : p ≠ q) (hj : j < 7) : (j_bd o p q b i).testBit j = if (i = p ∧ j = q) ∨ (i = q ∧ j = p) then b else (o i).testBit j := by
  unfold j_bd
  by_cases h1 : i = p
  · rw [if_pos h1, j_b1_bit b hj]
    by_cases h2 : j = q
    · rw [if_pos h2, if_pos (Or.inl ⟨h1, h2⟩)]
    · rw [if_neg h2, if_neg (by omega), h1]
  · rw [if_neg h1]
    by_cases h3 : i = q
    · rw [if_pos h3, j_b1_bit b hj]
      by_cases h2 : j = p
      · rw [if_pos h2, if_pos (Or.inr ⟨h3, h2⟩)]
      · rw [if_neg h2, if_neg (by omega), h3]
    · rw [if_neg h3, if_neg (by omega)]
theorem j_bd_lt {o : Nat → Nat} {p q : Nat} (b : Bool) (hp : p < 7) (hq : q < 7) (ho : ∀ j, j < 7 → o j < 128) {j : Nat} (hj : j < 7) : j_bd o p q b j < 128 := by
  unfold j_bd
  by_cases h1 : j = p
  · rw [if_pos h1]; exact (c_b1 _ (ho p hp) q hq b).1
  · rw [if_neg h1]
    by_cases h2 : j = q
    · rw [if_pos h2]; exact (c_b1 _ (ho q hq) p hp b).1
    · rw [if_neg h2]; exact ho j hj
theorem m_bindC {T a : Nat} {st : px_S} {o : Nat → Nat} (ho : ∀ j, j < 7 → st (a + 4) j = nI (o j) ∧ o j < 128) {p q : Nat} (hp : p < 7) (hq : q < 7) (hpq : p ≠ q) (b : Bool) : ∃ s1, f_X0_bind T a (nI p) (nI q) (if b then 1 else 0) st = some s1 ∧ m_fr [a + 4] st s1 ∧ ∀ j, j < 7 → s1 (a + 4) j = nI (j_bd o p q b j) := by
  have hinp : px_in (nI p) 7 := m_px hp (by omega)
  have hinq : px_in (nI q) 7 := m_px hq (by omega)
  have e1 := (c_b1 _ (ho p hp).2 q hq b).2.1
  have e2 := (c_b1 _ (ho q hq).2 p hp b).2.1
  have fin : ∀ x y : Int32, x = nI (j_b1 (o p) q b) → y = nI (j_b1 (o q) p b) → m_fr [a + 4] st (up (up st (a + 4) p x) (a + 4) q y) ∧ ∀ j, j < 7 → (up (up st (a + 4) p x) (a + 4) q y) (a + 4) j = nI (j_bd o p q b j) := by
    intro x y hx hy
    refine ⟨m_fr_up (m_fr_up (m_fr_refl _ _) (by simp) _ _) (by simp) _ _, fun j hj => ?_⟩
    rw [m_up, if_pos rfl, m_up, if_pos rfl, j_bd]
    by_cases h1 : j = q
    · rw [if_pos h1, if_neg (by omega), if_pos h1, hy]
    · rw [if_neg h1]
      by_cases h2 : j = p
      · rw [if_pos h2, if_pos h2, hx]
      · rw [if_neg h2, if_neg h2, if_neg h1]; exact (ho j hj).1
  have oq : ∀ x : Int32, (up st (a + 4) p x) (a + 4) q = nI (o q) := fun x => by rw [m_up, if_pos rfl, if_neg (Ne.symm hpq)]; exact (ho q hq).1
  cases b with
  | true =>
    rw [if_pos rfl] at e1 e2
    rw [if_pos rfl, f_X0_bind, if_neg (by decide), if_pos hinp, f_X0_bind_36, if_pos hinp, m_let, if_neg (by decide), if_pos hinq, if_pos hinq, m_let, nI_clamp (n := p) (by omega), nI_clamp (n := q) (by omega), (ho p hp).1, oq, e1, e2]
    exact ⟨_, rfl, fin _ _ rfl rfl⟩
  | false =>
    rw [if_neg (by decide)] at e1 e2
    rw [if_neg (by decide), f_X0_bind, if_pos rfl, if_pos hinp, f_X0_bind_36, if_pos hinp, m_let, if_pos rfl, if_pos hinq, if_pos hinq, m_let, nI_clamp (n := p) (by omega), nI_clamp (n := q) (by omega), (ho p hp).1, oq, e1, e2]
    exact ⟨_, rfl, fin _ _ rfl rfl⟩
theorem m_swearsR {T n : Nat} {st : px_S} {o : Nat → Nat} (hn : n ≤ 7) (ho : ∀ j, j < n → st 55 j = nI (o j)) (hl : ∀ j, j < 7 → o j < 128) {p q : Nat} (hp : p < n) (hq : q < n) (hpq : p ≠ q) (b : Bool) : ∃ s1, f_X6_swears T (nI p) (nI q) (if b then 1 else 0) st = some s1 ∧ m_fr [55] st s1 ∧ ∀ j, j < n → s1 55 j = nI (j_bd o p q b j) := by
  have hinp : px_in (nI p) 7 := m_px (by omega) (by omega)
  have hinq : px_in (nI q) 7 := m_px (by omega) (by omega)
  have e1 := (c_b1 _ (hl p (by omega)) q (by omega) b).2.2
  have e2 := (c_b1 _ (hl q (by omega)) p (by omega) b).2.2
  have oq : ∀ x : Int32, (up st 55 p x) 55 q = nI (o q) := fun x => by rw [m_up, if_pos rfl, if_neg (Ne.symm hpq)]; exact ho q hq
  rw [f_X6_swears, if_pos hinp, if_pos hinp, if_pos hinq, if_pos hinq, nI_clamp (n := p) (by omega), nI_clamp (n := q) (by omega), ho p hp, oq, e1, e2]
  refine ⟨_, rfl, m_fr_up (m_fr_up (m_fr_refl _ _) (by simp) _ _) (by simp) _ _, fun j hj => ?_⟩
  rw [m_up, if_pos rfl, m_up, if_pos rfl, j_bd]
  by_cases h1 : j = q
  · rw [if_pos h1, if_neg (by omega), if_pos h1]
  · rw [if_neg h1]
    by_cases h2 : j = p
    · rw [if_pos h2, if_pos h2]
    · rw [if_neg h2, if_neg h2, if_neg h1]; exact ho j hj
/-- the house with other oaths -/
def ho (h : px_H) (o : Nat → Nat) : px_H := fun x y => if x = 3 then o y else h x y
theorem m_o128 {h : px_H} (hw : m_HW h) : ∀ j, j < 7 → h 3 j < 128 := fun j hj => Nat.lt_of_lt_of_le (hw.2.2.2.2.2.2.2.1 j hj).1 (m_pow7 hw.1)
theorem m_HW_bd {h : px_H} (hw : m_HW h) {p q : Nat} (hp : p < h 4 0) (hq : q < h 4 0) (hpq : p ≠ q) (b : Bool) : m_HW (ho h (j_bd (h 3) p q b)) := by
  have hl := m_o128 hw
  obtain ⟨w1, w2, w3, w4, w5, w6, w7, w8, w9, w10⟩ := hw
  refine ⟨w1, w2, w3, w4, w5, w6, w7, fun j hj => ?_, fun i j hi hj => ?_, fun i hi => ?_⟩
  · show j_bd (h 3) p q b j < 2 ^ h 4 0 ∧ (h 4 0 ≤ j → j_bd (h 3) p q b j = 0)
    constructor
    · have e : j_bd (h 3) p q b j = j_bd (h 3) p q b j &&& (2 ^ h 4 0 - 1) := by
        refine m_ext7 (j_bd_lt b (by omega) (by omega) hl hj) (Nat.lt_of_le_of_lt Nat.and_le_left (j_bd_lt b (by omega) (by omega) hl hj)) (fun i hi => ?_)
        rw [Nat.testBit_and, Nat.testBit_two_pow_sub_one]
        by_cases hin : i < h 4 0
        · simp [hin]
        · have : (j_bd (h 3) p q b j).testBit i = false := by
            rw [j_bd_bit b hpq hi, if_neg (by omega)]; exact m_lt_bit (w8 j hj).1 (by omega)
          rw [this]; rfl
      rw [e]
      have := Nat.two_pow_pos (h 4 0)
      exact Nat.lt_of_le_of_lt Nat.and_le_right (by omega)
    · intro hle
      unfold j_bd
      rw [if_neg (by omega), if_neg (by omega)]; exact (w8 j hj).2 hle
  · show (j_bd (h 3) p q b i).testBit j = (j_bd (h 3) p q b j).testBit i
    rw [j_bd_bit b hpq hj, j_bd_bit b hpq hi]
    by_cases c : (i = p ∧ j = q) ∨ (i = q ∧ j = p)
    · rw [if_pos c, if_pos (by omega)]
    · rw [if_neg c, if_neg (by omega)]; exact w9 i j hi hj
  · show (j_bd (h 3) p q b i).testBit i = false
    rw [j_bd_bit b hpq hi, if_neg (by omega)]; exact w10 i hi
theorem op_swear {T : Nat} {st : px_S} (ag : px_ag) (hI : Inv T st) : ∃ T2 st2, px_op2 T st ag T2 st2 ∧ Inv T2 st2 := by
  have hI0 := hI
  obtain ⟨h1, h2, h3, h4, h5, h, ⟨hw, h9, hc, hr⟩, him⟩ := hI
  have hn := hw.1
  have hl := m_o128 hw
  have bad : f_X5_swear (T + 2) (ag 1) (ag 2) (ag 3) st = some (-2, st) → f_X6_swear T (ag 1) (ag 2) (ag 3) st = some (-2, st) → ∃ T2 st2, px_op2 T st ag T2 st2 ∧ Inv T2 st2 := fun e1 e2 => ⟨T, st, ⟨rfl, _, st, e1, e2⟩, hI0⟩
  have e1 : f_X0_knowsPair (T + 2) st 1 (ag 1) (ag 2) = some (if j_kn (h 4 0) (ag 1) = 0 then (0 : Int32) else if j_kn (h 4 0) (ag 2) = 0 then 0 else if ag 1 = ag 2 then 0 else 1) := by
    rw [f_X0_knowsPair, m_eq_bind (m_knC hc.1 (ag 1))]
    by_cases h1 : j_kn (h 4 0) (ag 1) = 0
    · rw [if_pos h1, if_pos h1]
    · rw [if_neg h1, if_neg h1, m_eq_bind (m_knC hc.1 (ag 2))]
      by_cases h2 : j_kn (h 4 0) (ag 2) = 0
      · rw [if_pos h2, if_pos h2]
      · rw [if_neg h2, if_neg h2]
        by_cases h3 : ag 1 = ag 2
        · rw [if_pos h3, if_pos h3]
        · rw [if_neg h3, if_neg h3]
  have hi := m_i (ag 3) 0 1 (A := 0) (B := 1) rfl rfl
  by_cases q1 : j_kn (h 4 0) (ag 1) = 0
  · exact bad (by rw [f_X5_swear, m_eq_bind e1]; simp only [if_pos q1, if_true]) (by rw [f_X6_swear, m_eq_bind (m_knR hn hr.1 (ag 1)), if_pos q1])
  by_cases q2 : j_kn (h 4 0) (ag 2) = 0
  · exact bad (by rw [f_X5_swear, m_eq_bind e1]; simp only [if_neg q1, if_pos q2, if_true]) (by rw [f_X6_swear, m_eq_bind (m_knR hn hr.1 (ag 1)), if_neg q1, m_eq_bind (m_knR hn hr.1 (ag 2)), if_pos q2])
  by_cases q3 : ag 1 = ag 2
  · exact bad (by rw [f_X5_swear, m_eq_bind e1]; simp only [if_neg q1, if_neg q2, if_pos q3, if_true]) (by rw [f_X6_swear, m_eq_bind (m_knR hn hr.1 (ag 1)), if_neg q1, m_eq_bind (m_knR hn hr.1 (ag 2)), if_neg q2, if_pos q3])
  rw [if_neg q1, if_neg q2, if_neg q3] at e1
  by_cases q4 : ag 3 < 0
  · exact bad (by rw [f_X5_swear, m_eq_bind e1, if_neg (by decide), if_pos q4]) (by rw [f_X6_swear, m_eq_bind (m_knR hn hr.1 (ag 1)), if_neg q1, m_eq_bind (m_knR hn hr.1 (ag 2)), if_neg q2, if_neg q3, if_pos (hi.mpr (Or.inl q4))])
  by_cases q5 : 1 < ag 3
  · exact bad (by rw [f_X5_swear, m_eq_bind e1, if_neg (by decide), if_neg q4, if_pos q5]) (by rw [f_X6_swear, m_eq_bind (m_knR hn hr.1 (ag 1)), if_neg q1, m_eq_bind (m_knR hn hr.1 (ag 2)), if_neg q2, if_neg q3, if_pos (hi.mpr (Or.inr q5))])
  have r1 : f_X6_swear T (ag 1) (ag 2) (ag 3) = fun s => f_X6_swear T (ag 1) (ag 2) (ag 3) s := rfl
  obtain ⟨p, hp, ep, _⟩ := (j_kn_cases hn (ag 1)).resolve_left q1
  obtain ⟨q, hq, eq, _⟩ := (j_kn_cases hn (ag 2)).resolve_left q2
  obtain ⟨v, hv, ev⟩ := m_rng' (n := 1) (by omega) q4 q5
  have hpq : p ≠ q := fun e => q3 (by rw [ep, eq, e])
  obtain ⟨b, eb⟩ : ∃ b : Bool, ag 3 = if b then 1 else 0 := by
    rcases (show v = 0 ∨ v = 1 by omega) with rfl | rfl
    · exact ⟨false, ev⟩
    · exact ⟨true, ev⟩
  have hin : px_in (nI p) 7 := m_px (by omega) (by omega)
  obtain ⟨s1, b1, b2, b3⟩ := m_bindC (T := T + 2) (a := 1) (o := h 3) (fun j hj => ⟨hc.2.2.2.2.2.2.2.2 j hj, hl j hj⟩) (show p < 7 by omega) (show q < 7 by omega) hpq b
  have c5 : f_X5_swear (T + 2) (ag 1) (ag 2) (ag 3) st = some (if (h 3 p).testBit q then 1 else 0, s1) := by
    have e45 : ∀ z0 : Int32, f_X5_swear_45 (T + 2) (nI p) (nI q) (ag 3) z0 st = some (z0, s1) := fun z0 => by
      rw [f_X5_swear_45, eb]
      cases b with
      | true => rw [if_pos rfl] at b1; rw [if_pos rfl, if_pos rfl, f_X5_swear_63, m_eq_bind b1]
      | false => rw [if_neg (by decide)] at b1; rw [if_neg (by decide), f_X5_swear_63, m_eq_bind b1]
    have o5 : st 5 p = nI (h 3 p) := hc.2.2.2.2.2.2.2.2 p (by omega)
    rw [f_X5_swear, m_eq_bind e1, if_neg (by decide), if_neg q4, if_neg q5, ep, eq, if_pos hin, nI_clamp (by omega), o5, b_has _ (hl p (by omega)) q (by omega)]
    by_cases hb : (h 3 p).testBit q = true
    · rw [if_neg (by rw [if_pos hb]; decide), e45, if_pos hb]
    · rw [if_pos (by rw [if_neg hb]), e45, if_neg hb]
  have hr1 : m_HR s1 h := m_HR_eq hr (fun j _ => by rw [b2 48 (by decide)]) (fun a ha => b2 a (by simp; omega))
  obtain ⟨s2, d1, d2, d3⟩ := m_swearsR (T := T) (o := h 3) hn hr1.2.2.2.2.2.2.2.2 hl hp hq hpq b
  have c6 : f_X6_swear T (ag 1) (ag 2) (ag 3) s1 = some (if (h 3 p).testBit q then 1 else 0, s2) := by
    have e48 : ∀ z0 : Int32, f_X6_swear_48 T (nI p) (nI q) (ag 3) z0 s1 = some (z0, s2) := fun z0 => by
      rw [f_X6_swear_48, eb, m_eq_bind d1]
    rw [f_X6_swear, m_eq_bind (m_knR hn hr1.1 (ag 1)), if_neg q1, m_eq_bind (m_knR hn hr1.1 (ag 2)), if_neg q2, if_neg q3, if_neg (fun g => (hi.mp g).elim q4 q5), ep, eq, f_X6_areSworn, if_pos hin, nI_clamp (by omega), hr1.2.2.2.2.2.2.2.2 p hp, b_shr _ (hl p (by omega)) q (by omega)]
    by_cases hb : (h 3 p).testBit q = true
    · rw [if_pos (by rw [if_pos hb]), Option.bind_some, if_neg (by decide), e48, if_pos hb]
    · rw [if_neg (by rw [if_neg hb]; decide), Option.bind_some, if_pos rfl, e48, if_neg hb]
  obtain ⟨k4, k5, k6, k7, k8, k9, kr, kl, ko⟩ := hc
  obtain ⟨l4, l5, l6, l7, l8, l9, lr, ll, lo⟩ := hr1
  have row : ∀ a, a ≠ 5 → a ≠ 55 → s2 a = st a := fun a ha hb => by rw [d2 a (by simp; omega), b2 a (by simp; omega)]
  refine ⟨T, s2, ⟨rfl, _, s1, c5, c6⟩, Inv_ho (h := h) (h' := ho h (j_bd (h 3) p q b)) hI0 him (fun a ha => ?_) (fun j _ => by rw [row 48 (by omega) (by omega)]) ⟨m_HW_bd hw hp hq hpq b, h9, ?_, ?_⟩ (Nat.le_refl _) (fun j _ => rfl)⟩
  · simp only [List.mem_cons, List.not_mem_nil, or_false, not_or] at ha
    exact row a (by omega) (by omega)
  · have r1 : s2 1 = st 1 := row 1 (by omega) (by omega)
    unfold m_HC
    rw [r1, row (1 + 1) (by omega) (by omega), row (1 + 2) (by omega) (by omega), row (1 + 3) (by omega) (by omega)]
    exact ⟨k4, k5, k6, k7, k8, k9, kr, kl, fun j hj => by rw [d2 _ (by decide)]; exact b3 j hj⟩
  · unfold m_HR
    rw [d2 48 (by decide), d2 52 (by decide), d2 53 (by decide), d2 54 (by decide)]
    exact ⟨l4, l5, l6, l7, l8, l9, lr, ll, d3⟩
