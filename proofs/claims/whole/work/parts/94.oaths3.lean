section
variable {T : Nat} {h : px_H} {C : Nat → List Int32} {k : Nat}
/-- where the reference's loops over oaths stand -/
def m_OZ (h : px_H) (C : Nat → List Int32) (s1 z : px_S) : Prop := m_RQ z h C (h 5 0) (h 3) (h 7 0) ∧ m_sc s1 z
theorem m_fpR (hw : m_HW h) {st : px_S} (c : m_RQ st h C (h 5 0) (h 3) (h 7 0)) (j : m_RJ st h C) {x : Nat} (hx : x < 49) : f_X6_canSwear T st (nI x) = some (if j_fp (h 5 0) (h 3) x then 1 else 0) := by
  obtain ⟨d1, d2, d3, d4⟩ := m_dv hx
  have hn := hw.1
  rw [f_X6_canSwear, d2, d1]
  by_cases h1 : x / 7 < x % 7
  · rw [if_pos (nI_lt h1 (by omega)), m_eq_bind (m_inR' hw j.1.1 j.1.2.1 d3)]
    by_cases h2 : (h 5 0).testBit (x / 7) = true
    · rw [if_pos h2, if_neg (by decide), m_eq_bind (m_inR' hw j.1.1 j.1.2.1 d4)]
      by_cases h3 : (h 5 0).testBit (x % 7) = true
      · rw [if_pos h3, if_neg (by decide), m_eq_bind (m_swornR c hw (m_bit_lt hw.2.1 h2) d4)]
        by_cases h4 : (h 3 (x / 7)).testBit (x % 7) = true
        · rw [if_pos h4, if_neg (by decide), if_neg (by simp [j_fp, h4])]
        · rw [if_neg h4, if_pos rfl, if_pos (j_fp_iff.mpr ⟨h1, h2, h3, Bool.eq_false_iff.mpr h4⟩)]
      · rw [if_neg h3, if_pos rfl, if_neg (fun g => h3 (j_fp_iff.mp g).2.2.1)]
    · rw [if_neg h2, if_pos rfl, if_neg (fun g => h2 (j_fp_iff.mp g).2.1)]
  · rw [if_neg (nI_nlt (by omega) (by omega)), if_neg (fun g => h1 (j_fp_iff.mp g).1)]
theorem m_RQ_ext {st : px_S} {s : Nat} {o o' : Nat → Nat} (c : m_RQ st h C s o k) (he : ∀ j, j < 7 → o j = o' j) (hw : m_HW h) : m_RQ st h C s o' k := by
  have hn := hw.1
  exact ⟨c.1, fun q hq => by rw [← he q (by omega)]; exact c.2.1 q hq, fun q hq => by rw [← he q hq]; exact c.2.2.1 q hq, fun p q hp hq => by rw [← he p hp, ← he q hq]; exact c.2.2.2.1 p q hp hq, c.2.2.2.2⟩
/-- all of a state but the row 55, and these slots -/
theorem m_eq55 {z t : px_S} {n : Nat} {o : Nat → Nat} (hz : ∀ j, j < n → z 55 j = nI (o j)) (ht : ∀ j, j < n → t 55 j = nI (o j)) (hb : ∀ j, n ≤ j → t 55 j = z 55 j) : t 55 = z 55 := by
  funext j
  rcases Nat.lt_or_ge j n with hl | hl
  · rw [ht j hl, hz j hl]
  · exact hb j hl
theorem m_oathsFR (hw : m_HW h) {s1 : px_S} (j1 : m_RJ s1 h C) : ∃ (st' : px_S) (a0 : Int32) (u v : Option Nat), f_X6_findsOaths T s1 = some st' ∧ m_sc s1 st' ∧ j_OS (j_rest (j_ag h C (h 5 0) (h 3)) (h 7 0)) (j_r1 h C (h 5 0) (h 7 0) (h 3)) (j_r2 h C (h 5 0) (h 7 0) (h 3)) a0 u v ∧ st' 48 42 = a0 ∧ st' 48 43 = j_ix u ∧ st' 48 44 = j_ix v := by
  have hn := hw.1
  have hl := m_o128 hw
  have hsym := hw.2.2.2.2.2.2.2.2.1
  have hs7 : h 5 0 < 128 := Nat.lt_of_lt_of_le hw.2.1 (m_pow7 hn)
  obtain ⟨s2, e2, f2, l2, _⟩ := m_looksR (T := T) j1 hw hw.2.1
  have rq := m_RQ_of (m_RJ_sc j1 f2) hw l2
  obtain ⟨s3, e3, f3, _⟩ := m_restR (T := T) rq hw hw.2.1
  have q3 := m_RQ_48 rq f3 (by decide)
  have c3 : m_sc s1 s3 := m_sc_tr f2 (m_sc_48 f3 (by intro j hj; simp at hj; omega))
  rw [f_X6_findsOaths, j1.1.2.1, m_eq_bind e2, m_eq_bind e3]
  have OZup : ∀ {z : px_S} (j : Nat) (x : Int32), 42 ≤ j → j ≤ 44 → m_OZ h C s1 z → m_OZ h C s1 (up z 48 j x) := fun j x h1 h2 hz => ⟨m_RQ_48 hz.1 (l := [42, 43, 44]) (m_f48_up (m_f48_refl _ _) (by simp; omega) x) (by decide), m_sc_up48 hz.2 (by omega) x⟩
  -- an oath on, a look, the oath off
  have fpn : ∀ x, x < 49 → j_fp (h 5 0) (h 3) x = true → x / 7 < h 4 0 ∧ x % 7 < h 4 0 ∧ x / 7 ≠ x % 7 ∧ (h 3 (x / 7)).testBit (x % 7) = false := fun x hx hf => by
    obtain ⟨a, b, c, d⟩ := j_fp_iff.mp hf
    exact ⟨m_bit_lt hw.2.1 b, m_bit_lt hw.2.1 c, by omega, d⟩
  have after21 : ∀ z0 : Int32, ∃ z, f_X6_findsOaths_21 T z0 s3 = f_X6_findsOaths_36 T 1000 (nI 0) z ∧ m_OZ h C s1 z ∧ z 48 42 = z0 ∧ z 48 43 = -1 ∧ z 48 44 = -1 := fun z0 =>
    ⟨_, rfl, OZup 44 _ (by omega) (by omega) (OZup 43 _ (by omega) (by omega) (OZup 42 _ (by omega) (by omega) ⟨q3, c3⟩)), by simp [m_up], by simp [m_up], by simp [m_up]⟩
  by_cases hR : j_rest (j_ag h C (h 5 0) (h 3)) (h 7 0) = true
  · simp only [if_pos hR, show ¬ ((1 : Int32) = 0) by decide, if_false]
    obtain ⟨z, e4, z1, z2, z3, z4⟩ := after21 0
    rw [e4, f_X6_findsOaths_36, if_pos (by decide), z2, if_neg (by decide), f_X6_findsOaths_109, if_pos (by decide), z2, if_neg (by decide)]
    exact ⟨z, 0, none, none, rfl, z1.2, Or.inl ⟨hR, rfl, rfl, rfl⟩, z2, z3, z4⟩
  have hR' := Bool.eq_false_iff.mpr hR
  simp only [if_neg hR, if_true]
  obtain ⟨z0, e4, z1, z2, z3, z4⟩ := after21 (-1)
  rw [e4]
  have one : ∃ z, f_X6_findsOaths_36 T 1000 (nI 0) z0 = f_X6_findsOaths_109 T 1000 0 z ∧ m_OZ h C s1 z ∧ z 48 44 = -1 ∧ ((z 48 42 = -1 ∧ z 48 43 = -1 ∧ ∀ x, x < 49 → j_r1 h C (h 5 0) (h 7 0) (h 3) x = false) ∨ ∃ x, x < 49 ∧ z 48 42 = 1 ∧ z 48 43 = nI x ∧ j_r1 h C (h 5 0) (h 7 0) (h 3) x = true ∧ ∀ y, y < x → j_r1 h C (h 5 0) (h 7 0) (h 3) y = false) := by
    refine m_for (σ := px_S) (fun fu i z => f_X6_findsOaths_36 T fu (nI i) z) 49 (fun i z => m_OZ h C s1 z ∧ z 48 44 = -1 ∧ ((z 48 42 = -1 ∧ z 48 43 = -1 ∧ ∀ x, x < i → j_r1 h C (h 5 0) (h 7 0) (h 3) x = false) ∨ ∃ x, x < i ∧ z 48 42 = 1 ∧ z 48 43 = nI x ∧ j_r1 h C (h 5 0) (h 7 0) (h 3) x = true ∧ ∀ y, y < x → j_r1 h C (h 5 0) (h 7 0) (h 3) y = false)) (fun r => ∃ z, r = f_X6_findsOaths_109 T 1000 0 z ∧ m_OZ h C s1 z ∧ z 48 44 = -1 ∧ ((z 48 42 = -1 ∧ z 48 43 = -1 ∧ ∀ x, x < 49 → j_r1 h C (h 5 0) (h 7 0) (h 3) x = false) ∨ ∃ x, x < 49 ∧ z 48 42 = 1 ∧ z 48 43 = nI x ∧ j_r1 h C (h 5 0) (h 7 0) (h 3) x = true ∧ ∀ y, y < x → j_r1 h C (h 5 0) (h 7 0) (h 3) y = false)) ?_ ?_ 49 0 z0 1000 (by omega) ⟨z1, z4, Or.inl ⟨z2, z3, fun x hx => by omega⟩⟩ (by omega)
    · intro fu i z hi hz
      obtain ⟨y1, y2, y3⟩ := hz
      rw [f_X6_findsOaths_36, if_pos (by rw [show (49 : Int32) = nI 49 from rfl]; exact nI_lt hi (by omega))]
      rcases y3 with ⟨y3, y4, y5⟩ | ⟨x, y3, y4, y5, y6, y7⟩
      case inr =>
        right
        rw [if_neg (by rw [y4]; decide)]
        exact ⟨z, rfl, y1, y2, Or.inr ⟨x, by omega, y4, y5, y6, y7⟩⟩
      left
      have zj := m_RJ_sc j1 y1.2
      rw [if_pos y3, m_eq_bind (m_fpR hw y1.1 zj hi)]
      have more : j_r1 h C (h 5 0) (h 7 0) (h 3) i = false → ∀ x, x < i + 1 → j_r1 h C (h 5 0) (h 7 0) (h 3) x = false := fun hg x h1 => by
        rcases Nat.lt_or_ge x i with hl | hl
        · exact y5 x hl
        · rw [show x = i by omega]; exact hg
      by_cases hfp : j_fp (h 5 0) (h 3) i = true
      · obtain ⟨p1, p2, p3, p4⟩ := fpn i hi hfp
        obtain ⟨d1, d2, d3, d4⟩ := m_dv hi
        obtain ⟨t1, a1, a2, a3, a4⟩ := m_swR (T := T) (o := h 3) hn y1.1.2.1 hl p1 p2 p3 true
        have l1 : ∀ j, j < 7 → j_bd (h 3) (i / 7) (i % 7) true j < 128 := fun j hj => j_bd_lt true d3 d4 hl hj
        have tq := m_RQ_bd y1.1 a2 a3 l1 (j_bd_sym p3 true hsym)
        obtain ⟨t2, b1, b2, _⟩ := m_restR (T := T) tq hw hw.2.1
        have fin : ∀ t3 : px_S, (∀ a, a ≠ 48 → t3 a = t2 a) → (∀ j, ¬ (16 ≤ j ∧ j ≤ 47) → t3 48 j = t2 48 j) → t3 48 31 = t2 48 31 → ∃ t4, f_X6_findsOaths_88 T (f_X6_findsOaths_36 T fu) (nI i) t3 = f_X6_findsOaths_36 T fu (nI (i + 1)) t4 ∧ m_OZ h C s1 t4 ∧ t4 48 = t3 48 := by
          intro t3 g1 g2 g3
          have t355 : ∀ j, t3 55 j = t1 55 j := fun j => by rw [g1 55 (by decide), b2.1 55 (by decide)]
          obtain ⟨t4, x1, x2, x3, x4⟩ := m_swR (T := T) (st := t3) (o := j_bd (h 3) (i / 7) (i % 7) true) hn (fun j hj => by rw [t355]; exact a3 j hj) l1 p1 p2 p3 false
          have e55 : t4 55 = z 55 := m_eq55 y1.1.2.1 (fun j hj => by rw [x3 j hj, j_bd_back d3 d4 p3 hl hsym p4 (by omega)]) (fun j hj => by rw [x4 j hj, t355, a4 j hj])
          have e48 : t4 48 = t3 48 := x2 48 (by decide)
          have row : ∀ a, a ≠ 48 → t4 a = z a := fun a ha => by
            by_cases e : a = 55
            · rw [e]; exact e55
            · rw [x2 a (by simp; exact e), g1 a ha, b2.1 a ha, a2 a (by simp; exact e)]
          have sl : ∀ j, ¬ (16 ≤ j ∧ j ≤ 47) → t4 48 j = z 48 j := fun j hj => by
            rw [e48, g2 j hj, b2.2 j (by simp; omega), a2 48 (by decide)]
          have s31 : t4 48 31 = z 48 31 := by rw [e48, g3, b2.2 31 (by decide), a2 48 (by decide)]
          refine ⟨t4, by rw [f_X6_findsOaths_88, d2, d1, m_eq_bind (show f_X6_swears T (nI (i / 7)) (nI (i % 7)) 0 t3 = some t4 from x1), nI_1], ⟨?_, m_sc_tr y1.2 ⟨fun a ha _ => row a ha, sl⟩⟩, e48⟩
          have zq := y1.1
          unfold m_RQ m_LR m_ent at *
          rw [s31, sl 14 (by omega), sl 11 (by omega), row 52 (by omega), row 53 (by omega), row 55 (by omega), row 56 (by omega), row 57 (by omega), row 58 (by omega)]
          exact zq
        rw [if_pos hfp, if_neg (by decide), d2, d1, m_eq_bind (show f_X6_swears T (nI (i / 7)) (nI (i % 7)) 1 z = some t1 from a1), m_eq_bind b1]
        have t48 : ∀ j, ¬ (35 ≤ j ∧ j ≤ 37) → t2 48 j = z 48 j := fun j hj => by rw [b2.2 j (by simp; omega), a2 48 (by decide)]
        by_cases hr : j_rest (j_ag h C (h 5 0) (j_bd (h 3) (i / 7) (i % 7) true)) (h 7 0) = true
        · rw [if_pos hr]
          simp only [show ¬ ((1 : Int32) = 0) by decide, if_false]
          obtain ⟨t4, x1, x2, x3⟩ := fin (up (up t2 48 42 1) 48 43 (nI i)) (fun a ha => by rw [m_up_row _ _ _ _ ha, m_up_row _ _ _ _ ha]) (fun j hj => by rw [m_up, if_pos rfl, if_neg (by omega), m_up, if_pos rfl, if_neg (by omega)]) (by simp [m_up])
          exact ⟨t4, ⟨x2, by rw [x3]; simp [m_up, t48 44 (by omega), y2], Or.inr ⟨i, by omega, by rw [x3]; simp [m_up], by rw [x3]; simp [m_up], by unfold j_r1 j_on; rw [hfp, hr]; rfl, y5⟩⟩, x1⟩
        · rw [if_neg hr]
          simp only [if_true]
          obtain ⟨t4, x1, x2, x3⟩ := fin t2 (fun a _ => rfl) (fun j _ => rfl) rfl
          exact ⟨t4, ⟨x2, by rw [x3, t48 44 (by omega)]; exact y2, Or.inl ⟨by rw [x3, t48 42 (by omega)]; exact y3, by rw [x3, t48 43 (by omega)]; exact y4, more (by unfold j_r1 j_on; simp [hr])⟩⟩, x1⟩
      · rw [if_neg hfp, if_pos rfl, nI_1]
        exact ⟨z, ⟨y1, y2, Or.inl ⟨y3, y4, more (by unfold j_r1; simp [hfp])⟩⟩, rfl⟩
    · intro fu z hz
      obtain ⟨y1, y2, y3⟩ := hz
      rw [f_X6_findsOaths_36, if_neg (by decide)]
      exact ⟨z, rfl, y1, y2, y3⟩
  obtain ⟨z, e5, y1, y2, y3⟩ := one
  rw [e5]
  rcases y3 with ⟨y3, y4, no1⟩ | ⟨x, y3, y4, y5, y6, y7⟩
  case inr =>
    rw [f_X6_findsOaths_109, if_pos (by decide), y4, if_neg (by decide)]
    exact ⟨z, 1, some x, none, rfl, y1.2, Or.inr (Or.inl ⟨hR', x, y3, y6, y7, rfl, rfl, rfl⟩), y4, y5, y2⟩
  -- two oaths
  obtain ⟨g, eg⟩ : ∃ g : Nat → Nat → Bool, g = j_r2 h C (h 5 0) (h 7 0) (h 3) := ⟨_, rfl⟩
  have gdef : ∀ a b, a < b → b < 49 → g a b = (j_fp (h 5 0) (h 3) a && (j_fp (h 5 0) (h 3) b && j_rest (j_ag h C (h 5 0) (j_on (j_on (h 3) a true) b true)) (h 7 0))) := fun a b hab hb => by
    rw [eg]
    show (j_fp (h 5 0) (h 3) a && (j_fp (h 5 0) (j_on (h 3) a true) b && _)) = _
    by_cases hf : j_fp (h 5 0) (h 3) a = true
    · rw [j_fp_on (by omega) hb (by omega) hf]
    · rw [Bool.eq_false_iff.mpr hf]; rfl
  rw [← eg]
  have two : ∃ st', f_X6_findsOaths_109 T 1000 0 z = some st' ∧ m_sc s1 st' ∧ ((st' 48 42 = -1 ∧ st' 48 43 = -1 ∧ st' 48 44 = -1 ∧ ∀ a b, a < b → b < 49 → g a b = false) ∨ ∃ a b, a < b ∧ b < 49 ∧ g a b = true ∧ (∀ c, c < a → ∀ d, c < d → d < 49 → g c d = false) ∧ (∀ d, a < d → d < b → g a d = false) ∧ st' 48 42 = 2 ∧ st' 48 43 = nI a ∧ st' 48 44 = nI b) := by
    refine m_for (σ := px_S) (fun fu i z => f_X6_findsOaths_109 T fu (nI i) z) 49 (fun i z => m_OZ h C s1 z ∧ ((z 48 42 = -1 ∧ z 48 43 = -1 ∧ z 48 44 = -1 ∧ ∀ a b, a < i → a < b → b < 49 → g a b = false) ∨ ∃ a b, a < b ∧ b < 49 ∧ g a b = true ∧ (∀ c, c < a → ∀ d, c < d → d < 49 → g c d = false) ∧ (∀ d, a < d → d < b → g a d = false) ∧ z 48 42 = 2 ∧ z 48 43 = nI a ∧ z 48 44 = nI b)) (fun r => ∃ st', r = some st' ∧ m_sc s1 st' ∧ ((st' 48 42 = -1 ∧ st' 48 43 = -1 ∧ st' 48 44 = -1 ∧ ∀ a b, a < b → b < 49 → g a b = false) ∨ ∃ a b, a < b ∧ b < 49 ∧ g a b = true ∧ (∀ c, c < a → ∀ d, c < d → d < 49 → g c d = false) ∧ (∀ d, a < d → d < b → g a d = false) ∧ st' 48 42 = 2 ∧ st' 48 43 = nI a ∧ st' 48 44 = nI b)) ?_ ?_ 49 0 z 1000 (by omega) ⟨y1, Or.inl ⟨y3, y4, y2, fun a b ha => by omega⟩⟩ (by omega)
    · intro fu i w hi hw'
      obtain ⟨w1, w2⟩ := hw'
      rw [f_X6_findsOaths_109, if_pos (by rw [show (49 : Int32) = nI 49 from rfl]; exact nI_lt hi (by omega))]
      rcases w2 with ⟨w2, w3, w4, w5⟩ | ⟨a, b, w2, w3, w4, w5, w6, w7, w8, w9⟩
      case inr =>
        right
        rw [if_neg (by rw [w7]; decide)]
        exact ⟨w, rfl, w1.2, Or.inr ⟨a, b, w2, w3, w4, w5, w6, w7, w8, w9⟩⟩
      left
      rw [if_pos w2, nI_1]
      have inner : ∃ w', f_X6_findsOaths_127 T (f_X6_findsOaths_109 T fu) 1000 (nI i) (nI (i + 1)) w = f_X6_findsOaths_109 T fu (nI i + 1) w' ∧ m_OZ h C s1 w' ∧ ((w' 48 42 = -1 ∧ w' 48 43 = -1 ∧ w' 48 44 = -1 ∧ ∀ a b, a < i + 1 → a < b → b < 49 → g a b = false) ∨ ∃ a b, a < b ∧ b < 49 ∧ g a b = true ∧ (∀ c, c < a → ∀ d, c < d → d < 49 → g c d = false) ∧ (∀ d, a < d → d < b → g a d = false) ∧ w' 48 42 = 2 ∧ w' 48 43 = nI a ∧ w' 48 44 = nI b) := by
        refine m_for (σ := px_S) (fun fv b v => f_X6_findsOaths_127 T (f_X6_findsOaths_109 T fu) fv (nI i) (nI b) v) 49 (fun b v => i < b ∧ m_OZ h C s1 v ∧ ((v 48 42 = -1 ∧ v 48 43 = -1 ∧ v 48 44 = -1 ∧ ∀ d, i < d → d < b → g i d = false) ∨ ∃ c, i < c ∧ c < b ∧ g i c = true ∧ (∀ d, i < d → d < c → g i d = false) ∧ v 48 42 = 2 ∧ v 48 43 = nI i ∧ v 48 44 = nI c)) (fun r => ∃ w', r = f_X6_findsOaths_109 T fu (nI i + 1) w' ∧ m_OZ h C s1 w' ∧ ((w' 48 42 = -1 ∧ w' 48 43 = -1 ∧ w' 48 44 = -1 ∧ ∀ a b, a < i + 1 → a < b → b < 49 → g a b = false) ∨ ∃ a b, a < b ∧ b < 49 ∧ g a b = true ∧ (∀ c, c < a → ∀ d, c < d → d < 49 → g c d = false) ∧ (∀ d, a < d → d < b → g a d = false) ∧ w' 48 42 = 2 ∧ w' 48 43 = nI a ∧ w' 48 44 = nI b)) ?_ ?_ (49 - (i + 1)) (i + 1) w 1000 (by omega) ⟨by omega, w1, Or.inl ⟨w2, w3, w4, fun d h1 h2 => by omega⟩⟩ (by omega)
        · intro fv b v hb hv
          obtain ⟨v0, v1, v2⟩ := hv
          rw [f_X6_findsOaths_127, if_pos (by rw [show (49 : Int32) = nI 49 from rfl]; exact nI_lt hb (by omega))]
          rcases v2 with ⟨v2, v3, v4, v5⟩ | ⟨c, v2, v3, v4, v5, v6, v7, v8⟩
          case inr =>
            right
            rw [if_neg (by rw [v6]; decide)]
            exact ⟨v, rfl, v1, Or.inr ⟨i, c, v2, by omega, v4, fun d hd e h1 h2 => w5 d e hd h1 h2, v5, v6, v7, v8⟩⟩
          left
          have vj := m_RJ_sc j1 v1.2
          rw [if_pos v2, m_eq_bind (m_fpR hw v1.1 vj hi), nI_1]
          have more : g i b = false → ∀ d, i < d → d < b + 1 → g i d = false := fun hg d h1 h2 => by
            rcases Nat.lt_or_ge d b with hl | hl
            · exact v5 d h1 hl
            · rw [show d = b by omega]; exact hg
          have skip : g i b = false → ∃ s', (i < b + 1 ∧ m_OZ h C s1 s' ∧ ((s' 48 42 = -1 ∧ s' 48 43 = -1 ∧ s' 48 44 = -1 ∧ ∀ d, i < d → d < b + 1 → g i d = false) ∨ ∃ c, i < c ∧ c < b + 1 ∧ g i c = true ∧ (∀ d, i < d → d < c → g i d = false) ∧ s' 48 42 = 2 ∧ s' 48 43 = nI i ∧ s' 48 44 = nI c)) ∧ f_X6_findsOaths_127 T (f_X6_findsOaths_109 T fu) fv (nI i) (nI (b + 1)) v = f_X6_findsOaths_127 T (f_X6_findsOaths_109 T fu) fv (nI i) (nI (b + 1)) s' := fun hg => ⟨v, ⟨by omega, v1, Or.inl ⟨v2, v3, v4, more hg⟩⟩, rfl⟩
          by_cases hfa : j_fp (h 5 0) (h 3) i = true
          case neg =>
            rw [if_neg hfa, if_pos rfl]
            exact skip (by rw [gdef i b v0 hb]; simp [hfa])
          rw [if_pos hfa, if_neg (by decide), m_eq_bind (m_fpR hw v1.1 vj hb)]
          by_cases hfb : j_fp (h 5 0) (h 3) b = true
          case neg =>
            rw [if_neg hfb, if_pos rfl]
            exact skip (by rw [gdef i b v0 hb]; simp [hfb])
          obtain ⟨p1, p2, p3, p4⟩ := fpn i hi hfa
          obtain ⟨r1, r2, r3, r4⟩ := fpn b hb hfb
          obtain ⟨d1, d2, d3, d4⟩ := m_dv hi
          obtain ⟨x1, x2, x3, x4⟩ := m_dv hb
          have o1 := (j_fp_iff.mp hfa).1
          have o2 := (j_fp_iff.mp hfb).1
          obtain ⟨t1, a1, a2, a3, a4⟩ := m_swR (T := T) (o := h 3) hn v1.1.2.1 hl p1 p2 p3 true
          have l1 : ∀ j, j < 7 → j_bd (h 3) (i / 7) (i % 7) true j < 128 := fun j hj => j_bd_lt true d3 d4 hl hj
          have sy1 := j_bd_sym p3 true hsym
          obtain ⟨t2, b1, b2, b3, b4⟩ := m_swR (T := T) (o := j_bd (h 3) (i / 7) (i % 7) true) hn a3 l1 r1 r2 r3 true
          have l2 : ∀ j, j < 7 → j_bd (j_bd (h 3) (i / 7) (i % 7) true) (b / 7) (b % 7) true j < 128 := fun j hj => j_bd_lt true x3 x4 l1 hj
          have sy2 := j_bd_sym r3 true sy1
          have tq := m_RQ_bd (m_RQ_bd v1.1 a2 a3 l1 sy1) b2 b3 l2 sy2
          obtain ⟨t3, c1, c2, _⟩ := m_restR (T := T) tq hw hw.2.1
          have fin : ∀ t5 : px_S, (∀ a, a ≠ 48 → t5 a = t3 a) → (∀ j, ¬ (16 ≤ j ∧ j ≤ 47) → t5 48 j = t3 48 j) → t5 48 31 = t3 48 31 → ∃ t4, f_X6_findsOaths_205 T (f_X6_findsOaths_127 T (f_X6_findsOaths_109 T fu) fv) (nI i) (nI b) t5 = f_X6_findsOaths_127 T (f_X6_findsOaths_109 T fu) fv (nI i) (nI (b + 1)) t4 ∧ m_OZ h C s1 t4 ∧ t4 48 = t5 48 := by
            intro t5 g1 g2 g3
            have t555 : ∀ j, t5 55 j = t2 55 j := fun j => by rw [g1 55 (by decide), c2.1 55 (by decide)]
            obtain ⟨t6, m1, m2, m3, m4⟩ := m_swR (T := T) (st := t5) (o := j_bd (j_bd (h 3) (i / 7) (i % 7) true) (b / 7) (b % 7) true) hn (fun j hj => by rw [t555]; exact b3 j hj) l2 p1 p2 p3 false
            have l3 : ∀ j, j < 7 → j_bd (j_bd (j_bd (h 3) (i / 7) (i % 7) true) (b / 7) (b % 7) true) (i / 7) (i % 7) false j < 128 := fun j hj => j_bd_lt false d3 d4 l2 hj
            obtain ⟨t4, n1, n2, n3, n4⟩ := m_swR (T := T) (st := t6) (o := j_bd (j_bd (j_bd (h 3) (i / 7) (i % 7) true) (b / 7) (b % 7) true) (i / 7) (i % 7) false) hn m3 l3 r1 r2 r3 false
            have e55 : t4 55 = v 55 := m_eq55 v1.1.2.1 (fun j hj => by rw [n3 j hj, j_bd_back2 d3 d4 x3 x4 o1 o2 (by omega) hl hsym p4 r4 (by omega)]) (fun j hj => by rw [n4 j hj, m4 j hj, t555, b4 j hj, a4 j hj])
            have e48 : t4 48 = t5 48 := by rw [n2 48 (by decide), m2 48 (by decide)]
            have row : ∀ a, a ≠ 48 → t4 a = v a := fun a ha => by
              by_cases e : a = 55
              · rw [e]; exact e55
              · rw [n2 a (by simp; exact e), m2 a (by simp; exact e), g1 a ha, c2.1 a ha, b2 a (by simp; exact e), a2 a (by simp; exact e)]
            have sl : ∀ j, ¬ (16 ≤ j ∧ j ≤ 47) → t4 48 j = v 48 j := fun j hj => by
              rw [e48, g2 j hj, c2.2 j (by simp; omega), b2 48 (by decide), a2 48 (by decide)]
            have s31 : t4 48 31 = v 48 31 := by rw [e48, g3, c2.2 31 (by decide), b2 48 (by decide), a2 48 (by decide)]
            refine ⟨t4, by rw [f_X6_findsOaths_205, d2, d1, m_eq_bind (show f_X6_swears T (nI (i / 7)) (nI (i % 7)) 0 t5 = some t6 from m1), x2, x1, m_eq_bind (show f_X6_swears T (nI (b / 7)) (nI (b % 7)) 0 t6 = some t4 from n1), nI_1], ⟨?_, m_sc_tr v1.2 ⟨fun a ha _ => row a ha, sl⟩⟩, e48⟩
            have zq := v1.1
            unfold m_RQ m_LR m_ent at *
            rw [s31, sl 14 (by omega), sl 11 (by omega), row 52 (by omega), row 53 (by omega), row 55 (by omega), row 56 (by omega), row 57 (by omega), row 58 (by omega)]
            exact zq
          rw [if_pos hfb, if_neg (by decide), d2, d1, m_eq_bind (show f_X6_swears T (nI (i / 7)) (nI (i % 7)) 1 v = some t1 from a1), x2, x1, m_eq_bind (show f_X6_swears T (nI (b / 7)) (nI (b % 7)) 1 t1 = some t2 from b1), m_eq_bind c1]
          have t48 : ∀ j, ¬ (35 ≤ j ∧ j ≤ 37) → t3 48 j = v 48 j := fun j hj => by rw [c2.2 j (by simp; omega), b2 48 (by decide), a2 48 (by decide)]
          by_cases hr : j_rest (j_ag h C (h 5 0) (j_bd (j_bd (h 3) (i / 7) (i % 7) true) (b / 7) (b % 7) true)) (h 7 0) = true
          · rw [if_pos hr]
            simp only [show ¬ ((1 : Int32) = 0) by decide, if_false]
            obtain ⟨t4, y1, y2, y3⟩ := fin (up (up (up t3 48 42 2) 48 43 (nI i)) 48 44 (nI b)) (fun a ha => by rw [m_up_row _ _ _ _ ha, m_up_row _ _ _ _ ha, m_up_row _ _ _ _ ha]) (fun j hj => by rw [m_up, if_pos rfl, if_neg (by omega), m_up, if_pos rfl, if_neg (by omega), m_up, if_pos rfl, if_neg (by omega)]) (by simp [m_up])
            exact ⟨t4, ⟨by omega, y2, Or.inr ⟨b, v0, by omega, by rw [gdef i b v0 hb, hfa, hfb]; unfold j_on; rw [hr]; rfl, v5, by rw [y3]; simp [m_up], by rw [y3]; simp [m_up], by rw [y3]; simp [m_up]⟩⟩, y1⟩
          · rw [if_neg hr]
            simp only [if_true]
            obtain ⟨t4, y1, y2, y3⟩ := fin t3 (fun a _ => rfl) (fun j _ => rfl) rfl
            exact ⟨t4, ⟨by omega, y2, Or.inl ⟨by rw [y3, t48 42 (by omega)]; exact v2, by rw [y3, t48 43 (by omega)]; exact v3, by rw [y3, t48 44 (by omega)]; exact v4, more (by rw [gdef i b v0 hb]; unfold j_on; simp [hr])⟩⟩, y1⟩
        · intro fv v hv
          obtain ⟨v0, v1, v2⟩ := hv
          rw [f_X6_findsOaths_127, if_neg (by decide)]
          refine ⟨v, rfl, v1, ?_⟩
          rcases v2 with ⟨v2, v3, v4, v5⟩ | ⟨c, v2, v3, v4, v5, v6, v7, v8⟩
          · refine Or.inl ⟨v2, v3, v4, fun a b ha h1 h2 => ?_⟩
            rcases Nat.lt_or_ge a i with hl | hl
            · exact w5 a b hl h1 h2
            · have : a = i := by omega
              subst this; exact v5 b h1 h2
          · exact Or.inr ⟨i, c, v2, by omega, v4, fun d hd e h1 h2 => w5 d e hd h1 h2, v5, v6, v7, v8⟩
      obtain ⟨w', x1, x2, x3⟩ := inner
      exact ⟨w', ⟨x2, x3⟩, by rw [x1, nI_1]⟩
    · intro fu w hw'
      obtain ⟨w1, w2⟩ := hw'
      rw [f_X6_findsOaths_109, if_neg (by decide)]
      refine ⟨w, rfl, w1.2, ?_⟩
      rcases w2 with ⟨w2, w3, w4, w5⟩ | w2
      · exact Or.inl ⟨w2, w3, w4, fun a b h1 h2 => w5 a b (by omega) h1 h2⟩
      · exact Or.inr w2
  obtain ⟨st', e6, f6, d6⟩ := two
  refine ⟨st', ?_⟩
  rcases d6 with ⟨b1, b2, b3, b4⟩ | ⟨a, b, b1, b2, b3, b4, b5, b6, b7, b8⟩
  · exact ⟨-1, none, none, e6, f6, Or.inr (Or.inr (Or.inr ⟨hR', no1, b4, rfl, rfl, rfl⟩)), b1, b2, b3⟩
  · exact ⟨2, some a, some b, e6, f6, Or.inr (Or.inr (Or.inl ⟨hR', no1, a, b, b1, b2, b3, b4, b5, rfl, rfl, rfl⟩)), b6, b7, b8⟩
end
theorem op_oaths {T : Nat} {st : px_S} (ag : px_ag) (hI : Inv T st) : ∃ T2 st2, px_op15 T st ag T2 st2 ∧ Inv T2 st2 := by
  have hI0 := hI
  obtain ⟨h1, h2, h3, h4, h5, h, hh, him⟩ := hI
  have hh0 := hh
  obtain ⟨hw, h9, hc, hr⟩ := hh
  have hn := hw.1
  have hs7 : h 5 0 < 128 := Nat.lt_of_lt_of_le hw.2.1 (m_pow7 hn)
  have hi := m_i (ag 1) 0 2 (A := 0) (B := 2) rfl rfl
  by_cases q1 : ag 1 < 0
  · exact ⟨T, st, ⟨rfl, -2, st, by rw [f_X5_oaths, if_pos q1], by rw [f_X6_oaths, if_pos (hi.mpr (Or.inl q1))]⟩, hI0⟩
  by_cases q2 : 2 < ag 1
  · exact ⟨T, st, ⟨rfl, -2, st, by rw [f_X5_oaths, if_neg q1, if_pos q2], by rw [f_X6_oaths, if_pos (hi.mpr (Or.inr q2))]⟩, hI0⟩
  obtain ⟨C, s1, e1, f1, r1, k1, c1, j1⟩ := m_tohC h1 h3 hh0
  obtain ⟨s2, a0, u, v, e2, f2, o2, w0, w1, w2⟩ := m_oathsFC (T := T + 2) hs7 hw.2.2.2.2.2.2.2.2.1 c1
  have j2 : m_RJ s2 h C := m_RJ_fr j1 (fun a h1 h2 => f2 a (by simp; omega))
  obtain ⟨s3, b0, u', v', e3, f3, o3, x0, x1, x2⟩ := m_oathsFR (T := T) hw j2
  obtain ⟨i1, i2, i3⟩ := j_OS_uni o2 o3
  subst i1 i2 i3
  have f12 : m_fr m_TF st s2 := m_fr_tr f1 (m_fr_mono f2 (by intro a ha; simp [m_TF] at ha ⊢; omega))
  obtain ⟨a, ha, ea⟩ := m_rng' (n := 2) (by omega) q1 q2
  have c0 : f_X5_oaths (T + 2) (ag 1) st = some (s2 29 a, s2) := by
    rw [f_X5_oaths, if_neg q1, if_neg q2, m_eq_bind e1, m_eq_bind e2, ea, if_pos (m_px (by omega) (by omega)), nI_clamp (by omega)]
  have nm : ∀ u : Option Nat, (∀ x, u = some x → x < 49) → f_X6_oaths_44 T (j_ix u) s3 = some (j_nm u, s3) := by
    intro u hu
    rw [f_X6_oaths_44]
    cases u with
    | none => rw [j_ix, if_pos rfl]; rfl
    | some x =>
      have := hu x rfl
      rw [j_ix, if_neg (m_n1 (by omega))]; rfl
  have bu : (∀ x, u = some x → x < 49) ∧ ∀ x, v = some x → x < 49 := by
    rcases o2 with ⟨_, _, g1, g2⟩ | ⟨_, x, gx, _, _, _, g1, g2⟩ | ⟨_, _, x, y, gx, gy, _, _, _, _, g1, g2⟩ | ⟨_, _, _, _, g1, g2⟩
    · rw [g1, g2]; exact ⟨fun x h => (by cases h), fun x h => (by cases h)⟩
    · rw [g1, g2]; exact ⟨fun z h => (by cases h; exact gx), fun x h => (by cases h)⟩
    · rw [g1, g2]; exact ⟨fun z h => (by cases h; omega), fun z h => (by cases h; exact gy)⟩
    · rw [g1, g2]; exact ⟨fun x h => (by cases h), fun x h => (by cases h)⟩
  refine ⟨T, s3, ⟨rfl, s2 29 a, s2, c0, ?_⟩, Inv_sc hI0 f12 (by rw [f2 11 (by decide)]; exact r1) f3⟩
  rw [f_X6_oaths, if_neg (fun g => (hi.mp g).elim q1 q2), m_eq_bind e3, ea]
  rcases (show a = 0 ∨ a = 1 ∨ a = 2 by omega) with rfl | rfl | rfl
  · rw [if_pos (show nI 0 = 0 by decide), x0, w0]
  · rw [if_neg (show ¬ nI 1 = 0 by decide), if_pos (show nI 1 = 1 by decide), x1, nm u bu.1, w1]
  · rw [if_neg (show ¬ nI 2 = 0 by decide), if_neg (show ¬ nI 2 = 1 by decide), x2, nm v bu.2, w2]
