/-- the house behind so many who went by a row -/
def j_wh (R : Nat → Int32) (h : px_H) : Nat → px_H
  | 0 => h
  | i + 1 => j_lv (j_wh R h i) (R i).toNatClampNeg
def j_wV (R : Nat → Int32) (h : px_H) (i : Nat) : Prop := ∃ q, R i = nI q ∧ q < h 4 0 ∧ ((j_wh R h i) 5 0).testBit q = true
def j_wA (R : Nat → Int32) (h : px_H) (C : Nat → List Int32) (i : Nat) : Nat := j_ag (j_wh R h i) C ((j_wh R h i) 5 0) (h 3) (R i).toNatClampNeg
def j_wv (R : Nat → Int32) (h : px_H) (C : Nat → List Int32) : Nat → Int32 × Int32 × Int32
  | 0 => (0, -1, -1)
  | i + 1 => (nI (j_cn (j_wA R h C i) (h 7 0)), j_fb (j_wA R h C i) (h 7 0), if nI (j_cn (j_wA R h C i) (h 7 0)) = 0 then (if (j_wv R h C i).2.2 = -1 then nI i else (j_wv R h C i).2.2) else (j_wv R h C i).2.2)
theorem j_wh_x (R : Nat → Int32) (h : px_H) (x : Nat) (h5 : x ≠ 5) (h8 : x ≠ 8) : ∀ i, (j_wh R h i) x = h x
  | 0 => rfl
  | i + 1 => by rw [j_wh, j_lv_x _ _ x h5 h8, j_wh_x R h x h5 h8 i]
theorem j_wh_w {R : Nat → Int32} {h : px_H} (hw : m_HW h) : ∀ i, m_HW (j_wh R h i)
  | 0 => hw
  | i + 1 => by rw [j_wh]; exact j_lv_w (j_wh_w hw i) _
theorem j_wV_dec (R : Nat → Int32) {h : px_H} (hw : m_HW h) (i : Nat) : j_wV R h i ∨ ((¬ j_wV R h i) ∧ (j_kn (h 4 0) (R i) = 0 ∨ ∃ q, R i = nI q ∧ q < h 4 0 ∧ ((j_wh R h i) 5 0).testBit q = false)) := by
  have hn := hw.1
  rcases j_kn_cases hn (R i) with q1 | ⟨q, hq, eq, _⟩
  · refine Or.inr ⟨fun ⟨q, e, hq, _⟩ => ?_, Or.inl q1⟩
    rw [e, m_kn1 hq hn] at q1; exact absurd q1 (by decide)
  · cases e : ((j_wh R h i) 5 0).testBit q
    · refine Or.inr ⟨fun ⟨q', e', hq', b⟩ => ?_, Or.inr ⟨q, eq, hq, e⟩⟩
      have := (nI_eq (by omega) (by omega)).mp (e'.symm.trans eq)
      rw [this, e] at b; cases b
    · exact Or.inl ⟨q, eq, hq, e⟩
theorem m_followC {T k z : Nat} {st : px_S} {h : px_H} {C : Nat → List Int32} {R : Nat → Int32} (hk : k < 4) (hz : z ≤ 40) (h2 : st (38 + 2 * k) 2 = nI z) (hR : st (39 + 2 * k) = R) (hw : m_HW h) (k0 : m_JS T st h C) : ∃ v st', f_X1_follow T (38 + 2 * k) st = some (v, st') ∧ m_fr m_TF st st' ∧ st' 11 1 = st 11 1 ∧ ((v = 0 ∧ (z = 0 ∨ ∃ t, t < z ∧ ¬ j_wV R h t)) ∨ (v = 1 ∧ 0 < z ∧ (∀ t, t < z → j_wV R h t) ∧ st' 30 0 = (j_wv R h C z).1 ∧ st' 30 1 = (j_wv R h C z).2.1 ∧ st' 30 2 = (j_wv R h C z).2.2)) := by
  have hn := hw.1
  rw [f_X1_follow]
  refine m_for (σ := px_S) (fun f i y => f_X1_follow_9 T (38 + 2 * k) f (nI i) y) z (fun i y => m_fr m_TF st y ∧ y 11 1 = st 11 1 ∧ m_JS T y (j_wh R h i) C ∧ (∀ t, t < i → j_wV R h t) ∧ y 30 2 = (j_wv R h C i).2.2 ∧ (0 < i → y 30 0 = (j_wv R h C i).1 ∧ y 30 1 = (j_wv R h C i).2.1)) (fun r => ∃ v st', r = some (v, st') ∧ m_fr m_TF st st' ∧ st' 11 1 = st 11 1 ∧ ((v = 0 ∧ (z = 0 ∨ ∃ t, t < z ∧ ¬ j_wV R h t)) ∨ (v = 1 ∧ 0 < z ∧ (∀ t, t < z → j_wV R h t) ∧ st' 30 0 = (j_wv R h C z).1 ∧ st' 30 1 = (j_wv R h C z).2.1 ∧ st' 30 2 = (j_wv R h C z).2.2))) ?_ ?_ z 0 (up st 30 2 (-1)) 1000 (by omega) ⟨m_fr_up (m_fr_refl _ _) (by simp [m_TF]) _ _, by rw [m_up_row _ _ _ _ (by decide)], m_JS_fr k0 (m_fr_up (m_fr_refl _ _) (by simp [m_jf]) _ _), fun t ht => by omega, by simp [m_up]; rfl, fun h0 => by omega⟩ (by omega)
  · intro f i y hi hy
    obtain ⟨y1, y2, y3, y4, y5, y6⟩ := hy
    have hwi := j_wh_w (R := R) hw i
    have e2 : y (38 + 2 * k) 2 = nI z := by rw [y1 _ (by simp [m_TF]; omega)]; exact h2
    have eR : y (38 + 2 * k + 1) i = R i := by rw [show 38 + 2 * k + 1 = 39 + 2 * k by omega, y1 _ (by simp [m_TF]; omega), hR]
    have n4 : (j_wh R h i) 4 0 = h 4 0 := by rw [j_wh_x R h 4 (by decide) (by decide) i]
    have n3 : (j_wh R h i) 3 = h 3 := j_wh_x R h 3 (by decide) (by decide) i
    have n7 : (j_wh R h i) 7 0 = h 7 0 := by rw [j_wh_x R h 7 (by decide) (by decide) i]
    have k4 : y 12 4 = nI (h 4 0) := by rw [y3.1.1, n4]
    rw [f_X1_follow_9, e2, if_pos (nI_lt hi (by omega)), if_pos (m_px (by omega) (by omega)), nI_clamp (by omega), eR]
    rcases j_wV_dec R hw i with hV | ⟨hV, hno⟩
    · left
      obtain ⟨q, eq, hq, hb⟩ := hV
      have hq7 : q < 7 := by omega
      obtain ⟨s1, a1, a2, a3, a4, a5, _⟩ := m_lookC y3 hwi hwi.2.1
      have cq := m_CQ_of hwi a4 a3
      rw [n3, n7] at cq
      have eA : j_ag (j_wh R h i) C ((j_wh R h i) 5 0) (h 3) q = j_wA R h C i := by unfold j_wA; rw [eq, nI_clamp (by omega)]
      have b1 := m_baC (T := T) cq hq7
      rw [eA] at b1
      rw [eq, m_eq_bind (m_inC hwi (by rw [k4, n4]) y3.1.2.1 (by rw [n4]; exact hq)), if_pos hb, if_neg (by decide), y3.1.2.1, m_eq_bind a1, m_eq_bind b1]
      obtain ⟨s2, es2⟩ : ∃ s2, s2 = up s1 30 0 (nI (j_cn (j_wA R h C i) (h 7 0))) := ⟨_, rfl⟩
      have fr2 : m_fr m_jf s1 s2 := by rw [es2]; exact m_fr_up (m_fr_refl _ _) (by simp [m_jf]) _ _
      have cq2 : m_CQ s2 (j_wh R h i) C ((j_wh R h i) 5 0) (h 3) (h 7 0) := by
        obtain ⟨⟨u1, u2⟩, u3, u4, u5⟩ := cq
        have nr : ∀ a, a ≠ 30 → s2 a = s1 a := fun a ha => by rw [es2, m_up_row _ _ _ _ ha]
        exact ⟨⟨by rw [nr 11 (by omega)]; exact u1, fun q hq => by rw [nr 22 (by omega), nr 23 (by omega)]; exact u2 q hq⟩, fun q hq => by rw [nr 16 (by omega)]; exact u3 q hq, by rw [nr 12 (by omega)]; exact u4, u5⟩
      have b2 := m_fbC (T := T) cq2 hq7
      rw [eA] at b2
      rw [← es2, m_eq_bind b2]
      obtain ⟨s3, es3⟩ : ∃ s3, s3 = up s2 30 1 (j_fb (j_wA R h C i) (h 7 0)) := ⟨_, rfl⟩
      rw [← es3]
      have v30 : s3 30 0 = nI (j_cn (j_wA R h C i) (h 7 0)) := by rw [es3, es2]; simp [m_up]
      have v31 : s3 30 1 = j_fb (j_wA R h C i) (h 7 0) := by rw [es3]; simp [m_up]
      have v32 : s3 30 2 = (j_wv R h C i).2.2 := by rw [es3, es2, m_up, if_pos rfl, if_neg (by decide), m_up, if_pos rfl, if_neg (by decide), a2 30 (by decide)]; exact y5
      have k3 : m_JS T s3 (j_wh R h i) C := m_JS_fr (m_JS_fr a4 fr2) (by rw [es3]; exact m_fr_up (m_fr_refl _ _) (by simp [m_jf]) _ _)
      have f3 : m_fr m_TF st s3 := m_fr_tr y1 (m_fr_tr (m_TFl a2) (m_fr_tr (m_TFj fr2) (by rw [es3]; exact m_fr_up (m_fr_refl _ _) (by simp [m_TF]) _ _)))
      have r11 : s3 11 1 = st 11 1 := by rw [es3, m_up_row _ _ _ _ (by decide), es2, m_up_row _ _ _ _ (by decide), a5 1 (by decide)]; exact y2
      -- leave and a day
      have fin : ∀ s4 : px_S, m_JS T s4 (j_wh R h i) C → m_fr m_TF st s4 → s4 11 1 = st 11 1 → s4 30 0 = (j_wv R h C (i + 1)).1 → s4 30 1 = (j_wv R h C (i + 1)).2.1 → s4 30 2 = (j_wv R h C (i + 1)).2.2 → ∃ s', (m_fr m_TF st s' ∧ s' 11 1 = st 11 1 ∧ m_JS T s' (j_wh R h (i + 1)) C ∧ (∀ t, t < i + 1 → j_wV R h t) ∧ s' 30 2 = (j_wv R h C (i + 1)).2.2 ∧ (0 < i + 1 → s' 30 0 = (j_wv R h C (i + 1)).1 ∧ s' 30 1 = (j_wv R h C (i + 1)).2.1)) ∧ f_X1_follow_96 T (38 + 2 * k) (f_X1_follow_9 T (38 + 2 * k) f) (nI i) (nI q) s4 = f_X1_follow_9 T (38 + 2 * k) f (nI (i + 1)) s' := by
        intro s4 k4' f4 r4 w0 w1 w2
        obtain ⟨t1, t2, x1, x2, x3, x4⟩ := m_lvC (T := T) hwi k4' hq7
        refine ⟨t2, ⟨m_fr_tr f4 (m_fr_mono x4 (by intro a ha; simp [m_TF] at ha ⊢; omega)), by rw [x4 11 (by decide)]; exact r4, ?_, fun t ht => ?_, by rw [x4 30 (by decide)]; exact w2, fun _ => by rw [x4 30 (by decide)]; exact ⟨w0, w1⟩⟩, by rw [f_X1_follow_96, m_eq_bind x1, m_eq_bind x2, nI_1]⟩
        · rw [j_wh, eq, nI_clamp (by omega)]; exact x3
        · rcases Nat.lt_or_ge t i with hl | hl
          · exact y4 t hl
          · rw [show t = i by omega]; exact ⟨q, eq, hq, hb⟩
      by_cases c0 : nI (j_cn (j_wA R h C i) (h 7 0)) = 0
      · rw [if_pos (by rw [v30]; exact c0)]
        by_cases c1 : (j_wv R h C i).2.2 = -1
        · rw [if_pos (by rw [v32]; exact c1)]
          have nr : ∀ a, a ≠ 30 → (up s3 30 2 (nI i)) a = s3 a := fun a ha => m_up_row _ _ _ _ ha
          exact fin _ (m_JS_fr k3 (m_fr_up (m_fr_refl _ _) (by simp [m_jf]) _ _)) (m_fr_up f3 (by simp [m_TF]) _ _) (by rw [nr 11 (by omega)]; exact r11) (by rw [m_up, if_pos rfl, if_neg (by decide), v30]; rfl) (by rw [m_up, if_pos rfl, if_neg (by decide), v31]; rfl) (by rw [m_up, if_pos rfl, if_pos rfl, j_wv]; simp only [if_pos c0, if_pos c1])
        · rw [if_neg (by rw [v32]; exact c1)]
          exact fin s3 k3 f3 r11 (by rw [v30]; rfl) (by rw [v31]; rfl) (by rw [v32]; simp only [j_wv, if_pos c0, if_neg c1])
      · rw [if_neg (by rw [v30]; exact c0)]
        exact fin s3 k3 f3 r11 (by rw [v30]; rfl) (by rw [v31]; rfl) (by rw [v32]; simp only [j_wv, if_neg c0])
    · right
      have e0 : f_X0_isIn T y 12 (R i) = some 0 := by
        rcases hno with q1 | ⟨q, eq, hq, hb⟩
        · exact m_inC0 k4 q1
        · rw [eq, m_inC hwi (by rw [k4, n4]) y3.1.2.1 (by rw [n4]; exact hq), hb]; rfl
      rw [m_eq_bind e0, if_pos rfl]
      exact ⟨0, y, rfl, y1, y2, Or.inl ⟨rfl, Or.inr ⟨i, hi, hV⟩⟩⟩
  · intro f y hy
    obtain ⟨y1, y2, y3, y4, y5, y6⟩ := hy
    have e2 : y (38 + 2 * k) 2 = nI z := by rw [y1 _ (by simp [m_TF]; omega)]; exact h2
    rw [f_X1_follow_9, e2, if_neg (nI_nlt (Nat.le_refl _) (by omega))]
    rcases Nat.eq_zero_or_pos z with h0 | h0
    · rw [if_neg (by rw [h0]; decide)]
      exact ⟨0, y, rfl, y1, y2, Or.inl ⟨rfl, Or.inl h0⟩⟩
    · rw [if_pos (by rw [show (0 : Int32) = nI 0 from rfl]; exact nI_lt h0 (by omega))]
      exact ⟨1, y, rfl, y1, y2, Or.inr ⟨rfl, h0, y4, (y6 h0).1, (y6 h0).2, y5⟩⟩
theorem j_fb_of {a k : Nat} {v : Int32} (hb : (v = -1 ∧ ∀ b, b < 128 → j_g a k b = false) ∨ ∃ b, b < 128 ∧ v = nI b ∧ j_g a k b = true ∧ ∀ c, c < b → j_g a k c = false) : v = j_fb a k := by
  unfold j_fb
  cases e : j_lo a k with
  | none =>
    rcases hb with ⟨h1, _⟩ | ⟨b, h1, _, h3, _⟩
    · exact h1
    · rw [j_lo_none e b h1] at h3; cases h3
  | some d =>
    obtain ⟨d1, d2, d3⟩ := j_lo_some e
    rcases hb with ⟨_, h2⟩ | ⟨b, h1, h2, h3, h4⟩
    · rw [h2 d d1] at d2; cases d2
    · have : b = d := by
        rcases Nat.lt_trichotomy b d with g | g | g
        · rw [d3 b g] at h3; cases h3
        · exact g
        · rw [h4 d g] at d2; cases d2
      rw [h2, this]
/-- the reference counts the bands against one -/
theorem m_who181 {T : Nat} {st : px_S} {h : px_H} {C : Nat → List Int32} {K : Int32 → Int32 → Int32 → Int32 → Int32 → Int32 → Int32 → Int32 → px_S → Option (Int32 × px_S)} (hw : m_HW h) (rq : m_RQ st h C (h 5 0) (h 3) (h 7 0)) (e12 : st 48 12 = nI (h 5 0)) {q : Nat} (hq : q < 7) (y1 y2 y4 y5 y8 y9 : Int32) : f_X6_who_181 T K 1000 y1 y2 y4 y5 0 (-1) y8 y9 (nI q) 1 st = (if nI (j_cn (j_ag h C (h 5 0) (h 3) q) (h 7 0)) = 0 then (if y8 = (-1) then (f_X6_who_260 T K y1 y2 y4 y5 (nI (j_cn (j_ag h C (h 5 0) (h 3) q) (h 7 0))) (j_fb (j_ag h C (h 5 0) (h 3) q) (h 7 0)) y9 (nI q) y9 st) else (f_X6_who_258 T K y1 y2 y4 y5 (nI (j_cn (j_ag h C (h 5 0) (h 3) q) (h 7 0))) (j_fb (j_ag h C (h 5 0) (h 3) q) (h 7 0)) y8 y9 (nI q) st)) else (f_X6_who_258 T K y1 y2 y4 y5 (nI (j_cn (j_ag h C (h 5 0) (h 3) q) (h 7 0))) (j_fb (j_ag h C (h 5 0) (h 3) q) (h 7 0)) y8 y9 (nI q) st)) := by
  have hn := hw.1
  have h128 := m_pow7 hn
  have hpos : 1 ≤ 2 ^ h 4 0 := Nat.two_pow_pos _
  have hk := hw.2.2.2.1
  obtain ⟨A, eA⟩ : ∃ A, A = j_ag h C (h 5 0) (h 3) q := ⟨_, rfl⟩
  have hA : A < 2 ^ h 4 0 := by rw [eA]; exact j_ag_sub hn hw.2.1
  have tail : ∀ b, b < 128 → 2 ^ h 4 0 ≤ b → j_g A (h 7 0) b = false := fun b hb hle => by
    cases e : j_g A (h 7 0) b
    · rfl
    · have := j_g_lt hn hA hb e; omega
  rw [← eA]
  refine m_for (σ := Int32 × Int32) (fun f i z => f_X6_who_181 T K f y1 y2 y4 y5 z.1 z.2 y8 y9 (nI q) (nI i) st) (2 ^ h 4 0) (fun i z => z.1 = nI (j_su (fun b => (j_g A (h 7 0) b).toNat) i) ∧ ((z.2 = -1 ∧ ∀ b, b < i → j_g A (h 7 0) b = false) ∨ ∃ b, b < i ∧ b < 128 ∧ z.2 = nI b ∧ j_g A (h 7 0) b = true ∧ ∀ c, c < b → j_g A (h 7 0) c = false)) (fun r => r = _) ?_ ?_ (2 ^ h 4 0 - 1) 1 (0, -1) 1000 (by omega) ⟨by simp [j_su, j_g_0 hk.1]; rfl, Or.inl ⟨rfl, fun b hb => by rw [show b = 0 by omega]; exact j_g_0 hk.1⟩⟩ (by omega)
  · intro f i z hi hz
    obtain ⟨z1, z2⟩ := z
    obtain ⟨a1, a2⟩ := hz
    simp only at a1 a2 ⊢
    left
    rw [f_X6_who_181, rq.2.2.2.2.2.2.1, b_sh1 _ (by omega), if_pos (nI_lt hi (by omega)), e12, m_bandR rq hw hw.2.1 (by omega) hq, ← eA, nI_1]
    cases e : j_g A (h 7 0) i with
    | false =>
      rw [if_neg (by decide)]
      refine ⟨(z1, z2), ⟨by rw [j_su_s, e]; exact a1, ?_⟩, rfl⟩
      rcases a2 with ⟨b1, b2⟩ | ⟨b, b1, b2, b3, b4, b5⟩
      · refine Or.inl ⟨b1, fun b hb => ?_⟩
        rcases Nat.lt_or_ge b i with hl | hl
        · exact b2 b hl
        · rw [show b = i by omega]; exact e
      · exact Or.inr ⟨b, by omega, b2, b3, b4, b5⟩
    | true =>
      rw [if_pos rfl]
      rcases a2 with ⟨b1, b2⟩ | ⟨b, b1, b2, b3, b4, b5⟩
      · rw [if_pos b1]
        exact ⟨(z1 + 1, nI i), ⟨by simp only; rw [j_su_s, e, a1, nI_1]; rfl, Or.inr ⟨i, by omega, by omega, rfl, e, b2⟩⟩, rfl⟩
      · rw [if_neg (by rw [b3]; exact m_n1 (by omega))]
        exact ⟨(z1 + 1, z2), ⟨by simp only; rw [j_su_s, e, a1, nI_1]; rfl, Or.inr ⟨b, by omega, b2, b3, b4, b5⟩⟩, rfl⟩
  · intro f z hz
    obtain ⟨z1, z2⟩ := z
    obtain ⟨a1, a2⟩ := hz
    simp only at a1 a2 ⊢
    have e1 : z1 = nI (j_cn A (h 7 0)) := by
      rw [a1, j_cn]
      have := j_su_tail (f := fun b => (j_g A (h 7 0) b).toNat) (N := 2 ^ h 4 0) (128 - 2 ^ h 4 0) (fun i h1 h2 => by rw [tail i (by omega) h1]; rfl)
      rw [show 2 ^ h 4 0 + (128 - 2 ^ h 4 0) = 128 by omega] at this
      rw [this]
    have e2 : z2 = j_fb A (h 7 0) := by
      refine j_fb_of ?_
      rcases a2 with ⟨b1, b2⟩ | ⟨b, b1, b2, b3, b4, b5⟩
      · refine Or.inl ⟨b1, fun b hb => ?_⟩
        rcases Nat.lt_or_ge b (2 ^ h 4 0) with hl | hl
        · exact b2 b hl
        · exact tail b hb hl
      · exact Or.inr ⟨b, b2, b3, b4, b5⟩
    rw [f_X6_who_181, rq.2.2.2.2.2.2.1, b_sh1 _ (by omega), if_neg (nI_nlt (Nat.le_refl _) (by omega)), e1, e2]
theorem m_who139 {T k z : Nat} {st : px_S} {h : px_H} {C : Nat → List Int32} {R : Nat → Int32} (hk : k < 4) (hz : z ≤ 40) (h0 : 0 < z) (h68 : st 68 k = nI z) (hR : ∀ i, i < z → st 69 (40 * k + i) = R i) (hw : m_HW h) (k0 : m_RJ st h C) (hV : ∀ t, t < z → j_wV R h t) (y2 : Int32) : ∃ st', f_X6_who_139 T 1000 (nI k) y2 (st 48 12) (st 48 15) 0 (-1) (-1) 0 st = some (if y2 = 0 then (j_wv R h C z).1 else if y2 = 1 then (j_wv R h C z).2.1 else (j_wv R h C z).2.2, st') ∧ m_sc st st' := by
  have hn := hw.1
  refine m_for (σ := Int32 × Int32 × Int32 × px_S) (fun f i y => f_X6_who_139 T f (nI k) y2 (st 48 12) (st 48 15) y.1 y.2.1 y.2.2.1 (nI i) y.2.2.2) z (fun i y => (∀ a, a ≠ 48 → ¬ (56 ≤ a ∧ a ≤ 62) → y.2.2.2 a = st a) ∧ (∀ j, ¬ (j = 12 ∨ j = 15 ∨ 16 ≤ j ∧ j ≤ 47) → y.2.2.2 48 j = st 48 j) ∧ m_RJ y.2.2.2 (j_wh R h i) C ∧ y.1 = (j_wv R h C i).1 ∧ y.2.1 = (j_wv R h C i).2.1 ∧ y.2.2.1 = (j_wv R h C i).2.2) (fun r => ∃ st', r = some (if y2 = 0 then (j_wv R h C z).1 else if y2 = 1 then (j_wv R h C z).2.1 else (j_wv R h C z).2.2, st') ∧ m_sc st st') ?_ ?_ z 0 (0, -1, -1, st) 1000 (by omega) ⟨fun _ _ _ => rfl, fun _ _ => rfl, k0, rfl, rfl, rfl⟩ (by omega)
  · intro f i y hi hy
    obtain ⟨v6, v7, v8, y⟩ := y
    obtain ⟨a1, a2, a3, a4, a5, a6⟩ := hy
    simp only at a1 a2 a3 a4 a5 a6 ⊢
    left
    have hwi := j_wh_w (R := R) hw i
    have n3 : (j_wh R h i) 3 = h 3 := j_wh_x R h 3 (by decide) (by decide) i
    have n7 : (j_wh R h i) 7 0 = h 7 0 := by rw [j_wh_x R h 7 (by decide) (by decide) i]
    obtain ⟨q, eq, hq, hb⟩ := hV i hi
    have hq7 : q < 7 := by omega
    obtain ⟨s1, b1, b2, b3, _⟩ := m_looksR (T := T) a3 hwi hwi.2.1
    have k1 := m_RJ_sc a3 b2
    have rq := m_RQ_of k1 hwi b3
    have e68 : y 68 k = nI z := by rw [a1 68 (by omega) (by omega)]; exact h68
    have e69 : y 69 (40 * k + i) = nI q := by rw [a1 69 (by omega) (by omega), hR i hi, eq]
    have eA : j_ag (j_wh R h i) C ((j_wh R h i) 5 0) ((j_wh R h i) 3) q = j_wA R h C i := by unfold j_wA; rw [eq, nI_clamp (by omega), n3]
    have w181 := m_who181 (T := T) (K := f_X6_who_139 T f) hwi rq k1.1.2.1 hq7 (nI k) y2 (st 48 12) (st 48 15) v8 (nI i)
    rw [eA, n7] at w181
    rw [f_X6_who_139, if_pos (m_px hk (by omega)), nI_clamp (n := k) (by omega), e68, if_pos (nI_lt hi (by omega)), m_ix40, if_pos (m_px (by omega) (by omega)), nI_clamp (by omega), e69, a3.1.2.1, m_eq_bind b1, w181]
    obtain ⟨x1, x2, x3⟩ := m_lvR (T := T) hwi k1 hq7
    have fin : ∀ w : Int32, w = (j_wv R h C (i + 1)).2.2 → ∃ s' : Int32 × Int32 × Int32 × px_S, ((∀ a, a ≠ 48 → ¬ (56 ≤ a ∧ a ≤ 62) → s'.2.2.2 a = st a) ∧ (∀ j, ¬ (j = 12 ∨ j = 15 ∨ 16 ≤ j ∧ j ≤ 47) → s'.2.2.2 48 j = st 48 j) ∧ m_RJ s'.2.2.2 (j_wh R h (i + 1)) C ∧ s'.1 = (j_wv R h C (i + 1)).1 ∧ s'.2.1 = (j_wv R h C (i + 1)).2.1 ∧ s'.2.2.1 = (j_wv R h C (i + 1)).2.2) ∧ f_X6_who_260 T (f_X6_who_139 T f) (nI k) y2 (st 48 12) (st 48 15) (nI (j_cn (j_wA R h C i) (h 7 0))) (j_fb (j_wA R h C i) (h 7 0)) (nI i) (nI q) w s1 = f_X6_who_139 T f (nI k) y2 (st 48 12) (st 48 15) s'.1 s'.2.1 s'.2.2.1 (nI (i + 1)) s'.2.2.2 := by
      intro w hw'
      refine ⟨(nI (j_cn (j_wA R h C i) (h 7 0)), j_fb (j_wA R h C i) (h 7 0), w, up (up s1 48 12 (nI (m_dif ((j_wh R h i) 5 0) (2 ^ q)))) 48 15 (nI (j_dm ((j_wh R h i) 8 0)))), ⟨fun a ha hb => ?_, fun j hj => ?_, ?_, rfl, rfl, hw'⟩, by rw [f_X6_who_260, x1, m_eq_bind x2, nI_1]⟩
      · simp only
        rw [m_up_row _ _ _ _ ha, m_up_row _ _ _ _ ha, b2.1 a ha hb]; exact a1 a ha hb
      · simp only
        rw [m_up, if_pos rfl, if_neg (by omega), m_up, if_pos rfl, if_neg (by omega), b2.2 j (by omega)]; exact a2 j hj
      · simp only
        rw [j_wh, eq, nI_clamp (by omega)]; exact x3
    by_cases c0 : nI (j_cn (j_wA R h C i) (h 7 0)) = 0
    · rw [if_pos c0]
      by_cases c1 : v8 = -1
      · rw [if_pos c1]
        refine fin (nI i) ?_
        rw [a6] at c1
        simp only [j_wv, if_pos c0, if_pos c1]
      · rw [if_neg c1, f_X6_who_258]
        refine fin v8 ?_
        rw [a6] at c1 ⊢
        simp only [j_wv, if_pos c0, if_neg c1]
    · rw [if_neg c0, f_X6_who_258]
      refine fin v8 ?_
      rw [a6]
      simp only [j_wv, if_neg c0]
  · intro f y hy
    obtain ⟨v6, v7, v8, y⟩ := y
    obtain ⟨a1, a2, a3, a4, a5, a6⟩ := hy
    simp only at a1 a2 a3 a4 a5 a6 ⊢
    have e68 : y 68 k = nI z := by rw [a1 68 (by omega) (by omega)]; exact h68
    have hsc : m_sc st (up (up y 48 12 (st 48 12)) 48 15 (st 48 15)) := by
      refine ⟨fun a ha hb => ?_, fun j hj => ?_⟩
      · rw [m_up_row _ _ _ _ ha, m_up_row _ _ _ _ ha]; exact a1 a ha hb
      · rw [m_up, if_pos rfl]
        by_cases b1 : j = 15
        · rw [if_pos b1, b1]
        · rw [if_neg b1, m_up, if_pos rfl]
          by_cases b2 : j = 12
          · rw [if_pos b2, b2]
          · rw [if_neg b2]; exact a2 j (by omega)
    rw [f_X6_who_139, if_pos (m_px hk (by omega)), nI_clamp (by omega), e68, if_neg (nI_nlt (Nat.le_refl _) (by omega)), a4, a5, a6]
    by_cases c0 : y2 = 0
    · rw [if_pos c0, if_pos c0]; exact ⟨_, rfl, hsc⟩
    · rw [if_neg c0, if_neg c0]
      by_cases c1 : y2 = 1
      · rw [if_pos c1, if_pos c1]; exact ⟨_, rfl, hsc⟩
      · rw [if_neg c1, if_neg c1]; exact ⟨_, rfl, hsc⟩
theorem m_who42 {T k z : Nat} {st : px_S} {h : px_H} {C : Nat → List Int32} {R : Nat → Int32} (hk : k < 4) (hz : z ≤ 40) (h68 : st 68 k = nI z) (hR : ∀ i, i < z → st 69 (40 * k + i) = R i) (hw : m_HW h) (k0 : m_RJ st h C) (y2 : Int32) : ∃ v st', f_X6_who_42 T 1000 (nI k) y2 (st 48 12) 0 st = some (v, st') ∧ m_sc st st' ∧ ((v = -2 ∧ (z = 0 ∨ ∃ t, t < z ∧ ¬ j_wV R h t)) ∨ (0 < z ∧ (∀ t, t < z → j_wV R h t) ∧ v = (if y2 = 0 then (j_wv R h C z).1 else if y2 = 1 then (j_wv R h C z).2.1 else (j_wv R h C z).2.2))) := by
  have hn := hw.1
  refine m_for (σ := Int32) (fun f i y => f_X6_who_42 T f (nI k) y2 y (nI i) st) z (fun i y => y = nI ((j_wh R h i) 5 0) ∧ ∀ t, t < i → j_wV R h t) (fun r => ∃ v st', r = some (v, st') ∧ m_sc st st' ∧ ((v = -2 ∧ (z = 0 ∨ ∃ t, t < z ∧ ¬ j_wV R h t)) ∨ (0 < z ∧ (∀ t, t < z → j_wV R h t) ∧ v = (if y2 = 0 then (j_wv R h C z).1 else if y2 = 1 then (j_wv R h C z).2.1 else (j_wv R h C z).2.2)))) ?_ ?_ z 0 (st 48 12) 1000 (by omega) ⟨k0.1.2.1, fun t ht => by omega⟩ (by omega)
  · intro f i y hi hy
    obtain ⟨a1, a2⟩ := hy
    have hwi := j_wh_w (R := R) hw i
    have n4 : (j_wh R h i) 4 0 = h 4 0 := by rw [j_wh_x R h 4 (by decide) (by decide) i]
    have hs7 : (j_wh R h i) 5 0 < 128 := Nat.lt_of_lt_of_le hwi.2.1 (m_pow7 hwi.1)
    have hk4 : px_in (nI k) 4 := m_px hk (by omega)
    rw [f_X6_who_42, if_pos hk4, if_pos hk4, nI_clamp (n := k) (by omega), h68, if_pos (nI_lt hi (by omega)), m_ix40, if_pos (m_px (by omega) (by omega)), nI_clamp (by omega), hR i hi, m_eq_bind (m_knR hn k0.1.1 (R i)), a1]
    rcases j_wV_dec R hw i with hV | ⟨hV, hno⟩
    · left
      obtain ⟨q, eq, hq, hb⟩ := hV
      rw [eq, m_kn1 hq hn, if_neg (by decide), b_shr _ hs7 q (by omega), if_neg (by rw [if_pos hb]; decide), b_sh1 q (by omega), b_dif _ hs7 _ (m_bit2 q (by omega)), nI_1]
      refine ⟨_, ⟨?_, fun t ht => ?_⟩, rfl⟩
      · rw [j_wh, j_lv_5, eq, nI_clamp (by omega)]
      · rcases Nat.lt_or_ge t i with hl | hl
        · exact a2 t hl
        · rw [show t = i by omega]; exact ⟨q, eq, hq, hb⟩
    · right
      refine ⟨-2, st, ?_, m_sc_refl _, Or.inl ⟨rfl, Or.inr ⟨i, hi, hV⟩⟩⟩
      rcases hno with q1 | ⟨q, eq, hq, hb⟩
      · rw [if_pos q1]
      · rw [eq, m_kn1 hq hn, if_neg (by decide), b_shr _ hs7 q (by omega), if_pos (by rw [hb]; rfl)]
  · intro f y hy
    obtain ⟨a1, a2⟩ := hy
    have hk4 : px_in (nI k) 4 := m_px hk (by omega)
    rw [f_X6_who_42, if_pos hk4, if_pos hk4, nI_clamp (n := k) (by omega), h68, if_neg (nI_nlt (Nat.le_refl _) (by omega))]
    rcases Nat.eq_zero_or_pos z with h0 | h0
    · rw [if_pos (by rw [h0]; rfl)]
      exact ⟨-2, st, rfl, m_sc_refl _, Or.inl ⟨rfl, Or.inl h0⟩⟩
    · rw [if_neg (nI_ne0 h0 (by omega))]
      obtain ⟨st', e1, f1⟩ := m_who139 (T := T) hk hz h0 h68 hR hw k0 a2 y2
      exact ⟨_, st', e1, f1, Or.inr ⟨h0, a2, rfl⟩⟩
theorem op_who {T : Nat} {st : px_S} (ag : px_ag) (hI : Inv T st) : ∃ T2 st2, px_op18 T st ag T2 st2 ∧ Inv T2 st2 := by
  have hI0 := hI
  obtain ⟨h1, h2, h3, h4, h5, h, hh, him⟩ := hI
  have hh0 := hh
  obtain ⟨hw, h9, hc, hr⟩ := hh
  have bad : ∀ v, f_X5_who (T + 2) (ag 1) (ag 2) st = some (v, st) → f_X6_who T (ag 1) (ag 2) st = some (v, st) → ∃ T2 st2, px_op18 T st ag T2 st2 ∧ Inv T2 st2 := fun v e1 e2 => ⟨T, st, ⟨rfl, v, st, e1, e2⟩, hI0⟩
  rcases m_sh_cases (ag 1) with q1 | ⟨k, hk, ek, q1⟩
  · exact bad _ (by rw [f_X5_who, if_pos q1]) (by rw [f_X6_who, m_eq_bind (m_shR _), if_pos q1])
  have q1' : ¬ p_X5_isSheet (ag 1) = 0 := by rw [q1]; decide
  have hi := m_i (ag 2) 0 2 (A := 0) (B := 2) rfl rfl
  by_cases q2 : ag 2 < 0
  · exact bad _ (by rw [f_X5_who, if_neg q1', if_pos q2]) (by rw [f_X6_who, m_eq_bind (m_shR _), if_neg q1', if_pos (hi.mpr (Or.inl q2))])
  by_cases q3 : 2 < ag 2
  · exact bad _ (by rw [f_X5_who, if_neg q1', if_neg q2, if_pos q3]) (by rw [f_X6_who, m_eq_bind (m_shR _), if_neg q1', if_pos (hi.mpr (Or.inr q3))])
  have q23 : ¬ p_X6_in (ag 2).toInt64 0 2 = 0 := fun g => (hi.mp g).elim q2 q3
  have hin : px_in (nI k) 4 := m_px hk (by omega)
  have ck : (nI k).toNatClampNeg = k := nI_clamp (by omega)
  have c0 : f_X5_who (T + 2) (ag 1) (ag 2) st = ((f_X3_isMissing (T + 2) st (38 + 2 * k)).bind fun b6 => (if b6 = 0 then ((f_X5_thinking (T + 2) st).bind fun b8 => ((f_X1_follow (T + 2) (38 + 2 * k) b8).bind fun b9 => (if b9.1 = 0 then (some ((-2), b9.2)) else (if px_in (ag 2) 3 then (some ((b9.2 30 (ag 2).toNatClampNeg), b9.2)) else none)))) else (some ((-11), st)))) := by
    rw [f_X5_who, if_neg q1', if_neg q2, if_neg q3, ek, if_pos hin, ck]
  have r0 : ∀ t : px_S, f_X6_who T (ag 1) (ag 2) t = (if (t 66 k) = 0 then (some ((-11), t)) else (f_X6_who_42 T 1000 (nI k) (ag 2) (t 48 12) 0 t)) := fun t => by
    rw [f_X6_who, m_eq_bind (m_shR _), if_neg q1', if_neg q23, ek, if_pos hin, ck]
  rcases m_missC (T := T + 2) (h5 k hk) with ⟨m1, m2⟩ | ⟨so, z, hso, hz, m1, m2, m3, m4, m5, m6, m7⟩
  · exact bad (-11) (by rw [c0, m_eq_bind m1, if_neg (by decide)]) (by rw [r0, if_pos m2])
  obtain ⟨C, s0, e0, f0, k0, j0, rr0, q0⟩ := m_thinkC h1 h3 hh0
  have s0r : ∀ a, ¬ (11 ≤ a ∧ a ≤ 16) → s0 a = st a := fun a ha => f0 a (by simp [m_tf]; omega)
  obtain ⟨v, s1, e1, f1, g1, d1⟩ := m_followC (T := T + 2) (st := s0) (R := st (39 + 2 * k)) hk hz (by rw [s0r _ (by omega)]; exact m3) (s0r _ (by omega)) hw k0
  have f01 : m_fr m_TF st s1 := m_fr_tr (m_TFt f0) f1
  have row : ∀ a, ¬ (11 ≤ a ∧ a ≤ 30) → s1 a = st a := fun a ha => f01 a (by simp [m_TF]; omega)
  have jr : m_RJ s1 h C := m_RJ_fr q0 (fun a h1 h2 => row a (by omega))
  obtain ⟨w, s2, e2, f2, d2⟩ := m_who42 (T := T) (st := s1) (R := st (39 + 2 * k)) hk hz (by rw [row 68 (by omega)]; exact m6) (fun i hi => by rw [row 69 (by omega)]; exact (m7 i hi).symm) hw jr (ag 2)
  have c6 : f_X6_who T (ag 1) (ag 2) s1 = some (w, s2) := by
    rw [r0, if_neg (by rw [row 66 (by omega), m4]; decide)]; exact e2
  refine ⟨T, s2, ⟨rfl, w, s1, ?_, c6⟩, Inv_sc hI0 f01 (by rw [g1]; exact rr0) f2⟩
  rw [c0, m_eq_bind m1, if_pos rfl, m_eq_bind e0, m_eq_bind e1]
  rcases d1 with ⟨v0, v1⟩ | ⟨v0, v1, v2, v3, v4, v5⟩
  · simp only [v0, if_true]
    rcases d2 with ⟨w0, _⟩ | ⟨w0, w1, _⟩
    · rw [w0]
    · rcases v1 with v1 | ⟨t, ht, v1⟩
      · omega
      · exact absurd (w1 t ht) v1
  · simp only [v0, show ¬ ((1 : Int32) = 0) by decide, if_false]
    rcases d2 with ⟨w0, w1⟩ | ⟨w0, w1, w2⟩
    · rcases w1 with w1 | ⟨t, ht, w1⟩
      · omega
      · exact absurd (v2 t ht) w1
    · obtain ⟨a, ha, ea⟩ := m_rng' (n := 2) (by omega) q2 q3
      rw [w2, ea, if_pos (m_px (by omega) (by omega)), nI_clamp (by omega)]
      rcases (show a = 0 ∨ a = 1 ∨ a = 2 by omega) with rfl | rfl | rfl
      · rw [if_pos (show nI 0 = 0 by decide), v3]
      · rw [if_neg (show ¬ nI 1 = 0 by decide), if_pos (show nI 1 = 1 by decide), v4]
      · rw [if_neg (show ¬ nI 2 = 0 by decide), if_neg (show ¬ nI 2 = 1 by decide), v5]
