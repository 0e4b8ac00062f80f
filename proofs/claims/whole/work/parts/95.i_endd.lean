section
variable {T : Nat} {h : px_H} {C : Nat → List Int32}
def m_f6 : List Nat := [19, 20, 24, 25, 26]
theorem m_f26 {s t : px_S} (f : m_fr m_f2 s t) : m_fr m_f6 s t := m_fr_mono f (by intro a ha; simp [m_f2, m_f6] at ha ⊢; omega)
theorem m_f6j {s t : px_S} (f : m_fr m_f6 s t) : m_fr m_jf s t := m_fr_mono f (by intro a ha; simp [m_f6, m_jf] at ha ⊢; omega)
/-- the class's table of ends is right below X -/
def m_CE (h : px_H) (C : Nat → List Int32) (S X : Nat) (z : px_S) : Prop := ∃ L W, j_ET h C S X L W ∧ j_tb h C S X L W (z 25) (z 26) (z 24)
theorem j_ET_next {S y l : Nat} {L : Nat → Nat} {W : Nat → Int32} {w : Int32} (hy : y < 128) (et : j_ET h C S y L W) (hf : ∃ fb, j_F1 (fun b q => j_g (j_fs h C L y q) (h 7 0) b) 128 7 fb w) (hl : (w = -1 ∧ l = y) ∨ ∃ q, q < 7 ∧ y.testBit q = true ∧ w = nI q ∧ l = L (m_dif y (2 ^ q))) : j_ET h C S (y + 1) (fun z => if z = y then l else L z) (fun z => if z = y then w else W z) := by
  intro z hz hzS
  rcases Nat.lt_or_ge z y with hlt | hge
  · refine j_EN_congr (by omega) (fun u hu => ?_) ?_ (et z hlt hzS)
    · show L u = if u = y then l else L u
      rw [if_neg (by omega)]
    · show W z = if z = y then w else W z
      rw [if_neg (by omega)]
  · have e : z = y := by omega
    subst e
    have ew : (if z = z then w else W z) = w := if_pos rfl
    have el : (if z = z then l else L z) = l := if_pos rfl
    have ef : ∀ q, q < 7 → z.testBit q = true → (if m_dif z (2 ^ q) = z then l else L (m_dif z (2 ^ q))) = L (m_dif z (2 ^ q)) := fun q hq hb => if_neg (by have := (c_meet2 z hy q hq hb).2.2.1; omega)
    constructor
    · obtain ⟨fb, hf⟩ := hf
      refine ⟨fb, ?_⟩
      show j_F1 _ 128 7 fb (if z = z then w else W z)
      rw [ew]
      have e2 : ∀ b q, q < 7 → j_g (j_fs h C (fun u => if u = z then l else L u) z q) (h 7 0) b = j_g (j_fs h C L z q) (h 7 0) b := fun b q hq => by
        rw [j_fs_congr (L' := L) (fun hb => ef q hq hb)]
      unfold j_F1 at hf ⊢
      rcases hf with ⟨a1, a2, a3⟩ | ⟨b, q, a1, a2, a3, a4, a5, a6, a7⟩
      · exact Or.inl ⟨a1, a2, fun b hb q hq => (e2 b q hq).trans (a3 b hb q hq)⟩
      · exact Or.inr ⟨b, q, a1, a2, a3, a4, (e2 b q a2).trans a5, fun c hc r hr => (e2 c r hr).trans (a6 c hc r hr), fun r hr => (e2 b r (by omega)).trans (a7 r hr)⟩
    · show ((if z = z then w else W z) = -1 ∧ (if z = z then l else L z) = z) ∨ ∃ q, q < 7 ∧ z.testBit q = true ∧ (if z = z then w else W z) = nI q ∧ (if z = z then l else L z) = (if m_dif z (2 ^ q) = z then l else L (m_dif z (2 ^ q)))
      rw [ew, el]
      rcases hl with hl | ⟨q, a1, a2, a3, a4⟩
      · exact Or.inl hl
      · exact Or.inr ⟨q, a1, a2, a3, by rw [ef q a1 a2]; exact a4⟩
theorem j_tb_next {S y l : Nat} {L : Nat → Nat} {W : Nat → Int32} {w : Int32} {u v g u' v' : Nat → Int32} (tb : j_tb h C S y L W u v g) (hu : ∀ z, u' z = if z = y then nI l else u z) (hv : ∀ z, v' z = if z = y then w else v z) (hg : ∀ p, p < 7 → y.testBit p = true → g (7 * y + p) = j_gd h C p y (m_pop y)) : j_tb h C S (y + 1) (fun z => if z = y then l else L z) (fun z => if z = y then w else W z) u' v' g := by
  intro z hz hzS
  rcases Nat.lt_or_ge z y with hlt | hge
  · have t := tb z hlt hzS
    refine ⟨?_, ?_, t.2.2⟩
    · show u' z = nI (if z = y then l else L z)
      rw [hu, if_neg (by omega), if_neg (by omega)]; exact t.1
    · show v' z = (if z = y then w else W z)
      rw [hv, if_neg (by omega), if_neg (by omega)]; exact t.2.1
  · have e : z = y := by omega
    subst e
    refine ⟨?_, ?_, hg⟩
    · show u' z = nI (if z = z then l else L z)
      rw [hu, if_pos rfl, if_pos rfl]
    · show v' z = (if z = z then w else W z)
      rw [hv, if_pos rfl, if_pos rfl]
theorem m_fset {z : px_S} {S y : Nat} (k : m_JS T z h C) (hw : m_HW h) (hS : S < 2 ^ h 4 0) (hy : y ≤ S) (hyS : m_dif y S = 0) (ce : m_CE h C S y z) : ∃ z', f_X1_foreseeSet T (nI y) (nI (m_pop y)) z = some z' ∧ m_fr m_f6 z z' ∧ m_CE h C S (y + 1) z' := by
  have hn := hw.1
  have hS7 : S < 128 := Nat.lt_of_lt_of_le hS (m_pow7 hn)
  have hy7 : y < 128 := by omega
  have hyn : y < 2 ^ h 4 0 := by omega
  have hm : m_pop y < 8 := by have := m_pop_le y; omega
  have hk := hw.2.2.2.1
  obtain ⟨L, W, et, tb⟩ := ce
  rw [f_X1_foreseeSet]
  refine m_for (σ := px_S) (fun n i s => f_X1_foreseeSet_8 T n (nI y) (nI (m_pop y)) (-1) (-1) (nI i) s) 7 (fun i s => m_fr m_f6 z s ∧ j_tb h C S y L W (s 25) (s 26) (s 24) ∧ ∀ p, p < i → y.testBit p = true → s 24 (7 * y + p) = j_gd h C p y (m_pop y)) (fun r => ∃ z', r = some z' ∧ m_fr m_f6 z z' ∧ m_CE h C S (y + 1) z') ?_ ?_ 7 0 z 1000 (by omega) ⟨m_fr_refl _ _, tb, fun p hp => by omega⟩ (by omega)
  · intro n i s hi hs
    obtain ⟨a1, a2, a3⟩ := hs
    left
    try simp only
    rw [f_X1_foreseeSet_8, if_pos (m_7 hi), b_has y hy7 i (by omega)]
    by_cases hb : y.testBit i = true
    · obtain ⟨t1, e1, g1⟩ := m_goodC (m_JS_fr k (m_f6j a1)) hw hi hyn hm
      rw [if_neg (by rw [if_pos hb]; decide), m_eq_bind e1, m_ix', if_pos (m_px (by omega) (by omega)), nI_clamp (by omega), nI_1]
      have r24 : t1 24 = s 24 := g1 24 (by decide)
      have r25 : t1 25 = s 25 := g1 25 (by decide)
      have r26 : t1 26 = s 26 := g1 26 (by decide)
      refine ⟨up t1 24 (7 * y + i) (j_gd h C i y (m_pop y)), ⟨m_fr_up (m_fr_tr a1 (m_f26 g1)) (by simp [m_f6]) _ _, ?_, fun p hp hbp => ?_⟩, rfl⟩
      · rw [m_up_row _ _ _ _ (show (25 : Nat) ≠ 24 by decide), m_up_row _ _ _ _ (show (26 : Nat) ≠ 24 by decide), r25, r26]
        intro u hu huS
        have t := a2 u hu huS
        refine ⟨t.1, t.2.1, fun p hp hbp => ?_⟩
        rw [m_up, if_pos rfl, if_neg (by omega), r24]; exact t.2.2 p hp hbp
      · rw [m_up, if_pos rfl]
        rcases Nat.lt_or_ge p i with hl | hl
        · rw [if_neg (by omega), r24]; exact a3 p hl hbp
        · rw [if_pos (by omega), show p = i by omega]
    · rw [if_pos (by rw [if_neg hb]), nI_1]
      refine ⟨s, ⟨a1, a2, fun p hp hbp => ?_⟩, rfl⟩
      rcases Nat.lt_or_ge p i with hl | hl
      · exact a3 p hl hbp
      · rw [show p = i by omega] at hbp; exact absurd hbp hb
  · intro n s0 hs0
    obtain ⟨c1, c2, c3⟩ := hs0
    try simp only
    rw [f_X1_foreseeSet_8, if_neg (by decide)]
    refine m_for (σ := Int32 × Int32 × px_S) (fun n i s => f_X1_foreseeSet_53 T n (nI y) (nI (m_pop y)) s.1 s.2.1 (nI i) s.2.2) 7 (fun i s => j_FI (j_fs h C L y) (h 7 0) i s.1 s.2.1 ∧ m_fr m_f2 s0 s.2.2) (fun r => ∃ z', r = some z' ∧ m_fr m_f6 z z' ∧ m_CE h C S (y + 1) z') ?_ ?_ 7 0 (-1, -1, s0) 1000 (by omega) ⟨Or.inl ⟨rfl, fun q hq => by omega⟩, m_fr_refl _ _⟩ (by omega)
    · intro n i s hi hs
      obtain ⟨yb, yo, s⟩ := s
      obtain ⟨a1, a2⟩ := hs
      simp only at a1 a2 ⊢
      left
      rw [f_X1_foreseeSet_53, if_pos (m_7 hi), b_has y hy7 i (by omega)]
      by_cases hb : y.testBit i = true
      · have f0 : m_fr m_f6 z s := m_fr_tr c1 (m_f26 a2)
        have r24 : s 24 = s0 24 := a2 24 (by decide)
        have r25 : s 25 = s0 25 := a2 25 (by decide)
        have r26 : s 26 = s0 26 := a2 26 (by decide)
        have ks := m_JS_fr k (m_f6j f0)
        obtain ⟨t1, e1, g1⟩ := m_fsC ks hw hS et hy hyS (by rw [r24, r25, r26]; exact c2) (by rw [r24]; exact c3) hi hb
        have f1 : m_fr m_f2 s0 t1 := m_fr_tr a2 g1
        have r7 : t1 12 7 = nI (h 7 0) := by rw [g1 12 (by decide)]; exact ks.1.2.2.2.1
        rw [if_neg (by rw [if_pos hb]; decide), m_eq_bind e1]
        dsimp only
        rw [r7, m_eq_bind (c_low _ (j_fs_lt _ _ _ _ _) (h 7 0) (by omega) hk.1), f_X1_foreseeSet_91, nI_1]
        cases e : j_lo (j_fs h C L y i) (h 7 0) with
        | none =>
          have e' : (List.range 128).find? (j_g (j_fs h C L y i) (h 7 0)) = none := e
          rw [e']
          simp only [if_true]
          exact ⟨(yb, yo, t1), ⟨j_FI_keep a1 e, f1⟩, rfl⟩
        | some c =>
          have e' : (List.range 128).find? (j_g (j_fs h C L y i) (h 7 0)) = some c := e
          have hc128 := (j_lo_some e).1
          rw [e']
          dsimp only
          rw [if_neg (m_n1 (by omega))]
          by_cases hyo : yo = -1
          · rw [if_pos hyo]
            rw [hyo] at a1
            exact ⟨(nI c, nI i, t1), ⟨j_FI_first hi a1 e, f1⟩, rfl⟩
          · rw [if_neg hyo]
            rcases j_FI_more hi hyo a1 e with ⟨g, g'⟩ | ⟨g, g'⟩
            · rw [if_pos g]; exact ⟨(nI c, nI i, t1), ⟨g', f1⟩, rfl⟩
            · rw [if_neg g]; exact ⟨(yb, yo, t1), ⟨g', f1⟩, rfl⟩
      · rw [if_pos (by rw [if_neg hb]), f_X1_foreseeSet_91, if_pos rfl, nI_1]
        exact ⟨(yb, yo, s), ⟨j_FI_keep a1 (by rw [j_fs_out (Bool.eq_false_iff.mpr hb)]; exact j_lo_zero hk.1), a2⟩, rfl⟩
    · intro n s hs
      obtain ⟨yb, yo, s⟩ := s
      obtain ⟨a1, a2⟩ := hs
      simp only at a1 a2 ⊢
      have f0 : m_fr m_f6 z s := m_fr_tr c1 (m_f26 a2)
      have r24 : s 24 = s0 24 := a2 24 (by decide)
      have r25 : s 25 = s0 25 := a2 25 (by decide)
      have r26 : s 26 = s0 26 := a2 26 (by decide)
      have pin : px_in (nI y) 128 := m_px hy7 (by omega)
      obtain ⟨hf, he⟩ := j_FI_end a1
      have fin : ∀ (l : Nat) (w : Int32), (∃ fb, j_F1 (fun b q => j_g (j_fs h C L y q) (h 7 0) b) 128 7 fb w) → ((w = -1 ∧ l = y) ∨ ∃ q, q < 7 ∧ y.testBit q = true ∧ w = nI q ∧ l = L (m_dif y (2 ^ q))) → m_fr m_f6 z (up (up s 25 y (nI l)) 26 y w) ∧ m_CE h C S (y + 1) (up (up s 25 y (nI l)) 26 y w) := fun l w h1 h2 => by
        refine ⟨m_fr_up (m_fr_up f0 (by simp [m_f6]) _ _) (by simp [m_f6]) _ _, _, _, j_ET_next hy7 et h1 h2, ?_⟩
        have e24 : (up (up s 25 y (nI l)) 26 y w) 24 = s0 24 := by rw [m_up_row _ _ _ _ (by decide), m_up_row _ _ _ _ (by decide), r24]
        rw [e24]
        refine j_tb_next c2 (fun u => ?_) (fun u => ?_) c3
        · rw [m_up_row _ _ _ _ (show (25 : Nat) ≠ 26 by decide), m_up, if_pos rfl, r25]
        · rw [m_up, if_pos rfl, m_up_row _ _ _ _ (show (26 : Nat) ≠ 25 by decide), r26]
      rw [f_X1_foreseeSet_53, if_neg (by decide)]
      rcases he with e | ⟨r, b, h1, h2, h3⟩
      · rw [if_pos e, if_pos pin, if_pos pin, nI_clamp (by omega)]
        exact ⟨_, rfl, fin y yo hf (Or.inl ⟨e, rfl⟩)⟩
      · have hbr : y.testBit r = true := by
          cases e : y.testBit r
          · rw [j_fs_out e, j_lo_zero hk.1] at h3; cases h3
          · rfl
        have d := m_dq0 hy7 h1 hbr hyS
        have d7 : m_dif y (2 ^ r) < 128 := m_dif_lt hy7
        rw [if_neg (by rw [h2]; exact m_n1 (by omega)), h2, b_bit r (by omega), b_dif y hy7 _ (m_bit2 r h1), if_pos (m_px d7 (by omega)), if_pos pin, if_pos pin, nI_clamp (n := y) (by omega), nI_clamp (n := m_dif y (2 ^ r)) (by omega), r25, (c2 _ d.1 d.2).1]
        rw [h2] at hf
        exact ⟨_, rfl, fin (L (m_dif y (2 ^ r))) (nI r) hf (Or.inr ⟨r, h1, hbr, rfl, rfl⟩)⟩
theorem m_foresC {st : px_S} {S : Nat} (k : m_JS T st h C) (hw : m_HW h) (hS : S < 2 ^ h 4 0) : ∃ st', f_X1_foresee T (nI S) st = some st' ∧ m_fr m_f6 st st' ∧ m_CE h C S (S + 1) st' := by
  have hn := hw.1
  have hS7 : S < 128 := Nat.lt_of_lt_of_le hS (m_pow7 hn)
  rw [f_X1_foresee]
  refine m_for (σ := px_S) (fun n i s => f_X1_foresee_2 T n (nI S) (nI i) s) (S + 1) (fun i s => m_fr m_f6 st s ∧ m_CE h C S i s) (fun r => ∃ st', r = some st' ∧ m_fr m_f6 st st' ∧ m_CE h C S (S + 1) st') ?_ ?_ (S + 1) 0 st 1000 (by omega) ⟨m_fr_refl _ _, fun _ => 0, fun _ => 0, fun y hy => by omega, fun y hy => by omega⟩ (by omega)
  · intro n i s hi hs
    obtain ⟨a1, a2⟩ := hs
    left
    try simp only
    rw [f_X1_foresee_2, if_neg (nI_nlt (by omega) (by omega)), if_pos (show nI i < 128 by rw [show (128 : Int32) = nI 128 from rfl]; exact nI_lt (by omega) (by omega))]
    by_cases g : m_dif i S = 0
    · obtain ⟨z', e1, g1, g2⟩ := m_fset (m_JS_fr k (m_f6j a1)) hw hS (by omega) g a2
      rw [if_pos ((m_dif0 (by omega) hS7).mpr g), b_pop i (by omega), m_eq_bind e1, nI_1]
      exact ⟨z', ⟨m_fr_tr a1 g1, g2⟩, rfl⟩
    · rw [if_neg (fun e => g ((m_dif0 (by omega) hS7).mp e)), nI_1]
      obtain ⟨L, W, b1, b2⟩ := a2
      have nx : ∀ y, y < i + 1 → m_dif y S = 0 → y < i := fun y hy hyS => by
        rcases Nat.lt_or_ge y i with hl | hl
        · exact hl
        · rw [show y = i by omega] at hyS; exact absurd hyS g
      exact ⟨s, ⟨a1, L, W, fun y hy hyS => b1 y (nx y hy hyS) hyS, fun y hy hyS => b2 y (nx y hy hyS) hyS⟩, rfl⟩
  · intro n s hs
    try simp only
    rw [f_X1_foresee_2, if_pos (nI_lt (by omega) (by omega))]
    exact ⟨s, rfl, hs⟩
end
