/-- who joins against q in x, with the end of x without q in mind -/
def j_fs (h : px_H) (C : Nat → List Int32) (L : Nat → Nat) (y q : Nat) : Nat := j_bt (fun p => y.testBit q && ((L (m_dif y (2 ^ q))).testBit p && j_mv h C (j_gd h C p (L (m_dif y (2 ^ q))) (m_pop (L (m_dif y (2 ^ q)))) - j_gd h C p y (m_pop y)) p q (m_pop y) ((h 3 q).testBit p))) 7
def j_EN (h : px_H) (C : Nat → List Int32) (L : Nat → Nat) (W : Nat → Int32) (y : Nat) : Prop := (∃ fb, j_F1 (fun b q => j_g (j_fs h C L y q) (h 7 0) b) 128 7 fb (W y)) ∧ ((W y = -1 ∧ L y = y) ∨ ∃ q, q < 7 ∧ y.testBit q = true ∧ W y = nI q ∧ L y = L (m_dif y (2 ^ q)))
def j_ET (h : px_H) (C : Nat → List Int32) (S X : Nat) (L : Nat → Nat) (W : Nat → Int32) : Prop := ∀ y, y < X → m_dif y S = 0 → j_EN h C L W y
theorem j_fs_lt (h : px_H) (C : Nat → List Int32) (L : Nat → Nat) (y q : Nat) : j_fs h C L y q < 128 := j_bt_lt _ 7
theorem j_fs_bit (h : px_H) (C : Nat → List Int32) (L : Nat → Nat) (y q : Nat) {p : Nat} (hp : p < 7) : (j_fs h C L y q).testBit p = (y.testBit q && ((L (m_dif y (2 ^ q))).testBit p && j_mv h C (j_gd h C p (L (m_dif y (2 ^ q))) (m_pop (L (m_dif y (2 ^ q)))) - j_gd h C p y (m_pop y)) p q (m_pop y) ((h 3 q).testBit p))) := by
  unfold j_fs; rw [j_bt_bit]; simp [hp]
theorem j_fs_out {h : px_H} {C : Nat → List Int32} {L : Nat → Nat} {y q : Nat} (hq : y.testBit q = false) : j_fs h C L y q = 0 := by
  refine m_ext7 (j_fs_lt _ _ _ _ _) (by decide) (fun p hp => ?_)
  rw [j_fs_bit _ _ _ _ _ hp, Nat.zero_testBit, hq, Bool.false_and]
theorem j_fs_congr {h : px_H} {C : Nat → List Int32} {L L' : Nat → Nat} {y q : Nat} (e : y.testBit q = true → L (m_dif y (2 ^ q)) = L' (m_dif y (2 ^ q))) : j_fs h C L y q = j_fs h C L' y q := by
  cases hq : y.testBit q
  · rw [j_fs_out hq, j_fs_out hq]
  · unfold j_fs; rw [e hq]
theorem m_dtr {a b c : Nat} (ha : a < 128) (hb : b < 128) (h1 : m_dif a b = 0) (h2 : m_dif b c = 0) : m_dif a c = 0 := (m_sub ha).mpr (fun j hj hj1 => (m_sub hb).mp h2 j hj ((m_sub ha).mp h1 j hj hj1))
theorem m_dself {a : Nat} (ha : a < 128) : m_dif a a = 0 := (m_sub ha).mpr (fun _ _ h => h)
theorem m_dq0 {y q S : Nat} (hy : y < 128) (hq : q < 7) (hb : y.testBit q = true) (hS : m_dif y S = 0) : m_dif y (2 ^ q) < y ∧ m_dif (m_dif y (2 ^ q)) S = 0 := by
  have := c_meet2 y hy q hq hb
  exact ⟨this.2.2.1, m_dtr (m_dif_lt hy) hy this.1 hS⟩
theorem j_EN_congr {h : px_H} {C : Nat → List Int32} {L L' : Nat → Nat} {W W' : Nat → Int32} {y : Nat} (hy : y < 128) (eL : ∀ z, z ≤ y → L z = L' z) (eW : W y = W' y) (k : j_EN h C L W y) : j_EN h C L' W' y := by
  obtain ⟨⟨fb, k1⟩, k2⟩ := k
  have e : (fun b q => j_g (j_fs h C L y q) (h 7 0) b) = (fun b q => j_g (j_fs h C L' y q) (h 7 0) b) := by
    funext b q
    rw [j_fs_congr (fun _ => eL _ Nat.and_le_left)]
  rw [e, eW] at k1
  refine ⟨⟨fb, k1⟩, ?_⟩
  rcases k2 with ⟨a1, a2⟩ | ⟨q, a1, a2, a3, a4⟩
  · exact Or.inl ⟨by rw [← eW]; exact a1, by rw [← eL y (Nat.le_refl _)]; exact a2⟩
  · exact Or.inr ⟨q, a1, a2, by rw [← eW]; exact a3, by rw [← eL y (Nat.le_refl _), ← eL (m_dif y (2 ^ q)) Nat.and_le_left]; exact a4⟩
theorem j_ET_uni {h : px_H} {C : Nat → List Int32} {S X : Nat} {L L' : Nat → Nat} {W W' : Nat → Int32} (hX : X ≤ 128) (k : j_ET h C S X L W) (k' : j_ET h C S X L' W') : ∀ n y, y < n → y < X → m_dif y S = 0 → L y = L' y ∧ W y = W' y := by
  intro n
  induction n with
  | zero => intro y hy; omega
  | succ n ih =>
    intro y hyn hyX hyS
    have hy : y < 128 := by omega
    have eL : ∀ q, q < 7 → y.testBit q = true → L (m_dif y (2 ^ q)) = L' (m_dif y (2 ^ q)) := fun q hq hb => by
      have := m_dq0 hy hq hb hyS
      exact (ih _ (by omega) (by omega) this.2).1
    obtain ⟨⟨fb, k1⟩, k2⟩ := k y hyX hyS
    obtain ⟨⟨fb', k1'⟩, k2'⟩ := k' y hyX hyS
    have k3 : j_F1 (fun b q => j_g (j_fs h C L y q) (h 7 0) b) 128 7 fb' (W' y) := by
      unfold j_F1 at k1' ⊢
      have e : ∀ b q, q < 7 → j_g (j_fs h C L y q) (h 7 0) b = j_g (j_fs h C L' y q) (h 7 0) b := fun b q hq => by rw [j_fs_congr (eL q hq)]
      rcases k1' with ⟨a1, a2, a3⟩ | ⟨b, q, a1, a2, a3, a4, a5, a6, a7⟩
      · exact Or.inl ⟨a1, a2, fun b hb q hq => (e b q hq).trans (a3 b hb q hq)⟩
      · exact Or.inr ⟨b, q, a1, a2, a3, a4, (e b q a2).trans a5, fun c hc r hr => (e c r hr).trans (a6 c hc r hr), fun r hr => (e b r (by omega)).trans (a7 r hr)⟩
    have eW := (j_F1_uni k1 k3).2
    refine ⟨?_, eW⟩
    rcases k2 with ⟨a1, a2⟩ | ⟨q, a1, a2, a3, a4⟩
    · rcases k2' with ⟨b1, b2⟩ | ⟨r, b1, b2, b3, b4⟩
      · rw [a2, b2]
      · rw [← eW, a1] at b3; exact absurd b3.symm (m_n1 (by omega))
    · rcases k2' with ⟨b1, b2⟩ | ⟨r, b1, b2, b3, b4⟩
      · rw [eW, b1] at a3; exact absurd a3.symm (m_n1 (by omega))
      · have : q = r := by
          have e := a3.symm.trans (eW.trans b3)
          exact nI_inj32 (by omega) (by omega) e
        subst this
        rw [a4, b4, eL q a1 a2]
theorem j_ET_sub {h : px_H} {C : Nat → List Int32} {S X : Nat} {L : Nat → Nat} {W : Nat → Int32} (hX : X ≤ 128) (k : j_ET h C S X L W) : ∀ n y, y < n → y < X → m_dif y S = 0 → m_dif (L y) y = 0 ∧ L y < 128 := by
  intro n
  induction n with
  | zero => intro y hy; omega
  | succ n ih =>
    intro y hyn hyX hyS
    have hy : y < 128 := by omega
    rcases (k y hyX hyS).2 with ⟨a1, a2⟩ | ⟨q, a1, a2, a3, a4⟩
    · rw [a2]; exact ⟨m_dself hy, hy⟩
    · have d := m_dq0 hy a1 a2 hyS
      have := ih _ (by omega) (by omega) d.2
      rw [a4]
      exact ⟨m_dtr this.2 (m_dif_lt hy) this.1 (c_meet2 y hy q a1 a2).1, this.2⟩
/-- what a table of ends holds below X -/
def j_tb (h : px_H) (C : Nat → List Int32) (S X : Nat) (L : Nat → Nat) (W : Nat → Int32) (u v w : Nat → Int32) : Prop := ∀ y, y < X → m_dif y S = 0 → u y = nI (L y) ∧ v y = W y ∧ ∀ p, p < 7 → y.testBit p = true → w (7 * y + p) = j_gd h C p y (m_pop y)
section
variable {T : Nat} {h : px_H} {C : Nat → List Int32}
theorem m_fsC {z : px_S} {S y q : Nat} {L : Nat → Nat} {W : Nat → Int32} (k : m_JS T z h C) (hw : m_HW h) (hS : S < 2 ^ h 4 0) (et : j_ET h C S y L W) (hy : y ≤ S) (hyS : m_dif y S = 0) (tb : j_tb h C S y L W (z 25) (z 26) (z 24)) (gx : ∀ p, p < 7 → y.testBit p = true → z 24 (7 * y + p) = j_gd h C p y (m_pop y)) (hq : q < 7) (hb : y.testBit q = true) : ∃ z', f_X1_foreseers T (nI y) (nI (m_pop y)) (nI q) z = some (nI (j_fs h C L y q), z') ∧ m_fr m_f2 z z' := by
  have hn := hw.1
  have hS7 : S < 128 := Nat.lt_of_lt_of_le hS (m_pow7 hn)
  have hy7 : y < 128 := by omega
  have hm : m_pop y < 8 := by have := m_pop_le y; omega
  have d := m_dq0 hy7 hq hb hyS
  have d7 : m_dif y (2 ^ q) < 128 := m_dif_lt hy7
  have t := tb _ d.1 d.2
  have sb := j_ET_sub (by omega) et 128 _ d7 d.1 d.2
  rw [f_X1_foreseers, b_bit q (by omega), b_dif y hy7 _ (m_bit2 q hq), if_pos (m_px d7 (by omega)), nI_clamp (by omega), t.1]
  obtain ⟨l, el⟩ : ∃ l, l = L (m_dif y (2 ^ q)) := ⟨_, rfl⟩
  rw [← el] at sb ⊢
  have hly : l < y := Nat.lt_of_le_of_lt (m_sub_le sb.2 sb.1) d.1
  have hlS : m_dif l S = 0 := m_dtr sb.2 d7 sb.1 d.2
  have tl := tb l hly hlS
  refine m_for (σ := Int32 × px_S) (fun n i s => f_X1_foreseers_21 T n (nI y) (nI (m_pop y)) (nI q) (nI l) s.1 (nI i) s.2) 7 (fun i s => s.1 = nI (j_bt (fun p => y.testBit q && ((L (m_dif y (2 ^ q))).testBit p && j_mv h C (j_gd h C p (L (m_dif y (2 ^ q))) (m_pop (L (m_dif y (2 ^ q)))) - j_gd h C p y (m_pop y)) p q (m_pop y) ((h 3 q).testBit p))) i) ∧ m_fr m_f2 z s.2) (fun r => ∃ z', r = some (nI (j_fs h C L y q), z') ∧ m_fr m_f2 z z') ?_ ?_ 7 0 (0, z) 1000 (by omega) ⟨rfl, m_fr_refl _ _⟩ (by omega)
  · intro n p s hp hs
    obtain ⟨s1, s2⟩ := s
    obtain ⟨a1, a2⟩ := hs
    simp only at a1 a2 ⊢
    left
    rw [← el] at a1 ⊢
    rw [hb] at a1 ⊢
    rw [f_X1_foreseers_21, if_pos (m_7 hp), b_has l sb.2 p (by omega)]
    by_cases hbp : l.testBit p = true
    · have hyp : y.testBit p = true := (m_sub d7).mp (c_meet2 y hy7 q hq hb).1 p hp ((m_sub sb.2).mp sb.1 p hp hbp)
      have hpn : p < h 4 0 := m_bit_lt hS ((m_sub hy7).mp hyS p hp hyp)
      have h3 := hw.2.2.2.2.2.2.2.1 q hq
      have h37 : h 3 q < 128 := Nat.lt_of_lt_of_le h3.1 (m_pow7 hn)
      have r24 : s2 24 = z 24 := a2 24 (by decide)
      have r16 : s2 16 = z 16 := a2 16 (by decide)
      rw [if_neg (by rw [if_pos hbp]; decide), m_ix', m_ix', if_pos (m_px (by omega) (by omega)), if_pos (m_px (by omega) (by omega)), if_pos (m_px hq (by omega)), nI_clamp (n := 7 * l + p) (by omega), nI_clamp (n := 7 * y + p) (by omega), nI_clamp (n := q) (by omega), r24, r16, tl.2.2 p hp hbp, gx p hp hyp, k.1.2.2.2.2.2.2.2.2 q hq, b_has _ h37 p (by omega)]
      obtain ⟨t1, e1, g1⟩ := m_movesC (m_JS_fr k (m_f2j a2)) hw (j_gd h C p l (m_pop l) - j_gd h C p y (m_pop y)) hpn hq hm ((h 3 q).testBit p)
      rw [m_eq_bind e1, b_bit p (by omega), nI_1]
      have fin := m_orbit (P := fun p => true && (l.testBit p && j_mv h C (j_gd h C p l (m_pop l) - j_gd h C p y (m_pop y)) p q (m_pop y) ((h 3 q).testBit p))) hp (j_mv h C (j_gd h C p l (m_pop l) - j_gd h C p y (m_pop y)) p q (m_pop y) ((h 3 q).testBit p)) (by rw [hbp, Bool.true_and, Bool.true_and])
      cases hj : j_mv h C (j_gd h C p l (m_pop l) - j_gd h C p y (m_pop y)) p q (m_pop y) ((h 3 q).testBit p)
      · rw [hj] at fin
        dsimp only
        rw [if_pos (show (if false = true then (1 : Int32) else 0) = 0 from rfl)]
        refine ⟨(s1, t1), ⟨?_, m_fr_tr a2 g1⟩, rfl⟩
        simp only
        rw [a1, ← fin]
        simp only [Bool.false_eq_true, if_false]
        exact (Int32.or_zero).symm
      · rw [hj] at fin
        dsimp only
        rw [if_neg (show ¬ (if true = true then (1 : Int32) else 0) = 0 by decide)]
        refine ⟨(s1 ||| nI (2 ^ p), t1), ⟨?_, m_fr_tr a2 g1⟩, rfl⟩
        simp only
        rw [a1, ← fin]
        simp only [if_true]
    · rw [if_pos (by rw [if_neg hbp]), nI_1]
      refine ⟨(s1, s2), ⟨?_, a2⟩, rfl⟩
      simp only
      rw [a1, j_bt, if_neg (by rw [Bool.eq_false_iff.mpr hbp]; simp), Nat.or_zero]
  · intro n s hs
    obtain ⟨s1, s2⟩ := s
    obtain ⟨a1, a2⟩ := hs
    simp only at a1 a2 ⊢
    rw [f_X1_foreseers_21, if_neg (by decide), a1]
    exact ⟨s2, rfl, a2⟩
end
/-- the best so far -/
def j_FI (A : Nat → Nat) (k i : Nat) (yb yo : Int32) : Prop := (yo = -1 ∧ ∀ q, q < i → j_lo (A q) k = none) ∨ ∃ r b, r < i ∧ yo = nI r ∧ yb = nI b ∧ j_lo (A r) k = some b ∧ ∀ q c, q < i → j_lo (A q) k = some c → b ≤ c ∧ (q < r → b < c)
theorem j_FI_keep {A : Nat → Nat} {k i : Nat} {yb yo : Int32} (hz : j_FI A k i yb yo) (e : j_lo (A i) k = none) : j_FI A k (i + 1) yb yo := by
  rcases hz with ⟨h1, h2⟩ | ⟨r, b, h1, h2, h2', h3, h4⟩
  · refine Or.inl ⟨h1, fun q hql => ?_⟩
    rcases Nat.lt_or_ge q i with hl | hl
    · exact h2 q hl
    · rw [show q = i by omega]; exact e
  · refine Or.inr ⟨r, b, by omega, h2, h2', h3, fun q c hql hc => ?_⟩
    rcases Nat.lt_or_ge q i with hl | hl
    · exact h4 q c hl hc
    · rw [show q = i by omega, e] at hc; cases hc
theorem j_FI_first {A : Nat → Nat} {k i c : Nat} {yb : Int32} (hi : i < 7) (hz : j_FI A k i yb (-1)) (e : j_lo (A i) k = some c) : j_FI A k (i + 1) (nI c) (nI i) := by
  rcases hz with ⟨h1, h2⟩ | ⟨r, b, h1, h2, h2', h3, h4⟩
  · refine Or.inr ⟨i, c, by omega, rfl, rfl, e, fun q d hql hd => ?_⟩
    rcases Nat.lt_or_ge q i with hl | hl
    · rw [h2 q hl] at hd; cases hd
    · have hqi : q = i := by omega
      rw [hqi, e] at hd; cases hd
      exact ⟨Nat.le_refl _, fun h => by omega⟩
  · exact absurd h2.symm (m_n1 (by omega))
theorem j_FI_more {A : Nat → Nat} {k i c : Nat} {yb yo : Int32} (hi : i < 7) (h0 : yo ≠ -1) (hz : j_FI A k i yb yo) (e : j_lo (A i) k = some c) : (nI c < yb ∧ j_FI A k (i + 1) (nI c) (nI i)) ∨ ((¬ nI c < yb) ∧ j_FI A k (i + 1) yb yo) := by
  have hc128 := (j_lo_some e).1
  rcases hz with ⟨h1, h2⟩ | ⟨r, b, h1, h2, h2', h3, h4⟩
  · exact absurd h1 h0
  · have hb128 := (j_lo_some h3).1
    by_cases hlt : c < b
    · left
      rw [h2']
      refine ⟨nI_lt hlt (by omega), Or.inr ⟨i, c, by omega, rfl, rfl, e, fun q d hql hd => ?_⟩⟩
      rcases Nat.lt_or_ge q i with hl | hl
      · have := h4 q d hl hd
        exact ⟨by omega, fun _ => by omega⟩
      · have hqi : q = i := by omega
        rw [hqi, e] at hd; cases hd
        exact ⟨Nat.le_refl _, fun h => by omega⟩
    · right
      refine ⟨by rw [h2']; exact nI_nlt (by omega) (by omega), Or.inr ⟨r, b, by omega, h2, h2', h3, fun q d hql hd => ?_⟩⟩
      rcases Nat.lt_or_ge q i with hl | hl
      · exact h4 q d hl hd
      · have hqi : q = i := by omega
        rw [hqi, e] at hd; cases hd
        exact ⟨by omega, fun h => by omega⟩
theorem j_FI_end {A : Nat → Nat} {k : Nat} {yb yo : Int32} (hz : j_FI A k 7 yb yo) : (∃ fb, j_F1 (fun b q => j_g (A q) k b) 128 7 fb yo) ∧ (yo = -1 ∨ ∃ r b, r < 7 ∧ yo = nI r ∧ j_lo (A r) k = some b) := by
  rcases hz with ⟨h1, h2⟩ | ⟨r, b, h1, h2, h2', h3, h4⟩
  · exact ⟨⟨-1, Or.inl ⟨rfl, h1, fun b hb q hq7 => j_lo_none (h2 q hq7) b hb⟩⟩, Or.inl h1⟩
  · obtain ⟨g1, g2, g3⟩ := j_lo_some h3
    refine ⟨⟨nI b, Or.inr ⟨b, r, g1, h1, rfl, h2, g2, fun c hc q hq7 => ?_, fun q hqr => ?_⟩⟩, Or.inr ⟨r, b, h1, h2, h3⟩⟩
    · show j_g (A q) k c = false
      cases e : j_g (A q) k c
      · rfl
      · cases e2 : j_lo (A q) k with
        | none => rw [j_lo_none e2 c (by omega)] at e; cases e
        | some d =>
          have := h4 q d hq7 e2
          have hm := (j_lo_some e2).2.2 c (by omega)
          rw [hm] at e; cases e
    · show j_g (A q) k b = false
      cases e : j_g (A q) k b
      · rfl
      · cases e2 : j_lo (A q) k with
        | none => rw [j_lo_none e2 b g1] at e; cases e
        | some d =>
          have := h4 q d (by omega) e2
          have hm := (j_lo_some e2).2.2 b (by omega)
          rw [hm] at e; cases e
theorem j_lo_zero {k : Nat} (hk : 2 ≤ k) : j_lo 0 k = none := by
  cases e : j_lo 0 k with
  | none => rfl
  | some b =>
    obtain ⟨g1, g2, _⟩ := j_lo_some e
    rw [j_g_zero hk g1] at g2; cases g2
