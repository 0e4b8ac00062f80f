theorem c_mono : ∀ a, a < 128 → ∀ b, b < 128 → m_dif a b = 0 → m_pop a ≤ m_pop b := by decide +kernel
section
variable {T : Nat} {h : px_H} {C : Nat → List Int32}
theorem j_fs_sub {S y q p : Nat} {L : Nat → Nat} {W : Nat → Int32} (hS : S < 128) (hy : y ≤ S) (hyS : m_dif y S = 0) (et : j_ET h C S y L W) (hq : q < 7) (hp : p < 7) (hb : (j_fs h C L y q).testBit p = true) : p ≠ q ∧ y.testBit p = true ∧ y.testBit q = true := by
  have hy7 : y < 128 := by omega
  rw [j_fs_bit _ _ _ _ _ hp, Bool.and_eq_true, Bool.and_eq_true] at hb
  have d := m_dq0 hy7 hq hb.1 hyS
  have sb := j_ET_sub (by omega) et 128 _ (m_dif_lt hy7) d.1 d.2
  have g := (m_sub sb.2).mp sb.1 p hp hb.2.1
  rw [m_dq hp, Bool.and_eq_true, decide_eq_true_iff] at g
  exact ⟨g.2, g.1, hb.1⟩
theorem m_fnR {z : px_S} {S y q p : Nat} {L : Nat → Nat} {W : Nat → Int32} (k : m_RJ z h C) (hw : m_HW h) (hS : S < 2 ^ h 4 0) (et : j_ET h C S y L W) (hy : y ≤ S) (hyS : m_dif y S = 0) (tb : j_tb h C S y L W (z 60) (z 62) (z 61)) (gx : ∀ p, p < 7 → y.testBit p = true → z 61 (7 * y + p) = j_gd h C p y (m_pop y)) (hq : q < 7) (hb : y.testBit q = true) (hp : p < 7) (hbp : y.testBit p = true) : ∃ z', f_X6_foreseen T (nI p) (nI q) (nI y) (nI (m_pop y)) z = some (if (j_fs h C L y q).testBit p then 1 else 0, z') ∧ m_f48 m_rs z z' := by
  have hn := hw.1
  have hS7 : S < 128 := Nat.lt_of_lt_of_le hS (m_pow7 hn)
  have hy7 : y < 128 := by omega
  have hyn : y < 2 ^ h 4 0 := by omega
  have hm : m_pop y < 8 := by have := m_pop_le y; omega
  have hm1 : 1 ≤ m_pop y := c_pop2 y hy7 p hp hbp
  have hpn := m_bit_lt hyn hbp
  have hqn := m_bit_lt hyn hb
  have d := m_dq0 hy7 hq hb hyS
  have d7 : m_dif y (2 ^ q) < 128 := m_dif_lt hy7
  have t := tb _ d.1 d.2
  have sb := j_ET_sub (by omega) et 128 _ d7 d.1 d.2
  have ebit := j_fs_bit h C L y q hp
  obtain ⟨l, el⟩ : ∃ l, l = L (m_dif y (2 ^ q)) := ⟨_, rfl⟩
  rw [← el] at sb t ebit
  rw [hb, Bool.true_and] at ebit
  have hly : l < y := Nat.lt_of_le_of_lt (m_sub_le sb.2 sb.1) d.1
  have hlS : m_dif l S = 0 := m_dtr sb.2 d7 sb.1 d.2
  have tl := tb l hly hlS
  rw [f_X6_foreseen, b_sh1 q (by omega), b_dif y hy7 _ (m_bit2 q hq), if_pos (m_px d7 (by omega)), nI_clamp (n := m_dif y (2 ^ q)) (by omega), t.1, b_shr l sb.2 p (by omega)]
  by_cases hl : l.testBit p = true
  case neg =>
    rw [Bool.eq_false_iff.mpr hl, Bool.false_and] at ebit
    rw [ebit, if_pos (by rw [if_neg hl])]
    exact ⟨z, rfl, m_f48_refl _ _⟩
  rw [hl, Bool.true_and] at ebit
  rw [ebit, if_neg (by rw [if_pos hl]; decide)]
  obtain ⟨s1, e1, f1⟩ := m_saysR (T := T) k hw hpn hqn hm hm1 (w := 2) (by decide)
  have k1 := m_RJ_sc k (m_rs_sc f1)
  rw [m_eq_bind (show f_X6_says T 2 (nI p) (nI q) (nI (m_pop y)) z = _ from e1)]
  dsimp only
  have s2 : j_say h C 2 p q (m_pop y) = if j_v h C 2 p q (m_pop y) = 0 then 0 else 1 := rfl
  rw [s2]
  unfold j_mv
  by_cases hv : j_v h C 2 p q (m_pop y) = 0
  · rw [if_pos hv, if_pos rfl, if_neg (by simp [hv])]
    exact ⟨s1, rfl, f1⟩
  rw [if_neg hv, if_neg (by decide)]
  have hk := hw.2.2.2.2.2.1 p hpn
  have h3 := hw.2.2.2.2.2.2.2.1 p hp
  have h37 : h 3 p < 128 := Nat.lt_of_lt_of_le h3.1 (m_pow7 hn)
  have esw : f_X6_areSworn T s1 (nI p) (nI q) = some (if (h 3 q).testBit p then 1 else 0) := by
    rw [f_X6_areSworn, if_pos (m_px hp (by omega)), nI_clamp (by omega), k1.1.2.2.2.2.2.2.2.2 p hpn, b_shr _ h37 q (by omega), hw.2.2.2.2.2.2.2.2.1 p q hp hq]
    by_cases hb : (h 3 q).testBit p = true
    · rw [if_pos hb, if_pos rfl]
    · rw [if_neg hb, if_neg (by decide)]
  have r61 : s1 61 = z 61 := f1.1 61 (by decide)
  rw [m_eq_bind esw, m_ix, if_pos (m_px (by omega) (by omega)), nI_clamp (n := 7 * l + p) (by omega), r61, tl.2.2 p hp hl]
  have e75 : ∀ (b : Bool) (z0 : Int32) (s : px_S), m_RJ s h C → s 61 = z 61 → f_X6_foreseen_75 T (nI p) (nI y) (nI (m_pop y)) (if b then 1 else 0) z0 (j_gd h C p l (m_pop l)) s = (if (j_gd h C p l (m_pop l) - z0) < (j_gd h C p y (m_pop y) + j_wt h p (m_pop y) b) then some (0, s) else some (1, s)) := fun b z0 s ks rs => by
    have kr := ks.1.2.2.2.2.2.2.1 p hpn
    rw [f_X6_foreseen_75, m_ix, if_pos (m_px (by omega) (by omega)), m_eq_bind (m_wantsR hp kr.1 kr.2 hk.1 hk.2 hm b), nI_clamp (by omega), rs, gx p hp hbp]; rfl
  have g1 := j_gd_b hw C (p := p) hyn hm
  have g2 := j_gd_b hw C (p := p) (s := l) (by omega) (m := m_pop l) (by have := m_pop_le l; omega)
  have hwt := (c_wt _ hk.1 _ hk.2 _ hm ((h 3 q).testBit p)).2
  have hoa := m_clo (j_v h C 1 p q (m_pop y))
  generalize j_gd h C p l (m_pop l) = G at *
  generalize j_gd h C p y (m_pop y) = Y at *
  cases hsb : (h 3 q).testBit p with
  | false =>
    rw [hsb] at hwt
    have b1 : 0 ≤ (j_wt h p (m_pop y) false).toInt ∧ (j_wt h p (m_pop y) false).toInt ≤ 40 := hwt
    rw [if_pos (show (if false = true then (1 : Int32) else 0) = 0 from rfl), e75 false 0 s1 k1 r61]
    have i1 : (G - 0 < Y + j_wt h p (m_pop y) false) ↔ (G - Y < j_wt h p (m_pop y) false) := by
      rw [Int32.sub_zero, Int32.lt_iff_toInt_lt, Int32.lt_iff_toInt_lt, m_subI (by omega) (by omega), m_addI (by omega) (by omega)]; omega
    by_cases hlt : G - Y < j_wt h p (m_pop y) false
    · rw [if_pos (i1.mpr hlt), if_neg (by simp [hlt])]; exact ⟨s1, rfl, f1⟩
    · rw [if_neg (fun g => hlt (i1.mp g)), if_pos (by simp [hlt, hv])]; exact ⟨s1, rfl, f1⟩
  | true =>
    rw [hsb] at hwt
    have b1 : 0 ≤ (j_wt h p (m_pop y) true).toInt ∧ (j_wt h p (m_pop y) true).toInt ≤ 40 := hwt
    have b2 : 0 ≤ (j_oa h C p q (m_pop y)).toInt ∧ (j_oa h C p q (m_pop y)).toInt ≤ 99 := hoa
    obtain ⟨t1, e2, f2⟩ := m_saysR (T := T) k1 hw hpn hqn hm hm1 (w := 1) (by decide)
    rw [if_neg (show ¬ (if true = true then (1 : Int32) else 0) = 0 by decide), m_eq_bind (show f_X6_says T 1 (nI p) (nI q) (nI (m_pop y)) s1 = _ from e2)]
    dsimp only
    have f3 := m_f48_tr f1 f2
    rw [e75 true _ t1 (m_RJ_sc k (m_rs_sc f3)) (f3.1 61 (by decide)), show j_say h C 1 p q (m_pop y) = j_oa h C p q (m_pop y) from rfl]
    have i1 : (G - j_oa h C p q (m_pop y) < Y + j_wt h p (m_pop y) true) ↔ (G - Y < j_wt h p (m_pop y) true + j_oa h C p q (m_pop y)) := by
      rw [Int32.lt_iff_toInt_lt, Int32.lt_iff_toInt_lt, m_subI (by omega) (by omega), m_addI (by omega) (by omega), m_subI (by omega) (by omega), m_addI (by omega) (by omega)]; omega
    by_cases hlt : G - Y < j_wt h p (m_pop y) true + j_oa h C p q (m_pop y)
    · rw [if_pos (i1.mpr hlt), if_neg (by simp [hlt])]; exact ⟨t1, rfl, f3⟩
    · have hl2 : ¬ G - Y < j_wt h p (m_pop y) true := fun g => hlt (by
        rw [Int32.lt_iff_toInt_lt] at g ⊢; rw [m_addI (by omega) (by omega)]; omega)
      rw [if_neg (fun g => hlt (i1.mp g)), if_pos (by simp [hlt, hl2, hv])]; exact ⟨t1, rfl, f3⟩
/-- the reference's table of who joins, for y -/
def m_JT (h : px_H) (A : Nat → Nat) (z : px_S) : Prop := ∀ p q, p < h 4 0 → q < h 4 0 → z 58 (7 * p + q) = if (A q).testBit p then 1 else 0
theorem m_ajR {z : px_S} {A : Nat → Nat} (hn : h 4 0 ≤ 7) (h11 : z 48 11 = nI (h 4 0)) (jt : m_JT h A z) {b q : Nat} (hb : b < 2 ^ h 4 0) (hq : q < h 4 0) : f_X6_allJoin T z (nI b) (nI q) = some (if m_dif b (A q) = 0 then 1 else 0) := by
  have hb7 : b < 128 := Nat.lt_of_lt_of_le hb (m_pow7 hn)
  rw [f_X6_allJoin]
  refine m_for (σ := Unit) (fun n i _ => f_X6_allJoin_2 T z n (nI b) (nI q) (nI i)) (h 4 0) (fun i _ => ∀ p, p < i → b.testBit p = true → (A q).testBit p = true) (fun r => r = some (if m_dif b (A q) = 0 then 1 else 0)) ?_ ?_ (h 4 0) 0 () 1000 (by omega) (fun p hp => by omega) (by omega)
  · intro n i _ hi hz
    try simp only
    rw [f_X6_allJoin_2, h11, if_pos (nI_lt hi (by omega)), b_shr b hb7 i (by omega)]
    by_cases hbi : b.testBit i = true
    · rw [if_pos (by rw [if_pos hbi]), m_ix, if_pos (m_px (by omega) (by omega)), nI_clamp (by omega), jt i q hi hq]
      by_cases hj : (A q).testBit i = true
      · left
        rw [if_neg (by rw [if_pos hj]; decide), nI_1]
        refine ⟨(), fun p hp hbp => ?_, rfl⟩
        rcases Nat.lt_or_ge p i with hl | hl
        · exact hz p hl hbp
        · rw [show p = i by omega]; exact hj
      · right
        rw [if_pos (by rw [if_neg hj]), if_neg (fun g => hj ((m_sub hb7).mp g i (by omega) hbi))]
    · left
      rw [if_neg (by rw [if_neg hbi]; decide), nI_1]
      refine ⟨(), fun p hp hbp => ?_, rfl⟩
      rcases Nat.lt_or_ge p i with hl | hl
      · exact hz p hl hbp
      · rw [show p = i by omega] at hbp; exact absurd hbp hbi
  · intro n _ hz
    try simp only
    rw [f_X6_allJoin_2, h11, if_neg (nI_nlt (Nat.le_refl _) (by omega)), if_pos ((m_sub hb7).mpr (fun j hj hbj => hz j (m_bit_lt hb hbj) hbj))]
theorem m_ibR {z : px_S} {b q y k : Nat} (hb : b < 128) (hq : q < 7) (hy : y < 128) (hk : k ≤ 5) (h14 : z 48 14 = nI k) : f_X6_isBand T z (nI b) (nI q) (nI y) = some (if ((m_dif b y == 0) && (m_pop b == k) && y.testBit q && !(b.testBit q)) = true then 1 else 0) := by
  have hp := m_pop_le b
  rw [f_X6_isBand, h14, b_shr y hy q (by omega), b_shr b hb q (by omega)]
  by_cases g1 : m_dif b y = 0
  case neg => rw [if_neg (fun g => g1 ((m_dif0 hb hy).mp g)), if_neg (by simp [g1])]
  rw [if_pos ((m_dif0 hb hy).mpr g1), m_eq_bind (b_bits b hb)]
  by_cases g2 : m_pop b = k
  case neg => rw [if_neg (by rw [nI_eq (by omega) (by omega)]; exact g2), if_neg (by simp [g2])]
  rw [if_pos (by rw [g2])]
  by_cases g3 : y.testBit q = true
  case neg => rw [if_neg (by rw [if_neg g3]; decide), if_neg (by simp [g3])]
  rw [if_pos (by rw [if_pos g3])]
  by_cases g4 : b.testBit q = true
  · rw [if_neg (by rw [if_pos g4]; decide), if_neg (by simp [g4])]
  · rw [if_pos (by rw [if_neg g4]), if_pos (by simp [g1, g2, g3, g4])]
/-- the reference looks for the first band -/
theorem m_bandsR {z : px_S} {A : Nat → Nat} {y k : Nat} {l : Nat → Nat} (hn : h 4 0 ≤ 7) (hk : 2 ≤ k ∧ k ≤ 5) (h11 : z 48 11 = nI (h 4 0)) (h14 : z 48 14 = nI k) (jt : m_JT h A z) (hyn : y < 2 ^ h 4 0) (h62 : z 62 y = -1) (hA : ∀ q p, q < 7 → p < 7 → (A q).testBit p = true → p ≠ q ∧ y.testBit p = true ∧ y.testBit q = true) (hl : ∀ q, q < 7 → y.testBit q = true → z 60 (m_dif y (2 ^ q)) = nI (l q)) (hA7 : ∀ q, A q < 128) :
    (f_X6_endOf_133 T 1000 (nI y) 1 z = some z ∧ ∀ b, b < 128 → ∀ q, q < 7 → j_g (A q) k b = false) ∨ ∃ b q, b < 128 ∧ q < 7 ∧ f_X6_endOf_133 T 1000 (nI y) 1 z = some (up (up z 62 y (nI q)) 60 y (nI (l q))) ∧ y.testBit q = true ∧ j_g (A q) k b = true ∧ (∀ c, c < b → ∀ r, r < 7 → j_g (A r) k c = false) ∧ ∀ r, r < q → j_g (A r) k b = false := by
  have hy7 : y < 128 := Nat.lt_of_lt_of_le hyn (m_pow7 hn)
  have pin : px_in (nI y) 128 := m_px hy7 (by omega)
  have aq0 : ∀ q, q < 7 → y.testBit q = false → ∀ b, b < 128 → j_g (A q) k b = false := fun q hq hb b hb7 => by
    have : A q = 0 := m_ext7 (hA7 q) (by decide) (fun p hp => by
      rw [Nat.zero_testBit]
      cases e : (A q).testBit p
      · rfl
      · have := (hA q p hq hp e).2.2; rw [hb] at this; cases this)
    rw [this]; exact j_g_zero hk.1 hb7
  have big : ∀ b, b < 128 → y < b → ∀ q, q < 7 → j_g (A q) k b = false := fun b hb7 hyb q hq => by
    cases e : j_g (A q) k b
    · rfl
    · have g := (j_g_iff hb7).mp e
      have : m_dif b y = 0 := (m_sub hb7).mpr (fun j hj hbj => (hA q j hq hj (g.1 j hj hbj)).2.1)
      have := m_sub_le hb7 this
      omega
  have both : ∀ b q, b < 128 → q < 7 → (((m_dif b y == 0) && (m_pop b == k) && y.testBit q && !(b.testBit q)) = true ∧ m_dif b (A q) = 0 ↔ j_g (A q) k b = true) := fun b q hb7 hq => by
    constructor
    · intro ⟨g1, g2⟩
      simp only [Bool.and_eq_true, beq_iff_eq] at g1
      unfold j_g
      rw [g2, g1.1.1.2]; simp
    · intro e
      have g := (j_g_iff hb7).mp e
      have d : m_dif b y = 0 := (m_sub hb7).mpr (fun j hj hbj => (hA q j hq hj (g.1 j hj hbj)).2.1)
      have yq : y.testBit q = true := by
        cases e2 : y.testBit q
        · rw [aq0 q hq e2 b hb7] at e; cases e
        · rfl
      have bq : b.testBit q = false := by
        cases e2 : b.testBit q
        · rfl
        · exact absurd rfl (hA q q hq hq (g.1 q hq e2)).1
      refine ⟨?_, (m_sub hb7).mpr g.1⟩
      rw [d, g.2, yq, bq]; simp
  refine m_for (σ := Unit) (fun f i _ => f_X6_endOf_133 T (f + 1) (nI y) (nI i) z) (y + 1) (fun i _ => ∀ c, c < i → ∀ r, r < 7 → j_g (A r) k c = false) (fun R => (R = some z ∧ ∀ b, b < 128 → ∀ q, q < 7 → j_g (A q) k b = false) ∨ ∃ b q, b < 128 ∧ q < 7 ∧ R = some (up (up z 62 y (nI q)) 60 y (nI (l q))) ∧ y.testBit q = true ∧ j_g (A q) k b = true ∧ (∀ c, c < b → ∀ r, r < 7 → j_g (A r) k c = false) ∧ ∀ r, r < q → j_g (A r) k b = false) ?_ ?_ y 1 () 999 (by omega) (fun c hc r hr => by rw [show c = 0 by omega]; exact j_g_0 hk.1) (by omega)
  · intro f b _ hb hz
    have hb7 : b < 128 := by omega
    have inner : (f_X6_endOf_151 T (f_X6_endOf_133 T (f + 1)) 1000 (nI y) (nI b) 0 z = f_X6_endOf_133 T (f + 1) (nI y) (nI b + 1) z ∧ ∀ r, r < 7 → j_g (A r) k b = false) ∨ ∃ q, q < 7 ∧ f_X6_endOf_151 T (f_X6_endOf_133 T (f + 1)) 1000 (nI y) (nI b) 0 z = some (up (up z 62 y (nI q)) 60 y (nI (l q))) ∧ y.testBit q = true ∧ j_g (A q) k b = true ∧ ∀ r, r < q → j_g (A r) k b = false := by
      refine m_for (σ := Unit) (fun g i _ => f_X6_endOf_151 T (f_X6_endOf_133 T (f + 1)) (g + 1) (nI y) (nI b) (nI i) z) (h 4 0) (fun i _ => ∀ r, r < i → j_g (A r) k b = false) (fun R => (R = f_X6_endOf_133 T (f + 1) (nI y) (nI b + 1) z ∧ ∀ r, r < 7 → j_g (A r) k b = false) ∨ ∃ q, q < 7 ∧ R = some (up (up z 62 y (nI q)) 60 y (nI (l q))) ∧ y.testBit q = true ∧ j_g (A q) k b = true ∧ ∀ r, r < q → j_g (A r) k b = false) ?_ ?_ (h 4 0) 0 () 999 (by omega) (fun r hr => by omega) (by omega)
      · intro g q _ hq hz2
        have hq7 : q < 7 := by omega
        have bo := both b q hb7 hq7
        have skip : j_g (A q) k b = false → ∃ s' : Unit, (∀ r, r < q + 1 → j_g (A r) k b = false) ∧ f_X6_endOf_151 T (f_X6_endOf_133 T (f + 1)) (g + 1) (nI y) (nI b) (nI q + 1) z = f_X6_endOf_151 T (f_X6_endOf_133 T (f + 1)) (g + 1) (nI y) (nI b) (nI (q + 1)) z := fun e => ⟨(), fun r hr => by
          rcases Nat.lt_or_ge r q with hl | hl
          · exact hz2 r hl
          · rw [show r = q by omega]; exact e, by rw [nI_1]⟩
        try simp only
        rw [f_X6_endOf_151, h11, if_pos (nI_lt hq (by omega)), if_pos pin, if_pos (show z 62 (nI y).toNatClampNeg = -1 by rw [nI_clamp (by omega)]; exact h62), m_eq_bind (m_ibR hb7 hq7 hy7 hk.2 h14)]
        by_cases g1 : ((m_dif b y == 0) && (m_pop b == k) && y.testBit q && !(b.testBit q)) = true
        case neg =>
          left
          rw [if_pos (by rw [if_neg g1])]
          exact skip (by
            cases e : j_g (A q) k b
            · rfl
            · exact absurd (bo.mpr e).1 g1)
        have hbn : b < 2 ^ h 4 0 := by
          simp only [Bool.and_eq_true, beq_iff_eq] at g1
          exact Nat.lt_of_le_of_lt (m_sub_le hb7 g1.1.1.1) hyn
        rw [if_neg (by rw [if_pos g1]; decide), m_eq_bind (m_ajR hn h11 jt hbn hq)]
        by_cases g2 : m_dif b (A q) = 0
        case neg =>
          left
          rw [if_pos (by rw [if_neg g2])]
          exact skip (by
            cases e : j_g (A q) k b
            · rfl
            · exact absurd (bo.mpr e).2 g2)
        right
        right
        have yq : y.testBit q = true := by
          simp only [Bool.and_eq_true] at g1
          exact g1.1.2
        have d7 : m_dif y (2 ^ q) < 128 := m_dif_lt hy7
        refine ⟨q, hq7, ?_, yq, bo.mp ⟨g1, g2⟩, hz2⟩
        rw [if_neg (by rw [if_pos g2]; decide), if_pos pin, b_sh1 q (by omega), b_dif y hy7 _ (m_bit2 q hq7), if_pos (m_px d7 (by omega)), if_pos pin, nI_clamp (n := y) (by omega), nI_clamp (n := m_dif y (2 ^ q)) (by omega), m_up_row _ _ _ _ (show (60 : Nat) ≠ 62 by decide), hl q hq7 yq]
        obtain ⟨z', ez'⟩ : ∃ z', z' = up (up z 62 y (nI q)) 60 y (nI (l q)) := ⟨_, rfl⟩
        rw [← ez']
        have n62 : ¬ z' 62 y = -1 := by
          rw [ez', m_up_row _ _ _ _ (show (62 : Nat) ≠ 60 by decide), m_up, if_pos rfl, if_pos rfl]; exact m_n1 (by omega)
        have e133 : f_X6_endOf_133 T (f + 1) (nI y) (nI b + 1) z' = some z' := by
          rw [f_X6_endOf_133]
          by_cases c1 : nI y < nI b + 1
          · rw [if_pos c1]
          · rw [if_neg c1, if_pos pin, nI_clamp (by omega), if_neg n62]
        rw [f_X6_endOf_151]
        by_cases c1 : nI q + 1 < z' 48 11
        · rw [if_pos c1, if_pos pin, if_neg (show ¬ z' 62 (nI y).toNatClampNeg = -1 by rw [nI_clamp (by omega)]; exact n62), e133]
        · rw [if_neg c1, e133]
      · intro g _ hz2
        left
        try simp only
        rw [f_X6_endOf_151, h11, if_neg (nI_nlt (Nat.le_refl _) (by omega))]
        refine ⟨rfl, fun r hr => ?_⟩
        rcases Nat.lt_or_ge r (h 4 0) with hl | hl
        · exact hz2 r hl
        · exact aq0 r hr (m_lt_bit hyn hl) b hb7
    try simp only
    rw [f_X6_endOf_133, if_neg (nI_nlt (by omega) (by omega)), if_pos pin, nI_clamp (by omega), if_pos h62]
    rcases inner with ⟨e, i2⟩ | ⟨q, hq, e, i2, i3, i4⟩
    · left
      refine ⟨(), fun c hc r hr => ?_, by rw [e, nI_1]⟩
      rcases Nat.lt_or_ge c b with hl | hl
      · exact hz c hl r hr
      · rw [show c = b by omega]; exact i2 r hr
    · right
      exact Or.inr ⟨b, q, hb7, hq, e, i2, i3, hz, i4⟩
  · intro f _ hz
    left
    try simp only
    rw [f_X6_endOf_133, if_pos (nI_lt (by omega) (by omega))]
    refine ⟨rfl, fun b hb q hq => ?_⟩
    rcases Nat.lt_or_ge b (y + 1) with hl | hl
    · exact hz b hl q hq
    · exact big b hb (by omega) q hq
end
