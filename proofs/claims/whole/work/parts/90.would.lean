theorem m_split {x y : Int32} (h : x &&& (y ^^^ (-1)) = 0) : x = x &&& y := by
  apply Int32.toBitVec_inj.mp
  have h2 := congrArg Int32.toBitVec h
  rw [Int32.toBitVec_and, Int32.toBitVec_xor, show (-1 : Int32).toBitVec = BitVec.allOnes 32 from by decide, show (0 : Int32).toBitVec = 0#32 from by decide, BitVec.xor_allOnes] at h2
  rw [Int32.toBitVec_and]
  ext i hi
  have h3 := congrArg (fun b => b.getLsbD i) h2
  simp [hi] at h3 ⊢
  exact h3
theorem m_band_of {x : Int32} {s : Nat} (hs : s < 128) (h : x &&& (nI s ^^^ (-1)) = 0) : ∃ b, b < 128 ∧ x = nI b ∧ m_dif b s = 0 := by
  have e1 := m_split h
  have e2 : nI s = (127 : Int32) &&& nI s := by
    have := b_and 127 (by decide) s hs
    rw [show (127 : Int32) = nI 127 from rfl, this]
    congr 1
    refine m_ext7 hs (Nat.lt_of_le_of_lt Nat.and_le_left (by decide)) (fun j hj => ?_)
    rw [Nat.testBit_and, m_127 j hj, Bool.true_and]
  obtain ⟨j, hj, ej⟩ := pk_andE x (m := 127) 7 (by decide)
  have hj' : j < 128 := hj
  have e3 : x = nI (j &&& s) := by
    rw [e1, e2, ← Int32.and_assoc, ej, b_and j hj' s hs]
  have hb : j &&& s < 128 := Nat.lt_of_le_of_lt Nat.and_le_left hj'
  refine ⟨j &&& s, hb, e3, (m_sub hb).mpr (fun i hi h => ?_)⟩
  rw [Nat.testBit_and, Bool.and_eq_true] at h
  exact h.2
theorem m_dif0 {b s : Nat} (hb : b < 128) (hs : s < 128) : (nI b &&& (nI s ^^^ (-1)) = 0) ↔ m_dif b s = 0 := by
  rw [b_dif b hb s hs]
  have := m_dif_lt (b := s) hb
  rw [show (0 : Int32) = nI 0 from rfl, nI_eq (by omega) (by omega)]
/-- these may meet -/
def m_may (h : px_H) (b q : Nat) : Prop := b < 128 ∧ m_dif b (h 5 0) = 0 ∧ m_pop b = h 7 0 ∧ q < h 4 0 ∧ (h 5 0).testBit q = true ∧ b.testBit q = false
section
variable {T : Nat} {h : px_H} {C : Nat → List Int32} {st : px_S}
theorem m_mayC (hw : m_HW h) (hc : m_HC st 1 h) (x0 x1 : Int32) : (∃ b q, m_may h b q ∧ x0 = nI b ∧ x1 = nI q ∧ f_X5_mayMeet T st x0 x1 = some 1) ∨ ((∀ b q, m_may h b q → x0 = nI b → x1 = nI q → False) ∧ f_X5_mayMeet T st x0 x1 = some 0) := by
  have hn := hw.1
  have hs7 : h 5 0 < 128 := Nat.lt_of_lt_of_le hw.2.1 (m_pow7 hn)
  have hk := hw.2.2.2.1
  obtain ⟨k4, k5, k6, k7, k8, k9, kr, kl, ko⟩ := hc
  rw [f_X5_mayMeet, k5, k7]
  by_cases q1 : x0 &&& (nI (h 5 0) ^^^ (-1)) = 0
  case neg =>
    rw [if_neg q1]
    exact Or.inr ⟨fun b q hm e _ => q1 (by rw [e]; exact (m_dif0 hm.1 hs7).mpr hm.2.1), rfl⟩
  obtain ⟨b, hb, eb, hbs⟩ := m_band_of hs7 q1
  have hpb := m_pop_le b
  have inj : ∀ c : Nat, c < 128 → x0 = nI c → c = b := fun c hc e => ((nI_eq (by omega) (by omega)).mp (e.symm.trans eb))
  rw [if_pos q1, eb, b_pop b hb]
  by_cases q2 : m_pop b = h 7 0
  case neg =>
    rw [if_neg (by rw [nI_eq (by omega) (by omega)]; exact q2)]
    refine Or.inr ⟨fun c q hm e _ => q2 ?_, rfl⟩
    rw [← inj c hm.1 (eb.trans e)]; exact hm.2.2.1
  rw [if_pos (by rw [q2])]
  rcases j_kn_cases hn x1 with q3 | ⟨q, hq, eq, q3⟩
  · rw [m_eq_bind (m_inC0 k4 q3), if_pos rfl]
    refine Or.inr ⟨fun c r hm _ e => ?_, rfl⟩
    rw [e, j_kn, if_neg (nI_pos (by have := hm.2.2.2.1; omega)), if_pos (nI_lt hm.2.2.2.1 (by omega))] at q3
    exact absurd q3 (by decide)
  have inj2 : ∀ r : Nat, r < 100 → x1 = nI r → r = q := fun r hr e => ((nI_eq (by omega) (by omega)).mp (e.symm.trans eq))
  rw [eq, m_eq_bind (m_inC hw k4 k5 hq), b_has b hb q (by omega)]
  by_cases q4 : (h 5 0).testBit q = true
  case neg =>
    rw [if_neg q4, if_pos rfl]
    refine Or.inr ⟨fun c r hm _ e => q4 ?_, rfl⟩
    rw [← inj2 r (by have := hm.2.2.2.1; omega) (eq.trans e)]; exact hm.2.2.2.2.1
  rw [if_pos q4, if_neg (by decide)]
  by_cases q5 : b.testBit q = true
  · rw [if_neg (by rw [if_pos q5]; decide)]
    refine Or.inr ⟨fun c r hm e e2 => ?_, rfl⟩
    have := hm.2.2.2.2.2
    rw [inj2 r (by have := hm.2.2.2.1; omega) (eq.trans e2), inj c hm.1 (eb.trans e), q5] at this
    cases this
  · rw [if_pos (by rw [if_neg q5])]
    exact Or.inl ⟨b, q, ⟨hb, hbs, q2, hq, q4, Bool.eq_false_iff.mpr q5⟩, rfl, rfl, rfl⟩
theorem m_RQ_of (k : m_RJ st h C) (hw : m_HW h) {s : Nat} (l : m_LR st h C s) : m_RQ st h C s (h 3) (h 7 0) :=
  ⟨l, k.1.2.2.2.2.2.2.2.2, m_o128 hw, hw.2.2.2.2.2.2.2.2.1, k.1.2.2.2.1, hw.2.2.2.1, k.1.1, k.1.2.2.2.2.2.2.1⟩
theorem m_RJ_fr {st' : px_S} (k : m_RJ st h C) (f : ∀ a, 48 ≤ a → a ≤ 55 → st' a = st a) : m_RJ st' h C := by
  obtain ⟨k1, B, sz, k2, k3, k4⟩ := k
  exact ⟨m_HR_eq k1 (fun j _ => by rw [f 48 (by omega) (by omega)]) (fun a ha => f a (by omega) (by omega)), B, sz, m_reft_eq k2 (f 49 (by omega) (by omega)) (f 50 (by omega) (by omega)), k3, k4⟩
theorem m_pop1 : ∀ b, b < 128 → 2 ≤ m_pop b → 1 ≤ b := by decide +kernel
theorem m_wouldBad (hw : m_HW h) (hr : m_HR st h) {x0 x1 : Int32} (hno : ∀ b q, m_may h b q → x0 = nI b → x1 = nI q → False) : f_X6_would T x0 x1 st = some (-2, st) := by
  have hn := hw.1
  have h128 := m_pow7 hn
  have hs7 : h 5 0 < 128 := Nat.lt_of_lt_of_le hw.2.1 h128
  have hk := hw.2.2.2.1
  have e1 : (nI (2 ^ h 4 0) - 1).toInt = ((2 ^ h 4 0 : Nat) : Int) - 1 := pk_sub_toInt (a := 2 ^ h 4 0) (b := 1) (by omega) (by omega)
  rw [f_X6_would, hr.1, b_sh1 _ (by omega)]
  have hi := m_i x0 1 (nI (2 ^ h 4 0) - 1) (A := 1) (B := (nI (2 ^ h 4 0) - 1).toInt64) rfl rfl
  by_cases q1 : x0 < 1
  · rw [if_pos (hi.mpr (Or.inl q1))]
  by_cases q2 : nI (2 ^ h 4 0) - 1 < x0
  · rw [if_pos (hi.mpr (Or.inr q2))]
  rw [if_neg (fun g => (hi.mp g).elim q1 q2), m_eq_bind (m_knR hn hr.1 x1)]
  rcases j_kn_cases hn x1 with q3 | ⟨q, hq, eq, q3⟩
  · rw [if_pos q3]
  obtain ⟨b, hb31, eb⟩ := nI_of (x := x0) (fun g => q1 (Int32.lt_trans g (by decide)))
  have hb : b < 128 := by
    rw [eb, Int32.lt_iff_toInt_lt, e1, nI_toInt hb31] at q2; omega
  have hpb := m_pop_le b
  rw [q3, if_neg (by decide), eb, eq, f_X6_isBand, hr.2.1, hr.2.2.2.1]
  by_cases g1 : m_dif b (h 5 0) = 0
  case neg => rw [if_neg (fun g => g1 ((m_dif0 hb hs7).mp g)), Option.bind_some, if_pos rfl]
  rw [if_pos ((m_dif0 hb hs7).mpr g1), m_eq_bind (b_bits b hb)]
  by_cases g2 : m_pop b = h 7 0
  case neg => rw [if_neg (by rw [nI_eq (by omega) (by omega)]; exact g2), Option.bind_some, if_pos rfl]
  rw [if_pos (by rw [g2]), b_shr _ hs7 q (by omega), b_shr _ hb q (by omega)]
  by_cases g3 : (h 5 0).testBit q = true
  case neg => rw [if_neg (by rw [if_neg g3]; decide), Option.bind_some, if_pos rfl]
  rw [if_pos (by rw [if_pos g3])]
  by_cases g4 : b.testBit q = true
  · rw [if_neg (by rw [if_pos g4]; decide), Option.bind_some, if_pos rfl]
  · exact absurd ⟨hb, g1, g2, hq, g3, Bool.eq_false_iff.mpr g4⟩ (fun hm => hno b q hm eb eq)
theorem m_wouldR (hw : m_HW h) (k : m_RJ st h C) {b q : Nat} (hm : m_may h b q) : ∃ st2, f_X6_would T (nI b) (nI q) st = some (if m_dif b (j_ag h C (h 5 0) (h 3) q) = 0 then 1 else 0, st2) ∧ m_sc st st2 := by
  have hn := hw.1
  have h128 := m_pow7 hn
  have hs7 : h 5 0 < 128 := Nat.lt_of_lt_of_le hw.2.1 h128
  have hk := hw.2.2.2.1
  obtain ⟨hb, g1, g2, hq, g3, g4⟩ := hm
  have hb1 := m_pop1 b hb (by omega)
  have hbn : b < 2 ^ h 4 0 := Nat.lt_of_le_of_lt (m_sub_le hb g1) hw.2.1
  have e1 : (nI (2 ^ h 4 0) - 1).toInt = ((2 ^ h 4 0 : Nat) : Int) - 1 := pk_sub_toInt (a := 2 ^ h 4 0) (b := 1) (by omega) (by omega)
  have hi := m_i (nI b) 1 (nI (2 ^ h 4 0) - 1) (A := 1) (B := (nI (2 ^ h 4 0) - 1).toInt64) rfl rfl
  have ekn : j_kn (h 4 0) (nI q) = 1 := by rw [j_kn, if_neg (nI_pos (by omega)), if_pos (nI_lt hq (by omega))]
  have hr := k.1
  obtain ⟨s1, e2, f2, l2, _⟩ := m_looksR (T := T) k hw hw.2.1
  have hq2 := m_RQ_of (m_RJ_sc k f2) hw l2
  rw [f_X6_would, hr.1, b_sh1 _ (by omega), if_neg, m_eq_bind (m_knR hn hr.1 _), ekn, if_neg (by decide), f_X6_isBand, hr.2.1, hr.2.2.2.1, if_pos ((m_dif0 hb hs7).mpr g1), m_eq_bind (b_bits b hb), if_pos (by rw [g2]), b_shr _ hs7 q (by omega), b_shr _ hb q (by omega), if_pos (by rw [if_pos g3]), if_pos (by rw [g4]; rfl), Option.bind_some, if_neg (by decide), m_eq_bind e2, m_eq_bind (m_allWR hq2 hw hw.2.1 hb ((m_sub hb).mp g1) (by omega) g3 g4)]
  · by_cases c : m_dif b (j_ag h C (h 5 0) (h 3) q) = 0
    · rw [if_pos c, if_neg (by decide)]; exact ⟨s1, rfl, f2⟩
    · rw [if_neg c, if_pos rfl]; exact ⟨s1, rfl, f2⟩
  · refine fun g => (hi.mp g).elim (fun g => ?_) (fun g => ?_)
    · rw [show (1 : Int32) = nI 1 from rfl, nI_ltI (by omega) (by omega)] at g; omega
    · rw [Int32.lt_iff_toInt_lt, e1, nI_toInt (by omega)] at g; omega
end
def m_TF : List Nat := [11, 12, 13, 14, 15, 16, 19, 20, 21, 22, 23, 24, 25, 26, 27, 28, 29, 30]
theorem m_TFt {s t : px_S} (f : m_fr m_tf s t) : m_fr m_TF s t := m_fr_mono f (by intro a ha; simp [m_tf, m_TF] at ha ⊢; omega)
theorem m_TFj {s t : px_S} (f : m_fr m_jf s t) : m_fr m_TF s t := m_fr_mono f (by intro a ha; simp [m_jf, m_TF] at ha ⊢; omega)
theorem m_TFl {s t : px_S} (f : m_fr [11, 19, 20, 21, 22, 23] s t) : m_fr m_TF s t := m_fr_mono f (by intro a ha; simp [m_TF] at ha ⊢; omega)
theorem m_CQ_of {T : Nat} {st : px_S} {h : px_H} {C : Nat → List Int32} {s : Nat} (hw : m_HW h) (k : m_JS T st h C) (l : m_LK st h C s) : m_CQ st h C s (h 3) (h 7 0) :=
  ⟨l, fun q hq => ⟨k.1.2.2.2.2.2.2.2.2 q hq, m_o128 hw q hq⟩, k.1.2.2.2.1, hw.2.2.2.1.1, hw.2.2.2.1.2⟩
/-- thought of the house, and looked at those who are in -/
theorem m_tohC {T : Nat} {st : px_S} {h : px_H} (hT : T ≤ 5) (hx : I_tx T st) (hh : I_ho T st h) : ∃ C s1, f_X5_thinkingOfHouse (T + 2) st = some s1 ∧ m_fr m_TF st s1 ∧ (s1 11 1).toNatClampNeg < 70 + 2 * T ∧ m_JS (T + 2) s1 h C ∧ m_CQ s1 h C (h 5 0) (h 3) (h 7 0) ∧ m_RJ s1 h C := by
  obtain ⟨C, s0, e0, f0, k0, j0, r0, q0⟩ := m_thinkC hT hx hh
  obtain ⟨hw, h9, hc, hr⟩ := hh
  obtain ⟨s1, e1, f1, l1, k1, j1, _⟩ := m_lookC k0 hw hw.2.1
  have e5 : s0 1 5 = nI (h 5 0) := by rw [f0 1 (by decide)]; exact hc.2.1
  refine ⟨C, s1, by rw [f_X5_thinkingOfHouse, m_eq_bind e0, e5, m_eq_bind e1], m_fr_tr (m_TFt f0) (m_TFl f1), by rw [j1 1 (by decide)]; exact r0, k1, m_CQ_of hw k1 l1, m_RJ_fr q0 (fun a h1 h2 => ?_)⟩
  rw [f1 a (by simp; omega), f0 a (by simp [m_tf]; omega)]
theorem op_would {T : Nat} {st : px_S} (ag : px_ag) (hI : Inv T st) : ∃ T2 st2, px_op8 T st ag T2 st2 ∧ Inv T2 st2 := by
  have hI0 := hI
  obtain ⟨h1, h2, h3, h4, h5, h, hh, him⟩ := hI
  have hh0 := hh
  obtain ⟨hw, h9, hc, hr⟩ := hh
  have hn := hw.1
  rcases m_mayC (T := T + 2) hw hc (ag 1) (ag 2) with ⟨b, q, hm, eb, eq, e1⟩ | ⟨hno, e1⟩
  · obtain ⟨C, s1, e2, f2, r2, k2, c2, j2⟩ := m_tohC h1 h3 hh0
    obtain ⟨s2, e3, f3⟩ := m_wouldR (T := T) hw j2 hm
    have hq7 : q < 7 := by have := hm.2.2.2.1; omega
    refine ⟨T, s2, ⟨rfl, _, s1, ?_, by rw [eb, eq]; exact e3⟩, Inv_sc hI0 f2 r2 f3⟩
    rw [f_X5_would, m_eq_bind e1, if_neg (by decide), m_eq_bind e2, eb, eq, m_eq_bind (m_wouldC c2 hq7 hm.1)]
    by_cases c : m_dif b (j_ag h C (h 5 0) (h 3) q) = 0
    · rw [if_pos c, if_neg (by decide)]
    · rw [if_neg c, if_pos rfl]
  · exact ⟨T, st, ⟨rfl, -2, st, by rw [f_X5_would, m_eq_bind e1, if_pos rfl], m_wouldBad hw hr hno⟩, hI0⟩
/-- one leaves, and a day goes by, in both -/
theorem m_day1 {d : Nat} (hd : d ≤ 999) : (if 999 < nI d + 1 then (999 : Int32) else nI d + 1) = nI (if d < 999 then d + 1 else 999) := by
  rw [nI_1]
  by_cases c : d < 999
  · rw [if_neg (by rw [show (999 : Int32) = nI 999 from rfl]; exact nI_nlt (by omega) (by omega)), if_pos c]
  · rw [if_pos (by rw [show (999 : Int32) = nI 999 from rfl]; exact nI_lt (by omega) (by omega)), if_neg c]; rfl
theorem m_dayR {T : Nat} {st : px_S} {d : Nat} (hd : d ≤ 999) (h15 : st 48 15 = nI d) : f_X6_dayMore T st = some (up st 48 15 (nI (if d < 999 then d + 1 else 999))) := by
  rw [f_X6_dayMore, h15]
  by_cases c : d < 999
  · rw [if_pos (by rw [show (999 : Int32) = nI 999 from rfl]; exact nI_lt c (by omega)), nI_1, if_pos c]
  · rw [if_neg (by rw [show (999 : Int32) = nI 999 from rfl]; exact nI_nlt (by omega) (by omega)), if_neg c]; rfl
theorem m_leaveC {T a : Nat} {st : px_S} {s q : Nat} (hs : s < 128) (hq : q < 7) (h5 : st a 5 = nI s) : f_X0_leave T a (nI q) st = some (up st a 5 (nI (m_dif s (2 ^ q)))) := by
  rw [f_X0_leave, m_let, h5, b_bit q (by omega), b_dif s hs _ (m_bit2 q hq)]
theorem m_dayC {T a : Nat} {st : px_S} {d : Nat} (hd : d ≤ 999) (h8 : st a 8 = nI d) : f_X0_passDay T a st = some (up st a 8 (nI (if d < 999 then d + 1 else 999))) := by
  rw [f_X0_passDay, m_let, h8, m_day1 hd]
theorem op_turnOut {T : Nat} {st : px_S} (ag : px_ag) (hI : Inv T st) : ∃ T2 st2, px_op10 T st ag T2 st2 ∧ Inv T2 st2 := by
  have hI0 := hI
  obtain ⟨h1, h2, h3, h4, h5, h, hh, him⟩ := hI
  have hh0 := hh
  obtain ⟨hw, h9, hc, hr⟩ := hh
  have hn := hw.1
  have hs7 : h 5 0 < 128 := Nat.lt_of_lt_of_le hw.2.1 (m_pow7 hn)
  rcases m_mayC (T := T + 2) hw hc (ag 1) (ag 2) with ⟨b, q, hm, eb, eq, e1⟩ | ⟨hno, e1⟩
  case inr =>
    exact ⟨T, st, ⟨rfl, -2, st, by rw [f_X5_turnOut, m_eq_bind e1, if_pos rfl], by rw [f_X6_turnOut, m_eq_bind (m_wouldBad hw hr hno), if_pos (show (-2 : Int32) < 1 by decide), if_pos (show (-2 : Int32) = -2 from rfl)]⟩, hI0⟩
  obtain ⟨C, s1, e2, f2, r2, k2, c2, j2⟩ := m_tohC h1 h3 hh0
  have hq7 : q < 7 := by have := hm.2.2.2.1; omega
  have c0 : f_X5_turnOut (T + 2) (ag 1) (ag 2) st = (if (if m_dif b (j_ag h C (h 5 0) (h 3) q) = 0 then (1 : Int32) else 0) = 0 then (some ((-3), s1)) else ((f_X0_leave (T + 2) 1 (nI q) s1).bind fun b6 => ((f_X0_passDay (T + 2) 1 b6).bind fun b7 => (some ((p_J6_bitCount_0f7a4 (b7 1 5)), b7))))) := by
    rw [f_X5_turnOut, m_eq_bind e1, if_neg (by decide), m_eq_bind e2, eb, eq, m_eq_bind (m_wouldC c2 hq7 hm.1)]
  by_cases c : m_dif b (j_ag h C (h 5 0) (h 3) q) = 0
  case neg =>
    obtain ⟨s2, e3, f3⟩ := m_wouldR (T := T) hw j2 hm
    rw [if_neg c] at e3
    refine ⟨T, s2, ⟨rfl, -3, s1, by rw [c0, if_neg c, if_pos rfl], ?_⟩, Inv_sc hI0 f2 r2 f3⟩
    rw [f_X6_turnOut, eb, eq, m_eq_bind e3, if_pos (show (0 : Int32) < 1 by decide), if_neg (show ¬ (0 : Int32) = -2 by decide)]
  obtain ⟨d, ed⟩ : ∃ d, d = (if h 8 0 < 999 then h 8 0 + 1 else 999) := ⟨_, rfl⟩
  have hd : d ≤ 999 := by
    rw [ed]
    by_cases g : h 8 0 < 999
    · rw [if_pos g]; omega
    · rw [if_neg g]; omega
  have r1 : s1 1 = st 1 := f2 1 (by decide)
  have l1 : f_X0_leave (T + 2) 1 (nI q) s1 = some (up s1 1 5 (nI (m_dif (h 5 0) (2 ^ q)))) := m_leaveC hs7 hq7 (by rw [r1]; exact hc.2.1)
  have l2 : f_X0_passDay (T + 2) 1 (up s1 1 5 (nI (m_dif (h 5 0) (2 ^ q)))) = some (up (up s1 1 5 (nI (m_dif (h 5 0) (2 ^ q)))) 1 8 (nI d)) := by
    rw [ed]; exact m_dayC hw.2.2.2.2.1 (by rw [m_up, if_pos rfl, if_neg (by decide), r1]; exact hc.2.2.2.2.1)
  obtain ⟨s1', es1'⟩ : ∃ s1', s1' = up (up s1 1 5 (nI (m_dif (h 5 0) (2 ^ q)))) 1 8 (nI d) := ⟨_, rfl⟩
  have d7 : m_dif (h 5 0) (2 ^ q) < 128 := m_dif_lt hs7
  have cA : f_X5_turnOut (T + 2) (ag 1) (ag 2) st = some (nI (m_pop (m_dif (h 5 0) (2 ^ q))), s1') := by
    rw [c0, if_pos c, if_neg (by decide), m_eq_bind l1, m_eq_bind l2, ← es1']
    have : s1' 1 5 = nI (m_dif (h 5 0) (2 ^ q)) := by rw [es1']; simp [m_up]
    rw [this, b_pop _ d7]
  have r1' : ∀ a, a ≠ 1 → s1' a = s1 a := fun a ha => by rw [es1', m_up_row _ _ _ _ ha, m_up_row _ _ _ _ ha]
  obtain ⟨s2, e3, f3⟩ := m_wouldR (T := T) (st := s1') hw (m_RJ_fr j2 (fun a _ _ => r1' a (by omega))) hm
  rw [if_pos c] at e3
  have g48 : ∀ j, ¬ (16 ≤ j ∧ j ≤ 47) → s2 48 j = st 48 j := fun j hj => by rw [f3.2 j hj, r1' 48 (by omega), f2 48 (by decide)]
  obtain ⟨s3, es3⟩ : ∃ s3, s3 = up (up s2 48 12 (nI (m_dif (h 5 0) (2 ^ q)))) 48 15 (nI d) := ⟨_, rfl⟩
  have cB : f_X6_turnOut T (ag 1) (ag 2) s1' = some (nI (m_pop (m_dif (h 5 0) (2 ^ q))), s3) := by
    have e15 : (up s2 48 12 (nI (m_dif (h 5 0) (2 ^ q)))) 48 15 = nI (h 8 0) := by
      rw [m_up, if_pos rfl, if_neg (by decide), g48 15 (by omega)]; exact hr.2.2.2.2.1
    rw [f_X6_turnOut, eb, eq, m_eq_bind e3, if_neg (show ¬ (1 : Int32) < 1 by decide)]
    dsimp only
    rw [g48 12 (by omega), hr.2.1, b_sh1 q (by omega), b_dif _ hs7 _ (m_bit2 q hq7), m_eq_bind (m_dayR hw.2.2.2.2.1 e15), ← ed, ← es3]
    have : s3 48 12 = nI (m_dif (h 5 0) (2 ^ q)) := by rw [es3]; simp [m_up]
    rw [this, m_eq_bind (b_bits _ d7)]
  -- the state behind it: thought, then both houses
  have iA : Inv T (up (up st 1 5 (nI (m_dif (h 5 0) (2 ^ q)))) 48 12 (nI (m_dif (h 5 0) (2 ^ q)))) :=
    Inv_set hI0 hh0 him 5 12 _ (by omega) rfl (m_HW_set hw 5 _ (by omega) ⟨fun _ => m_dif_lt' hw.2.1, by omega, by omega, by omega⟩) (m_hu9 (by omega) h9)
  obtain ⟨sA, esA⟩ : ∃ sA, sA = up (up st 1 5 (nI (m_dif (h 5 0) (2 ^ q)))) 48 12 (nI (m_dif (h 5 0) (2 ^ q))) := ⟨_, rfl⟩
  rw [← esA] at iA
  have iA0 := iA
  obtain ⟨_, _, _, _, _, hA, hhA, himA⟩ := iA
  have eA8 : hA 8 0 = h 8 0 := by
    have z1 := hhA.2.2.1.2.2.2.2.1
    have z2 := hc.2.2.2.2.1
    have z3 : sA 1 8 = st 1 8 := by rw [esA, m_up_row _ _ _ _ (by decide), m_up, if_pos rfl, if_neg (by decide)]
    rw [z3, z2] at z1
    have := hhA.1.2.2.2.2.1
    have := hw.2.2.2.2.1
    exact ((nI_eq (by omega) (by omega)).mp z1).symm
  have iB := Inv_set iA0 hhA himA 8 15 d (by omega) rfl (m_HW_set hhA.1 8 d (by omega) ⟨by omega, by omega, by omega, fun _ => hd⟩) (m_hu9 (by omega) hhA.2.1)
  have iC : Inv T s3 := by
    refine Inv_sc (s1 := fun a => if a = 1 ∨ a = 48 then (up (up sA 1 8 (nI d)) 48 15 (nI d)) a else s1' a) iB (fun a ha => ?_) ?_ ⟨fun a ha hb => ?_, fun j hj => ?_⟩
    · by_cases g : a = 1 ∨ a = 48
      · simp only [if_pos g]
      · simp only [if_neg g]
        rw [r1' a (by omega), f2 a ha, m_up_row _ _ _ _ (by omega), m_up_row _ _ _ _ (by omega), esA, m_up_row _ _ _ _ (by omega), m_up_row _ _ _ _ (by omega)]
    · simp only [show ¬ (11 = 1 ∨ 11 = 48) by decide, if_false]
      rw [r1' 11 (by omega)]; exact r2
    · rw [es3, m_up_row _ _ _ _ ha, m_up_row _ _ _ _ ha, f3.1 a ha hb]
      by_cases g : a = 1
      · subst g
        simp only [true_or, if_true]
        rw [m_up_row _ _ _ _ (by decide), es1', esA]
        funext j
        rw [m_up, if_pos rfl, m_up, if_pos rfl, m_up, if_pos rfl, m_up_row _ _ _ _ (by decide), m_up, if_pos rfl, r1]
      · simp only [show ¬ (a = 1 ∨ a = 48) by omega, if_false]
    · simp only [or_true, if_true]
      rw [es3, m_up, if_pos rfl, m_up, if_pos rfl, m_up, if_pos rfl, m_up_row _ _ _ _ (by decide), esA, m_up, if_pos rfl, m_up_row _ _ _ _ (by decide), g48 j hj]
  exact ⟨T, s3, ⟨rfl, _, s1', cA, cB⟩, iC⟩
