/-- who would join against q, of s, as the oaths are -/
def j_ag (h : px_H) (C : Nat → List Int32) (s : Nat) (o : Nat → Nat) (q : Nat) : Nat := j_bt (fun p => j_pr s p q && j_w h C s p q ((o q).testBit p)) 7
theorem j_ag_lt (h : px_H) (C : Nat → List Int32) (s : Nat) (o : Nat → Nat) (q : Nat) : j_ag h C s o q < 128 := j_bt_lt _ 7
theorem j_ag_bit (h : px_H) (C : Nat → List Int32) (s : Nat) (o : Nat → Nat) (q : Nat) {p : Nat} (hp : p < 7) : (j_ag h C s o q).testBit p = (j_pr s p q && j_w h C s p q ((o q).testBit p)) := by
  unfold j_ag; rw [j_bt_bit]; simp [hp]
theorem j_ag_sub {h : px_H} {C : Nat → List Int32} {s : Nat} {o : Nat → Nat} {q n : Nat} (hn : n ≤ 7) (hs : s < 2 ^ n) : j_ag h C s o q < 2 ^ n := by
  have : j_ag h C s o q = j_ag h C s o q &&& s := by
    refine m_ext7 (j_ag_lt _ _ _ _ _) (Nat.lt_of_le_of_lt Nat.and_le_left (j_ag_lt _ _ _ _ _)) (fun p hp => ?_)
    rw [Nat.testBit_and, j_ag_bit _ _ _ _ _ hp]
    cases e : s.testBit p
    · simp [j_pr, e]
    · simp
  rw [this]; exact Nat.lt_of_le_of_lt Nat.and_le_right hs
theorem j_ag_out {h : px_H} {C : Nat → List Int32} {s : Nat} {o : Nat → Nat} {q : Nat} (hq : s.testBit q = false) : j_ag h C s o q = 0 := by
  refine m_ext7 (j_ag_lt _ _ _ _ _) (by decide) (fun p hp => ?_)
  rw [j_ag_bit _ _ _ _ _ hp, Nat.zero_testBit]
  simp [j_pr, hq]
theorem j_g_zero {k b : Nat} (hk : 2 ≤ k) (hb : b < 128) : j_g 0 k b = false := by
  cases e : j_g 0 k b
  · rfl
  · have := (j_g_iff hb).mp e
    have h0 : b = 0 := m_ext7 hb (by decide) (fun j hj => by
      rw [Nat.zero_testBit]
      cases e2 : b.testBit j
      · rfl
      · have := this.1 j hj e2; rw [Nat.zero_testBit] at this; exact absurd this (by decide))
    rw [h0, j_g_0 hk] at e; exact absurd e (by decide)
def j_fb (a k : Nat) : Int32 := match j_lo a k with | some b => nI b | none => -1
def j_rest (A : Nat → Nat) (k : Nat) : Bool := (List.range 7).all (fun q => decide (m_pop (A q) < k))
theorem j_rest_true {A : Nat → Nat} {k : Nat} : j_rest A k = true ↔ ∀ q, q < 7 → m_pop (A q) < k := by
  unfold j_rest
  rw [List.all_eq_true]
  constructor
  · intro h q hq; exact decide_eq_true_iff.mp (h q (List.mem_range.mpr hq))
  · intro h q hq; exact decide_eq_true_iff.mpr (h q (List.mem_range.mp hq))
theorem j_su_s (f : Nat → Nat) (k : Nat) : j_su f (k + 1) = j_su f k + f k := rfl
/-- the class's judge has looked: what it needs for an answer -/
def m_CQ (st : px_S) (h : px_H) (C : Nat → List Int32) (s : Nat) (o : Nat → Nat) (k : Nat) : Prop := m_LK st h C s ∧ (∀ q, q < 7 → st 16 q = nI (o q) ∧ o q < 128) ∧ st 12 7 = nI k ∧ 2 ≤ k ∧ k ≤ 5
section
variable {T : Nat} {h : px_H} {C : Nat → List Int32} {s : Nat} {o : Nat → Nat} {k : Nat} {st : px_S}
theorem m_agC0 (hq : m_LK st h C s) {q f : Nat} (hq7 : q < 7) (hf : f < 128) : f_X1_against T st (nI q) (nI f) = some (nI (j_bt (fun p => j_pr s p q && j_w h C s p q (f.testBit p)) 7)) := by
  have hin : px_in (nI q) 7 := m_px hq7 (by omega)
  have l := hq.2 q hq7
  have l0 : j_bt (j_fr h C s q false) 7 < 128 := j_bt_lt _ 7
  have l1 : j_bt (j_fr h C s q true) 7 < 128 := j_bt_lt _ 7
  rw [f_X1_against, if_pos hin, if_pos hin, nI_clamp (by omega), l.1, l.2, b_dif _ l0 _ hf, b_and _ l1 _ hf, b_or _ (m_dif_lt l0) _ (Nat.lt_of_le_of_lt Nat.and_le_left l1)]
  congr 2
  refine m_ext7 (Nat.or_lt_two_pow (n := 7) (m_dif_lt l0) (Nat.lt_of_le_of_lt Nat.and_le_left l1)) (j_bt_lt _ 7) (fun p hp => ?_)
  rw [Nat.testBit_or, m_dif_bit _ _ hp, Nat.testBit_and, j_bt_bit, j_bt_bit, j_bt_bit]
  simp only [j_fr, hp, decide_true, Bool.true_and]
  cases f.testBit p <;> simp
theorem m_agC (hq : m_CQ st h C s o k) {q : Nat} (hq7 : q < 7) : f_X1_against_ T st (nI q) = some (nI (j_ag h C s o q)) := by
  have hin : px_in (nI q) 7 := m_px hq7 (by omega)
  have ho := hq.2.1 q hq7
  rw [f_X1_against_, if_pos hin, nI_clamp (by omega), ho.1, m_eq_bind (m_agC0 hq.1 hq7 ho.2)]; rfl
theorem m_wouldC (hq : m_CQ st h C s o k) {q b : Nat} (hq7 : q < 7) (hb : b < 128) : f_X1_wouldTurnOut T st (nI b) (nI q) = some (if m_dif b (j_ag h C s o q) = 0 then 1 else 0) := by
  have hl := m_dif_lt (b := j_ag h C s o q) hb
  rw [f_X1_wouldTurnOut, m_eq_bind (m_agC hq hq7), b_dif b hb _ (j_ag_lt _ _ _ _ _)]
  by_cases h0 : m_dif b (j_ag h C s o q) = 0
  · rw [if_pos h0, if_pos (by rw [h0]; rfl)]
  · rw [if_neg h0, if_neg (nI_ne0 (by omega) (by omega))]
theorem m_fbC (hq : m_CQ st h C s o k) {q : Nat} (hq7 : q < 7) : f_X1_firstBand T st (nI q) = some (j_fb (j_ag h C s o q) k) := by
  rw [f_X1_firstBand, m_eq_bind (m_agC hq hq7), hq.2.2.1, m_eq_bind (c_low _ (j_ag_lt _ _ _ _ _) k (by have := hq.2.2.2.2; omega) hq.2.2.2.1)]; rfl
theorem m_baC (hq : m_CQ st h C s o k) {q : Nat} (hq7 : q < 7) : f_X1_bandsAgainst T st (nI q) = some (nI (j_cn (j_ag h C s o q) k)) := by
  rw [f_X1_bandsAgainst, m_eq_bind (m_agC hq hq7), hq.2.2.1, b_pop _ (j_ag_lt _ _ _ _ _), m_eq_bind (c_cho _ (j_ag_lt _ _ _ _ _) k (by have := hq.2.2.2.2; omega) hq.2.2.2.1)]
theorem m_safeC (hq : m_CQ st h C s o k) {q : Nat} (hq7 : q < 7) : f_X1_isSafe T st (nI q) = some (if m_pop (j_ag h C s o q) < k then 1 else 0) := by
  have := m_pop_le (j_ag h C s o q)
  have := hq.2.2.2.2
  rw [f_X1_isSafe, m_eq_bind (m_agC hq hq7), hq.2.2.1, b_pop _ (j_ag_lt _ _ _ _ _)]
  by_cases hl : m_pop (j_ag h C s o q) < k
  · rw [if_pos (nI_lt hl (by omega)), if_pos hl]
  · rw [if_neg (nI_nlt (by omega) (by omega)), if_neg hl]
theorem m_7 {i : Nat} (hi : i < 7) : nI i < (7 : Int32) := by rw [show (7 : Int32) = nI 7 from rfl]; exact nI_lt hi (by omega)
theorem m_allC (hq : m_CQ st h C s o k) : f_X1_allBands T st = some (nI (j_su (fun q => j_cn (j_ag h C s o q) k) 7)) := by
  rw [f_X1_allBands]
  refine m_for (σ := Int32) (fun n i z => f_X1_allBands_4 T st n z (nI i)) 7 (fun i z => z = nI (j_su (fun q => j_cn (j_ag h C s o q) k) i)) (fun r => r = some (nI (j_su (fun q => j_cn (j_ag h C s o q) k) 7))) ?_ ?_ 7 0 0 1000 (by omega) rfl (by omega)
  · intro n i z hi hz
    left
    try simp only
    rw [f_X1_allBands_4, if_pos (m_7 hi), m_eq_bind (m_baC hq hi), hz, nI_add, nI_1]
    exact ⟨_, by rw [j_su], rfl⟩
  · intro n z hz
    try simp only
    rw [f_X1_allBands_4, if_neg (by decide), hz]
theorem m_restC (hq : m_CQ st h C s o k) : f_X1_atRest T st = some (if j_rest (j_ag h C s o) k then 1 else 0) := by
  rw [f_X1_atRest]
  refine m_for (σ := Unit) (fun n i _ => f_X1_atRest_2 T st n (nI i)) 7 (fun i _ => ∀ q, q < i → m_pop (j_ag h C s o q) < k) (fun r => r = some (if j_rest (j_ag h C s o) k then 1 else 0)) ?_ ?_ 7 0 () 1000 (by omega) (fun q hq => by omega) (by omega)
  · intro n i _ hi hz
    try simp only
    rw [f_X1_atRest_2, if_pos (m_7 hi), m_eq_bind (m_safeC hq hi)]
    by_cases hl : m_pop (j_ag h C s o i) < k
    · left
      rw [if_pos hl, if_neg (by decide), nI_1]
      refine ⟨(), fun q h1 => ?_, rfl⟩
      rcases Nat.lt_or_ge q i with h2 | h2
      · exact hz q h2
      · rw [show q = i by omega]; exact hl
    · right
      rw [if_neg hl, if_pos rfl, if_neg (fun g => hl (j_rest_true.mp g i hi))]
  · intro n _ hz
    try simp only
    rw [f_X1_atRest_2, if_neg (by decide), if_pos (j_rest_true.mpr hz)]
theorem m_foC (hq : m_CQ st h C s o k) : ∃ fb fo, f_X1_firstOther T st = some fo ∧ j_F1 (fun b q => j_g (j_ag h C s o q) k b) 128 7 fb fo ∧ (fo ≠ -1 → f_X1_firstBand T st fo = some fb) := by
  rw [f_X1_firstOther]
  refine m_for (σ := Int32) (fun n i z => f_X1_firstOther_4 T st n z (nI i)) 7 (fun i z => (z = -1 ∧ ∀ q, q < i → j_lo (j_ag h C s o q) k = none) ∨ ∃ r b, r < i ∧ z = nI r ∧ j_lo (j_ag h C s o r) k = some b ∧ ∀ q c, q < i → j_lo (j_ag h C s o q) k = some c → b ≤ c ∧ (q < r → b < c)) (fun r => ∃ fb fo, r = some fo ∧ j_F1 (fun b q => j_g (j_ag h C s o q) k b) 128 7 fb fo ∧ (fo ≠ -1 → f_X1_firstBand T st fo = some fb)) ?_ ?_ 7 0 (-1) 1000 (by omega) (Or.inl ⟨rfl, fun q hq => by omega⟩) (by omega)
  · intro n i z hi hz
    left
    try simp only
    rw [f_X1_firstOther_4, if_pos (m_7 hi), m_eq_bind (m_fbC hq hi), nI_1, j_fb]
    cases e : j_lo (j_ag h C s o i) k with
    | none =>
      simp only [if_true]
      refine ⟨z, ?_, rfl⟩
      rcases hz with ⟨h1, h2⟩ | ⟨r, b, h1, h2, h3, h4⟩
      · refine Or.inl ⟨h1, fun q hql => ?_⟩
        rcases Nat.lt_or_ge q i with hl | hl
        · exact h2 q hl
        · rw [show q = i by omega]; exact e
      · refine Or.inr ⟨r, b, by omega, h2, h3, fun q c hql hc => ?_⟩
        rcases Nat.lt_or_ge q i with hl | hl
        · exact h4 q c hl hc
        · rw [show q = i by omega, e] at hc; cases hc
    | some c =>
      have hc128 := (j_lo_some e).1
      try simp only
      rw [if_neg (m_n1 (by omega))]
      rcases hz with ⟨h1, h2⟩ | ⟨r, b, h1, h2, h3, h4⟩
      · rw [if_pos h1]
        refine ⟨nI i, Or.inr ⟨i, c, by omega, rfl, e, fun q d hql hd => ?_⟩, rfl⟩
        rcases Nat.lt_or_ge q i with hl | hl
        · rw [h2 q hl] at hd; cases hd
        · have hqi : q = i := by omega
          rw [hqi, e] at hd; cases hd
          exact ⟨Nat.le_refl _, fun h => by omega⟩
      · have hb128 := (j_lo_some h3).1
        rw [h2, if_neg (m_n1 (by omega)), m_eq_bind (m_fbC hq (show r < 7 by omega)), j_fb, h3]
        try simp only
        by_cases hlt : c < b
        · rw [if_pos (nI_lt hlt (by omega))]
          refine ⟨nI i, Or.inr ⟨i, c, by omega, rfl, e, fun q d hql hd => ?_⟩, rfl⟩
          rcases Nat.lt_or_ge q i with hl | hl
          · have := h4 q d hl hd
            exact ⟨by omega, fun _ => by omega⟩
          · have hqi : q = i := by omega
            rw [hqi, e] at hd; cases hd
            exact ⟨Nat.le_refl _, fun h => by omega⟩
        · rw [if_neg (nI_nlt (by omega) (by omega))]
          refine ⟨nI r, Or.inr ⟨r, b, by omega, rfl, h3, fun q d hql hd => ?_⟩, rfl⟩
          rcases Nat.lt_or_ge q i with hl | hl
          · exact h4 q d hl hd
          · have hqi : q = i := by omega
            rw [hqi, e] at hd; cases hd
            exact ⟨by omega, fun h => by omega⟩
  · intro n z hz
    try simp only
    rw [f_X1_firstOther_4, if_neg (by decide)]
    rcases hz with ⟨h1, h2⟩ | ⟨r, b, h1, h2, h3, h4⟩
    · exact ⟨-1, z, rfl, Or.inl ⟨rfl, h1, fun b hb q hq7 => j_lo_none (h2 q hq7) b hb⟩, fun h => absurd h1 h⟩
    · obtain ⟨g1, g2, g3⟩ := j_lo_some h3
      refine ⟨nI b, z, rfl, Or.inr ⟨b, r, g1, h1, rfl, h2, g2, fun c hc q hq7 => ?_, fun q hqr => ?_⟩, fun _ => by rw [h2, m_fbC hq h1, j_fb, h3]⟩
      · show j_g (j_ag h C s o q) k c = false
        cases e : j_g (j_ag h C s o q) k c
        · rfl
        · cases e2 : j_lo (j_ag h C s o q) k with
          | none => rw [j_lo_none e2 c (by omega)] at e; cases e
          | some d =>
            have := h4 q d hq7 e2
            have hm := (j_lo_some e2).2.2 c (by omega)
            rw [hm] at e; cases e
      · show j_g (j_ag h C s o q) k b = false
        cases e : j_g (j_ag h C s o q) k b
        · rfl
        · cases e2 : j_lo (j_ag h C s o q) k with
          | none => rw [j_lo_none e2 b g1] at e; cases e
          | some d =>
            have := h4 q d (by omega) e2
            have hm := (j_lo_some e2).2.2 b (by omega)
            rw [hm] at e; cases e
end
/-- the reference has looked: what it needs for an answer -/
def m_RQ (st : px_S) (h : px_H) (C : Nat → List Int32) (s : Nat) (o : Nat → Nat) (k : Nat) : Prop :=
  m_LR st h C s ∧ (∀ q, q < h 4 0 → st 55 q = nI (o q)) ∧ (∀ q, q < 7 → o q < 128) ∧ (∀ p q, p < 7 → q < 7 → (o p).testBit q = (o q).testBit p) ∧ st 48 14 = nI k ∧ (2 ≤ k ∧ k ≤ 5) ∧ st 48 11 = nI (h 4 0) ∧ ∀ j, j < h 4 0 → st 52 j = nI (h 0 j) ∧ st 53 j = nI (h 1 j)
theorem m_RQ_48 {st st' : px_S} {h : px_H} {C : Nat → List Int32} {s : Nat} {o : Nat → Nat} {k : Nat} (q : m_RQ st h C s o k) {l : List Nat} (f : m_f48 l st st') (hl : 31 ∉ l ∧ 14 ∉ l ∧ 11 ∉ l) : m_RQ st' h C s o k := by
  unfold m_RQ m_LR m_ent at *
  rw [f.2 31 hl.1, f.2 14 hl.2.1, f.2 11 hl.2.2, f.1 52 (by decide), f.1 53 (by decide), f.1 55 (by decide), f.1 56 (by decide), f.1 57 (by decide), f.1 58 (by decide)]
  exact q
section
variable {T : Nat} {h : px_H} {C : Nat → List Int32} {s : Nat} {o : Nat → Nat} {k : Nat} {st : px_S}
theorem m_swornR (hq : m_RQ st h C s o k) (hw : m_HW h) {p q : Nat} (hp : p < h 4 0) (hq7 : q < 7) : f_X6_areSworn T st (nI p) (nI q) = some (if (o p).testBit q then 1 else 0) := by
  have hn := hw.1
  rw [f_X6_areSworn, if_pos (m_px (by omega) (by omega)), nI_clamp (by omega), hq.2.1 p hp, b_shr _ (hq.2.2.1 p (by omega)) q (by omega)]
  by_cases hb : (o p).testBit q = true
  · rw [if_pos hb, if_pos rfl]
  · rw [if_neg hb, if_neg (by decide)]
theorem m_joinR (hq : m_RQ st h C s o k) (hw : m_HW h) (hs : s < 2 ^ h 4 0) {p q : Nat} (hp : p < 7) (hq7 : q < 7) (hpr : j_pr s p q = true) : f_X6_wouldJoin T st (nI p) (nI q) = some (if j_w h C s p q ((o q).testBit p) then 1 else 0) := by
  have hn := hw.1
  have hs7 : s < 128 := Nat.lt_of_lt_of_le hs (m_pow7 hn)
  have hm : m_pop s < 8 := by have := m_pop_le s; omega
  obtain ⟨h1, h2, h3⟩ := j_pr_iff.mp hpr
  have hpn := m_bit_lt hs h2
  have hin : px_in (nI (7 * p + q)) 49 := m_px (by omega) (by omega)
  have hent := hq.1.2 p q hp hq7 hpr
  have hk := hw.2.2.2.2.2.1 p hpn
  have kr := hq.2.2.2.2.2.2.2 p hpn
  have e48 : ∀ (b : Bool) (z0 : Int32), f_X6_wouldJoin_48 T st (nI p) (if b then 1 else 0) z0 (j_gain h C s p q) = (if (j_gain h C s p q - z0) < j_wt h p (m_pop s) b then some 0 else some 1) := fun b z0 => by
    rw [f_X6_wouldJoin_48, hq.1.1, m_eq_bind (b_bits s hs7), m_eq_bind (m_wantsR hp kr.1 kr.2 hk.1 hk.2 hm b)]; rfl
  have hwt := (c_wt _ hk.1 _ hk.2 _ hm ((o q).testBit p)).2
  have hg := j_gain_b hw C hs p q
  have hoa := m_clo (j_v h C 1 p q (m_pop s))
  rw [f_X6_wouldJoin, m_eq_bind (m_swornR hq hw hpn hq7), m_ix, if_pos hin, if_pos hin, if_pos hin, nI_clamp (by omega), hent.1, hent.2.1, hent.2.2, hq.2.2.2.1 p q hp hq7]
  have s2 : j_say h C 2 p q (m_pop s) = if j_v h C 2 p q (m_pop s) = 0 then 0 else 1 := rfl
  have s1 : j_say h C 1 p q (m_pop s) = j_oa h C p q (m_pop s) := rfl
  rw [s1, s2]
  unfold j_w j_mv
  by_cases hv : j_v h C 2 p q (m_pop s) = 0
  · rw [if_pos hv, if_neg (by decide), if_neg (by simp [hv])]
  · rw [if_neg hv, if_pos rfl]
    cases hb : (o q).testBit p with
    | false =>
      rw [if_pos (show (if false = true then (1 : Int32) else 0) = 0 from rfl), e48 false]
      simp only [Bool.false_eq_true, if_false, Int32.sub_zero]
      by_cases hlt : j_gain h C s p q < j_wt h p (m_pop s) false
      · rw [if_pos hlt, if_neg (by simp [hlt])]
      · rw [if_neg hlt, if_pos (by simp [hlt, hv])]
    | true =>
      rw [if_neg (show ¬ (if true = true then (1 : Int32) else 0) = 0 by decide), e48 true]
      rw [hb] at hwt
      have b1 : 0 ≤ (j_wt h p (m_pop s) true).toInt ∧ (j_wt h p (m_pop s) true).toInt ≤ 40 := hwt
      have b2 : 0 ≤ (j_oa h C p q (m_pop s)).toInt ∧ (j_oa h C p q (m_pop s)).toInt ≤ 99 := hoa
      have i1 : (j_gain h C s p q - j_oa h C p q (m_pop s) < j_wt h p (m_pop s) true) ↔ (j_gain h C s p q < j_wt h p (m_pop s) true + j_oa h C p q (m_pop s)) := by
        rw [Int32.lt_iff_toInt_lt, Int32.lt_iff_toInt_lt, m_subI (by omega) (by omega), m_addI (by omega) (by omega)]; omega
      by_cases hlt : j_gain h C s p q < j_wt h p (m_pop s) true + j_oa h C p q (m_pop s)
      · rw [if_pos (i1.mpr hlt), if_neg (by simp [hlt])]
      · have hl2 : ¬ j_gain h C s p q < j_wt h p (m_pop s) true := fun g => hlt (by
          rw [Int32.lt_iff_toInt_lt] at g ⊢; rw [m_addI (by omega) (by omega)]; omega)
        rw [if_neg (fun g => hlt (i1.mp g)), if_pos (by simp [hlt, hl2, hv])]
theorem m_allWR (hq : m_RQ st h C s o k) (hw : m_HW h) (hs : s < 2 ^ h 4 0) {b q : Nat} (hb : b < 128) (hbs : ∀ j, j < 7 → b.testBit j = true → s.testBit j = true) (hq7 : q < 7) (hsq : s.testBit q = true) (hbq : b.testBit q = false) : f_X6_allWould T st (nI b) (nI q) = some (if m_dif b (j_ag h C s o q) = 0 then 1 else 0) := by
  have hn := hw.1
  rw [f_X6_allWould]
  refine m_for (σ := Unit) (fun n i _ => f_X6_allWould_2 T st n (nI b) (nI q) (nI i)) (h 4 0) (fun i _ => ∀ p, p < i → b.testBit p = true → (j_ag h C s o q).testBit p = true) (fun r => r = some (if m_dif b (j_ag h C s o q) = 0 then 1 else 0)) ?_ ?_ (h 4 0) 0 () 1000 (by omega) (fun p hp => by omega) (by omega)
  · intro n i _ hi hz
    try simp only
    rw [f_X6_allWould_2, hq.2.2.2.2.2.2.1, if_pos (nI_lt hi (by omega)), b_shr b hb i (by omega)]
    by_cases hbi : b.testBit i = true
    · rw [if_pos (by rw [if_pos hbi])]
      have hpr : j_pr s i q = true := j_pr_iff.mpr ⟨fun e => (by rw [e, hbq] at hbi; cases hbi), hbs i (by omega) hbi, hsq⟩
      have hbit := j_ag_bit h C s o q (p := i) (by omega)
      rw [hpr, Bool.true_and] at hbit
      rw [m_eq_bind (m_joinR hq hw hs (by omega) hq7 hpr)]
      by_cases hj : j_w h C s i q ((o q).testBit i) = true
      · left
        rw [if_pos hj, if_neg (by decide), nI_1]
        refine ⟨(), fun p hp hbp => ?_, rfl⟩
        rcases Nat.lt_or_ge p i with hl | hl
        · exact hz p hl hbp
        · rw [show p = i by omega, hbit]; exact hj
      · right
        rw [if_neg hj, if_pos rfl, if_neg (fun g => hj (by rw [← hbit]; exact (m_sub hb).mp g i (by omega) hbi))]
    · left
      rw [if_neg (by rw [if_neg hbi]; decide), nI_1]
      refine ⟨(), fun p hp hbp => ?_, rfl⟩
      rcases Nat.lt_or_ge p i with hl | hl
      · exact hz p hl hbp
      · rw [show p = i by omega] at hbp; exact absurd hbp hbi
  · intro n _ hz
    try simp only
    rw [f_X6_allWould_2, hq.2.2.2.2.2.2.1, if_neg (nI_nlt (Nat.le_refl _) (by omega)), if_pos ((m_sub hb).mpr (fun j hj hbj => hz j (m_bit_lt hs (hbs j hj hbj)) hbj))]
/-- a band's test in the reference -/
theorem m_bandR (hq : m_RQ st h C s o k) (hw : m_HW h) (hs : s < 2 ^ h 4 0) {b q : Nat} (hb : b < 128) (hqn : q < 7) {β : Type} (X Y : Option β) : ((f_X6_isBand T st (nI b) (nI q) (nI s)).bind fun b2 => (if b2 = 0 then X else ((f_X6_allWould T st (nI b) (nI q)).bind fun b4 => (if b4 = 0 then X else Y)))) = if j_g (j_ag h C s o q) k b then Y else X := by
  have hn := hw.1
  have hs7 : s < 128 := Nat.lt_of_lt_of_le hs (m_pow7 hn)
  have hk := hq.2.2.2.2.2.1
  have hpb := m_pop_le b
  have no : j_g (j_ag h C s o q) k b = false → ¬ (j_g (j_ag h C s o q) k b = true) := fun h => by rw [h]; decide
  -- what a band against q is
  have impl : j_g (j_ag h C s o q) k b = true → m_dif b s = 0 ∧ m_pop b = k ∧ s.testBit q = true ∧ b.testBit q = false ∧ m_dif b (j_ag h C s o q) = 0 := by
    intro g
    have g2 := (j_g_iff hb).mp g
    have hsub : ∀ j, j < 7 → b.testBit j = true → j_pr s j q = true := fun j hj hbj => by
      have := g2.1 j hj hbj
      rw [j_ag_bit _ _ _ _ _ hj, Bool.and_eq_true] at this
      exact this.1
    have hne : ∃ j, j < 7 ∧ b.testBit j = true := by
      refine Classical.byContradiction (fun hc => ?_)
      have h0 : b = 0 := m_ext7 hb (by decide) (fun j hj => by
        rw [Nat.zero_testBit]
        cases e : b.testBit j
        · rfl
        · exact absurd ⟨j, hj, e⟩ hc)
      rw [h0, j_g_0 hk.1] at g; cases g
    obtain ⟨j, hj, hbj⟩ := hne
    refine ⟨(m_sub hb).mpr (fun i hi hbi => (j_pr_iff.mp (hsub i hi hbi)).2.1), g2.2, (j_pr_iff.mp (hsub j hj hbj)).2.2, ?_, (m_sub hb).mpr g2.1⟩
    cases e : b.testBit q
    · rfl
    · exact absurd rfl (j_pr_iff.mp (hsub q hqn e)).1
  rw [f_X6_isBand, b_dif b hb s hs7, hq.2.2.2.2.1, b_shr s hs7 q (by omega), b_shr b hb q (by omega)]
  by_cases h1 : m_dif b s = 0
  · rw [if_pos (by rw [h1]; rfl), m_eq_bind (b_bits b hb)]
    by_cases h2 : m_pop b = k
    · rw [if_pos (by rw [h2])]
      by_cases h3 : s.testBit q = true
      · rw [if_pos (by rw [if_pos h3])]
        by_cases h4 : b.testBit q = true
        · rw [if_neg (by rw [if_pos h4]; decide), Option.bind_some, if_pos rfl, if_neg (fun g => by have := (impl g).2.2.2.1; rw [h4] at this; cases this)]
        · rw [if_pos (by rw [if_neg h4]), Option.bind_some, if_neg (by decide), m_eq_bind (m_allWR hq hw hs hb ((m_sub hb).mp h1) hqn h3 (Bool.eq_false_iff.mpr h4))]
          by_cases h5 : m_dif b (j_ag h C s o q) = 0
          · rw [if_pos h5, if_neg (by decide), if_pos ((j_g_iff hb).mpr ⟨(m_sub hb).mp h5, h2⟩)]
          · rw [if_neg h5, if_pos rfl, if_neg (fun g => h5 (impl g).2.2.2.2)]
      · rw [if_neg (by rw [if_neg h3]; decide), Option.bind_some, if_pos rfl, if_neg (fun g => h3 (impl g).2.2.1)]
    · rw [if_neg (by rw [nI_eq (by omega) (by omega)]; exact h2), Option.bind_some, if_pos rfl, if_neg (fun g => h2 (impl g).2.1)]
  · have hl := m_dif_lt (b := s) hb
    rw [if_neg (nI_ne0 (by omega) (by omega)), Option.bind_some, if_pos rfl, if_neg (fun g => h1 (impl g).1)]
theorem m_safeR (hq : m_RQ st h C s o k) (hw : m_HW h) (hs : s < 2 ^ h 4 0) {q : Nat} (hq7 : q < 7) : f_X6_isSafe T st (nI q) = some (if m_pop (j_ag h C s o q) < k then 1 else 0) := by
  have hn := hw.1
  have h128 := m_pow7 hn
  have hpos : 1 ≤ 2 ^ h 4 0 := Nat.two_pow_pos _
  have hk := hq.2.2.2.2.2.1
  have ex := j_ex (j_ag_lt h C s o q) hk
  rw [f_X6_isSafe]
  refine m_for (σ := Unit) (fun n i _ => f_X6_isSafe_2 T st n (nI q) (nI i)) (2 ^ h 4 0) (fun i _ => ∀ b, b < i → j_g (j_ag h C s o q) k b = false) (fun r => r = some (if m_pop (j_ag h C s o q) < k then 1 else 0)) ?_ ?_ (2 ^ h 4 0 - 1) 1 () 1000 (by omega) (fun b hb => by rw [show b = 0 by omega]; exact j_g_0 hk.1) (by omega)
  · intro n i _ hi hz
    try simp only
    rw [f_X6_isSafe_2, hq.2.2.2.2.2.2.1, b_sh1 _ (by omega), if_pos (nI_lt hi (by omega)), hq.1.1, m_bandR hq hw hs (by omega) hq7]
    cases e : j_g (j_ag h C s o q) k i
    · left
      rw [if_neg (by decide), nI_1]
      refine ⟨(), fun b hb => ?_, rfl⟩
      rcases Nat.lt_or_ge b i with hl | hl
      · exact hz b hl
      · rw [show b = i by omega]; exact e
    · right
      have := ex.mp ⟨i, by omega, e⟩
      rw [if_pos rfl, if_neg (by omega)]
  · intro n _ hz
    try simp only
    rw [f_X6_isSafe_2, hq.2.2.2.2.2.2.1, b_sh1 _ (by omega), if_neg (nI_nlt (Nat.le_refl _) (by omega)), if_pos]
    refine Nat.lt_of_not_ge (fun g => ?_)
    obtain ⟨b, hb, e⟩ := ex.mpr g
    rw [hz b (j_g_lt hn (j_ag_sub hn hs) hb e)] at e
    cases e
theorem m_goesR (hq : m_RQ st h C s o k) (hw : m_HW h) (hs : s < 2 ^ h 4 0) : ∃ st', f_X6_goesThrough T st = some st' ∧ m_f48 [35, 36, 37] st st' ∧ st' 48 37 = nI (j_su (fun q => j_cn (j_ag h C s o q) k) 7) ∧ j_F1 (fun b q => j_g (j_ag h C s o q) k b) 128 7 (st' 48 35) (st' 48 36) := by
  have hn := hw.1
  have h128 := m_pow7 hn
  have hpos : 1 ≤ 2 ^ h 4 0 := Nat.two_pow_pos _
  have hk := hq.2.2.2.2.2.1
  obtain ⟨g, eg⟩ : ∃ g : Nat → Nat → Bool, g = fun b q => j_g (j_ag h C s o q) k b := ⟨_, rfl⟩
  have g0 : ∀ q, g 0 q = false := fun q => by rw [eg]; exact j_g_0 hk.1
  have gn : ∀ b q, b < 128 → h 4 0 ≤ q → g b q = false := fun b q hb hq => by
    rw [eg]; simp only
    rw [j_ag_out (m_lt_bit hs hq)]; exact j_g_zero hk.1 hb
  have gN : ∀ b q, b < 128 → 2 ^ h 4 0 ≤ b → g b q = false := fun b q hb hle => by
    rw [eg]; simp only
    cases e : j_g (j_ag h C s o q) k b
    · rfl
    · have := j_g_lt hn (j_ag_sub (q := q) hn hs) hb e; omega
  rw [← eg]
  have esum : j_su (fun b => j_su (fun q => (g b q).toNat) (h 4 0)) (2 ^ h 4 0) = j_su (fun q => j_cn (j_ag h C s o q) k) 7 := by
    have a1 : j_su (fun b => j_su (fun q => (g b q).toNat) (h 4 0)) 128 = j_su (fun b => j_su (fun q => (g b q).toNat) (h 4 0)) (2 ^ h 4 0) := by
      have := j_su_tail (f := fun b => j_su (fun q => (g b q).toNat) (h 4 0)) (N := 2 ^ h 4 0) (128 - 2 ^ h 4 0) (fun i h1 h2 => by
        rw [j_su_congr (g := fun _ => 0) (h 4 0) (fun q _ => by rw [gN i q (by omega) h1]; rfl)]; exact j_su_zero _)
      rw [show 2 ^ h 4 0 + (128 - 2 ^ h 4 0) = 128 by omega] at this
      exact this
    have a2 : j_su (fun q => j_cn (j_ag h C s o q) k) 7 = j_su (fun q => j_cn (j_ag h C s o q) k) (h 4 0) := by
      have := j_su_tail (f := fun q => j_cn (j_ag h C s o q) k) (N := h 4 0) (7 - h 4 0) (fun i h1 h2 => by
        show j_su (fun b => (j_g (j_ag h C s o i) k b).toNat) 128 = 0
        rw [j_su_congr (g := fun _ => 0) 128 (fun b hb => by have := gn b i hb h1; rw [eg] at this; simp only at this; rw [this]; rfl)]; exact j_su_zero _)
      rw [show h 4 0 + (7 - h 4 0) = 7 by omega] at this
      exact this
    rw [← a1, a2, j_su_swap]
    refine j_su_congr _ (fun q _ => ?_)
    rw [eg]; rfl
  rw [f_X6_goesThrough]
  refine m_for (σ := px_S) (fun n i z => f_X6_goesThrough_17 T n (nI i) z) (2 ^ h 4 0) (fun i z => m_f48 [35, 36, 37] st z ∧ z 48 37 = nI (j_su (fun b => j_su (fun q => (g b q).toNat) (h 4 0)) i) ∧ j_F1 g i (h 4 0) (z 48 35) (z 48 36)) (fun r => ∃ st', r = some st' ∧ m_f48 [35, 36, 37] st st' ∧ st' 48 37 = nI (j_su (fun q => j_cn (j_ag h C s o q) k) 7) ∧ j_F1 g 128 7 (st' 48 35) (st' 48 36)) ?_ ?_ (2 ^ h 4 0 - 1) 1 _ 1000 (by omega) ⟨m_f48_up (m_f48_up (m_f48_up (m_f48_refl _ _) (by simp) _) (by simp) _) (by simp) _, ?_, ?_⟩ (by omega)
  · intro n b z hb hz
    obtain ⟨z1, z2, z3⟩ := hz
    left
    have kz := m_RQ_48 hq z1 (by decide)
    try simp only
    rw [f_X6_goesThrough_17, kz.2.2.2.2.2.2.1, b_sh1 _ (by omega), if_pos (nI_lt hb (by omega))]
    have inner : ∃ z', f_X6_goesThrough_29 T (f_X6_goesThrough_17 T n) 1000 (nI b) (nI 0) z = f_X6_goesThrough_17 T n (nI b + 1) z' ∧ m_f48 [35, 36, 37] st z' ∧ z' 48 37 = nI (j_su (fun b => j_su (fun q => (g b q).toNat) (h 4 0)) (b + 1)) ∧ j_F1 g (b + 1) (h 4 0) (z' 48 35) (z' 48 36) := by
      refine m_for (σ := px_S) (fun n' i z => f_X6_goesThrough_29 T (f_X6_goesThrough_17 T n) n' (nI b) (nI i) z) (h 4 0) (fun i z => m_f48 [35, 36, 37] st z ∧ z 48 37 = nI (j_su (fun b => j_su (fun q => (g b q).toNat) (h 4 0)) b + j_su (fun q => (g b q).toNat) i) ∧ ((z 48 35 = -1 ∧ z 48 36 = -1 ∧ (∀ c, c < b → ∀ q, q < h 4 0 → g c q = false) ∧ ∀ q, q < i → g b q = false) ∨ ∃ c r, (c < b ∧ r < h 4 0 ∨ c = b ∧ r < i) ∧ z 48 35 = nI c ∧ z 48 36 = nI r ∧ g c r = true ∧ (∀ d, d < c → ∀ q, q < h 4 0 → g d q = false) ∧ ∀ q, q < r → g c q = false)) (fun r => ∃ z', r = f_X6_goesThrough_17 T n (nI b + 1) z' ∧ m_f48 [35, 36, 37] st z' ∧ z' 48 37 = nI (j_su (fun b => j_su (fun q => (g b q).toNat) (h 4 0)) (b + 1)) ∧ j_F1 g (b + 1) (h 4 0) (z' 48 35) (z' 48 36)) ?_ ?_ (h 4 0) 0 z 1000 (by omega) ⟨z1, z2, ?_⟩ (by omega)
      · intro n' q y hqn hy
        obtain ⟨y1, y2, y3⟩ := hy
        left
        have ky := m_RQ_48 hq y1 (by decide)
        try simp only
        rw [f_X6_goesThrough_29, ky.2.2.2.2.2.2.1, if_pos (nI_lt hqn (by omega)), ky.1.1, m_bandR ky hw hs (by omega) (by omega), nI_1]
        have eb : j_g (j_ag h C s o q) k b = g b q := by rw [eg]
        rw [eb]
        cases e : g b q with
        | false =>
          rw [if_neg (by decide)]
          refine ⟨y, ⟨y1, ?_, ?_⟩, rfl⟩
          · rw [y2, j_su_s, e]; rfl
          · rcases y3 with ⟨a1, a2, a3, a4⟩ | ⟨c, r, a1, a2, a3, a4, a5, a6⟩
            · refine Or.inl ⟨a1, a2, a3, fun r hr => ?_⟩
              rcases Nat.lt_or_ge r q with hl | hl
              · exact a4 r hl
              · rw [show r = q by omega]; exact e
            · exact Or.inr ⟨c, r, by omega, a2, a3, a4, a5, a6⟩
        | true =>
          rw [if_pos rfl]
          have es : nI (j_su (fun b => j_su (fun q => (g b q).toNat) (h 4 0)) b + j_su (fun q => (g b q).toNat) q) + 1 = nI (j_su (fun b => j_su (fun q => (g b q).toNat) (h 4 0)) b + j_su (fun q => (g b q).toNat) (q + 1)) := by
            rw [nI_1, j_su_s, e]; rfl
          rw [y2, es]
          rcases y3 with ⟨a1, a2, a3, a4⟩ | ⟨c, r, a1, a2, a3, a4, a5, a6⟩
          · rw [if_pos a1]
            refine ⟨_, ⟨m_f48_up (m_f48_up (m_f48_up y1 (by simp) _) (by simp) _) (by simp) _, by simp [m_up], Or.inr ⟨b, q, by omega, by simp [m_up], by simp [m_up], e, a3, a4⟩⟩, rfl⟩
          · rw [if_neg (by rw [a2]; exact m_n1 (by omega))]
            refine ⟨_, ⟨m_f48_up y1 (by simp) _, by simp [m_up], Or.inr ⟨c, r, by omega, by simp [m_up, a2], by simp [m_up, a3], a4, a5, a6⟩⟩, rfl⟩
      · intro n' y hy
        obtain ⟨y1, y2, y3⟩ := hy
        try simp only
        rw [f_X6_goesThrough_29, (m_RQ_48 hq y1 (by decide)).2.2.2.2.2.2.1, if_neg (nI_nlt (Nat.le_refl _) (by omega))]
        refine ⟨y, rfl, y1, by rw [y2, j_su_s], ?_⟩
        rcases y3 with ⟨a1, a2, a3, a4⟩ | ⟨c, r, a1, a2, a3, a4, a5, a6⟩
        · refine Or.inl ⟨a1, a2, fun c hc q hqn => ?_⟩
          rcases Nat.lt_or_ge c b with hl | hl
          · exact a3 c hl q hqn
          · rw [show c = b by omega]; exact a4 q hqn
        · exact Or.inr ⟨c, r, by omega, by omega, a2, a3, a4, a5, a6⟩
      · rcases z3 with ⟨a1, a2, a3⟩ | ⟨c, r, b1, b2, a2, a3, a4, a5, a6⟩
        · exact Or.inl ⟨a1, a2, a3, fun q hq => by omega⟩
        · exact Or.inr ⟨c, r, Or.inl ⟨b1, b2⟩, a2, a3, a4, a5, a6⟩
    obtain ⟨z', e', i1, i2, i3⟩ := inner
    exact ⟨z', ⟨i1, i2, i3⟩, by rw [← nI_1]; exact e'⟩
  · intro n z hz
    obtain ⟨z1, z2, z3⟩ := hz
    try simp only
    rw [f_X6_goesThrough_17, (m_RQ_48 hq z1 (by decide)).2.2.2.2.2.2.1, b_sh1 _ (by omega), if_neg (nI_nlt (Nat.le_refl _) (by omega))]
    refine ⟨z, rfl, z1, by rw [z2, esum], ?_⟩
    rcases z3 with ⟨a1, a2, a3⟩ | ⟨c, r, b1, b2, a2, a3, a4, a5, a6⟩
    · refine Or.inl ⟨a1, a2, fun b hb q hq7 => ?_⟩
      rcases Nat.lt_or_ge b (2 ^ h 4 0) with hl | hl
      · rcases Nat.lt_or_ge q (h 4 0) with hl2 | hl2
        · exact a3 b hl q hl2
        · exact gn b q hb hl2
      · exact gN b q hb hl
    · refine Or.inr ⟨c, r, by omega, by omega, a2, a3, a4, fun d hd q hq7 => ?_, a6⟩
      rcases Nat.lt_or_ge q (h 4 0) with hl2 | hl2
      · exact a5 d hd q hl2
      · exact gn d q (by omega) hl2
  · simp only [m_up]
    simp [j_su, j_su_zero, g0]
    rfl
  · refine Or.inl ⟨by simp [m_up], by simp [m_up], fun b hb q _ => ?_⟩
    rw [show b = 0 by omega]; exact g0 q
theorem j_rest_iff {A : Nat → Nat} (hA : ∀ q, A q < 128) (hk : 2 ≤ k ∧ k ≤ 5) : (nI (j_su (fun q => j_cn (A q) k) 7) = 0) ↔ j_rest A k = true := by
  have hc := fun q => c_cho0 (A q) (hA q) k (by omega) hk.1
  have e : j_su (fun q => j_cn (A q) k) 7 = j_cn (A 0) k + j_cn (A 1) k + j_cn (A 2) k + j_cn (A 3) k + j_cn (A 4) k + j_cn (A 5) k + j_cn (A 6) k := by
    simp [j_su]
  have h0 := hc 0; have h1 := hc 1; have h2 := hc 2; have h3 := hc 3; have h4 := hc 4; have h5 := hc 5; have h6 := hc 6
  rw [e, show (0 : Int32) = nI 0 from rfl, nI_eq (by omega) (by omega), j_rest_true]
  constructor
  · intro hz q hq
    rcases (show q = 0 ∨ q = 1 ∨ q = 2 ∨ q = 3 ∨ q = 4 ∨ q = 5 ∨ q = 6 by omega) with rfl | rfl | rfl | rfl | rfl | rfl | rfl
    · exact h0.2.mp (by omega)
    · exact h1.2.mp (by omega)
    · exact h2.2.mp (by omega)
    · exact h3.2.mp (by omega)
    · exact h4.2.mp (by omega)
    · exact h5.2.mp (by omega)
    · exact h6.2.mp (by omega)
  · intro hz
    rw [h0.2.mpr (hz 0 (by omega)), h1.2.mpr (hz 1 (by omega)), h2.2.mpr (hz 2 (by omega)), h3.2.mpr (hz 3 (by omega)), h4.2.mpr (hz 4 (by omega)), h5.2.mpr (hz 5 (by omega)), h6.2.mpr (hz 6 (by omega))]
theorem m_restR (hq : m_RQ st h C s o k) (hw : m_HW h) (hs : s < 2 ^ h 4 0) : ∃ st', f_X6_isRest T st = some (if j_rest (j_ag h C s o) k then 1 else 0, st') ∧ m_f48 [35, 36, 37] st st' ∧ j_F1 (fun b q => j_g (j_ag h C s o q) k b) 128 7 (st' 48 35) (st' 48 36) := by
  obtain ⟨s1, e1, f1, g1, g2⟩ := m_goesR (T := T) hq hw hs
  rw [f_X6_isRest, m_eq_bind e1, g1]
  have hr := j_rest_iff (A := j_ag h C s o) (fun q => j_ag_lt _ _ _ _ _) hq.2.2.2.2.2.1
  by_cases h0 : j_rest (j_ag h C s o) k = true
  · rw [if_pos (hr.mpr h0), if_pos h0]; exact ⟨s1, rfl, f1, g2⟩
  · rw [if_neg (fun g => h0 (hr.mp g)), if_neg h0]; exact ⟨s1, rfl, f1, g2⟩
end
