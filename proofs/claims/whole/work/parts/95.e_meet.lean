theorem c_meet0 : ∀ M, M < 128 → ∀ b, b < 128 → m_dif b M = 0 → m_pop b + 1 = m_pop M → (List.range 7).any (fun q => M.testBit q && (b == m_dif M (2 ^ q)) && (m_dif M b == 2 ^ q)) = true := by decide +kernel
theorem c_meet {M : Nat} (hM : M < 128) {b : Nat} (hb : b < 128) (h1 : m_dif b M = 0) (h2 : m_pop b + 1 = m_pop M) : ∃ q, q < 7 ∧ M.testBit q = true ∧ b = m_dif M (2 ^ q) ∧ m_dif M b = 2 ^ q := by
  have := c_meet0 M hM b hb h1 h2
  rw [List.any_eq_true] at this
  obtain ⟨q, hq, e⟩ := this
  simp only [Bool.and_eq_true, beq_iff_eq] at e
  exact ⟨q, List.mem_range.mp hq, e.1.1, e.1.2, e.2⟩
theorem c_meet2 : ∀ M, M < 128 → ∀ q, q < 7 → M.testBit q = true → (m_dif (m_dif M (2 ^ q)) M = 0 ∧ m_pop (m_dif M (2 ^ q)) + 1 = m_pop M ∧ m_dif M (2 ^ q) < M ∧ m_dif M (m_dif M (2 ^ q)) = 2 ^ q) := by decide +kernel
theorem c_meet30 : ∀ M, M < 128 → ∀ q, q < 7 → M.testBit q = true → (List.range 7).all (fun r => !(M.testBit r) || !(decide (q < r)) || decide (m_dif M (2 ^ r) < m_dif M (2 ^ q))) = true := by decide +kernel
theorem c_meet3 (M : Nat) (hM : M < 128) (q : Nat) (hq : q < 7) (hb : M.testBit q = true) (r : Nat) (hr : r < 7) (hbr : M.testBit r = true) (hqr : q < r) : m_dif M (2 ^ r) < m_dif M (2 ^ q) := by
  have := List.all_eq_true.mp (c_meet30 M hM q hq hb) r (List.mem_range.mpr hr)
  simpa [hbr, hqr] using this
theorem c_shr1 : ∀ q, q < 7 → ∀ j, j < 8 → ((nI (2 ^ q) >>> (nI j &&& 31)) = 1 ↔ j = q) := by decide +kernel
section
variable {T : Nat} {h : px_H} {C : Nat → List Int32} {st : px_S}
/-- the reference finds who is left of a band -/
theorem m_meet109 {K : Int32 → Int32 → Int32 → px_S → Option px_S} {M b q : Nat} (hM : M < 128) (hb : b < 128) (hq : q < 7) (e : m_dif M b = 2 ^ q) : f_X6_meets_109 T K 1000 (nI M) (nI b) 0 st = ((f_X6_allWould T st (nI b) (nI q)).bind fun b2 => (if b2 = 0 then (K (nI M) b2 (nI b + 1) st) else (K (nI M) b2 (nI b + 1) (up st 48 12 ((st 48 12) &&& (((1 : Int32) <<< (nI q &&& 31)) ^^^ (-1))))))) := by
  refine m_for (σ := Unit) (fun f i _ => f_X6_meets_109 T K f (nI M) (nI b) (nI i) st) q (fun _ _ => True) (fun r => r = _) ?_ ?_ q 0 () 1000 (by omega) trivial (by omega)
  · intro f i _ hi _
    left
    rw [f_X6_meets_109, b_dif M hM b hb, e, if_neg (fun g => by have := (c_shr1 q hq i (by omega)).mp g; omega), nI_1]
    exact ⟨(), trivial, rfl⟩
  · intro f _ _
    rw [f_X6_meets_109, b_dif M hM b hb, e, if_pos ((c_shr1 q hq q (by omega)).mpr rfl)]
theorem m_meet74 (hw : m_HW h) (k : m_RJ st h C) (l : m_LR st h C (h 5 0)) {M : Nat} (hM : M < 128) (hg : j_g (h 5 0) (h 7 0 + 1) M = true) : ∃ v st', f_X6_meets_74 T 1000 (nI M) 0 1 st = some st' ∧ j_los h C M v ∧ ((v = -1 ∧ st' = st) ∨ ∃ q, q < 7 ∧ v = nI q ∧ st' = up st 48 12 (nI (m_dif (h 5 0) (2 ^ q)))) := by
  have hs7 : h 5 0 < 128 := Nat.lt_of_lt_of_le hw.2.1 (m_pow7 hw.1)
  have hk := hw.2.2.2.1
  have rq := m_RQ_of k hw l
  obtain ⟨gs, gp⟩ := (j_g_iff hM).mp hg
  have hM1 : 1 ≤ M := m_pop1 M hM (by omega)
  refine m_for (σ := Unit) (fun f i _ => f_X6_meets_74 T (f + 1) (nI M) 0 (nI i) st) M (fun i _ => ∀ q, q < 7 → M.testBit q = true → m_dif M (2 ^ q) < i → ¬ j_W h C M q) (fun r => ∃ v st', r = some st' ∧ j_los h C M v ∧ ((v = -1 ∧ st' = st) ∨ ∃ q, q < 7 ∧ v = nI q ∧ st' = up st 48 12 (nI (m_dif (h 5 0) (2 ^ q))))) ?_ ?_ (M - 1) 1 () 999 (by omega) (fun q hq hb hlt => ?_) (by omega)
  · intro f i _ hi hz
    have hi7 : i < 128 := by omega
    have skip : (¬ (m_dif i M = 0 ∧ m_pop i = h 7 0)) → (∃ s' : Unit, (∀ q, q < 7 → M.testBit q = true → m_dif M (2 ^ q) < i + 1 → ¬ j_W h C M q) ∧ f_X6_meets_74 T (f + 1) (nI M) 0 (nI i + 1) st = f_X6_meets_74 T (f + 1) (nI M) 0 (nI (i + 1)) st) := fun hn => ⟨(), fun q hq hb hlt => by
      rcases Nat.lt_or_ge (m_dif M (2 ^ q)) i with hl | hl
      · exact hz q hq hb hl
      · exfalso
        have e : m_dif M (2 ^ q) = i := by omega
        have := c_meet2 M hM q hq hb
        exact hn ⟨by rw [← e]; exact this.1, by rw [← e]; omega⟩, by rw [nI_1]⟩
    rw [f_X6_meets_74, if_pos (nI_lt hi (by omega)), if_pos rfl]
    by_cases g1 : m_dif i M = 0
    case neg =>
      left
      rw [if_neg (fun g => g1 ((m_dif0 hi7 hM).mp g))]
      exact skip (fun g => g1 g.1)
    rw [if_pos ((m_dif0 hi7 hM).mpr g1), m_eq_bind (b_bits i hi7), k.1.2.2.2.1]
    have hpi := m_pop_le i
    by_cases g2 : m_pop i = h 7 0
    case neg =>
      left
      rw [if_neg (by rw [nI_eq (by omega) (by omega)]; exact g2)]
      exact skip (fun g => g2 g.2)
    obtain ⟨q, hq, hbq, eq, eM⟩ := c_meet hM hi7 g1 (by omega)
    have isub : ∀ j, j < 7 → i.testBit j = true → (h 5 0).testBit j = true := fun j hj hbj => gs j hj ((m_sub hi7).mp g1 j hj hbj)
    have inq : i.testBit q = false := by rw [eq, m_dq hq]; simp
    rw [if_pos (by rw [g2]), m_meet109 hM hi7 hq eM, m_eq_bind (m_allWR rq hw hw.2.1 hi7 isub hq (gs q hq hbq) inq)]
    have eW : j_W h C M q ↔ m_dif i (j_ag h C (h 5 0) (h 3) q) = 0 := by unfold j_W; rw [eq]
    by_cases w : m_dif i (j_ag h C (h 5 0) (h 3) q) = 0
    · right
      rw [if_pos w, if_neg (by decide), k.1.2.1, b_sh1 q (by omega), b_dif _ hs7 _ (m_bit2 q hq)]
      refine ⟨nI q, up st 48 12 (nI (m_dif (h 5 0) (2 ^ q))), ?_, Or.inr ⟨q, hq, rfl, hbq, eW.mpr w, fun r h1 h2 hbr => hz r h2 hbr ?_⟩, Or.inr ⟨q, hq, rfl, rfl⟩⟩
      · rw [f_X6_meets_74]
        by_cases g : nI i + 1 < nI M
        · rw [if_pos g, if_neg (by decide)]
        · rw [if_neg g]
      · rw [eq]; exact c_meet3 M hM q hq hbq r h2 hbr h1
    · left
      rw [if_neg w, if_pos rfl, nI_1]
      refine ⟨(), fun r hr hbr hlt => ?_, rfl⟩
      rcases Nat.lt_or_ge (m_dif M (2 ^ r)) i with hl | hl
      · exact hz r hr hbr hl
      · have e : m_dif M (2 ^ r) = m_dif M (2 ^ q) := by omega
        have : r = q := by
          rcases Nat.lt_trichotomy r q with g | g | g
          · have := c_meet3 M hM r hr hbr q hq hbq g; omega
          · exact g
          · have := c_meet3 M hM q hq hbq r hr hbr g; omega
        rw [this]; exact fun g => w (eW.mp g)
  · intro f _ hz
    rw [f_X6_meets_74, if_neg (nI_nlt (Nat.le_refl _) (by omega))]
    exact ⟨-1, st, rfl, Or.inl ⟨rfl, fun q hq hb => hz q hq hb (c_meet2 M hM q hq hb).2.2.1⟩, Or.inl ⟨rfl, rfl⟩⟩
  · have := c_meet2 M hM q hq hb
    have e0 : m_dif M (2 ^ q) = 0 := by omega
    have : m_pop 0 + 1 = m_pop M := by rw [← e0]; exact this.2.1
    have : m_pop 0 = 0 := by decide
    omega
end
