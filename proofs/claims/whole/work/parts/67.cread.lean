/-- the class's reader stands at the token i, with so much code behind it -/
def m_pre (tok : Nat → Int32) (cnt : Nat) (st : px_S) (i len : Nat) : Prop :=
  (∀ j, j < cnt → st 33 j = tok j) ∧ st 31 4 = nI cnt ∧ st 31 5 = nI i ∧ st 31 7 = nI len ∧ i ≤ cnt ∧ len ≤ i
/-- what a step of the class's reader changes -/
def m_cs (st st' : px_S) (i len : Nat) (code : List Int32) : Prop :=
  m_fr [31, 35] st st' ∧ (∀ j, j ≠ 5 → j ≠ 7 → st' 31 j = st 31 j) ∧ st' 31 5 = nI i ∧ st' 31 7 = nI (len + code.length) ∧ (∀ j, j < len → st' 35 j = st 35 j) ∧ ∀ k, k < code.length → st' 35 (len + k) = code.getD k 0
theorem m_cs_tr {s t u : px_S} {i j len : Nat} {c d : List Int32} (h : m_cs s t i len c) (k : m_cs t u j (len + c.length) d) : m_cs s u j len (c ++ d) := by
  obtain ⟨h1, h2, h3, h4, h5, h6⟩ := h
  obtain ⟨k1, k2, k3, k4, k5, k6⟩ := k
  refine ⟨m_fr_tr h1 k1, fun a ha hb => (k2 a ha hb).trans (h2 a ha hb), k3, by rw [k4, List.length_append, Nat.add_assoc], fun a ha => (k5 a (by omega)).trans (h5 a ha), fun a ha => ?_⟩
  rw [List.length_append] at ha
  rw [List.getD_eq_getElem?_getD]
  rcases Nat.lt_or_ge a c.length with hl | hl
  · rw [k5 _ (by omega), h6 a hl, List.getElem?_append_left hl, List.getD_eq_getElem?_getD]
  · rw [List.getElem?_append_right hl, show len + a = len + c.length + (a - c.length) by omega, k6 _ (by omega), List.getD_eq_getElem?_getD]
theorem m_cs_refl {st : px_S} {i len : Nat} (h1 : st 31 5 = nI i) (h2 : st 31 7 = nI len) : m_cs st st i len [] := ⟨m_fr_refl _ _, fun _ _ _ => rfl, h1, h2, fun _ _ => rfl, fun k hk => absurd hk (Nat.not_lt_zero _)⟩
theorem m_cs_pre {tok : Nat → Int32} {cnt : Nat} {st st' : px_S} {i j len : Nat} {c : List Int32} (h : m_pre tok cnt st i len) (k : m_cs st st' j len c) (hj : j ≤ cnt) (hc : c.length + len ≤ j) : m_pre tok cnt st' j (len + c.length) := by
  obtain ⟨h1, h2, h3, h4, h5, h6⟩ := h
  obtain ⟨k1, k2, k3, k4, k5, k6⟩ := k
  exact ⟨fun a ha => by rw [k1 33 (by decide)]; exact h1 a ha, by rw [k2 4 (by decide) (by decide)]; exact h2, k3, k4, hj, by omega⟩
theorem m_cs_at {st : px_S} {i len : Nat} (j : Nat) (h2 : st 31 7 = nI len) : m_cs st (up st 31 5 (nI j)) j len [] :=
  ⟨m_fr_up (m_fr_refl _ _) (by simp) _ _, fun a ha hb => by simp [m_up, ha], by simp [m_up], by simp [m_up, h2], fun a _ => by simp [m_up], fun k hk => absurd hk (Nat.not_lt_zero _)⟩
theorem m_emit {T : Nat} {st : px_S} {i len : Nat} (h1 : st 31 5 = nI i) (h2 : st 31 7 = nI len) (hl : len < 160) (x : Int32) : ∃ st', f_X2_emit T x st = some st' ∧ m_cs st st' i len [x] := by
  rw [f_X2_emit, h2, if_pos (by rw [show (160 : Int32) = nI 160 from rfl]; exact nI_lt hl (by omega)), if_pos (m_px hl (by omega)), nI_clamp (by omega), nI_1]
  refine ⟨_, rfl, m_fr_up (m_fr_up (m_fr_refl _ _) (by simp) _ _) (by simp) _ _, fun a ha hb => by simp [m_up, hb], by simp [m_up, h1], by simp [m_up], fun a ha => ?_, fun k hk => ?_⟩
  · simp only [m_up]; rw [if_neg (by decide)]; simp only [if_true]; rw [if_neg (by omega)]
  · have : k = 0 := by simpa using hk
    subst this
    simp [m_up]
section
variable {T : Nat} {tok : Nat → Int32} {cnt : Nat}
theorem m_cur (hend : ∀ i, cnt ≤ i → tok i = -22) (hcnt : cnt ≤ 160) {st : px_S} {i len : Nat} (h : m_pre tok cnt st i len) : f_X2_current T st = some (tok i) := by
  obtain ⟨h1, h2, h3, h4, h5, h6⟩ := h
  rw [f_X2_current, h2, h3]
  rcases Nat.lt_or_ge i cnt with hl | hl
  · rw [if_pos (nI_lt hl (by omega)), if_pos (m_px (by omega) (by omega)), nI_clamp (by omega), h1 i hl]
  · rw [if_neg (nI_nlt hl (by omega)), hend i hl]
theorem m_passC (hend : ∀ i, cnt ≤ i → tok i = -22) (hcnt : cnt ≤ 160) {st : px_S} {i len : Nat} (h : m_pre tok cnt st i len) (x : Int32) : ∃ st', f_X2_pass T x st = some (if tok i = x then 1 else 0, st') ∧ m_cs st st' (if tok i = x then i + 1 else i) len [] := by
  have hc := m_cur (T := T) hend hcnt h
  obtain ⟨h1, h2, h3, h4, h5, h6⟩ := h
  rw [f_X2_pass, hc]
  simp only [Option.bind_some, f_X2_pass_13, h3]
  by_cases hx : tok i = x
  · simp only [if_pos hx, nI_1]
    refine ⟨_, rfl, m_cs_at (i := i) _ h4⟩
  · simp only [if_neg hx, Int32.add_zero]
    refine ⟨_, rfl, m_cs_at (i := i) _ h4⟩
/-- a reader of the class at work, by the pure one -/
def m_does (T : Nat) (tok : Nat → Int32) (cnt : Nat) (f : px_S → Option (Int32 × px_S)) (rd : Nat → m_R) : Prop :=
  ∀ (st : px_S) (i len : Nat), m_pre tok cnt st i len → ∃ st', f st = some (if (rd i).1 then 1 else 0, st') ∧ m_cs st st' (rd i).2.2 len (rd i).2.1
theorem m_openC (hcnt : cnt ≤ 160) {rf : Int32 → Int32 → px_S → Option (Int32 × px_S)} {rd : Nat → Nat → Nat → m_R} (step : Int32) (l o : Nat) (ho : o ≤ 5)
    (hg : ∀ l o i, i ≤ cnt → m_good cnt i (rd l o i)) (hr : o < 5 → m_does T tok cnt (rf (nI l) (nI (o + 1))) (rd l (o + 1))) {st : px_S} {i len : Nat} (h : m_pre tok cnt st i len) (hi : i < cnt) :
    ∃ st', f_X2_readOpened T rf step (nI l) (nI o) st = some (if (m_open rd step l o i).1 then 1 else 0, st') ∧ m_cs st st' (m_open rd step l o i).2.2 len (m_open rd step l o i).2.1 := by
  have h0 := h
  obtain ⟨h1, h2, h3, h4, h5, h6⟩ := h
  rw [f_X2_readOpened, m_open]
  by_cases ho5 : o < 5
  · rw [if_pos (by rw [show (5 : Int32) = nI 5 from rfl]; exact nI_lt ho5 (by omega)), if_pos ho5, nI_1, h3, nI_1]
    have ha : m_cs st (up st 31 5 (nI (i + 1))) (i + 1) len [] := m_cs_at (i := i) _ h4
    have hp := m_cs_pre h0 ha hi (by simp; omega)
    obtain ⟨s1, e1, c1⟩ := hr ho5 _ _ _ hp
    have g := hg l (o + 1) (i + 1) hi
    rw [e1]
    simp only [Option.bind_some]
    have c2 := m_cs_tr ha c1
    by_cases hk : (rd l (o + 1) (i + 1)).1
    · simp only [if_pos hk]
      rw [if_neg (by decide)]
      by_cases hs : step = -16
      · simp only [if_pos hs]
        refine ⟨_, rfl, ?_⟩
        simpa using c2
      · simp only [if_neg hs]
        have hp2 := m_cs_pre hp c1 g.2 (by have := g.1; simp; omega)
        obtain ⟨s2, e2, c3⟩ := m_emit (T := T) c1.2.2.1 c1.2.2.2.1 (by have := g.1; have := g.2; simp; omega) step
        rw [e2]
        refine ⟨_, rfl, ?_⟩
        have := m_cs_tr c2 (by simpa using c3)
        simpa using this
    · simp only [if_neg hk, if_true]
      refine ⟨_, rfl, ?_⟩
      simpa using c2
  · rw [if_neg (by rw [show (5 : Int32) = nI 5 from rfl]; exact nI_nlt (by omega) (by omega)), if_neg ho5]
    exact ⟨_, rfl, m_cs_refl h3 h4⟩
theorem m_01 (b : Bool) : ((if b then (1 : Int32) else 0) = 0 ∨ (if b then (1 : Int32) else 0) = 1) := by cases b <;> simp
theorem m_oneC (hend : ∀ i, cnt ≤ i → tok i = -22) (hcnt : cnt ≤ 160) {rf : Int32 → Int32 → px_S → Option (Int32 × px_S)} {rd : Nat → Nat → Nat → m_R} (o : Nat) (ho : o ≤ 5)
    (hg : ∀ l o i, i ≤ cnt → m_good cnt i (rd l o i)) (hr : ∀ l, l ≤ 5 → o < 5 → m_does T tok cnt (rf (nI l) (nI (o + 1))) (rd l (o + 1))) :
    m_does T tok cnt (f_X2_readOne T rf (nI o)) (m_one tok rd o) := by
  intro st i len h
  have h0 := h
  obtain ⟨h1, h2, h3, h4, h5, h6⟩ := h
  rw [f_X2_readOne, m_cur hend hcnt h0, m_one]
  simp only [Option.bind_some]
  by_cases c6 : tok i < -6
  · rw [if_pos c6, if_pos c6]
    by_cases c13 : tok i = -13
    · rw [if_pos c13, if_pos c13]
      obtain ⟨s1, e1, k1⟩ := m_openC (T := T) hcnt (-15) 5 o ho hg (hr 5 (by omega)) h0 (m_tok_lt hend c13 (by decide))
      rw [show (5 : Int32) = nI 5 from rfl, e1]
      simp only [Option.bind_some, if_pos (m_01 _)]
      exact ⟨_, rfl, k1⟩
    · rw [if_neg c13, if_neg c13]
      by_cases c16 : tok i = -16
      · rw [if_pos c16, if_pos c16]
        have hi := m_tok_lt hend c16 (by decide)
        obtain ⟨s1, e1, k1⟩ := m_openC (T := T) hcnt (-16) 0 o ho hg (hr 0 (by omega)) h0 hi
        have g := m_open_good hg (-16) 0 o i hi
        rw [show (0 : Int32) = nI 0 from rfl, e1]
        simp only [Option.bind_some]
        by_cases hk : (m_open rd (-16) 0 o i).1
        · simp only [if_pos hk]
          rw [if_neg (by decide)]
          have hp := m_cs_pre h0 k1 g.2 (by have := g.1; omega)
          obtain ⟨s2, e2, k2⟩ := m_passC (T := T) hend hcnt hp (-17)
          rw [e2]
          simp only [Option.bind_some]
          have k3 := m_cs_tr k1 k2
          by_cases c17 : tok (m_open rd (-16) 0 o i).2.2 = -17
          · simp only [if_pos c17] at k3 ⊢
            rw [if_neg (by decide)]
            exact ⟨_, rfl, by simpa using k3⟩
          · simp only [if_neg c17] at k3 ⊢
            rw [if_pos (by decide)]
            exact ⟨_, rfl, by simpa using k3⟩
        · simp only [if_neg hk]
          rw [if_pos (by decide)]
          exact ⟨_, rfl, k1⟩
      · rw [if_neg c16, if_neg c16]
        exact ⟨_, rfl, m_cs_refl h3 h4⟩
  · rw [if_neg c6, if_neg c6, h3, nI_1]
    have hi : i < cnt := by
      rcases Nat.lt_or_ge i cnt with hl | hl
      · exact hl
      · rw [hend i hl] at c6; exact absurd (by decide) c6
    have ha : m_cs st (up st 31 5 (nI (i + 1))) (i + 1) len [] := m_cs_at (i := i) _ h4
    obtain ⟨s2, e2, c3⟩ := m_emit (T := T) ha.2.2.1 (by simpa using ha.2.2.2.1) (show len < 160 by omega) (tok i)
    rw [e2]
    refine ⟨_, rfl, ?_⟩
    have := m_cs_tr ha (by simpa using c3)
    simpa using this
theorem m_loopC (hend : ∀ i, cnt ≤ i → tok i = -22) (hcnt : cnt ≤ 160) {rf : Int32 → Int32 → px_S → Option (Int32 × px_S)} {rd : Nat → m_R} {l o : Nat} (hl : l < 5)
    (hg : ∀ i, i ≤ cnt → m_good cnt i (rd i)) (hr : m_does T tok cnt (rf (nI (l + 1)) (nI o)) rd) (most : Nat) (hm : most ≤ 160) :
    ∀ (k y fuel : Nat), y + k = most → k < fuel → m_does T tok cnt (f_X2_readLevel_b_63 T rf fuel (nI l) (nI o) (nI most) (nI y)) (m_loop tok rd (nI l) k) := by
  intro k
  induction k with
  | zero =>
    intro y fuel hy hf st i len h
    obtain ⟨n, rfl⟩ : ∃ n, fuel = n + 1 := ⟨fuel - 1, by omega⟩
    rw [f_X2_readLevel_b_63, if_neg (nI_nlt (by omega) (by omega)), m_loop]
    exact ⟨_, rfl, m_cs_refl h.2.2.1 h.2.2.2.1⟩
  | succ k ih =>
    intro y fuel hy hf st i len h
    obtain ⟨n, rfl⟩ : ∃ n, fuel = n + 1 := ⟨fuel - 1, by omega⟩
    rw [f_X2_readLevel_b_63, if_pos (nI_lt (by omega) (by omega)), m_cur hend hcnt h, m_loop]
    simp only [Option.bind_some]
    have h0 := h
    obtain ⟨h1, h2, h3, h4, h5, h6⟩ := h
    by_cases hv : p_X2_levelOf (tok i) = nI l
    · rw [if_pos hv, if_pos hv, h3, nI_1, nI_1]
      have hi := m_lev_lt hend hl hv
      have ha : m_cs st (up st 31 5 (nI (i + 1))) (i + 1) len [] := m_cs_at (i := i) _ h4
      have hp := m_cs_pre h0 ha hi (by simp; omega)
      obtain ⟨s1, e1, c1⟩ := hr _ _ _ hp
      have g := hg (i + 1) hi
      rw [e1]
      simp only [Option.bind_some]
      have c2 := m_cs_tr ha c1
      by_cases hk : (rd (i + 1)).1
      · simp only [if_pos hk]
        rw [if_neg (by decide)]
        have hp2 := m_cs_pre hp c1 g.2 (by have := g.1; simp; omega)
        obtain ⟨s2, e2, c3⟩ := m_emit (T := T) c1.2.2.1 c1.2.2.2.1 (by have := g.1; have := g.2; simp; omega) (tok i)
        rw [e2]
        simp only [Option.bind_some]
        have hp3 := m_cs_pre hp2 c3 g.2 (by have := g.1; simp; omega)
        rw [nI_1]
        obtain ⟨s3, e3, c4⟩ := ih (y + 1) n (by omega) (by omega) _ _ _ hp3
        rw [e3]
        refine ⟨_, rfl, ?_⟩
        have c5 := m_cs_tr c2 (by simpa using c3)
        have c6 := m_cs_tr c5 (by simpa [Nat.add_assoc] using c4)
        simpa using c6
      · simp only [if_neg hk]
        rw [if_pos (by decide)]
        refine ⟨_, rfl, ?_⟩
        simpa using c2
    · rw [if_neg hv, if_neg hv]
      exact ⟨_, rfl, m_cs_refl h3 h4⟩
theorem m_lvlC (hend : ∀ i, cnt ≤ i → tok i = -22) (hcnt : cnt ≤ 160) : ∀ (d l o : Nat), l ≤ 5 → o ≤ 5 → 6 * (5 - o) + (6 - l) ≤ d → m_does T tok cnt (f_X2_readLevel_n T d (nI l) (nI o)) (m_lvl tok d l o) := by
  intro d
  induction d with
  | zero => intro l o hl ho hd; omega
  | succ d ih =>
    intro l o hl ho hd st i len h
    have h0 := h
    obtain ⟨h1, h2, h3, h4, h5, h6⟩ := h
    have hg := m_lvl_good hend d
    rw [f_X2_readLevel_n, f_X2_readLevel_b, m_lvl]
    by_cases hl5 : l < 5
    · rw [if_pos (by rw [show (5 : Int32) = nI 5 from rfl]; exact nI_lt hl5 (by omega)), if_pos hl5]
      have rest : ∃ st', f_X2_readLevel_b_34 T (f_X2_readLevel_n T d) (nI l) (nI o) st = some (if (if (m_lvl tok d (l + 1) o i).1 then ((m_loop tok (m_lvl tok d (l + 1) o) (nI l) (if l = 2 then 1 else 160) (m_lvl tok d (l + 1) o i).2.2).1, (m_lvl tok d (l + 1) o i).2.1 ++ (m_loop tok (m_lvl tok d (l + 1) o) (nI l) (if l = 2 then 1 else 160) (m_lvl tok d (l + 1) o i).2.2).2.1, (m_loop tok (m_lvl tok d (l + 1) o) (nI l) (if l = 2 then 1 else 160) (m_lvl tok d (l + 1) o i).2.2).2.2) else m_lvl tok d (l + 1) o i).1 then 1 else 0, st') ∧ m_cs st st' (if (m_lvl tok d (l + 1) o i).1 then ((m_loop tok (m_lvl tok d (l + 1) o) (nI l) (if l = 2 then 1 else 160) (m_lvl tok d (l + 1) o i).2.2).1, (m_lvl tok d (l + 1) o i).2.1 ++ (m_loop tok (m_lvl tok d (l + 1) o) (nI l) (if l = 2 then 1 else 160) (m_lvl tok d (l + 1) o i).2.2).2.1, (m_loop tok (m_lvl tok d (l + 1) o) (nI l) (if l = 2 then 1 else 160) (m_lvl tok d (l + 1) o i).2.2).2.2) else m_lvl tok d (l + 1) o i).2.2 len (if (m_lvl tok d (l + 1) o i).1 then ((m_loop tok (m_lvl tok d (l + 1) o) (nI l) (if l = 2 then 1 else 160) (m_lvl tok d (l + 1) o i).2.2).1, (m_lvl tok d (l + 1) o i).2.1 ++ (m_loop tok (m_lvl tok d (l + 1) o) (nI l) (if l = 2 then 1 else 160) (m_lvl tok d (l + 1) o i).2.2).2.1, (m_loop tok (m_lvl tok d (l + 1) o) (nI l) (if l = 2 then 1 else 160) (m_lvl tok d (l + 1) o i).2.2).2.2) else m_lvl tok d (l + 1) o i).2.1 := by
        have hr := ih (l + 1) o (by omega) ho (by omega)
        obtain ⟨s1, e1, c1⟩ := hr _ _ _ h0
        have g := hg (l + 1) o i h5
        rw [f_X2_readLevel_b_34, nI_1, e1]
        simp only [Option.bind_some]
        by_cases hk : (m_lvl tok d (l + 1) o i).1
        · simp only [if_pos hk]
          rw [if_neg (by decide)]
          have hp := m_cs_pre h0 c1 g.2 (by have := g.1; omega)
          by_cases hl2 : l = 2
          · subst hl2
            rw [if_pos (by decide)]
            obtain ⟨s2, e2, c2⟩ := m_loopC (T := T) hend hcnt (rf := f_X2_readLevel_n T d) (o := o) hl5 (hg (2 + 1) o) hr 1 (by omega) 1 0 1000 (by omega) (by omega) _ _ _ hp
            rw [show (1 : Int32) = nI 1 from rfl, show (0 : Int32) = nI 0 from rfl, e2]
            exact ⟨_, rfl, m_cs_tr c1 c2⟩
          · rw [if_neg (by rw [show (2 : Int32) = nI 2 from rfl, nI_eq (by omega) (by omega)]; exact hl2)]
            obtain ⟨s2, e2, c2⟩ := m_loopC (T := T) hend hcnt (rf := f_X2_readLevel_n T d) (o := o) hl5 (hg (l + 1) o) hr 160 (by omega) 160 0 1000 (by omega) (by omega) _ _ _ hp
            rw [show (160 : Int32) = nI 160 from rfl, show (0 : Int32) = nI 0 from rfl, e2]
            simp only [if_neg hl2]
            exact ⟨_, rfl, m_cs_tr c1 c2⟩
        · simp only [if_neg hk]
          rw [if_pos (by decide)]
          exact ⟨_, rfl, c1⟩
      by_cases hl2 : l = 2
      · subst hl2
        rw [if_pos (by decide), m_eq_bind (m_cur hend hcnt h0)]
        by_cases h9 : tok i = -9
        · rw [if_pos h9, if_pos (show 2 = 2 ∧ tok i = -9 from ⟨rfl, h9⟩)]
          obtain ⟨s1, e1, k1⟩ := m_openC (T := T) hcnt (-9) 2 o ho hg (fun ho5 => ih 2 (o + 1) (by omega) (by omega) (by omega)) h0 (m_tok_lt hend h9 (by decide))
          rw [e1]
          simp only [Option.bind_some, if_pos (m_01 _)]
          exact ⟨_, rfl, k1⟩
        · rw [if_neg h9, if_neg (show ¬ (2 = 2 ∧ tok i = -9) from fun h => h9 h.2)]
          exact rest
      · rw [if_neg (by rw [show (2 : Int32) = nI 2 from rfl, nI_eq (by omega) (by omega)]; exact hl2), if_neg (show ¬ (l = 2 ∧ tok i = -9) from fun h => hl2 h.1)]
        exact rest
    · rw [if_neg (by rw [show (5 : Int32) = nI 5 from rfl]; exact nI_nlt (by omega) (by omega)), if_neg hl5]
      obtain ⟨s1, e1, k1⟩ := m_oneC (T := T) hend hcnt (rf := f_X2_readLevel_n T d) o ho hg (fun l' hl' ho5 => ih l' (o + 1) hl' (by omega) (by omega)) _ _ _ h0
      rw [e1]
      simp only [Option.bind_some, if_pos (m_01 _)]
      exact ⟨_, rfl, k1⟩
end
