def m_tk (L : List (Int32 × Nat)) (i : Nat) : Int32 := (L.getD i (-22, 0)).1
def m_pl (L : List (Int32 × Nat)) (sz i : Nat) : Nat := (L.getD i (-22, sz)).2
def m_part (tok : Nat → Int32) (key : Int32) (i : Nat) : m_R :=
  if tok i = key then (if (m_lvl tok 40 0 0 (i + 1)).1 then (if tok (m_lvl tok 40 0 0 (i + 1)).2.2 = -18 then (true, (m_lvl tok 40 0 0 (i + 1)).2.1, (m_lvl tok 40 0 0 (i + 1)).2.2 + 1) else (false, (m_lvl tok 40 0 0 (i + 1)).2.1, (m_lvl tok 40 0 0 (i + 1)).2.2)) else m_lvl tok 40 0 0 (i + 1)) else (false, [], i)
def m_P0 (tok : Nat → Int32) : m_R := m_part tok (-19) 0
def m_P1 (tok : Nat → Int32) : m_R := m_part tok (-20) (m_P0 tok).2.2
def m_P2 (tok : Nat → Int32) : m_R := m_part tok (-21) (m_P1 tok).2.2
def m_ok (tok : Nat → Int32) : Bool := (m_P0 tok).1 && (m_P1 tok).1 && (m_P2 tok).1 && (tok (m_P2 tok).2.2 == -22)
def m_C (tok : Nat → Int32) (w : Nat) : List Int32 := if w = 0 then (m_P0 tok).2.1 else if w = 1 then (m_P1 tok).2.1 else (m_P2 tok).2.1
def m_flt (tok : Nat → Int32) : Nat := if (m_P0 tok).1 then (if (m_P1 tok).1 then (m_P2 tok).2.2 else (m_P1 tok).2.2) else (m_P0 tok).2.2
theorem m_tk_end (L : List (Int32 × Nat)) : ∀ i, L.length ≤ i → m_tk L i = -22 := fun i hi => by
  rw [m_tk, List.getD_eq_getElem?_getD, List.getElem?_eq_none hi]; rfl
theorem m_tk_lt {L : List (Int32 × Nat)} {i : Nat} (h : i < L.length) (d : Int32 × Nat) : (L.getD i d).1 = m_tk L i := by
  rw [m_tk, List.getD_eq_getElem?_getD, List.getD_eq_getElem?_getD, List.getElem?_eq_getElem h]; rfl
theorem m_pl_lt {L : List (Int32 × Nat)} {sz i : Nat} (h : i < L.length) (d : Int32 × Nat) : (L.getD i d).2 = m_pl L sz i := by
  rw [m_pl, List.getD_eq_getElem?_getD, List.getD_eq_getElem?_getD, List.getElem?_eq_getElem h]; rfl
theorem m_pl_end {L : List (Int32 × Nat)} {sz i : Nat} (h : L.length ≤ i) : m_pl L sz i = sz := by
  rw [m_pl, List.getD_eq_getElem?_getD, List.getElem?_eq_none h]; rfl
section
variable {T : Nat} {tok : Nat → Int32} {cnt : Nat}
theorem m_part_good (hend : ∀ i, cnt ≤ i → tok i = -22) {key : Int32} (hk : key ≠ -22) (i : Nat) (hi : i ≤ cnt) : m_good cnt i (m_part tok key i) := by
  unfold m_part
  by_cases h : tok i = key
  · rw [if_pos h]
    have hi2 := m_tok_lt hend h hk
    have g := m_lvl_good hend 40 0 0 (i + 1) hi2
    by_cases h1 : (m_lvl tok 40 0 0 (i + 1)).1
    · rw [if_pos h1]
      by_cases h2 : tok (m_lvl tok 40 0 0 (i + 1)).2.2 = -18
      · rw [if_pos h2]
        have := m_tok_lt hend h2 (by decide)
        unfold m_good at *
        simp only
        omega
      · rw [if_neg h2]; unfold m_good at *; simp only; omega
    · rw [if_neg h1]; unfold m_good at *; omega
  · rw [if_neg h]; exact ⟨by simp, hi⟩
theorem m_part_two {key : Int32} {i : Nat} (hend : ∀ i, cnt ≤ i → tok i = -22) (hk : key ≠ -22) (h1 : (m_part tok key i).1 = true) : (m_part tok key i).2.1.length + i + 2 ≤ (m_part tok key i).2.2 := by
  unfold m_part at *
  by_cases h : tok i = key
  · rw [if_pos h] at h1 ⊢
    have hi2 := m_tok_lt hend h hk
    have g := m_lvl_good hend 40 0 0 (i + 1) hi2
    by_cases h2 : (m_lvl tok 40 0 0 (i + 1)).1
    · rw [if_pos h2] at h1 ⊢
      by_cases h3 : tok (m_lvl tok 40 0 0 (i + 1)).2.2 = -18
      · rw [if_pos h3] at h1 ⊢
        unfold m_good at g; simp only; omega
      · rw [if_neg h3] at h1; exact absurd h1 (by simp)
    · rw [if_neg h2] at h1; exact absurd h1 h2
  · rw [if_neg h] at h1; exact absurd h1 (by simp)
theorem m_partC (hend : ∀ i, cnt ≤ i → tok i = -22) (hcnt : cnt ≤ 160) {key : Int32} (hk : key ≠ -22) : m_does T tok cnt (f_X2_readPart T key) (m_part tok key) := by
  intro st i len h
  obtain ⟨s1, e1, c1⟩ := m_passC (T := T) hend hcnt h key
  rw [f_X2_readPart, m_eq_bind e1, m_part]
  by_cases hx : tok i = key
  · simp only [if_pos hx] at c1 ⊢
    have hi := m_tok_lt hend hx hk
    rw [if_neg (by decide)]
    have hp := m_cs_pre h c1 hi (by have := h.2.2.2.2.2; simp; omega)
    have g := m_lvl_good hend 40 0 0 (i + 1) hi
    obtain ⟨s2, e2, c2⟩ := m_lvlC (T := T) hend hcnt 40 0 0 (by omega) (by omega) (by omega) _ _ _ hp
    rw [f_X2_readLevel, show (0 : Int32) = nI 0 from rfl, m_eq_bind e2]
    have c3 := m_cs_tr c1 c2
    by_cases h2 : (m_lvl tok 40 0 0 (i + 1)).1
    · simp only [if_pos h2]
      rw [if_neg (by decide)]
      have hp2 := m_cs_pre hp c2 g.2 (by have := g.1; have := h.2.2.2.2.2; simp; omega)
      obtain ⟨s3, e3, c4⟩ := m_passC (T := T) hend hcnt hp2 (-18)
      rw [m_eq_bind e3]
      have c5 := m_cs_tr c3 (by simpa using c4)
      by_cases h3 : tok (m_lvl tok 40 0 0 (i + 1)).2.2 = -18
      · simp only [if_pos h3] at c5 ⊢
        rw [if_neg (by decide)]
        exact ⟨_, rfl, by simpa using c5⟩
      · simp only [if_neg h3] at c5 ⊢
        rw [if_pos (by decide)]
        exact ⟨_, rfl, by simpa using c5⟩
    · simp only [if_neg h2]
      rw [if_pos (by decide)]
      exact ⟨_, rfl, by simpa using c3⟩
  · simp only [if_neg hx] at c1 ⊢
    rw [if_pos (by decide)]
    exact ⟨_, rfl, c1⟩
end
theorem m_placeC {T : Nat} {st : px_S} {L : List (Int32 × Nat)} {sz i : Nat} (hL : L.length ≤ 160) (hi : i ≤ L.length) (h1 : st 31 1 = nI sz) (h4 : st 31 4 = nI L.length) (h5 : st 31 5 = nI i) (h34 : ∀ k, k < L.length → st 34 k = nI (L.getD k (0, 0)).2) : f_X2_place T st = some (nI (m_pl L sz i)) := by
  rw [f_X2_place, h4, h5]
  rcases Nat.lt_or_ge i L.length with hl | hl
  · rw [if_pos (nI_lt hl (by omega)), if_pos (m_px (by omega) (by omega)), nI_clamp (by omega), h34 i hl, m_pl_lt hl]
  · rw [if_neg (nI_nlt hl (by omega)), h1, m_pl_end hl]
/-- the rows that compile may change -/
def m_cf (st s : px_S) : Prop := m_fr [31, 33, 34, 35] st s ∧ ∀ j, j ≠ 4 → j ≠ 5 → j ≠ 7 → s 31 j = st 31 j
theorem m_compileC {T : Nat} {st : px_S} {B : Nat → Int32} {sz : Nat} (hsz : sz ≤ 160) (h1 : st 31 1 = nI sz) (h2 : ∀ j, j < sz → st 32 j = B j) (hT : T ≠ 1 ∧ px_n T < 900) (hok : px_ok T st) :
    (m_ok (m_tk (m_lx B sz 0)) = true ∧ ∃ s, f_X2_compile T st = some (.inr s) ∧ m_TX s (px_n T) (m_C (m_tk (m_lx B sz 0))) ∧ ∃ s0, m_cf st s0 ∧ m_fr [px_n T, px_n T + 1] s0 s ∧ f_X2_place (T + 1) s0 = some (nI (m_pl (m_lx B sz 0) sz (m_flt (m_tk (m_lx B sz 0))))))
    ∨ (m_ok (m_tk (m_lx B sz 0)) = false ∧ ∃ s, f_X2_compile T st = some (.inl s) ∧ m_cf st s ∧ f_X2_place T s = some (nI (m_pl (m_lx B sz 0) sz (m_flt (m_tk (m_lx B sz 0)))))) := by
  obtain ⟨L, hL⟩ : ∃ L, L = m_lx B sz 0 := ⟨_, rfl⟩
  have hlen := m_lx_len B sz sz 0 (by omega)
  rw [← hL] at hlen ⊢
  obtain ⟨s0, e0, a1, a2, a3, a4, a5⟩ := m_splitC (T := T) (B := B) hsz sz 0 0 1000 (up st 31 4 0) (by omega) (by omega) (by omega) (by omega) (by simp [m_up, h1]) (fun j hj => by simp [m_up, h2 j hj]) (by simp [m_up]; rfl)
  rw [← hL] at a3 a5
  simp only [Nat.zero_add] at a3 a5
  have hend := m_tk_end L
  have hcnt : L.length ≤ 160 := by omega
  have hp0 : m_pre (m_tk L) L.length (up (up s0 31 5 0) 31 7 0) 0 0 := ⟨fun j hj => by simp only [m_up]; simp; rw [(a5 j hj).1, m_tk_lt hj], by simp [m_up, a3], by simp [m_up]; rfl, by simp [m_up]; rfl, by omega, by omega⟩
  have f0 : m_cf st (up (up s0 31 5 0) 31 7 0) := ⟨m_fr_up (m_fr_up (m_fr_mono (m_fr_tr (m_fr_up (m_fr_refl _ _) (by simp) _ _) a1) (by intro a ha; simp at ha ⊢; omega)) (by simp) _ _) (by simp) _ _, fun j h4 h5 h7 => by simp [m_up, h5, h7, a2 j h4, h4]⟩
  have k34 : ∀ k, k < L.length → (up (up s0 31 5 0) 31 7 0) 34 k = nI (L.getD k (0, 0)).2 := fun k hk => by simp only [m_up]; simp; rw [(a5 k hk).2]; simp
  -- what holds behind any step
  have fin : ∀ (s : px_S) (i len : Nat) (c : List Int32), m_cs (up (up s0 31 5 0) 31 7 0) s i len c → i ≤ L.length → m_cf st s ∧ ∀ T, f_X2_place T s = some (nI (m_pl L sz i)) := by
    intro s i len c hc hi
    have hf : m_cf st s := ⟨m_fr_tr f0.1 (m_fr_mono hc.1 (by intro a ha; simp at ha ⊢; omega)), fun j h4 h5 h7 => (hc.2.1 j h5 h7).trans (f0.2 j h4 h5 h7)⟩
    exact ⟨hf, fun T => m_placeC hcnt hi (by rw [hf.2 1 (by decide) (by decide) (by decide)]; exact h1) (by rw [hc.2.1 4 (by decide) (by decide)]; simp [m_up, a3]) hc.2.2.1 (fun k hk => by rw [hc.1 34 (by decide)]; exact k34 k hk)⟩
  obtain ⟨s1, e1, c1⟩ := m_partC (T := T) hend hcnt (key := -19) (by decide) _ _ _ hp0
  have g0 := m_part_good hend (key := -19) (by decide) 0 (Nat.zero_le _)
  rw [f_X2_compile, m_eq_bind (show f_X2_split T st = some s0 from e0), m_eq_bind e1]
  change m_cs _ _ (m_P0 (m_tk L)).2.2 _ (m_P0 (m_tk L)).2.1 at c1
  change m_good _ _ (m_P0 (m_tk L)) at g0
  change _ ∨ (_ ∧ ∃ s, (if (if (m_P0 (m_tk L)).1 then (1 : Int32) else 0) = 0 then _ else _) = _ ∧ _)
  by_cases k0 : ¬ ((m_P0 (m_tk L)).1)
  · right
    refine ⟨by simp [m_ok, k0], s1, ?_, ?_⟩
    · simp only [if_neg k0]; rw [if_pos (by decide)]
    · have := fin _ _ _ _ c1 g0.2
      rw [m_flt, if_neg k0]; exact ⟨this.1, this.2 _⟩
  have k0 := Classical.not_not.mp k0
  have e10 : ¬ ((if (m_P0 (m_tk L)).1 then (1 : Int32) else 0) = 0) := by rw [if_pos k0]; decide
  simp only [show (m_part (m_tk L) (-19) 0).1 = (m_P0 (m_tk L)).1 from rfl]
  rw [if_neg e10]
  have hp1 := m_cs_pre hp0 c1 g0.2 (by have := g0.1; omega)
  obtain ⟨s2, e2, c2⟩ := m_partC (T := T) hend hcnt (key := -20) (by decide) _ _ _ hp1
  have g1 := m_part_good hend (key := -20) (by decide) (m_P0 (m_tk L)).2.2 g0.2
  rw [m_eq_bind e2]
  have d2 := m_cs_tr c1 c2
  change m_cs _ _ (m_P1 (m_tk L)).2.2 _ (_ ++ (m_P1 (m_tk L)).2.1) at d2
  change m_cs _ _ (m_P1 (m_tk L)).2.2 _ (m_P1 (m_tk L)).2.1 at c2
  change m_good _ _ (m_P1 (m_tk L)) at g1
  simp only [show (m_part (m_tk L) (-20) (m_P0 (m_tk L)).2.2).1 = (m_P1 (m_tk L)).1 from rfl]
  by_cases k1 : ¬ ((m_P1 (m_tk L)).1)
  · right
    refine ⟨by simp [m_ok, k1], s2, ?_, ?_⟩
    · simp only [if_neg k1]; rw [if_pos (by decide)]
    · have := fin _ _ _ _ d2 g1.2
      rw [m_flt, if_pos k0, if_neg k1]; exact ⟨this.1, this.2 _⟩
  have k1 := Classical.not_not.mp k1
  have e20 : ¬ ((if (m_P1 (m_tk L)).1 then (1 : Int32) else 0) = 0) := by rw [if_pos k1]; decide
  rw [if_neg e20]
  have hp2 := m_cs_pre hp1 c2 g1.2 (by have := g0.1; have := g1.1; omega)
  obtain ⟨s3, e3, c3⟩ := m_partC (T := T) hend hcnt (key := -21) (by decide) _ _ _ hp2
  have g2 := m_part_good hend (key := -21) (by decide) (m_P1 (m_tk L)).2.2 g1.2
  rw [m_eq_bind e3]
  have d3 := m_cs_tr d2 (by simpa [Nat.add_assoc] using c3)
  change m_cs _ _ (m_P2 (m_tk L)).2.2 _ (_ ++ (m_P2 (m_tk L)).2.1) at d3
  change m_cs _ _ (m_P2 (m_tk L)).2.2 _ (m_P2 (m_tk L)).2.1 at c3
  change m_good _ _ (m_P2 (m_tk L)) at g2
  simp only [show (m_part (m_tk L) (-21) (m_P1 (m_tk L)).2.2).1 = (m_P2 (m_tk L)).1 from rfl]
  have f3 := fin _ _ _ _ d3 g2.2
  have hfl : m_flt (m_tk L) = (m_P2 (m_tk L)).2.2 := by rw [m_flt, if_pos k0, if_pos k1]
  by_cases k2 : ¬ ((m_P2 (m_tk L)).1)
  · right
    refine ⟨by simp [m_ok, k2], s3, ?_, ?_⟩
    · simp only [if_neg k2]; rw [if_pos (by decide)]
    · rw [hfl]; exact ⟨f3.1, f3.2 _⟩
  have k2 := Classical.not_not.mp k2
  have e30 : ¬ ((if (m_P2 (m_tk L)).1 then (1 : Int32) else 0) = 0) := by rw [if_pos k2]; decide
  rw [if_neg e30]
  have hp3 := m_cs_pre hp2 c3 g2.2 (by have := g0.1; have := g1.1; have := g2.1; omega)
  rw [m_eq_bind (m_cur hend hcnt hp3)]
  by_cases k3 : ¬ (m_tk L (m_P2 (m_tk L)).2.2 = -22)
  · right
    refine ⟨by simp [m_ok, k3], s3, ?_, ?_⟩
    · rw [if_neg k3]
    · rw [hfl]; exact ⟨f3.1, f3.2 _⟩
  have k3 := Classical.not_not.mp k3
  left
  have t0 := m_part_two (i := 0) hend (by decide) k0
  have t1 := m_part_two hend (by decide) k1
  have t2 := m_part_two hend (by decide) k2
  change (m_P0 (m_tk L)).2.1.length + 0 + 2 ≤ (m_P0 (m_tk L)).2.2 at t0
  change (m_P1 (m_tk L)).2.1.length + (m_P0 (m_tk L)).2.2 + 2 ≤ (m_P1 (m_tk L)).2.2 at t1
  change (m_P2 (m_tk L)).2.1.length + (m_P1 (m_tk L)).2.2 + 2 ≤ (m_P2 (m_tk L)).2.2 at t2
  have gg := g2.2
  have z7 : s3 31 7 = nI ((m_P0 (m_tk L)).2.1.length + (m_P1 (m_tk L)).2.1.length + (m_P2 (m_tk L)).2.1.length) := by
    rw [d3.2.2.2.1]; simp [Nat.add_assoc]
  refine ⟨by simp [m_ok, k0, k1, k2, k3], px_mkT T s3 (s1 31 7) (s2 31 7), ?_, ?_, s3, f3.1, fun a ha => ?_, by rw [hfl]; exact f3.2 _⟩
  · rw [if_pos k3, if_pos]
    refine ⟨⟨hT.1, hT.2, ?_⟩, by rw [z7]; exact m_px (by omega) (by omega)⟩
    have r11 : s3 11 = st 11 := f3.1.1 11 (by decide)
    have r36 : s3 36 = st 36 := f3.1.1 36 (by decide)
    unfold px_ok at *
    rw [r11, r36]; exact hok
  · have q1 : px_mkT T s3 (s1 31 7) (s2 31 7) (px_n T + 1) = fun j => if j = 100000 then s3 31 7 else s3 35 j := by rw [px_mkT, m_upr, if_pos rfl]
    have q0 : px_mkT T s3 (s1 31 7) (s2 31 7) (px_n T) = fun j => if j = 1 then s1 31 7 else if j = 2 then s2 31 7 else 0 := by rw [px_mkT, m_upr, if_neg (by omega), m_upr, if_pos rfl]
    refine ⟨?_, ?_, ?_, ?_, ?_⟩
    · rw [q0]; simp only [if_true]; rw [c1.2.2.2.1]; simp [m_C]
    · rw [q0]; simp only [if_true, show ¬ (2 = 1) by decide, if_false]; rw [d2.2.2.2.1]; simp [m_C]
    · rw [q1]; simp only [if_true]; rw [z7]; rfl
    · show (m_P0 (m_tk L)).2.1.length + (m_P1 (m_tk L)).2.1.length + (m_P2 (m_tk L)).2.1.length < 160; omega
    · intro k hk
      have hk2 : k < ((m_P0 (m_tk L)).2.1 ++ (m_P1 (m_tk L)).2.1 ++ (m_P2 (m_tk L)).2.1).length := hk
      rw [q1]
      simp only [List.length_append] at hk2
      simp only [show ¬ (k = 100000) by omega, if_false]
      have := d3.2.2.2.2.2 k (by simp only [List.length_append]; omega)
      rw [Nat.zero_add] at this
      rw [this]; rfl
  · simp only [List.mem_cons, List.not_mem_nil, or_false, not_or] at ha
    rw [px_mkT, m_upr, if_neg ha.2, m_upr, if_neg ha.1]
