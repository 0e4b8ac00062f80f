theorem m_levs {c : Int32} {l : Nat} (hl : l < 5) (h : p_X2_levelOf c = nI l) : (c = -14 ∧ l = 4) ∨ (c = -13 ∧ l = 3) ∨ (c = -12 ∧ l = 3) ∨ (c = -11 ∧ l = 2) ∨ (c = -10 ∧ l = 2) ∨ (c = -8 ∧ l = 1) ∨ (c = -7 ∧ l = 0) := by
  have e : ∀ a : Nat, a < 5 → nI a = nI l → l = a := fun a ha h => ((nI_eq (by omega) (by omega)).mp h).symm
  have no : ¬ (-1 : Int32) = nI l := fun h => by
    have : nI l < 0 := by rw [← h]; decide
    exact nI_pos (by omega) this
  unfold p_X2_levelOf at h
  by_cases h14 : c = -14
  · rw [if_pos h14] at h; exact Or.inl ⟨h14, e 4 (by omega) h⟩
  rw [if_neg h14] at h
  by_cases h13 : c = -13
  · rw [if_pos h13] at h; exact Or.inr (Or.inl ⟨h13, e 3 (by omega) h⟩)
  rw [if_neg h13] at h
  by_cases h12 : c = -12
  · rw [if_pos h12] at h; exact Or.inr (Or.inr (Or.inl ⟨h12, e 3 (by omega) h⟩))
  rw [if_neg h12] at h
  by_cases h11 : c = -11
  · rw [if_pos h11] at h; exact Or.inr (Or.inr (Or.inr (Or.inl ⟨h11, e 2 (by omega) h⟩)))
  rw [if_neg h11] at h
  by_cases h10 : c = -10
  · rw [if_pos h10] at h; exact Or.inr (Or.inr (Or.inr (Or.inr (Or.inl ⟨h10, e 2 (by omega) h⟩))))
  rw [if_neg h10] at h
  by_cases h9 : c = -9
  · rw [if_pos h9] at h; exact absurd h no
  rw [if_neg h9] at h
  by_cases h8 : c = -8
  · rw [if_pos h8] at h; exact Or.inr (Or.inr (Or.inr (Or.inr (Or.inr (Or.inl ⟨h8, e 1 (by omega) h⟩)))))
  rw [if_neg h8] at h
  by_cases h7 : c = -7
  · rw [if_pos h7] at h; exact Or.inr (Or.inr (Or.inr (Or.inr (Or.inr (Or.inr ⟨h7, e 0 (by omega) h⟩)))))
  rw [if_neg h7] at h; exact absurd h no
theorem m_lev_bin {c : Int32} {l : Nat} (hl : l < 5) (h : p_X2_levelOf c = nI l) (F : Nat → Int32) (a b : Int32) (s : List Int32) : m_step F c (b :: a :: s) = p_X4_join c a b :: s ∧ c ≠ -22 ∧ c ≠ -23 := by
  rcases m_levs hl h with ⟨rfl, _⟩ | ⟨rfl, _⟩ | ⟨rfl, _⟩ | ⟨rfl, _⟩ | ⟨rfl, _⟩ | ⟨rfl, _⟩ | ⟨rfl, _⟩ <;> exact ⟨rfl, by decide, by decide⟩
section
variable {T t : Nat} {B : Nat → Int32} {sz : Nat} {F : Nat → Int32}
/-- how a reading of the reference ends -/
def m_res (st : px_S) (t : Nat) (B : Nat → Int32) (sz : Nat) (F : Nat → Int32) (o : Nat) (v : Int32) (pre : List Int32) (r : m_R) : Prop :=
  if r.1 then m_RS st t B sz r.2.2 ∧ st 48 28 = nI o ∧ ∀ s, m_ev F r.2.1 (pre ++ s) = v :: s else m_bad st (m_pl (m_lx B sz 0) sz r.2.2)
def m_sets (o : Nat) (st : px_S) (F : Nat → Int32) : Prop := st 48 28 = nI o ∧ ∀ j, j < 6 → st 48 (16 + j) = F j
def m_rf : List Nat := [24, 25, 26, 27, 28, 29, 30]
theorem m_sets_fr {o : Nat} {st st' : px_S} (h : m_sets o st F) (k : m_f48 m_rf st st') (h28 : st' 48 28 = nI o) : m_sets o st' F :=
  ⟨h28, fun j hj => by rw [k.2 (16 + j) (by simp [m_rf]; omega)]; exact h.2 j hj⟩
def m_reads (T t : Nat) (B : Nat → Int32) (sz : Nat) (F : Nat → Int32) (f : px_S → Option (Int32 × px_S)) (l o : Nat) : Prop :=
  ∀ (d : Nat) (st : px_S) (i : Nat), 6 * (5 - o) + (6 - l) ≤ d → m_RS st t B sz i → m_sets o st F → ∃ v st', f st = some (v, st') ∧ m_f48 m_rf st st' ∧ m_res st' t B sz F o v [] (m_lvl (m_tk (m_lx B sz 0)) d l o i)
theorem m_cnt160 (hsz : sz ≤ 160) : (m_lx B sz 0).length ≤ 160 := by have := m_lx_len B sz sz 0 (by omega); omega
theorem m_mono4 {s u : px_S} (h : m_f48 [24, 25, 26, 27] s u) : m_f48 m_rf s u := m_f48_mono h (by intro a ha; simp [m_rf] at ha ⊢; omega)
theorem m_mono2 {s u : px_S} (h : m_f48 [29, 30] s u) : m_f48 m_rf s u := m_f48_mono h (by intro a ha; simp [m_rf] at ha ⊢; omega)
theorem m_rloop {l o : Nat} (hl : l < 5) (hl2 : l ≠ 2) {A : px_S → Option (Int32 × px_S)} {L : Nat → Int32 → px_S → Option (Int32 × px_S)}
    (hyes : ∀ n y st j, m_RS st t B sz j → p_X2_levelOf (m_tk (m_lx B sz 0) j) = nI l → L (n + 1) y st = (f_X6_next T st).bind fun b3 => (A b3).bind fun b4 => L n (p_X4_join (m_tk (m_lx B sz 0) j) y b4.1) b4.2)
    (hno : ∀ n y st j, m_RS st t B sz j → ¬ p_X2_levelOf (m_tk (m_lx B sz 0) j) = nI l → L (n + 1) y st = some (y, st))
    (hbad : ∀ n y (st : px_S), st 48 29 = 1 → L (n + 1) y st = some (y, st))
    (hA : m_reads T t B sz F A (l + 1) o) {f : px_S → Option (Int32 × px_S)} (hf : ∀ st, f st = (A st).bind fun b => L 1000 b.1 b.2) : m_reads T t B sz F f l o := by
  intro d st i hd hrs hs
  obtain ⟨d, rfl⟩ : ∃ e, d = e + 1 := ⟨d - 1, by omega⟩
  have hcnt := m_cnt160 (B := B) hrs.1.2.2.2.2.1
  have hend := m_tk_end (m_lx B sz 0)
  have hg := m_lvl_good hend d
  have loop : ∀ k j n y (st : px_S), m_RS st t B sz j → m_sets o st F → 160 ≤ k + j → 160 < n + j → ∃ v st', L n y st = some (v, st') ∧ m_f48 m_rf st st' ∧ m_res st' t B sz F o v [y] (m_loop (m_tk (m_lx B sz 0)) (m_lvl (m_tk (m_lx B sz 0)) d (l + 1) o) (nI l) k j) := by
    intro k
    induction k with
    | zero =>
      intro j n y st h hs h1 h2
      obtain ⟨n, rfl⟩ : ∃ e, n = e + 1 := ⟨n - 1, by have := h.2.2.1; omega⟩
      have hj : ¬ p_X2_levelOf (m_tk (m_lx B sz 0) j) = nI l := fun g => by have := m_lev_lt hend hl g; omega
      rw [hno n y st j h hj]
      exact ⟨y, st, rfl, m_f48_refl _ _, by rw [m_res, m_loop, if_pos rfl]; exact ⟨h, hs.1, fun s => rfl⟩⟩
    | succ k ih =>
      intro j n y st h hs h1 h2
      obtain ⟨n, rfl⟩ : ∃ e, n = e + 1 := ⟨n - 1, by have := h.2.2.1; omega⟩
      rw [m_loop]
      by_cases hj : p_X2_levelOf (m_tk (m_lx B sz 0) j) = nI l
      · rw [hyes n y st j h hj, if_pos hj]
        have hjc := m_lev_lt hend hl hj
        have hb := m_lev_bin hl hj F
        obtain ⟨s1, e1, f0, r1⟩ := m_adv (T := T) h (hb 0 0 []).2.1 (hb 0 0 []).2.2
        have f1 := m_mono4 f0
        have hs1 := m_sets_fr hs f1 (by rw [f0.2 28 (by decide)]; exact hs.1)
        obtain ⟨w, s2, e2, f2, r2⟩ := hA d s1 (j + 1) (by omega) r1 hs1
        rw [m_eq_bind e1, m_eq_bind e2]
        have g := hg (l + 1) o (j + 1) hjc
        have f12 := m_f48_tr f1 f2
        by_cases hk : (m_lvl (m_tk (m_lx B sz 0)) d (l + 1) o (j + 1)).1
        · rw [m_res, if_pos hk] at r2
          obtain ⟨r2, o2, v2⟩ := r2
          rw [if_pos hk]
          obtain ⟨v, s3, e3, f3, r3⟩ := ih _ n (p_X4_join (m_tk (m_lx B sz 0) j) y w) s2 r2 (m_sets_fr hs1 f2 o2) (by have := g.1; omega) (by have := g.1; omega)
          refine ⟨v, s3, e3, m_f48_tr f12 f3, ?_⟩
          unfold m_res at r3 ⊢
          by_cases hq : (m_loop (m_tk (m_lx B sz 0)) (m_lvl (m_tk (m_lx B sz 0)) d (l + 1) o) (nI l) k (m_lvl (m_tk (m_lx B sz 0)) d (l + 1) o (j + 1)).2.2).1
          · rw [if_pos hq] at r3 ⊢
            refine ⟨r3.1, r3.2.1, fun s => ?_⟩
            have := v2 (y :: s)
            simp only [List.nil_append] at this
            simp only [m_ev_app, List.cons_append, List.nil_append, this]
            rw [m_ev, (hb y w s).1]
            exact r3.2.2 s
          · rw [if_neg hq] at r3 ⊢; exact r3
        · rw [m_res, if_neg hk] at r2
          rw [if_neg hk]
          obtain ⟨n, rfl⟩ : ∃ e, n = e + 1 := ⟨n - 1, by omega⟩
          rw [hbad n _ _ r2.1]
          exact ⟨_, s2, rfl, f12, by rw [m_res, if_neg hk]; exact r2⟩
      · rw [hno n y st j h hj, if_neg hj]
        exact ⟨y, st, rfl, m_f48_refl _ _, by rw [m_res, if_pos rfl]; exact ⟨h, hs.1, fun s => rfl⟩⟩
  obtain ⟨w, s2, e2, f2, r2⟩ := hA d st i (by omega) hrs hs
  rw [hf, m_eq_bind e2, m_lvl, if_pos hl, if_neg (fun g => hl2 g.1), if_neg hl2]
  by_cases hk : (m_lvl (m_tk (m_lx B sz 0)) d (l + 1) o i).1
  · rw [m_res, if_pos hk] at r2
    obtain ⟨r2, o2, v2⟩ := r2
    rw [if_pos hk]
    obtain ⟨v, s3, e3, f3, r3⟩ := loop 160 _ 1000 w s2 r2 (m_sets_fr hs f2 o2) (by omega) (by omega)
    refine ⟨v, s3, e3, m_f48_tr f2 f3, ?_⟩
    unfold m_res at r3 ⊢
    by_cases hq : (m_loop (m_tk (m_lx B sz 0)) (m_lvl (m_tk (m_lx B sz 0)) d (l + 1) o) (nI l) 160 (m_lvl (m_tk (m_lx B sz 0)) d (l + 1) o i).2.2).1
    · rw [if_pos hq] at r3 ⊢
      refine ⟨r3.1, r3.2.1, fun s => ?_⟩
      have := v2 s
      simp only [List.nil_append] at this
      simp only [m_ev_app, List.nil_append, this]
      exact r3.2.2 s
    · rw [if_neg hq] at r3 ⊢; exact r3
  · rw [m_res, if_neg hk] at r2
    rw [if_neg hk, hbad 999 _ _ r2.1]
    exact ⟨_, s2, rfl, f2, by rw [m_res, if_neg hk]; exact r2⟩
end
