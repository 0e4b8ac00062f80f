def m_run (f : Int32 → Int32) (B : Nat → Int32) (sz : Nat) : Nat → Nat → Nat
  | 0, p => p
  | k + 1, p => if p < sz then (if f (B p) = 0 then p else m_run f B sz k (p + 1)) else p
def m_beh (B : Nat → Int32) (sz p : Nat) : Nat :=
  if p_X2_isLetter (B p) = 0 then (if p_X2_isDigit (B p) = 0 then p + 1 else m_run p_X2_isDigit B sz sz (p + 1)) else m_run p_X2_isLetter B sz sz (p + 1)
def m_num (B : Nat → Int32) : Nat → Nat → Int32 → Int32
  | 0, _, v => v
  | k + 1, p, v => m_num B k (p + 1) (v * 10 + B p - 48)
def m_cmpf (w : Nat) (B : Nat → Int32) (p : Nat) : Nat → Nat → Bool
  | 0, _ => true
  | k + 1, j => if px_ch w j = B (p + j) then m_cmpf w B p k (j + 1) else false
def m_spl (w : Nat) (B : Nat → Int32) (p e : Nat) : Bool := if px_len.getD w 0 = e - p then m_cmpf w B p (px_len.getD w 0) 0 else false
def m_word (B : Nat → Int32) (p e : Nat) : Int32 :=
  if m_spl 1 B p e then -1 else if m_spl 2 B p e then -2 else if m_spl 3 B p e then -3 else if m_spl 4 B p e then -4 else if m_spl 5 B p e then -5 else if m_spl 6 B p e then -6 else if m_spl 7 B p e then -7 else if m_spl 8 B p e then -8 else if m_spl 9 B p e then -9 else if m_spl 10 B p e then -19 else if m_spl 11 B p e then -20 else if m_spl 12 B p e then -21 else -23
def m_tokc (B : Nat → Int32) (p e : Nat) : Int32 :=
  if p_X2_isLetter (B p) = 0 then (if p_X2_isDigit (B p) = 0 then p_X2_signOf (B p) else (if 4 < e - p then -23 else m_num B (e - p) p 0)) else m_word B p e
def m_lex (B : Nat → Int32) (sz : Nat) : Nat → Nat → List (Int32 × Nat)
  | 0, _ => []
  | f + 1, p => if p < sz then (if B p = 32 ∨ B p = 10 then m_lex B sz f (p + 1) else (m_tokc B p (m_beh B sz p), p) :: m_lex B sz f (m_beh B sz p)) else []
def m_lx (B : Nat → Int32) (sz p : Nat) : List (Int32 × Nat) := m_lex B sz (sz - p) p
theorem m_run_ge (f : Int32 → Int32) (B : Nat → Int32) (sz : Nat) : ∀ k p, p ≤ m_run f B sz k p
  | 0, p => Nat.le_refl _
  | k + 1, p => by
    rw [m_run]
    by_cases h : p < sz
    · rw [if_pos h]
      by_cases h2 : f (B p) = 0
      · rw [if_pos h2]; exact Nat.le_refl _
      · rw [if_neg h2]; have := m_run_ge f B sz k (p + 1); omega
    · rw [if_neg h]; exact Nat.le_refl _
theorem m_run_le (f : Int32 → Int32) (B : Nat → Int32) (sz : Nat) : ∀ k p, p ≤ sz → m_run f B sz k p ≤ sz
  | 0, p, h => h
  | k + 1, p, h => by
    rw [m_run]
    by_cases h1 : p < sz
    · rw [if_pos h1]
      by_cases h2 : f (B p) = 0
      · rw [if_pos h2]; exact h
      · rw [if_neg h2]; exact m_run_le f B sz k (p + 1) h1
    · rw [if_neg h1]; exact h
theorem m_run_fuel (f : Int32 → Int32) (B : Nat → Int32) (sz : Nat) : ∀ k g p, sz - p ≤ k → sz - p ≤ g → m_run f B sz k p = m_run f B sz g p := by
  intro k
  induction k with
  | zero =>
    intro g p h1 h2
    cases g with
    | zero => rfl
    | succ g => rw [m_run, m_run, if_neg (by omega)]
  | succ k ih =>
    intro g p h1 h2
    cases g with
    | zero => rw [m_run, m_run, if_neg (by omega)]
    | succ g =>
      rw [m_run, m_run]
      by_cases h : p < sz
      · rw [if_pos h, if_pos h]
        by_cases h2 : f (B p) = 0
        · rw [if_pos h2, if_pos h2]
        · rw [if_neg h2, if_neg h2]; exact ih g (p + 1) (by omega) (by omega)
      · rw [if_neg h, if_neg h]
theorem m_beh_gt (B : Nat → Int32) (sz p : Nat) : p < m_beh B sz p := by
  unfold m_beh
  have h1 := m_run_ge p_X2_isDigit B sz sz (p + 1)
  have h2 := m_run_ge p_X2_isLetter B sz sz (p + 1)
  split
  · split <;> omega
  · omega
theorem m_beh_le (B : Nat → Int32) (sz p : Nat) (h : p < sz) : m_beh B sz p ≤ sz := by
  unfold m_beh
  have h1 := m_run_le p_X2_isDigit B sz sz (p + 1) h
  have h2 := m_run_le p_X2_isLetter B sz sz (p + 1) h
  split
  · split <;> omega
  · omega
theorem m_lex_fuel (B : Nat → Int32) (sz : Nat) : ∀ f g p, sz - p ≤ f → sz - p ≤ g → m_lex B sz f p = m_lex B sz g p := by
  intro f
  induction f with
  | zero =>
    intro g p h1 h2
    cases g with
    | zero => rfl
    | succ g => rw [m_lex, m_lex, if_neg (by omega)]
  | succ f ih =>
    intro g p h1 h2
    cases g with
    | zero => rw [m_lex, m_lex, if_neg (by omega)]
    | succ g =>
      rw [m_lex, m_lex]
      by_cases h : p < sz
      · rw [if_pos h, if_pos h]
        have hb := m_beh_gt B sz p
        rw [ih g (p + 1) (by omega) (by omega), ih g (m_beh B sz p) (by omega) (by omega)]
      · rw [if_neg h, if_neg h]
theorem m_lx_end (B : Nat → Int32) {sz p : Nat} (h : sz ≤ p) : m_lx B sz p = [] := by
  rw [m_lx, Nat.sub_eq_zero_of_le h]; rfl
theorem m_lx_sp (B : Nat → Int32) {sz p : Nat} (h : p < sz) (hb : B p = 32 ∨ B p = 10) : m_lx B sz p = m_lx B sz (p + 1) := by
  rw [m_lx, m_lx, m_lex_fuel B sz (sz - p) (sz - (p + 1) + 1) p (by omega) (by omega), m_lex, if_pos h, if_pos hb]
theorem m_lx_tok (B : Nat → Int32) {sz p : Nat} (h : p < sz) (hb : ¬ (B p = 32 ∨ B p = 10)) : m_lx B sz p = (m_tokc B p (m_beh B sz p), p) :: m_lx B sz (m_beh B sz p) := by
  have hg := m_beh_gt B sz p
  rw [m_lx, m_lx, m_lex_fuel B sz (sz - p) ((sz - p) + 1) p (by omega) (by omega), m_lex, if_pos h, if_neg hb, m_lex_fuel B sz (sz - p) (sz - m_beh B sz p) (m_beh B sz p) (by omega) (by omega)]
theorem m_lx_len (B : Nat → Int32) (sz : Nat) : ∀ k p, sz - p ≤ k → (m_lx B sz p).length ≤ sz - p := by
  intro k
  induction k with
  | zero => intro p h; rw [m_lx_end B (by omega)]; simp
  | succ k ih =>
    intro p h
    rcases Nat.lt_or_ge p sz with hl | hl
    · by_cases hb : B p = 32 ∨ B p = 10
      · rw [m_lx_sp B hl hb]; have := ih (p + 1) (by omega); omega
      · rw [m_lx_tok B hl hb]
        have hg := m_beh_gt B sz p
        have := ih (m_beh B sz p) (by omega)
        have := m_beh_le B sz p hl
        simp only [List.length_cons]; omega
    · rw [m_lx_end B hl]; simp
section
variable {T : Nat} {B : Nat → Int32} {sz : Nat} {st : px_S}
theorem m_runC (hsz : sz ≤ 160) (h1 : st 31 1 = nI sz) (h2 : ∀ j, j < sz → st 32 j = B j) (f : Int32 → Int32) (F : Nat → Int32 → Option Int32)
    (hF : ∀ n y, F (n + 1) y = if y < st 31 1 then (if px_in y 160 then (if f (st 32 y.toNatClampNeg) = 0 then some y else F n (y + 1)) else none) else some y) :
    ∀ k p fuel, sz - p ≤ k → k < fuel → p ≤ sz → F fuel (nI p) = some (nI (m_run f B sz k p)) := by
  intro k
  induction k with
  | zero =>
    intro p fuel hp hf hps
    obtain ⟨n, rfl⟩ : ∃ n, fuel = n + 1 := ⟨fuel - 1, by omega⟩
    rw [hF, h1, if_neg (nI_nlt (by omega) (by omega)), m_run]
  | succ k ih =>
    intro p fuel hp hf hps
    obtain ⟨n, rfl⟩ : ∃ n, fuel = n + 1 := ⟨fuel - 1, by omega⟩
    rw [hF, h1, m_run]
    rcases Nat.lt_or_ge p sz with hl | hl
    · rw [if_pos (nI_lt hl (by omega)), if_pos hl, if_pos (m_px (by omega) (by omega)), nI_clamp (by omega), h2 p hl]
      by_cases h0 : f (B p) = 0
      · rw [if_pos h0, if_pos h0]
      · rw [if_neg h0, if_neg h0, nI_1]; exact ih (p + 1) n (by omega) (by omega) hl
    · rw [if_neg (nI_nlt hl (by omega)), if_neg (by omega)]
theorem m_behC (hsz : sz ≤ 160) (h1 : st 31 1 = nI sz) (h2 : ∀ j, j < sz → st 32 j = B j) {p : Nat} (hp : p < sz) : f_X2_behind T st (nI p) = some (nI (m_beh B sz p)) := by
  rw [f_X2_behind, if_pos (m_px (by omega) (by omega)), if_pos (m_px (by omega) (by omega)), nI_clamp (by omega), h2 p hp, m_beh, nI_1]
  by_cases hl : p_X2_isLetter (B p) = 0
  · rw [if_pos hl, if_pos hl]
    by_cases hd : p_X2_isDigit (B p) = 0
    · rw [if_pos hd, if_pos hd]
    · rw [if_neg hd, if_neg hd]
      exact m_runC hsz h1 h2 p_X2_isDigit (f_X2_behind_54 T st) (fun n y => rfl) sz (p + 1) 1000 (by omega) (by omega) hp
  · rw [if_neg hl, if_neg hl]
    exact m_runC hsz h1 h2 p_X2_isLetter (f_X2_behind_16 T st) (fun n y => rfl) sz (p + 1) 1000 (by omega) (by omega) hp
theorem m_numC (hsz : sz ≤ 160) (h2 : ∀ j, j < sz → st 32 j = B j) : ∀ k p v fuel, k < fuel → p + k ≤ sz → f_X2_numberOf_15 T st fuel (nI (p + k)) v (nI p) = some (m_num B k p v) := by
  intro k
  induction k with
  | zero =>
    intro p v fuel hf hp
    obtain ⟨n, rfl⟩ : ∃ n, fuel = n + 1 := ⟨fuel - 1, by omega⟩
    rw [f_X2_numberOf_15, if_neg (nI_nlt (by omega) (by omega)), m_num]
  | succ k ih =>
    intro p v fuel hf hp
    obtain ⟨n, rfl⟩ : ∃ n, fuel = n + 1 := ⟨fuel - 1, by omega⟩
    rw [f_X2_numberOf_15, if_pos (nI_lt (by omega) (by omega)), if_pos (m_px (by omega) (by omega)), nI_clamp (by omega), h2 p (by omega), nI_1, m_num, show p + (k + 1) = p + 1 + k by omega]
    exact ih (p + 1) _ n (by omega) (by omega)
theorem m_cmpC (hsz : sz ≤ 160) (h2 : ∀ j, j < sz → st 32 j = B j) (w p : Nat) (hw : px_len.getD w 0 ≤ 41) : ∀ k j fuel, j + k = px_len.getD w 0 → k < fuel → p + px_len.getD w 0 ≤ sz → f_X2_spells_15 T st w fuel (nI p) (nI j) = some (if m_cmpf w B p k j then 1 else 0) := by
  intro k
  induction k with
  | zero =>
    intro j fuel hj hf hp
    obtain ⟨n, rfl⟩ : ∃ n, fuel = n + 1 := ⟨fuel - 1, by omega⟩
    rw [f_X2_spells_15, if_neg (nI_nlt (by omega) (by omega)), m_cmpf]; rfl
  | succ k ih =>
    intro j fuel hj hf hp
    obtain ⟨n, rfl⟩ : ∃ n, fuel = n + 1 := ⟨fuel - 1, by omega⟩
    rw [f_X2_spells_15, if_pos (nI_lt (by omega) (by omega)), if_pos (m_px (by omega) (by omega)), nI_add, if_pos (m_px (by omega) (by omega)), nI_clamp (n := j) (by omega), nI_clamp (by omega), h2 (p + j) (by omega), m_cmpf]
    by_cases he : px_ch w j = B (p + j)
    · rw [if_pos he, if_pos he, nI_1]; exact ih (j + 1) n (by omega) (by omega) hp
    · rw [if_neg he, if_neg he]; rfl
theorem m_splC (hsz : sz ≤ 160) (h2 : ∀ j, j < sz → st 32 j = B j) {w p e : Nat} (hw : px_len.getD w 0 ≤ 41) (hpe : p < e) (he : e ≤ sz) : f_X2_spells T st w (nI p) (nI e) = some (if m_spl w B p e then 1 else 0) := by
  rw [f_X2_spells, pk_sub (by omega), m_spl]
  by_cases h : px_len.getD w 0 = e - p
  · rw [if_pos (by rw [h]), if_pos h]
    exact m_cmpC hsz h2 w p hw _ 0 1000 (by omega) (by omega) (by omega)
  · rw [if_neg (by rw [nI_eq (by omega) (by omega)]; exact h), if_neg h]; rfl
theorem m_wordC (hsz : sz ≤ 160) (h2 : ∀ j, j < sz → st 32 j = B j) {p e : Nat} (hpe : p < e) (he : e ≤ sz) : f_X2_wordOf T st (nI p) (nI e) = some (m_word B p e) := by
  have hk : ∀ w, px_len.getD w 0 ≤ 41 → f_X2_spells T st w (nI p) (nI e) = some (if m_spl w B p e then 1 else 0) := fun w hw => m_splC hsz h2 hw hpe he
  have h10 : ∀ b : Bool, ((if b then (1 : Int32) else 0) = 0) ↔ b = false := by intro b; cases b <;> simp
  rw [f_X2_wordOf, hk 1 (by decide), hk 2 (by decide), hk 3 (by decide), hk 4 (by decide), hk 5 (by decide), hk 6 (by decide), hk 7 (by decide), hk 8 (by decide), hk 9 (by decide), hk 10 (by decide), hk 11 (by decide), hk 12 (by decide), m_word]
  simp only [Option.bind_some, h10]
  cases m_spl 1 B p e <;> simp
  cases m_spl 2 B p e <;> simp
  cases m_spl 3 B p e <;> simp
  cases m_spl 4 B p e <;> simp
  cases m_spl 5 B p e <;> simp
  cases m_spl 6 B p e <;> simp
  cases m_spl 7 B p e <;> simp
  cases m_spl 8 B p e <;> simp
  cases m_spl 9 B p e <;> simp
  cases m_spl 10 B p e <;> simp
  cases m_spl 11 B p e <;> simp
  cases m_spl 12 B p e <;> simp
theorem m_tokC (hsz : sz ≤ 160) (h2 : ∀ j, j < sz → st 32 j = B j) {p e : Nat} (hpe : p < e) (he : e ≤ sz) : f_X2_tokenOf T st (nI p) (nI e) = some (m_tokc B p e) := by
  rw [f_X2_tokenOf, if_pos (m_px (by omega) (by omega)), if_pos (m_px (by omega) (by omega)), if_pos (m_px (by omega) (by omega)), nI_clamp (by omega), h2 p (by omega), m_tokc]
  by_cases hl : p_X2_isLetter (B p) = 0
  · rw [if_pos hl, if_pos hl]
    by_cases hd : p_X2_isDigit (B p) = 0
    · rw [if_pos hd, if_pos hd]
    · rw [if_neg hd, if_neg hd, f_X2_numberOf, pk_sub (by omega)]
      by_cases h4 : 4 < e - p
      · rw [if_pos (by rw [show (4 : Int32) = nI 4 from rfl]; exact nI_lt h4 (by omega)), if_pos h4]; rfl
      · rw [if_neg (by rw [show (4 : Int32) = nI 4 from rfl]; exact nI_nlt (by omega) (by omega)), if_neg h4]
        have := m_numC (T := T) hsz h2 (e - p) p 0 1000 (by omega) (by omega)
        rw [show p + (e - p) = e by omega] at this
        rw [this]; rfl
  · rw [if_neg hl, if_neg hl, m_wordC hsz h2 hpe he]; rfl
end
/-- the tokens in the class's rows, from the c-th on -/
def m_sp (st st' : px_S) (c : Nat) (L : List (Int32 × Nat)) : Prop :=
  m_fr [31, 33, 34] st st' ∧ (∀ j, j ≠ 4 → st' 31 j = st 31 j) ∧ st' 31 4 = nI (c + L.length) ∧ (∀ j, j < c → st' 33 j = st 33 j ∧ st' 34 j = st 34 j) ∧ ∀ k, k < L.length → st' 33 (c + k) = (L.getD k (0, 0)).1 ∧ st' 34 (c + k) = nI (L.getD k (0, 0)).2
theorem m_splitC {T : Nat} {B : Nat → Int32} {sz : Nat} (hsz : sz ≤ 160) : ∀ k p c fuel (st : px_S), sz - p ≤ k → k < fuel → c ≤ p → p ≤ sz → st 31 1 = nI sz → (∀ j, j < sz → st 32 j = B j) → st 31 4 = nI c → ∃ st', f_X2_split_7 T fuel (nI p) st = some st' ∧ m_sp st st' c (m_lx B sz p) := by
  intro k
  induction k with
  | zero =>
    intro p c fuel st hk hf hc hp h1 h2 h3
    obtain ⟨n, rfl⟩ : ∃ n, fuel = n + 1 := ⟨fuel - 1, by omega⟩
    rw [f_X2_split_7, h1, if_neg (nI_nlt (by omega) (by omega)), m_lx_end B (by omega)]
    exact ⟨_, rfl, m_fr_refl _ _, fun _ _ => rfl, by simpa using h3, fun _ _ => ⟨rfl, rfl⟩, fun k hk => absurd hk (Nat.not_lt_zero _)⟩
  | succ k ih =>
    intro p c fuel st hk hf hc hp h1 h2 h3
    obtain ⟨n, rfl⟩ : ∃ n, fuel = n + 1 := ⟨fuel - 1, by omega⟩
    rw [f_X2_split_7, h1]
    rcases Nat.lt_or_ge p sz with hl | hl
    · rw [if_pos (nI_lt hl (by omega)), if_pos (m_px (by omega) (by omega)), if_pos (m_px (by omega) (by omega)), nI_clamp (by omega), h2 p hl]
      by_cases h32 : B p = 32
      · rw [if_pos h32, nI_1, m_lx_sp B hl (Or.inl h32)]
        exact ih (p + 1) c n st (by omega) (by omega) (by omega) hl h1 h2 h3
      · rw [if_neg h32]
        by_cases h10 : B p = 10
        · rw [if_pos h10, nI_1, m_lx_sp B hl (Or.inr h10)]
          exact ih (p + 1) c n st (by omega) (by omega) (by omega) hl h1 h2 h3
        · have hg := m_beh_gt B sz p
          have hle := m_beh_le B sz p hl
          rw [if_neg h10, m_eq_bind (m_behC hsz h1 h2 hl), m_eq_bind (m_tokC hsz h2 hg hle), h3, if_pos (m_px (by omega) (by omega)), if_pos (m_px (by omega) (by omega)), nI_clamp (by omega), nI_1, m_lx_tok B hl (fun h => h.elim h32 h10)]
          obtain ⟨b, hb⟩ : ∃ b, m_beh B sz p = b + 1 := ⟨m_beh B sz p - 1, by omega⟩
          rw [hb, nI_pred, nI_1, ← hb]
          obtain ⟨st', e, a1, a2, a3, a4, a5⟩ := ih (m_beh B sz p) (c + 1) n (up (up (up st 33 c (m_tokc B p (m_beh B sz p))) 34 c (nI p)) 31 4 (nI (c + 1))) (by omega) (by omega) (by omega) hle (by simp [m_up, h1]) (fun j hj => by simp [m_up, h2 j hj]) (by simp [m_up])
          refine ⟨st', e, m_fr_tr (m_fr_up (m_fr_up (m_fr_up (m_fr_refl _ _) (by simp) _ _) (by simp) _ _) (by simp) _ _) a1, fun j hj => (a2 j hj).trans (by simp [m_up, hj]), by rw [a3, List.length_cons]; congr 1; omega, fun j hj => ?_, fun i hi => ?_⟩
          · have := a4 j (by omega)
            rw [this.1, this.2]
            constructor
            · simp [m_up, show j ≠ c by omega]
            · simp [m_up, show j ≠ c by omega]
          · cases i with
            | zero =>
              have := a4 c (by omega)
              rw [Nat.add_zero, this.1, this.2]
              simp [m_up]
            | succ i =>
              have := a5 i (by simp only [List.length_cons] at hi; omega)
              rw [show c + (i + 1) = c + 1 + i by omega, this.1, this.2]
              exact ⟨rfl, rfl⟩
    · rw [if_neg (nI_nlt hl (by omega)), m_lx_end B hl]
      exact ⟨_, rfl, m_fr_refl _ _, fun _ _ => rfl, by simpa using h3, fun _ _ => ⟨rfl, rfl⟩, fun k hk => absurd hk (Nat.not_lt_zero _)⟩
