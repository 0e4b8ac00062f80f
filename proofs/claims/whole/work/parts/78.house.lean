abbrev px_H : Type := Nat → Nat → Nat
/-- a house of the class at the place a -/
def m_HC (st : px_S) (a : Nat) (h : px_H) : Prop :=
  st a 4 = nI (h 4 0) ∧ st a 5 = nI (h 5 0) ∧ st a 6 = nI (h 6 0) ∧ st a 7 = nI (h 7 0) ∧ st a 8 = nI (h 8 0) ∧ st a 9 = nI (h 9 0) ∧ (∀ j, j < h 4 0 → st (a + 1) j = nI (h 0 j) ∧ st (a + 2) j = nI (h 1 j)) ∧ (∀ j, j < 49 → st (a + 3) j = nI (h 2 j)) ∧ ∀ j, j < 7 → st (a + 4) j = nI (h 3 j)
/-- the reference's house -/
def m_HR (st : px_S) (h : px_H) : Prop :=
  st 48 11 = nI (h 4 0) ∧ st 48 12 = nI (h 5 0) ∧ st 48 13 = nI (h 6 0) ∧ st 48 14 = nI (h 7 0) ∧ st 48 15 = nI (h 8 0) ∧ st 48 4 = nI (h 9 0) ∧ (∀ j, j < h 4 0 → st 52 j = nI (h 0 j) ∧ st 53 j = nI (h 1 j)) ∧ (∀ p q, p < h 4 0 → q < h 4 0 → st 54 (7 * p + q) = nI (h 2 (7 * p + q))) ∧ ∀ j, j < h 4 0 → st 55 j = nI (h 3 j)
/-- a house that can be -/
def m_HW (h : px_H) : Prop :=
  h 4 0 ≤ 7 ∧ h 5 0 < 2 ^ h 4 0 ∧ h 6 0 ≤ 9999 ∧ (2 ≤ h 7 0 ∧ h 7 0 ≤ 5) ∧ h 8 0 ≤ 999 ∧ (∀ j, j < h 4 0 → h 0 j < 6 ∧ h 1 j < 10) ∧ (∀ p q, p < 7 → q < 7 → h 2 (7 * p + q) ≤ 9 ∧ (h 4 0 ≤ p ∨ h 4 0 ≤ q → h 2 (7 * p + q) = 5)) ∧ (∀ j, j < 7 → h 3 j < 2 ^ h 4 0 ∧ (h 4 0 ≤ j → h 3 j = 0)) ∧ (∀ p q, p < 7 → q < 7 → (h 3 p).testBit q = (h 3 q).testBit p) ∧ ∀ p, p < 7 → (h 3 p).testBit p = false
theorem m_HC_eq {st st' : px_S} {a : Nat} {h : px_H} (k : m_HC st a h) (h0 : st' a = st a) (h1 : st' (a + 1) = st (a + 1)) (h2 : st' (a + 2) = st (a + 2)) (h3 : st' (a + 3) = st (a + 3)) (h4 : st' (a + 4) = st (a + 4)) : m_HC st' a h := by
  unfold m_HC at *; rw [h0, h1, h2, h3, h4]; exact k
/-- sums of ints -/
def j_sm (f : Nat → Int32) : Nat → Int32
  | 0 => 0
  | k + 1 => j_sm f k + f k
def m_brf (k x m : Nat) : Int32 := (f_X5_bringsAs (nI k) (nI x) (nI m)).getD 0
def m_wtv (k x m : Nat) (b : Bool) : Int32 := (f_X5_wantsAs (nI k) (nI x) (nI m) (if b then 1 else 0)).getD 0
def m_wtf (k x m : Nat) (b : Bool) : Int32 := if 0 < m_wtv k x m b then m_wtv k x m b else 0
theorem c_br : ∀ k, k < 6 → ∀ x, x < 10 → ∀ m, m < 8 → f_X5_bringsAs (nI k) (nI x) (nI m) = some (m_brf k x m) ∧ -20 ≤ (m_brf k x m).toInt ∧ (m_brf k x m).toInt ≤ 40 := by decide +kernel
theorem c_wt : ∀ k, k < 6 → ∀ x, x < 10 → ∀ m, m < 8 → ∀ b : Bool, f_X5_wantsAs (nI k) (nI x) (nI m) (if b then 1 else 0) = some (m_wtv k x m b) ∧ 0 ≤ (m_wtf k x m b).toInt ∧ (m_wtf k x m b).toInt ≤ 40 := by decide +kernel
theorem c_brR : ∀ k, k < 6 → ∀ x, x < 10 → ∀ m, m < 8 → (if nI m < 4 then f_X6_brings_32 0 (fun _ _ => 0) (nI k) (nI x + nI m) (nI x) else f_X6_brings_32 0 (fun _ _ => 0) (nI k) (nI x + nI m) 0) = some (m_brf k x m) := by decide +kernel
theorem c_wtR : ∀ k, k < 6 → ∀ x, x < 10 → ∀ m, m < 8 → ∀ b : Bool, f_X6_wants 0 (fun a _ => if a = 52 then nI k else nI x) 0 (nI m) (if b then 1 else 0) = some (m_wtf k x m b) := by decide +kernel
theorem m_bringsR {T : Nat} {st : px_S} {p k x m : Nat} (hp : p < 7) (h52 : st 52 p = nI k) (h53 : st 53 p = nI x) (hk : k < 6) (hx : x < 10) (hm : m < 8) : f_X6_brings T st (nI p) (nI m) = some (m_brf k x m) := by
  have p1 : px_in (nI p) 7 := m_px hp (by omega)
  rw [f_X6_brings, if_pos p1, if_pos p1, if_pos p1, nI_clamp (by omega), h52, h53]
  exact c_brR k hk x hx m hm
theorem m_wantsR {T : Nat} {st : px_S} {p k x m : Nat} (hp : p < 7) (h52 : st 52 p = nI k) (h53 : st 53 p = nI x) (hk : k < 6) (hx : x < 10) (hm : m < 8) (b : Bool) : f_X6_wants T st (nI p) (nI m) (if b then 1 else 0) = some (m_wtf k x m b) := by
  have p1 : px_in (nI p) 7 := m_px hp (by omega)
  have p2 : px_in (0 : Int32) 7 := by decide
  have e : f_X6_wants T st (nI p) (nI m) (if b then 1 else 0) = f_X6_wants 0 (fun a _ => if a = 52 then nI k else nI x) 0 (nI m) (if b then 1 else 0) := by
    simp only [f_X6_wants, f_X6_wants_22, f_X6_wants_38, f_X6_wants_55, f_X6_wants_57, f_X6_wants_72, f_X6_wants_83, if_pos p1, if_pos p2, nI_clamp (show p < 2 ^ 31 by omega), h52, h53, if_true, show ¬ ((53 : Nat) = 52) by decide, if_false]
  rw [e]
  exact c_wtR k hk x hx m hm b
theorem m_bringsC {T : Nat} {st : px_S} {a p k x m : Nat} (hp : p < 7) (h1 : st (a + 1) p = nI k) (h2 : st (a + 2) p = nI x) (hk : k < 6) (hx : x < 10) (hm : m < 8) : f_X0_bringsOf T st a (nI p) (nI m) = some (m_brf k x m) := by
  have p1 : px_in (nI p) 7 := m_px hp (by omega)
  rw [f_X0_bringsOf, if_pos p1, if_pos p1, nI_clamp (by omega), h1, h2, m_eq_bind (c_br k hk x hx m hm).1]
theorem m_wantsC {T : Nat} {st : px_S} {a p k x m : Nat} (hp : p < 7) (h1 : st (a + 1) p = nI k) (h2 : st (a + 2) p = nI x) (hk : k < 6) (hx : x < 10) (hm : m < 8) (b : Bool) : f_X0_wantsOf T st a (nI p) (nI m) (if b then 1 else 0) = some (m_wtf k x m b) := by
  have p1 : px_in (nI p) 7 := m_px hp (by omega)
  rw [f_X0_wantsOf, if_pos p1, if_pos p1, nI_clamp (by omega), h1, h2, m_eq_bind (c_wt k hk x hx m hm b).1]; rfl
theorem m_addI {x y : Int32} (hx : -1000000000 ≤ x.toInt ∧ x.toInt ≤ 1000000000) (hy : -1000000000 ≤ y.toInt ∧ y.toInt ≤ 1000000000) : (x + y).toInt = x.toInt + y.toInt := by
  rw [Int32.toInt_add]; exact Int.bmod_eq_of_le (by omega) (by omega)
theorem m_subI {x y : Int32} (hx : -1000000000 ≤ x.toInt ∧ x.toInt ≤ 1000000000) (hy : -1000000000 ≤ y.toInt ∧ y.toInt ≤ 1000000000) : (x - y).toInt = x.toInt - y.toInt := by
  rw [Int32.toInt_sub]; exact Int.bmod_eq_of_le (by omega) (by omega)
theorem m_clb (v : Int32) : -99 ≤ (p_X5_clamp v (-99) 99).toInt ∧ (p_X5_clamp v (-99) 99).toInt ≤ 99 := by
  have e1 : (-99 : Int32).toInt = -99 := rfl
  have e2 : (99 : Int32).toInt = 99 := rfl
  unfold p_X5_clamp
  simp only [Int32.lt_iff_toInt_lt]
  repeat' split
  all_goals omega
theorem m_clo (v : Int32) : 0 ≤ (p_X5_clamp v 0 99).toInt ∧ (p_X5_clamp v 0 99).toInt ≤ 99 := by
  have e1 : (0 : Int32).toInt = 0 := rfl
  have e2 : (99 : Int32).toInt = 99 := rfl
  unfold p_X5_clamp
  simp only [Int32.lt_iff_toInt_lt]
  repeat' split
  all_goals omega
theorem m_wi (v lo hi : Int32) (h : lo.toInt < hi.toInt) : p_X6_within v lo hi = p_X5_clamp v lo hi := by
  refine Int32.toInt_inj.mp ?_
  unfold p_X5_clamp p_X6_within
  simp only [Int32.lt_iff_toInt_lt]
  repeat' split
  all_goals omega
/-- what the names stand for -/
def j_F (h : px_H) (p q m j : Nat) : Int32 := if j = 0 then nI (h 2 (7 * p + q)) else if j = 1 then nI m else if j = 2 then nI (h 6 0 / m) else if j = 3 then nI (h 8 0) else if j = 4 then nI p else nI q
def j_v (h : px_H) (C : Nat → List Int32) (w p q m : Nat) : Int32 := m_out (m_ev (j_F h p q m) (C w) [])
def j_br (h : px_H) (q m : Nat) : Int32 := m_brf (h 0 q) (h 1 q) m
def j_wt (h : px_H) (p m : Nat) (b : Bool) : Int32 := m_wtf (h 0 p) (h 1 p) m b
def j_wo (h : px_H) (C : Nat → List Int32) (p q m : Nat) : Int32 := p_X5_clamp (j_v h C 0 p q m) (-99) 99 + j_br h q m
def j_oa (h : px_H) (C : Nat → List Int32) (p q m : Nat) : Int32 := p_X5_clamp (j_v h C 1 p q m) 0 99
def j_mv (h : px_H) (C : Nat → List Int32) (gain : Int32) (p q m : Nat) (b : Bool) : Bool := !(decide (gain < j_wt h p m b)) && !(b && decide (gain < j_wt h p m b + j_oa h C p q m)) && decide (j_v h C 2 p q m ≠ 0)
def j_gf (h : px_H) (C : Nat → List Int32) (p s m q : Nat) : Int32 := if s.testBit q && decide (q ≠ p) then j_wo h C p q m else 0
def j_gd (h : px_H) (C : Nat → List Int32) (p s m : Nat) : Int32 := nI (h 6 0 / m) + j_sm (j_gf h C p s m) 7
theorem j_wo_b {h : px_H} (hw : m_HW h) (C : Nat → List Int32) {p q m : Nat} (hq : q < h 4 0) (hm : m < 8) : -200 ≤ (j_wo h C p q m).toInt ∧ (j_wo h C p q m).toInt ≤ 200 := by
  have h1 := m_clb (j_v h C 0 p q m)
  have hk := hw.2.2.2.2.2.1 q hq
  have h2 := (c_br _ hk.1 _ hk.2 m hm).2
  unfold j_wo j_br
  rw [m_addI (by omega) (by omega)]
  omega
theorem j_sm_b {f : Nat → Int32} : ∀ k : Nat, k ≤ 7 → (∀ i, i < k → -200 ≤ (f i).toInt ∧ (f i).toInt ≤ 200) → -(200 * (k : Int)) ≤ (j_sm f k).toInt ∧ (j_sm f k).toInt ≤ 200 * (k : Int)
  | 0, _, _ => by rw [j_sm]; decide
  | k + 1, hk, h => by
    have h1 := j_sm_b k (by omega) (fun i hi => h i (by omega))
    have h2 := h k (by omega)
    rw [j_sm, m_addI (by omega) (by omega)]
    omega
theorem j_sm_congr {f g : Nat → Int32} : ∀ k, (∀ i, i < k → f i = g i) → j_sm f k = j_sm g k
  | 0, _ => rfl
  | k + 1, h => by rw [j_sm, j_sm, j_sm_congr k (fun i hi => h i (by omega)), h k (by omega)]
theorem j_gf_b {h : px_H} (hw : m_HW h) (C : Nat → List Int32) {p s m : Nat} (hs : s < 2 ^ h 4 0) (hm : m < 8) (q : Nat) : -200 ≤ (j_gf h C p s m q).toInt ∧ (j_gf h C p s m q).toInt ≤ 200 := by
  unfold j_gf
  by_cases hb : s.testBit q = true
  · have hq : q < h 4 0 := by
      rcases Nat.lt_or_ge q (h 4 0) with hl | hl
      · exact hl
      · rw [m_lt_bit hs hl] at hb; exact absurd hb (by decide)
    by_cases hp : q ≠ p
    · rw [if_pos (by simp [hb, hp])]; exact j_wo_b hw C hq hm
    · rw [if_neg (by simp [hp])]; decide
  · rw [if_neg (by simp [hb])]; decide
theorem m_share_le {r m : Nat} (h : r ≤ 9999) : r / m ≤ 9999 := Nat.le_trans (Nat.div_le_self r m) h
theorem j_gd_b {h : px_H} (hw : m_HW h) (C : Nat → List Int32) {p s m : Nat} (hs : s < 2 ^ h 4 0) (hm : m < 8) : -1400 ≤ (j_gd h C p s m).toInt ∧ (j_gd h C p s m).toInt ≤ 12000 := by
  have h1 := j_sm_b (f := j_gf h C p s m) 7 (by omega) (fun i _ => j_gf_b hw C hs hm i)
  have h2 := m_share_le (m := m) hw.2.2.1
  unfold j_gd
  generalize h 6 0 / m = x at *
  have h3 : (nI x).toInt = (x : Int) := nI_toInt (by omega)
  rw [m_addI (by omega) (by omega)]
  omega
/-- the judge, who thinks of the house h by the rule C -/
def m_JS (T : Nat) (st : px_S) (h : px_H) (C : Nat → List Int32) : Prop := m_HC st 12 h ∧ ∃ a, (46 ≤ a ∧ a < 1000) ∧ px_isT T a ∧ st 11 1 = nI a ∧ m_TX st a C
def m_jf : List Nat := [19, 20, 21, 22, 23, 24, 25, 26, 27, 28, 29, 30]
theorem m_JS_fr {T : Nat} {st st' : px_S} {h : px_H} {C : Nat → List Int32} (k : m_JS T st h C) (f : m_fr m_jf st st') : m_JS T st' h C := by
  obtain ⟨k1, a, ha, k2, k3, k4⟩ := k
  have na : ∀ b, (b < 19 ∨ 30 < b) → st' b = st b := fun b hb => f b (by simp [m_jf]; omega)
  exact ⟨m_HC_eq k1 (na _ (by omega)) (na _ (by omega)) (na _ (by omega)) (na _ (by omega)) (na _ (by omega)), a, ha, k2, by rw [na 11 (by omega)]; exact k3, m_TX_eq k4 (na _ (by omega)) (na _ (by omega))⟩
theorem m_JS_11 {T : Nat} {st : px_S} {h : px_H} {C : Nat → List Int32} (k : m_JS T st h C) (j : Nat) (hj : j ≠ 1) (x : Int32) : m_JS T (up st 11 j x) h C := by
  obtain ⟨k1, a, ha, k2, k3, k4⟩ := k
  have na : ∀ b, b ≠ 11 → (up st 11 j x) b = st b := fun b hb => m_up_row _ _ _ _ hb
  exact ⟨m_HC_eq k1 (na _ (by omega)) (na _ (by omega)) (na _ (by omega)) (na _ (by omega)) (na _ (by omega)), a, ha, k2, by rw [m_up, if_pos rfl, if_neg (fun h => hj h.symm)]; exact k3, m_TX_eq k4 (na _ (by omega)) (na _ (by omega))⟩
def m_f2 : List Nat := [19, 20]
theorem m_f2j {s t : px_S} (h : m_fr m_f2 s t) : m_fr m_jf s t := m_fr_mono h (by intro a ha; simp [m_f2, m_jf] at ha ⊢; omega)
section
variable {T : Nat} {h : px_H} {C : Nat → List Int32}
theorem m_shareC {st : px_S} (k : st 12 6 = nI (h 6 0)) (hr : h 6 0 ≤ 9999) {m : Nat} (hm : m < 100) : f_X0_share T st 12 (nI m) = some (nI (h 6 0 / m)) := by
  rw [f_X0_share]
  rcases Nat.eq_zero_or_pos m with rfl | h0
  · rw [if_neg (by decide), Nat.div_zero]; rfl
  · rw [if_pos (by rw [show (0 : Int32) = nI 0 from rfl]; exact nI_lt h0 (by omega)), if_neg (nI_ne0 h0 (by omega)), k, pk_div (by omega) h0 (by omega)]
theorem m_factsC {st : px_S} (k : m_JS T st h C) (hw : m_HW h) {p q m : Nat} (hp : p < 7) (hq : q < 7) (hm : m < 8) : ∃ st', f_X1_factsOf T (nI p) (nI q) (nI m) st = some st' ∧ m_fr [19] st st' ∧ ∀ j, j < 6 → st' 19 j = j_F h p q m j := by
  obtain ⟨⟨k4, k5, k6, k7, k8, k9, kr, kl, ko⟩, _⟩ := k
  have fr : m_fr [19] st (up (up st 19 0 (st 15 (7 * p + q))) 19 1 (nI m)) := m_fr_up (m_fr_up (m_fr_refl _ _) (by simp) _ _) (by simp) _ _
  rw [f_X1_factsOf, m_ix', if_pos (m_px (by omega) (by omega)), nI_clamp (by omega), m_eq_bind (m_shareC (h := h) (by rw [fr 12 (by decide)]; exact k6) hw.2.2.1 (by omega))]
  refine ⟨_, rfl, m_fr_up (m_fr_up (m_fr_up (m_fr_up fr (by simp) _ _) (by simp) _ _) (by simp) _ _) (by simp) _ _, fun j hj => ?_⟩
  rcases (show j = 0 ∨ j = 1 ∨ j = 2 ∨ j = 3 ∨ j = 4 ∨ j = 5 by omega) with rfl | rfl | rfl | rfl | rfl | rfl
  · simp [m_up, j_F, kl (7 * p + q) (by omega)]
  · simp [m_up, j_F]
  · simp [m_up, j_F]
  · simp [m_up, j_F, k8]
  · simp [m_up, j_F]
  · simp [m_up, j_F]
theorem m_valC {st : px_S} (k : m_JS T st h C) {p q m : Nat} (hF : ∀ j, j < 6 → st 19 j = j_F h p q m j) {w : Nat} (hw : w < 3) : px_isT T (st 11 1).toNatClampNeg ∧ ∃ st', f_X4_value T (st 11 1).toNatClampNeg (m_key w) st = some (j_v h C w p q m, st') ∧ m_fr [20] st st' := by
  obtain ⟨_, a, ha, k2, k3, k4⟩ := k
  rw [k3, nI_clamp (by omega)]
  exact ⟨k2, m_value (by omega) k4 hF hw⟩
theorem m_worthC {st : px_S} (k : m_JS T st h C) (hw : m_HW h) {p q m : Nat} (hp : p < 7) (hq : q < h 4 0) (hm : m < 8) : ∃ st', f_X1_worthOf T (nI p) (nI q) (nI m) st = some (j_wo h C p q m, st') ∧ m_fr m_f2 st st' := by
  have hn := hw.1
  obtain ⟨s1, e1, f1, g1⟩ := m_factsC k hw hp (show q < 7 by omega) hm
  have f1' : m_fr m_f2 st s1 := m_fr_mono f1 (by intro a ha; simp [m_f2] at ha ⊢; omega)
  have k1 := m_JS_fr k (m_f2j f1')
  obtain ⟨t1, s2, e2, f2⟩ := m_valC k1 g1 (w := 0) (by decide)
  have f2' : m_fr m_f2 s1 s2 := m_fr_mono f2 (by intro a ha; simp [m_f2] at ha ⊢; omega)
  have k2 := m_JS_fr k1 (m_f2j f2')
  have e11 : s1 11 = st 11 := f1 11 (by decide)
  rw [e11] at t1 e2
  have hk := hw.2.2.2.2.2.1 q hq
  have kr := k2.1.2.2.2.2.2.2.1 q hq
  rw [f_X1_worthOf, m_eq_bind e1, if_pos t1, m_eq_bind (show f_X4_value T (st 11 1).toNatClampNeg (-19) s1 = some (j_v h C 0 p q m, s2) from e2), m_eq_bind (m_bringsC (a := 12) (show q < 7 by omega) kr.1 kr.2 hk.1 hk.2 hm)]
  exact ⟨_, rfl, m_fr_tr f1' f2'⟩
theorem m_movesC {st : px_S} (k : m_JS T st h C) (hw : m_HW h) (gain : Int32) {p q m : Nat} (hp : p < h 4 0) (hq : q < 7) (hm : m < 8) (b : Bool) : ∃ st', f_X1_moves T gain (nI p) (nI q) (nI m) (if b then 1 else 0) st = some (if j_mv h C gain p q m b then 1 else 0, st') ∧ m_fr m_f2 st st' := by
  have hn := hw.1
  have hk := hw.2.2.2.2.2.1 p hp
  have kr := k.1.2.2.2.2.2.2.1 p hp
  rw [f_X1_moves, m_eq_bind (m_wantsC (a := 12) (show p < 7 by omega) kr.1 kr.2 hk.1 hk.2 hm b)]
  change ∃ st', (if gain < j_wt h p m b then _ else _) = _ ∧ _
  by_cases h1 : gain < j_wt h p m b
  · rw [if_pos h1, if_neg (by simp [j_mv, h1])]
    exact ⟨_, rfl, m_fr_refl _ _⟩
  rw [if_neg h1]
  obtain ⟨s1, e1, f1, g1⟩ := m_factsC k hw (show p < 7 by omega) hq hm
  have f1' : m_fr m_f2 st s1 := m_fr_mono f1 (by intro a ha; simp [m_f2] at ha ⊢; omega)
  have k1 := m_JS_fr k (m_f2j f1')
  rw [m_eq_bind e1]
  have last : ∀ s : px_S, m_JS T s h C → (∀ j, j < 6 → s 19 j = j_F h p q m j) → ∃ st', f_X1_moves_68 T s = some (if decide (j_v h C 2 p q m ≠ 0) then 1 else 0, st') ∧ m_fr [20] s st' := by
    intro s ks gs
    obtain ⟨t2, s2, e2, f2⟩ := m_valC ks gs (w := 2) (by decide)
    rw [f_X1_moves_68, if_pos t2, m_eq_bind (show f_X4_value T (s 11 1).toNatClampNeg (-21) s = some (j_v h C 2 p q m, s2) from e2)]
    by_cases h0 : j_v h C 2 p q m = 0
    · rw [if_pos h0, if_neg (by simp [h0])]; exact ⟨_, rfl, f2⟩
    · rw [if_neg h0, if_pos (by simp [h0])]; exact ⟨_, rfl, f2⟩
  have m20 : ∀ {s t : px_S}, m_fr [20] s t → m_fr m_f2 s t := fun f => m_fr_mono f (by intro a ha; simp [m_f2] at ha ⊢; omega)
  cases b with
  | false =>
    rw [if_pos (show (if false = true then (1 : Int32) else 0) = 0 from rfl)]
    obtain ⟨s2, e2, f2⟩ := last s1 k1 g1
    rw [e2]
    refine ⟨s2, ?_, m_fr_tr f1' (m20 f2)⟩
    simp [j_mv, h1]
  | true =>
    rw [if_neg (show ¬ (if true = true then (1 : Int32) else 0) = 0 by decide)]
    obtain ⟨t2, s2, e2, f2⟩ := m_valC k1 g1 (w := 1) (by decide)
    rw [if_pos t2, m_eq_bind (show f_X4_value T (s1 11 1).toNatClampNeg (-20) s1 = some (j_v h C 1 p q m, s2) from e2)]
    change ∃ st', (if gain < j_wt h p m true + j_oa h C p q m then _ else _) = _ ∧ _
    by_cases h2 : gain < j_wt h p m true + j_oa h C p q m
    · rw [if_pos h2, if_neg (by simp [j_mv, h2])]
      exact ⟨_, rfl, m_fr_tr f1' (m20 f2)⟩
    · rw [if_neg h2]
      obtain ⟨s3, e3, f3⟩ := last s2 (m_JS_fr k1 (m_f2j (m20 f2))) (fun j hj => by rw [f2 19 (by decide)]; exact g1 j hj)
      rw [e3]
      refine ⟨s3, ?_, m_fr_tr f1' (m20 (m_fr_tr f2 f3))⟩
      simp [j_mv, h1, h2]
theorem m_goodC {st : px_S} (k : m_JS T st h C) (hw : m_HW h) {p s m : Nat} (hp : p < 7) (hs : s < 2 ^ h 4 0) (hm : m < 8) : ∃ st', f_X1_goodOf T (nI p) (nI s) (nI m) st = some (j_gd h C p s m, st') ∧ m_fr m_f2 st st' := by
  have hn := hw.1
  have hs7 : s < 128 := Nat.lt_of_lt_of_le hs (m_pow7 hn)
  rw [f_X1_goodOf, m_eq_bind (m_shareC (h := h) k.1.2.2.1 hw.2.2.1 (by omega))]
  refine m_for (σ := Int32 × px_S) (fun n i z => f_X1_goodOf_13 T n (nI p) (nI s) (nI m) z.1 (nI i) z.2) 7 (fun i z => z.1 = nI (h 6 0 / m) + j_sm (j_gf h C p s m) i ∧ m_fr m_f2 st z.2) (fun r => ∃ st', r = some (j_gd h C p s m, st') ∧ m_fr m_f2 st st') ?_ ?_ 7 0 (nI (h 6 0 / m), st) 1000 (by omega) ⟨by rw [j_sm, Int32.add_zero], m_fr_refl _ _⟩ (by omega)
  · intro n i z hi hz
    obtain ⟨z1, z2⟩ := z
    obtain ⟨h1, h2⟩ := hz
    simp only at h1 h2 ⊢
    left
    have kz := m_JS_fr k (m_f2j h2)
    rw [f_X1_goodOf_13, if_pos (by rw [show (7 : Int32) = nI 7 from rfl]; exact nI_lt hi (by omega)), b_has s hs7 i (by omega)]
    have skip : j_gf h C p s m i = 0 → ∃ s' : Int32 × px_S, (s'.1 = nI (h 6 0 / m) + j_sm (j_gf h C p s m) (i + 1) ∧ m_fr m_f2 st s'.2) ∧ f_X1_goodOf_13 T n (nI p) (nI s) (nI m) z1 (nI i + 1) z2 = f_X1_goodOf_13 T n (nI p) (nI s) (nI m) s'.1 (nI (i + 1)) s'.2 := fun h0 =>
      ⟨(z1, z2), ⟨by rw [j_sm, h0, Int32.add_zero]; exact h1, h2⟩, by rw [nI_1]⟩
    by_cases hb : s.testBit i = true
    · rw [if_neg (by rw [if_pos hb]; decide)]
      by_cases hip : i = p
      · rw [if_pos (by rw [hip])]
        exact skip (by unfold j_gf; rw [if_neg (by simp [hip])])
      · rw [if_neg (by rw [nI_eq (by omega) (by omega)]; exact hip)]
        have hin : i < h 4 0 := by
          rcases Nat.lt_or_ge i (h 4 0) with hl | hl
          · exact hl
          · rw [m_lt_bit hs hl] at hb; exact absurd hb (by decide)
        obtain ⟨s1, e1, f1⟩ := m_worthC kz hw hp hin hm
        rw [m_eq_bind e1]
        refine ⟨(z1 + j_wo h C p i m, s1), ⟨?_, m_fr_tr h2 f1⟩, by rw [nI_1]⟩
        simp only
        rw [j_sm, h1, Int32.add_assoc]
        congr 2
        unfold j_gf; rw [if_pos (by simp [hb, hip])]
    · rw [if_pos (by rw [if_neg hb])]
      exact skip (by unfold j_gf; rw [if_neg (by simp [hb])])
  · intro n z hz
    obtain ⟨z1, z2⟩ := z
    obtain ⟨h1, h2⟩ := hz
    simp only at h1 h2 ⊢
    rw [f_X1_goodOf_13, if_neg (by decide), h1]
    exact ⟨z2, rfl, h2⟩
end
