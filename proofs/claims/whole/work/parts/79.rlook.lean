def m_rs : List Nat := [16, 17, 18, 19, 20, 21, 22, 23, 24, 25, 26, 27, 28, 29, 30]
/-- the reference in thought changes its own rows alone -/
def m_sc (s t : px_S) : Prop := (∀ a, a ≠ 48 → ¬ (56 ≤ a ∧ a ≤ 62) → t a = s a) ∧ ∀ j, ¬ (16 ≤ j ∧ j ≤ 47) → t 48 j = s 48 j
theorem m_sc_refl (s : px_S) : m_sc s s := ⟨fun _ _ _ => rfl, fun _ _ => rfl⟩
theorem m_sc_tr {s t u : px_S} (h : m_sc s t) (k : m_sc t u) : m_sc s u := ⟨fun a h1 h2 => (k.1 a h1 h2).trans (h.1 a h1 h2), fun j hj => (k.2 j hj).trans (h.2 j hj)⟩
theorem m_sc_48 {l : List Nat} {s t : px_S} (h : m_f48 l s t) (hl : ∀ j ∈ l, 16 ≤ j ∧ j ≤ 47) : m_sc s t := ⟨fun a h1 _ => h.1 a h1, fun j hj => h.2 j (fun hm => hj (hl j hm))⟩
theorem m_sc_up {s t : px_S} (h : m_sc s t) {a : Nat} (ha : 56 ≤ a ∧ a ≤ 62) (j : Nat) (x : Int32) : m_sc s (up t a j x) := by
  refine ⟨fun b h1 h2 => ?_, fun i hi => ?_⟩
  · rw [m_up_row _ _ _ _ (by omega)]; exact h.1 b h1 h2
  · rw [m_up_row _ _ _ _ (by omega)]; exact h.2 i hi
theorem m_sc_up48 {s t : px_S} (h : m_sc s t) {j : Nat} (hj : 16 ≤ j ∧ j ≤ 47) (x : Int32) : m_sc s (up t 48 j x) := by
  refine ⟨fun b h1 h2 => ?_, fun i hi => ?_⟩
  · rw [m_up_row _ _ _ _ h1]; exact h.1 b h1 h2
  · rw [m_up, if_pos rfl, if_neg (by omega)]; exact h.2 i hi
/-- the reference, with the house h and the rule C -/
def m_RJ (st : px_S) (h : px_H) (C : Nat → List Int32) : Prop := m_HR st h ∧ ∃ B sz, m_reft st (h 9 0) B sz ∧ m_ok (m_tk (m_lx B sz 0)) = true ∧ C = m_C (m_tk (m_lx B sz 0))
theorem m_HR_sc {st st' : px_S} {h : px_H} (k : m_HR st h) (f : m_sc st st') : m_HR st' h := by
  unfold m_HR at *
  rw [f.2 11 (by omega), f.2 12 (by omega), f.2 13 (by omega), f.2 14 (by omega), f.2 15 (by omega), f.2 4 (by omega), f.1 52 (by omega) (by omega), f.1 53 (by omega) (by omega), f.1 54 (by omega) (by omega), f.1 55 (by omega) (by omega)]
  exact k
theorem m_reft_eq {st st' : px_S} {t : Nat} {B : Nat → Int32} {sz : Nat} (k : m_reft st t B sz) (h1 : st' 49 = st 49) (h2 : st' 50 = st 50) : m_reft st' t B sz := by
  unfold m_reft at *; rw [h1, h2]; exact k
theorem m_RJ_sc {st st' : px_S} {h : px_H} {C : Nat → List Int32} (k : m_RJ st h C) (f : m_sc st st') : m_RJ st' h C := by
  obtain ⟨k1, B, sz, k2, k3, k4⟩ := k
  exact ⟨m_HR_sc k1 f, B, sz, m_reft_eq k2 (f.1 49 (by omega) (by omega)) (f.1 50 (by omega) (by omega)), k3, k4⟩
theorem m_rs_sc {s t : px_S} (h : m_f48 m_rs s t) : m_sc s t := m_sc_48 h (by intro j hj; simp [m_rs] at hj; omega)
theorem j_sm_tail {f : Nat → Int32} {n : Nat} : ∀ k, (∀ i, n ≤ i → i < n + k → f i = 0) → j_sm f (n + k) = j_sm f n
  | 0, _ => rfl
  | k + 1, h => by rw [← Nat.add_assoc, j_sm, h (n + k) (by omega) (by omega), j_sm_tail k (fun i h1 h2 => h i h1 (by omega)), Int32.add_zero]
def j_say (h : px_H) (C : Nat → List Int32) (w p q m : Nat) : Int32 := if w = 0 then p_X5_clamp (j_v h C 0 p q m) (-99) 99 else if w = 1 then j_oa h C p q m else (if j_v h C 2 p q m = 0 then 0 else 1)
section
variable {T : Nat} {h : px_H} {C : Nat → List Int32}
theorem m_saysR {st : px_S} (k : m_RJ st h C) (hw : m_HW h) {p q m w : Nat} (hp : p < h 4 0) (hq : q < h 4 0) (hm : m < 8) (hm0 : 1 ≤ m) (hw3 : w < 3) : ∃ st', f_X6_says T (nI w) (nI p) (nI q) (nI m) st = some (j_say h C w p q m, st') ∧ m_f48 m_rs st st' := by
  have hn := hw.1
  obtain ⟨⟨k4, k5, k6, k7, k8, k9, kr, kl, ko⟩, B, sz, kt, kok, rfl⟩ := k
  rw [f_X6_says, m_ix, if_pos (m_px (by omega) (by omega)), if_neg (nI_ne0 hm0 (by omega)), nI_clamp (by omega), kl p q hp hq, k6, pk_div (by have := hw.2.2.1; omega) hm0 (by omega), k8, k9]
  obtain ⟨s0, es0⟩ : ∃ s0, s0 = (up (up (up (up (up (up st 48 16 (nI (h 2 (7 * p + q)))) 48 17 (nI m)) 48 18 (nI (h 6 0 / m))) 48 19 (nI (h 8 0))) 48 20 (nI p)) 48 21 (nI q)) := ⟨_, rfl⟩
  rw [← es0]
  have fr : m_f48 m_rs st s0 := by
    rw [es0]
    exact m_f48_up (m_f48_up (m_f48_up (m_f48_up (m_f48_up (m_f48_up (m_f48_refl _ _) (by simp [m_rs]) _) (by simp [m_rs]) _) (by simp [m_rs]) _) (by simp [m_rs]) _) (by simp [m_rs]) _) (by simp [m_rs]) _
  have hF : ∀ j, j < 6 → s0 48 (16 + j) = j_F h p q m j := by
    intro j hj
    rw [es0]
    rcases (show j = 0 ∨ j = 1 ∨ j = 2 ∨ j = 3 ∨ j = 4 ∨ j = 5 by omega) with rfl | rfl | rfl | rfl | rfl | rfl <;> simp [m_up, j_F]
  obtain ⟨v, s1, e1, f1, g1, _⟩ := m_readR (T := T) (F := j_F h p q m) (m_reft_eq kt (fr.1 49 (by decide)) (fr.1 50 (by decide))) hF hw3
  have hv := (g1 kok).2
  have f2 : m_f48 m_rs st s1 := m_f48_tr fr (m_f48_mono f1 (by intro a ha; simp [m_rg, m_rs] at ha ⊢; omega))
  rw [m_eq_bind e1]
  have hv' : v = j_v h (m_C (m_tk (m_lx B sz 0))) w p q m := hv
  rcases (show w = 0 ∨ w = 1 ∨ w = 2 by omega) with rfl | rfl | rfl
  · rw [if_pos (show nI 0 = 0 from rfl)]
    refine ⟨s1, ?_, f2⟩
    simp only [hv', j_say, if_true, m_wi _ (-99) 99 (by decide)]
  · rw [if_neg (by decide), if_pos (show nI 1 = 1 from rfl)]
    refine ⟨s1, ?_, f2⟩
    simp only [hv', j_say, if_true, show ¬ ((1 : Nat) = 0) by decide, if_false, m_wi _ 0 99 (by decide), j_oa]
  · rw [if_neg (by decide), if_neg (by decide)]
    simp only [hv', j_say, show ¬ ((2 : Nat) = 0) by decide, show ¬ ((2 : Nat) = 1) by decide, if_false]
    by_cases h0 : j_v h (m_C (m_tk (m_lx B sz 0))) 2 p q m = 0
    · rw [if_pos h0, if_pos h0]; exact ⟨s1, rfl, f2⟩
    · rw [if_neg h0, if_neg h0]; exact ⟨s1, rfl, f2⟩
theorem m_goodR {st : px_S} (k : m_RJ st h C) (hw : m_HW h) {p s : Nat} (hp : p < h 4 0) (hs : s < 2 ^ h 4 0) (hs0 : 1 ≤ m_pop s) : ∃ st', f_X6_goodOf T (nI p) (nI s) st = some (j_gd h C p s (m_pop s), st') ∧ m_f48 m_rs st st' := by
  have hn := hw.1
  have hs7 : s < 128 := Nat.lt_of_lt_of_le hs (m_pow7 hn)
  have hm : m_pop s < 8 := by have := m_pop_le s; omega
  have hrent := hw.2.2.1
  rw [f_X6_goodOf, m_eq_bind (b_bits s hs7), if_neg (nI_ne0 hs0 (by omega)), k.1.2.2.1, pk_div (by omega) hs0 (by omega)]
  have e7 : j_sm (j_gf h C p s (m_pop s)) 7 = j_sm (j_gf h C p s (m_pop s)) (h 4 0) := by
    have := j_sm_tail (f := j_gf h C p s (m_pop s)) (n := h 4 0) (7 - h 4 0) (fun i hi _ => by unfold j_gf; rw [m_lt_bit hs hi]; rfl)
    rw [show h 4 0 + (7 - h 4 0) = 7 by omega] at this
    exact this
  refine m_for (σ := Int32 × px_S) (fun n i z => f_X6_goodOf_16 T n (nI p) (nI s) (nI (m_pop s)) z.1 (nI i) z.2) (h 4 0) (fun i z => z.1 = nI (h 6 0 / m_pop s) + j_sm (j_gf h C p s (m_pop s)) i ∧ m_f48 m_rs st z.2) (fun r => ∃ st', r = some (j_gd h C p s (m_pop s), st') ∧ m_f48 m_rs st st') ?_ ?_ (h 4 0) 0 (nI (h 6 0 / m_pop s), st) 1000 (by omega) ⟨by rw [j_sm, Int32.add_zero], m_f48_refl _ _⟩ (by omega)
  · intro n i z hi hz
    obtain ⟨z1, z2⟩ := z
    obtain ⟨h1, h2⟩ := hz
    simp only at h1 h2 ⊢
    left
    have kz := m_RJ_sc k (m_rs_sc h2)
    rw [f_X6_goodOf_16, kz.1.1, if_pos (nI_lt hi (by omega)), b_shr s hs7 i (by omega)]
    have skip : j_gf h C p s (m_pop s) i = 0 → ∃ s' : Int32 × px_S, (s'.1 = nI (h 6 0 / m_pop s) + j_sm (j_gf h C p s (m_pop s)) (i + 1) ∧ m_f48 m_rs st s'.2) ∧ f_X6_goodOf_16 T n (nI p) (nI s) (nI (m_pop s)) z1 (nI i + 1) z2 = f_X6_goodOf_16 T n (nI p) (nI s) (nI (m_pop s)) s'.1 (nI (i + 1)) s'.2 := fun h0 =>
      ⟨(z1, z2), ⟨by rw [j_sm, h0, Int32.add_zero]; exact h1, h2⟩, by rw [nI_1]⟩
    by_cases hip : i = p
    · rw [if_pos (by rw [hip])]
      exact skip (by unfold j_gf; rw [if_neg (by simp [hip])])
    · rw [if_neg (by rw [nI_eq (by omega) (by omega)]; exact hip)]
      by_cases hb : s.testBit i = true
      · rw [if_pos (by rw [if_pos hb])]
        obtain ⟨s1, e1, f1⟩ := m_saysR (T := T) kz hw hp hi hm hs0 (w := 0) (by decide)
        have kr := (m_RJ_sc kz (m_rs_sc f1)).1.2.2.2.2.2.2.1 i hi
        have hk := hw.2.2.2.2.2.1 i hi
        rw [m_eq_bind (show f_X6_says T 0 (nI p) (nI i) (nI (m_pop s)) z2 = _ from e1), m_eq_bind (m_bringsR (show i < 7 by omega) kr.1 kr.2 hk.1 hk.2 hm)]
        refine ⟨(z1 + (j_say h C 0 p i (m_pop s) + m_brf (h 0 i) (h 1 i) (m_pop s)), s1), ⟨?_, m_f48_tr h2 f1⟩, by rw [nI_1]⟩
        try simp only
        rw [j_sm, h1, Int32.add_assoc]
        congr 2
        unfold j_gf; rw [if_pos (by simp [hb, hip])]; rfl
      · rw [if_neg (by rw [if_neg hb]; decide)]
        exact skip (by unfold j_gf; rw [if_neg (by simp [hb])])
  · intro n z hz
    obtain ⟨z1, z2⟩ := z
    obtain ⟨h1, h2⟩ := hz
    simp only at h1 h2 ⊢
    rw [f_X6_goodOf_16, (m_RJ_sc k (m_rs_sc h2)).1.1, if_neg (nI_nlt (Nat.le_refl _) (by omega)), h1, j_gd, e7]
    exact ⟨z2, rfl, h2⟩
end
theorem c_popd : ∀ s, s < 128 → ∀ q, q < 7 → s.testBit q = true → m_pop (m_dif s (2 ^ q)) + 1 = m_pop s := by decide +kernel
theorem c_pop2 : ∀ s, s < 128 → ∀ p, p < 7 → s.testBit p = true → 1 ≤ m_pop s := by decide +kernel
theorem m_bit2 : ∀ q, q < 7 → 2 ^ q < 128 := by decide +kernel
theorem m_bitq (q j : Nat) : (2 ^ q).testBit j = decide (q = j) := Nat.testBit_two_pow
theorem m_dq {s q j : Nat} (hj : j < 7) : (m_dif s (2 ^ q)).testBit j = (s.testBit j && decide (j ≠ q)) := by
  rw [m_dif_bit _ _ hj, m_bitq]
  by_cases h : q = j
  · subst h; simp
  · simp [h, Ne.symm h]
def j_pr (s p q : Nat) : Bool := decide (p ≠ q) && s.testBit p && s.testBit q
theorem j_pr_iff {s p q : Nat} : j_pr s p q = true ↔ p ≠ q ∧ s.testBit p = true ∧ s.testBit q = true := by
  unfold j_pr
  rw [Bool.and_eq_true, Bool.and_eq_true, decide_eq_true_iff]
  exact ⟨fun ⟨⟨a, b⟩, c⟩ => ⟨a, b, c⟩, fun ⟨a, b, c⟩ => ⟨⟨a, b⟩, c⟩⟩
/-- how much better it is for p in s without q -/
def j_gain (h : px_H) (C : Nat → List Int32) (s p q : Nat) : Int32 := j_gd h C p (m_dif s (2 ^ q)) (m_pop (m_dif s (2 ^ q))) - j_gd h C p s (m_pop s)
/-- whether p would join against q, if that breaks an oath or not -/
def j_w (h : px_H) (C : Nat → List Int32) (s p q : Nat) (b : Bool) : Bool := j_mv h C (j_gain h C s p q) p q (m_pop s) b
theorem j_gain_b {h : px_H} (hw : m_HW h) (C : Nat → List Int32) {s : Nat} (hs : s < 2 ^ h 4 0) (p q : Nat) : -20000 ≤ (j_gain h C s p q).toInt ∧ (j_gain h C s p q).toInt ≤ 20000 := by
  have h1 := j_gd_b hw C (p := p) hs (m := m_pop s) (by have := m_pop_le s; omega)
  have h2 := j_gd_b hw C (p := p) (m_dif_lt' (b := 2 ^ q) hs) (m := m_pop (m_dif s (2 ^ q))) (by have := m_pop_le (m_dif s (2 ^ q)); omega)
  unfold j_gain
  rw [m_subI (by omega) (by omega)]
  omega
def m_ent (h : px_H) (C : Nat → List Int32) (s : Nat) (z : px_S) (p q : Nat) : Prop := z 56 (7 * p + q) = j_gain h C s p q ∧ z 57 (7 * p + q) = j_say h C 1 p q (m_pop s) ∧ z 58 (7 * p + q) = j_say h C 2 p q (m_pop s)
/-- the reference has looked at s -/
def m_LR (st : px_S) (h : px_H) (C : Nat → List Int32) (s : Nat) : Prop := st 48 31 = nI s ∧ ∀ p q, p < 7 → q < 7 → j_pr s p q = true → m_ent h C s st p q
theorem m_bit_lt {s n p : Nat} (hs : s < 2 ^ n) (h : s.testBit p = true) : p < n := by
  rcases Nat.lt_or_ge p n with hl | hl
  · exact hl
  · rw [m_lt_bit hs hl] at h; exact absurd h (by decide)
theorem m_looksR {T : Nat} {h : px_H} {C : Nat → List Int32} {st : px_S} (k : m_RJ st h C) (hw : m_HW h) {s : Nat} (hs : s < 2 ^ h 4 0) : ∃ st', f_X6_looks T (nI s) st = some st' ∧ m_sc st st' ∧ m_LR st' h C s ∧ m_fr [48, 56, 57, 58] st st' := by
  have hn := hw.1
  have hs7 : s < 128 := Nat.lt_of_lt_of_le hs (m_pow7 hn)
  have hm : m_pop s < 8 := by have := m_pop_le s; omega
  have fr48 : ∀ {l : List Nat} {a b : px_S}, m_f48 l a b → m_fr [48, 56, 57, 58] a b := fun f a ha => f.1 a (by simp at ha; omega)
  have ent48 : ∀ {l : List Nat} {a b : px_S} {p q : Nat}, m_f48 l a b → m_ent h C s a p q → m_ent h C s b p q := fun f e => by
    unfold m_ent at *; rw [f.1 56 (by decide), f.1 57 (by decide), f.1 58 (by decide)]; exact e
  rw [f_X6_looks, m_eq_bind (b_bits s hs7)]
  refine m_for (σ := px_S) (fun n i z => f_X6_looks_12 T n (nI s) (nI (m_pop s)) (nI i) z) (h 4 0) (fun i z => m_sc st z ∧ z 48 31 = nI s ∧ m_fr [48, 56, 57, 58] st z ∧ ∀ p q, p < i → q < 7 → j_pr s p q = true → m_ent h C s z p q) (fun r => ∃ st', r = some st' ∧ m_sc st st' ∧ m_LR st' h C s ∧ m_fr [48, 56, 57, 58] st st') ?_ ?_ (h 4 0) 0 (up st 48 31 (nI s)) 1000 (by omega) ⟨m_sc_up48 (m_sc_refl _) (by omega) _, by simp [m_up], m_fr_up (m_fr_refl _ _) (by simp) _ _, fun p q hp => by omega⟩ (by omega)
  · intro n p z hp hz
    obtain ⟨z1, z2, z3, z4⟩ := hz
    left
    have kz := m_RJ_sc k z1
    try simp only
    rw [f_X6_looks_12, kz.1.1, if_pos (nI_lt hp (by omega)), b_shr s hs7 p (by omega)]
    by_cases hb : s.testBit p = true
    · rw [if_pos (by rw [if_pos hb])]
      have hs0 := c_pop2 s hs7 p (by omega) hb
      obtain ⟨s1, e1, f1⟩ := m_goodR (T := T) kz hw hp hs hs0
      rw [m_eq_bind e1]
      have inner : ∃ z', f_X6_looks_40 T (f_X6_looks_12 T n) 1000 (nI s) (nI (m_pop s)) (nI p) (j_gd h C p s (m_pop s)) (nI 0) s1 = f_X6_looks_12 T n (nI s) (nI (m_pop s)) (nI p + 1) z' ∧ m_sc st z' ∧ z' 48 31 = nI s ∧ m_fr [48, 56, 57, 58] st z' ∧ ∀ p' q, p' < p + 1 → q < 7 → j_pr s p' q = true → m_ent h C s z' p' q := by
        refine m_for (σ := px_S) (fun n' i z => f_X6_looks_40 T (f_X6_looks_12 T n) n' (nI s) (nI (m_pop s)) (nI p) (j_gd h C p s (m_pop s)) (nI i) z) (h 4 0) (fun i z => m_sc st z ∧ z 48 31 = nI s ∧ m_fr [48, 56, 57, 58] st z ∧ (∀ p' q, p' < p → q < 7 → j_pr s p' q = true → m_ent h C s z p' q) ∧ ∀ q, q < i → j_pr s p q = true → m_ent h C s z p q) (fun r => ∃ z', r = f_X6_looks_12 T n (nI s) (nI (m_pop s)) (nI p + 1) z' ∧ m_sc st z' ∧ z' 48 31 = nI s ∧ m_fr [48, 56, 57, 58] st z' ∧ ∀ p' q, p' < p + 1 → q < 7 → j_pr s p' q = true → m_ent h C s z' p' q) ?_ ?_ (h 4 0) 0 s1 1000 (by omega) ⟨m_sc_tr z1 (m_rs_sc f1), by rw [f1.2 31 (by decide)]; exact z2, m_fr_tr z3 (fr48 f1), fun p' q h1 h2 h3 => ent48 f1 (z4 p' q h1 h2 h3), fun q hq => by omega⟩ (by omega)
        · intro n' q y hq hy
          obtain ⟨y1, y2, y3, y4, y5⟩ := hy
          left
          have ky := m_RJ_sc k y1
          try simp only
          rw [f_X6_looks_40, ky.1.1, if_pos (nI_lt hq (by omega))]
          have skip : j_pr s p q = false → ∃ s', (m_sc st s' ∧ s' 48 31 = nI s ∧ m_fr [48, 56, 57, 58] st s' ∧ (∀ p' q, p' < p → q < 7 → j_pr s p' q = true → m_ent h C s s' p' q) ∧ ∀ r, r < q + 1 → j_pr s p r = true → m_ent h C s s' p r) ∧ f_X6_looks_40 T (f_X6_looks_12 T n) n' (nI s) (nI (m_pop s)) (nI p) (j_gd h C p s (m_pop s)) (nI q + 1) y = f_X6_looks_40 T (f_X6_looks_12 T n) n' (nI s) (nI (m_pop s)) (nI p) (j_gd h C p s (m_pop s)) (nI (q + 1)) s' := fun h0 =>
            ⟨y, ⟨y1, y2, y3, y4, fun r hr hp => by
              rcases Nat.lt_or_ge r q with hl | hl
              · exact y5 r hl hp
              · rw [show r = q by omega, h0] at hp; exact absurd hp (by decide)⟩, by rw [nI_1]⟩
          by_cases hqp : q = p
          · rw [if_pos (by rw [hqp])]
            exact skip (by unfold j_pr; simp [hqp])
          · rw [if_neg (by rw [nI_eq (by omega) (by omega)]; exact hqp), b_shr s hs7 q (by omega)]
            by_cases hbq : s.testBit q = true
            · rw [if_pos (by rw [if_pos hbq]), b_sh1 q (by omega), b_dif s hs7 (2 ^ q) (m_bit2 q (by omega))]
              have hpr : j_pr s p q = true := j_pr_iff.mpr ⟨fun e => hqp e.symm, hb, hbq⟩
              have hd1 : 1 ≤ m_pop (m_dif s (2 ^ q)) := c_pop2 _ (m_dif_lt hs7) p (by omega) (by rw [m_dq (by omega)]; simp [hb, Ne.symm hqp])
              obtain ⟨t1, e1, g1⟩ := m_goodR (T := T) ky hw hp (m_dif_lt' (b := 2 ^ q) hs) hd1
              have hin : px_in (nI (7 * p + q)) 49 := m_px (by omega) (by omega)
              rw [m_eq_bind e1, m_ix]
              simp only [if_pos hin, nI_clamp (show 7 * p + q < 2 ^ 31 by omega)]
              have c1 : m_sc st (up t1 56 (7 * p + q) (j_gain h C s p q)) := m_sc_up (m_sc_tr y1 (m_rs_sc g1)) (by omega) _ _
              obtain ⟨t2, e2, g2⟩ := m_saysR (T := T) (m_RJ_sc k c1) hw hp hq hm hs0 (w := 1) (by decide)
              rw [m_eq_bind (show f_X6_says T 1 (nI p) (nI q) (nI (m_pop s)) (up t1 56 (7 * p + q) (j_gd h C p (m_dif s (2 ^ q)) (m_pop (m_dif s (2 ^ q))) - j_gd h C p s (m_pop s))) = _ from e2)]
              have c2 : m_sc st (up t2 57 (7 * p + q) (j_say h C 1 p q (m_pop s))) := m_sc_up (m_sc_tr c1 (m_rs_sc g2)) (by omega) _ _
              obtain ⟨t3, e3, g3⟩ := m_saysR (T := T) (m_RJ_sc k c2) hw hp hq hm hs0 (w := 2) (by decide)
              rw [m_eq_bind (show f_X6_says T 2 (nI p) (nI q) (nI (m_pop s)) (up t2 57 (7 * p + q) (j_say h C 1 p q (m_pop s))) = _ from e3)]
              have r56 : (up t3 58 (7 * p + q) (j_say h C 2 p q (m_pop s))) 56 = (upd (y 56) (7 * p + q) (j_gain h C s p q)) := by
                rw [m_up_row _ _ _ _ (by decide), g3.1 56 (by decide), m_up_row _ _ _ _ (by decide), g2.1 56 (by decide)]
                unfold up; rw [m_upr, if_pos rfl, g1.1 56 (by decide)]
              have r57 : (up t3 58 (7 * p + q) (j_say h C 2 p q (m_pop s))) 57 = (upd (y 57) (7 * p + q) (j_say h C 1 p q (m_pop s))) := by
                rw [m_up_row _ _ _ _ (by decide), g3.1 57 (by decide)]
                unfold up; rw [m_upr, if_pos rfl, g2.1 57 (by decide), m_up_row _ _ _ _ (by decide), g1.1 57 (by decide)]
              have r58 : (up t3 58 (7 * p + q) (j_say h C 2 p q (m_pop s))) 58 = (upd (y 58) (7 * p + q) (j_say h C 2 p q (m_pop s))) := by
                unfold up; rw [m_upr, if_pos rfl, g3.1 58 (by decide), m_up_row _ _ _ _ (by decide), g2.1 58 (by decide), m_up_row _ _ _ _ (by decide), g1.1 58 (by decide)]
              have old : ∀ p' r, r < 7 → ¬ (p' = p ∧ r = q) → m_ent h C s y p' r → m_ent h C s (up t3 58 (7 * p + q) (j_say h C 2 p q (m_pop s))) p' r := by
                intro p' r hr hne he
                unfold m_ent at *
                rw [r56, r57, r58, pk_un (by omega), pk_un (by omega), pk_un (by omega)]
                exact he
              refine ⟨up t3 58 (7 * p + q) (j_say h C 2 p q (m_pop s)), ⟨m_sc_up (m_sc_tr c2 (m_rs_sc g3)) (by omega) _ _, ?_, ?_, fun p' r h1 h2 h3 => old p' r h2 (by omega) (y4 p' r h1 h2 h3), fun r hr hp => ?_⟩, by rw [nI_1]⟩
              · rw [m_up_row _ _ _ _ (by decide), g3.2 31 (by decide), m_up_row _ _ _ _ (by decide), g2.2 31 (by decide), m_up_row _ _ _ _ (by decide), g1.2 31 (by decide)]; exact y2
              · exact m_fr_up (m_fr_tr (m_fr_up (m_fr_tr (m_fr_up (m_fr_tr y3 (fr48 g1)) (by simp) _ _) (fr48 g2)) (by simp) _ _) (fr48 g3)) (by simp) _ _
              · rcases Nat.lt_or_ge r q with hl | hl
                · exact old p r (by omega) (by omega) (y5 r hl hp)
                · have : r = q := by omega
                  subst this
                  unfold m_ent
                  rw [r56, r57, r58, pk_us, pk_us, pk_us]
                  exact ⟨rfl, rfl, rfl⟩
            · rw [if_neg (by rw [if_neg hbq]; decide)]
              exact skip (by unfold j_pr; simp [hbq])
        · intro n' y hy
          obtain ⟨y1, y2, y3, y4, y5⟩ := hy
          try simp only
          rw [f_X6_looks_40, (m_RJ_sc k y1).1.1, if_neg (nI_nlt (Nat.le_refl _) (by omega))]
          refine ⟨y, rfl, y1, y2, y3, fun p' q h1 h2 h3 => ?_⟩
          rcases Nat.lt_or_ge p' p with hl | hl
          · exact y4 p' q hl h2 h3
          · have : p' = p := by omega
            subst this
            exact y5 q (m_bit_lt hs (j_pr_iff.mp h3).2.2) h3
      obtain ⟨z', e', i1, i2, i3, i4⟩ := inner
      exact ⟨z', ⟨i1, i2, i3, i4⟩, by rw [show (0 : Int32) = nI 0 from rfl, e', nI_1]⟩
    · rw [if_neg (by rw [if_neg hb]; decide), nI_1]
      exact ⟨z, ⟨z1, z2, z3, fun p' q h1 h2 h3 => by
        rcases Nat.lt_or_ge p' p with hl | hl
        · exact z4 p' q hl h2 h3
        · rw [show p' = p by omega] at h3; exact absurd (j_pr_iff.mp h3).2.1 hb⟩, rfl⟩
  · intro n z hz
    obtain ⟨z1, z2, z3, z4⟩ := hz
    try simp only
    rw [f_X6_looks_12, (m_RJ_sc k z1).1.1, if_neg (nI_nlt (Nat.le_refl _) (by omega))]
    exact ⟨z, rfl, z1, ⟨z2, fun p q hp hq hpr => z4 p q (m_bit_lt hs (j_pr_iff.mp hpr).2.1) hq hpr⟩, z3⟩
