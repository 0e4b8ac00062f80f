theorem j_su_mono {f : Nat → Nat} : ∀ {a b : Nat}, a ≤ b → j_su f a ≤ j_su f b
  | a, 0, h => by rw [show a = 0 by omega]; exact Nat.le_refl _
  | a, b + 1, h => by
    rcases Nat.lt_or_ge a (b + 1) with hl | hl
    · have := j_su_mono (f := f) (show a ≤ b by omega)
      rw [j_su_s]; omega
    · rw [show a = b + 1 by omega]; exact Nat.le_refl _
/-- how many meetings lie ahead of x -/
def j_mn (s k x : Nat) : Nat := j_su (fun y => (j_g s k y).toNat) x
theorem j_mn_lt {s k x y : Nat} (hxy : x < y) (hx : j_g s k x = true) : j_mn s k x < j_mn s k y := by
  have h1 : j_mn s k (x + 1) ≤ j_mn s k y := j_su_mono (show x + 1 ≤ y by omega)
  have h2 : j_mn s k (x + 1) = j_mn s k x + 1 := by unfold j_mn; rw [j_su_s, hx]; rfl
  omega
theorem c_35 : ∀ s, s < 128 → ∀ k, k < 7 → 3 ≤ k → j_cn s k ≤ 35 := by decide +kernel
def m_LM (st : px_S) (s k : Nat) : Prop := st 11 12 = nI (j_cn s (k + 1)) ∧ ∀ x, x < 128 → j_g s (k + 1) x = true → st 27 (j_mn s (k + 1) x) = nI x
theorem m_listC {T : Nat} {st : px_S} {h : px_H} {C : Nat → List Int32} (hw : m_HW h) (k0 : m_JS T st h C) : ∃ st', f_X1_listMeetings T st = some st' ∧ m_fr [11, 27] st st' ∧ (∀ j, j ≠ 12 → st' 11 j = st 11 j) ∧ m_LM st' (h 5 0) (h 7 0) := by
  have hs7 : h 5 0 < 128 := Nat.lt_of_lt_of_le hw.2.1 (m_pow7 hw.1)
  have hk := hw.2.2.2.1
  have h35 := c_35 (h 5 0) hs7 (h 7 0 + 1) (by omega) (by omega)
  rw [f_X1_listMeetings]
  refine m_for (σ := px_S) (fun f i z => f_X1_listMeetings_7 T f (nI i) z) 128 (fun i z => m_fr [11, 27] st z ∧ (∀ j, j ≠ 12 → z 11 j = st 11 j) ∧ z 11 12 = nI (j_mn (h 5 0) (h 7 0 + 1) i) ∧ ∀ x, x < i → j_g (h 5 0) (h 7 0 + 1) x = true → z 27 (j_mn (h 5 0) (h 7 0 + 1) x) = nI x) (fun r => ∃ st', r = some st' ∧ m_fr [11, 27] st st' ∧ (∀ j, j ≠ 12 → st' 11 j = st 11 j) ∧ m_LM st' (h 5 0) (h 7 0)) ?_ ?_ 128 0 (up st 11 12 0) 1000 (by omega) ⟨m_fr_up (m_fr_refl _ _) (by simp) _ _, fun j hj => by rw [m_up, if_pos rfl, if_neg hj], by simp [m_up]; rfl, fun x hx => by omega⟩ (by omega)
  · intro f i z hi hz
    obtain ⟨z1, z2, z3, z4⟩ := hz
    left
    have e5 : z 12 5 = nI (h 5 0) := by rw [z1 12 (by decide)]; exact k0.1.2.1
    have e7 : z 12 7 = nI (h 7 0) := by rw [z1 12 (by decide)]; exact k0.1.2.2.2.1
    have hpi := m_pop_le i
    have skip : j_g (h 5 0) (h 7 0 + 1) i = false → ∃ s', (m_fr [11, 27] st s' ∧ (∀ j, j ≠ 12 → s' 11 j = st 11 j) ∧ s' 11 12 = nI (j_mn (h 5 0) (h 7 0 + 1) (i + 1)) ∧ ∀ x, x < i + 1 → j_g (h 5 0) (h 7 0 + 1) x = true → s' 27 (j_mn (h 5 0) (h 7 0 + 1) x) = nI x) ∧ f_X1_listMeetings_7 T f (nI i + 1) z = f_X1_listMeetings_7 T f (nI (i + 1)) s' := fun hg => ⟨z, ⟨z1, z2, by unfold j_mn; rw [j_su_s, hg]; exact z3, fun x hx hgx => by
      rcases Nat.lt_or_ge x i with hl | hl
      · exact z4 x hl hgx
      · rw [show x = i by omega, hg] at hgx; cases hgx⟩, by rw [nI_1]⟩
    rw [f_X1_listMeetings_7, if_pos (by rw [show (128 : Int32) = nI 128 from rfl]; exact nI_lt hi (by omega)), e5, e7, nI_1 (h 7 0), b_pop i hi, z3]
    by_cases g1 : m_dif i (h 5 0) = 0
    · rw [if_pos ((m_dif0 hi hs7).mpr g1)]
      by_cases g2 : m_pop i = h 7 0 + 1
      · have hg : j_g (h 5 0) (h 7 0 + 1) i = true := by unfold j_g; simp [g1, g2]
        have hlt : j_mn (h 5 0) (h 7 0 + 1) i < 35 := Nat.lt_of_lt_of_le (j_mn_lt hi hg) h35
        rw [if_pos (by rw [g2]), if_pos (by rw [show (35 : Int32) = nI 35 from rfl]; exact nI_lt hlt (by omega)), if_pos (m_px hlt (by omega)), nI_clamp (by omega), nI_1, nI_1]
        refine ⟨_, ⟨m_fr_up (m_fr_up z1 (by simp) _ _) (by simp) _ _, fun j hj => ?_, ?_, fun x hx hgx => ?_⟩, rfl⟩
        · rw [m_up, if_pos rfl, if_neg hj, m_up_row _ _ _ _ (by decide)]; exact z2 j hj
        · rw [m_up, if_pos rfl, if_pos rfl]; unfold j_mn; rw [j_su_s, hg]; rfl
        · rw [m_up_row _ _ _ _ (by decide), m_up, if_pos rfl]
          rcases Nat.lt_or_ge x i with hl | hl
          · rw [if_neg (by have := j_mn_lt hl hgx; omega)]; exact z4 x hl hgx
          · have : x = i := by omega
            subst this; rw [if_pos rfl]
      · rw [if_neg (by rw [nI_eq (by omega) (by omega)]; exact g2)]
        exact skip (by unfold j_g; simp [g2])
    · rw [if_neg (fun g => g1 ((m_dif0 hi hs7).mp g))]
      exact skip (by unfold j_g; simp [g1])
  · intro f z hz
    obtain ⟨z1, z2, z3, z4⟩ := hz
    rw [f_X1_listMeetings_7, if_neg (by decide)]
    exact ⟨z, rfl, z1, z2, z3, z4⟩
/-- whom a meeting M turns out: the highest whom the others would -/
def j_W (h : px_H) (C : Nat → List Int32) (M q : Nat) : Prop := m_dif (m_dif M (2 ^ q)) (j_ag h C (h 5 0) (h 3) q) = 0
def j_los (h : px_H) (C : Nat → List Int32) (M : Nat) (v : Int32) : Prop := (v = -1 ∧ ∀ q, q < 7 → M.testBit q = true → ¬ j_W h C M q) ∨ ∃ q, q < 7 ∧ v = nI q ∧ M.testBit q = true ∧ j_W h C M q ∧ ∀ r, q < r → r < 7 → M.testBit r = true → ¬ j_W h C M r
theorem j_los_uni {h : px_H} {C : Nat → List Int32} {M : Nat} {v w : Int32} (a : j_los h C M v) (b : j_los h C M w) : v = w := by
  rcases a with ⟨a1, a2⟩ | ⟨q, a1, a2, a3, a4, a5⟩
  · rcases b with ⟨b1, b2⟩ | ⟨r, b1, b2, b3, b4, b5⟩
    · exact a1.trans b1.symm
    · exact absurd b4 (a2 r b1 b3)
  · rcases b with ⟨b1, b2⟩ | ⟨r, b1, b2, b3, b4, b5⟩
    · exact absurd a4 (b2 q a1 a3)
    · rcases Nat.lt_trichotomy q r with g | g | g
      · exact absurd b4 (a5 r g b1 b3)
      · rw [a2, b2, g]
      · exact absurd a4 (b5 q g a1 a3)
theorem m_loserC {T : Nat} {st : px_S} {h : px_H} {C : Nat → List Int32} (c : m_CQ st h C (h 5 0) (h 3) (h 7 0)) {M : Nat} (hM : M < 128) : ∃ v, f_X1_loserOf T st (nI M) = some v ∧ j_los h C M v := by
  rw [f_X1_loserOf]
  have main : ∀ j fuel, j < 7 → j + 1 < fuel → (∀ r, j < r → r < 7 → M.testBit r = true → ¬ j_W h C M r) → ∃ v, f_X1_loserOf_3 T st fuel (nI M) (nI j) = some v ∧ j_los h C M v := by
    intro j
    induction j with
    | zero =>
      intro fuel hj hf hr
      obtain ⟨fuel, rfl⟩ : ∃ e, fuel = e + 1 := ⟨fuel - 1, by omega⟩
      obtain ⟨fuel, rfl⟩ : ∃ e, fuel = e + 1 := ⟨fuel - 1, by omega⟩
      have e1 : ∀ fu, f_X1_loserOf_3 T st (fu + 1) (nI M) (nI 0 + (-1)) = some (-1) := fun fu => by rw [f_X1_loserOf_3, if_pos (by decide)]
      have none0 : (M.testBit 0 = true → ¬ j_W h C M 0) → j_los h C M (-1) := fun hn => Or.inl ⟨rfl, fun q hq hb => by
        rcases Nat.eq_zero_or_pos q with e | e
        · subst e; exact hn hb
        · exact hr q e hq hb⟩
      rw [f_X1_loserOf_3, if_neg (by decide), b_has M hM 0 (by omega)]
      by_cases hb : M.testBit 0 = true
      · rw [if_neg (by rw [if_pos hb]; decide), b_bit 0 (by omega), b_dif M hM _ (by decide), m_eq_bind (m_wouldC c (by omega) (m_dif_lt hM))]
        by_cases w : m_dif (m_dif M (2 ^ 0)) (j_ag h C (h 5 0) (h 3) 0) = 0
        · rw [if_pos w, if_neg (by decide)]
          exact ⟨nI 0, rfl, Or.inr ⟨0, by omega, rfl, hb, w, hr⟩⟩
        · rw [if_neg w, if_pos rfl, e1]
          exact ⟨-1, rfl, none0 (fun _ => w)⟩
      · rw [if_pos (by rw [if_neg hb]), e1]
        exact ⟨-1, rfl, none0 (fun g => absurd g hb)⟩
    | succ j ih =>
      intro fuel hj hf hr
      obtain ⟨fuel, rfl⟩ : ∃ e, fuel = e + 1 := ⟨fuel - 1, by omega⟩
      have go : (M.testBit (j + 1) = true → ¬ j_W h C M (j + 1)) → ∃ v, f_X1_loserOf_3 T st fuel (nI M) (nI (j + 1) + (-1)) = some v ∧ j_los h C M v := fun hn => by
        rw [pk_m1]
        refine ih fuel (by omega) (by omega) (fun r h1 h2 hb => ?_)
        rcases Nat.lt_or_ge (j + 1) r with hl | hl
        · exact hr r hl h2 hb
        · have : r = j + 1 := by omega
          subst this; exact hn hb
      rw [f_X1_loserOf_3, if_neg (nI_pos (by omega)), b_has M hM (j + 1) (by omega)]
      by_cases hb : M.testBit (j + 1) = true
      · rw [if_neg (by rw [if_pos hb]; decide), b_bit (j + 1) (by omega), b_dif M hM _ (m_bit2 (j + 1) hj), m_eq_bind (m_wouldC c hj (m_dif_lt hM))]
        by_cases w : m_dif (m_dif M (2 ^ (j + 1))) (j_ag h C (h 5 0) (h 3) (j + 1)) = 0
        · rw [if_pos w, if_neg (by decide)]
          exact ⟨_, rfl, Or.inr ⟨j + 1, hj, rfl, hb, w, hr⟩⟩
        · rw [if_neg w, if_pos rfl]
          exact go (fun _ => w)
      · rw [if_pos (by rw [if_neg hb])]
        exact go (fun g => absurd g hb)
  exact main 6 1000 (by omega) (by omega) (fun r h1 h2 => by omega)
theorem m_i32 (x : Int32) : nI x.toBitVec.toNat = x := by
  apply Int32.toBitVec_inj.mp
  show BitVec.ofNat 32 x.toBitVec.toNat = x.toBitVec
  simp
def m_zz (z : Int32) : Nat := z.toBitVec.toNat / 2 ^ 9
theorem m_zz_eq (z : Int32) : (z.toUInt32 >>> ((9 : Int32).toUInt32 &&& Int32.toUInt32 31)).toInt32 = nI (m_zz z) := by
  have e := pk_ushr z 9 9 (by decide)
  rw [← m_i32 (z.toUInt32 >>> ((9 : Int32).toUInt32 &&& Int32.toUInt32 31)).toInt32, e]; rfl
theorem m_zz_lt (z : Int32) : m_zz z < 2 ^ 31 := by
  unfold m_zz
  have := z.toBitVec.isLt
  omega
def j_nz (z : Int32) : Int32 := z * 1103515245 + 12345
def j_dy (h : px_H) : px_H := hu h 8 0 (j_dm (h 8 0))
/-- a day that is drawn -/
def j_D (C : Nat → List Int32) (h : px_H) (t : Nat) (h' : px_H) : Prop :=
  (j_cn (h 5 0) (h 7 0 + 1) = 0 ∧ h' = j_dy h) ∨ (0 < j_cn (h 5 0) (h 7 0 + 1) ∧ ∃ M v, M < 128 ∧ j_g (h 5 0) (h 7 0 + 1) M = true ∧ j_mn (h 5 0) (h 7 0 + 1) M = t % j_cn (h 5 0) (h 7 0 + 1) ∧ j_los h C M v ∧ ((v = -1 ∧ h' = j_dy h) ∨ ∃ q, q < 7 ∧ v = nI q ∧ h' = j_lv h q))
def j_Dn (C : Nat → List Int32) : Nat → px_H → Int32 → px_H → Prop
  | 0, h, _, f => f = h
  | d + 1, h, z, f => ∃ h', j_D C h (m_zz (j_nz z)) h' ∧ j_Dn C d h' (j_nz z) f
theorem j_mn_uni {s k x y : Nat} (hx : j_g s k x = true) (hy : j_g s k y = true) (e : j_mn s k x = j_mn s k y) : x = y := by
  rcases Nat.lt_trichotomy x y with g | g | g
  · have := j_mn_lt g hx; omega
  · exact g
  · have := j_mn_lt g hy; omega
theorem j_D_uni {C : Nat → List Int32} {h : px_H} {t : Nat} {a b : px_H} (ha : j_D C h t a) (hb : j_D C h t b) : a = b := by
  rcases ha with ⟨a1, a2⟩ | ⟨a1, M, v, a2, a3, a4, a5, a6⟩
  · rcases hb with ⟨b1, b2⟩ | ⟨b1, _⟩
    · rw [a2, b2]
    · omega
  · rcases hb with ⟨b1, b2⟩ | ⟨b1, M', v', b2, b3, b4, b5, b6⟩
    · omega
    · have e := j_mn_uni a3 b3 (a4.trans b4.symm)
      subst e
      have e2 := j_los_uni a5 b5
      subst e2
      rcases a6 with ⟨c1, c2⟩ | ⟨q, c1, c2, c3⟩
      · rcases b6 with ⟨d1, d2⟩ | ⟨r, d1, d2, d3⟩
        · rw [c2, d2]
        · rw [d2] at c1; exact absurd c1 (m_n1 (by omega))
      · rcases b6 with ⟨d1, d2⟩ | ⟨r, d1, d2, d3⟩
        · rw [c2] at d1; exact absurd d1 (m_n1 (by omega))
        · have := (nI_eq (by omega) (by omega)).mp (c2.symm.trans d2)
          rw [c3, d3, this]
theorem j_Dn_uni {C : Nat → List Int32} {a b : px_H} : ∀ (d : Nat) (h : px_H) (z : Int32), j_Dn C d h z a → j_Dn C d h z b → a = b
  | 0, h, z, x, y => x.trans y.symm
  | d + 1, h, z, ⟨h1, x1, x2⟩, ⟨h2, y1, y2⟩ => by
    have := j_D_uni x1 y1
    subst this
    exact j_Dn_uni d h1 (j_nz z) x2 y2
theorem j_Dn_stop {C : Nat → List Int32} (d : Nat) : ∀ (h : px_H) (z : Int32), j_cn (h 5 0) (h 7 0 + 1) = 0 → ∃ f, j_Dn C d h z f ∧ f 5 0 = h 5 0 := by
  induction d with
  | zero => intro h z _; exact ⟨h, rfl, rfl⟩
  | succ d ih =>
    intro h z h0
    have e5 : (j_dy h) 5 0 = h 5 0 := by simp [j_dy, hu]
    have e7 : (j_dy h) 7 0 = h 7 0 := by simp [j_dy, hu]
    obtain ⟨f, e1, e2⟩ := ih (j_dy h) (j_nz z) (by rw [e5, e7]; exact h0)
    exact ⟨f, ⟨j_dy h, Or.inl ⟨h0, rfl⟩, e1⟩, e2.trans e5⟩
theorem j_dy_w {h : px_H} (hw : m_HW h) : m_HW (j_dy h) := m_HW_set hw 8 _ (by omega) ⟨by omega, by omega, by omega, fun _ => j_dm_le⟩
theorem j_w_day {h : px_H} {C : Nat → List Int32} (hC : ∀ w, w < 3 → ∀ c, c ∈ C w → c ≠ -4) (s p q : Nat) (b : Bool) : j_w (j_dy h) C s p q b = j_w h C s p q b := by
  have hF : ∀ p q m i, i ≠ 3 → j_F (j_dy h) p q m i = j_F h p q m i := fun p q m i hi => by
    unfold j_F
    by_cases e0 : i = 0
    · rw [if_pos e0, if_pos e0]; rfl
    · rw [if_neg e0, if_neg e0]
      by_cases e1 : i = 1
      · rw [if_pos e1, if_pos e1]
      · rw [if_neg e1, if_neg e1]
        by_cases e2 : i = 2
        · rw [if_pos e2, if_pos e2]; rfl
        · rw [if_neg e2, if_neg e2, if_neg hi, if_neg hi]
  have v : ∀ w, w < 3 → ∀ p q m, j_v (j_dy h) C w p q m = j_v h C w p q m := fun w hw p q m => by
    unfold j_v
    rw [m_ev_ind (Or.inr ⟨rfl, rfl⟩) (fun i hi => hF p q m i hi) (C w) [] (hC w hw)]
  have wo : ∀ p x m, j_wo (j_dy h) C p x m = j_wo h C p x m := fun p x m => by
    unfold j_wo; rw [v 0 (by omega)]; rfl
  have gf : ∀ p s m x, j_gf (j_dy h) C p s m x = j_gf h C p s m x := fun p s m x => by unfold j_gf; rw [wo]
  have gd : ∀ p s m, j_gd (j_dy h) C p s m = j_gd h C p s m := fun p s m => by
    unfold j_gd; rw [j_sm_congr 7 (fun x _ => gf p s m x)]; rfl
  unfold j_w j_gain j_mv j_oa
  rw [gd, gd, v 1 (by omega), v 2 (by omega)]; rfl
theorem m_LK_day {st : px_S} {h : px_H} {C : Nat → List Int32} {s : Nat} (hC : ∀ w, w < 3 → ∀ c, c ∈ C w → c ≠ -4) (l : m_LK st h C s) : m_LK st (j_dy h) C s := by
  have e : ∀ q b, j_fr (j_dy h) C s q b = j_fr h C s q b := fun q b => by
    funext p; unfold j_fr; rw [j_w_day hC]
  exact ⟨l.1, fun q hq => by rw [e, e]; exact l.2 q hq⟩
theorem j_lv_eq (h : px_H) (q : Nat) : hu (j_dy h) 5 0 (m_dif (h 5 0) (2 ^ q)) = j_lv h q := by
  funext x y
  unfold j_lv j_dy hu
  by_cases a : x = 5
  · subst a; simp
  · by_cases b : x = 8
    · subst b; simp
    · simp [a, b]
theorem m_drawC {T days : Nat} {C : Nat → List Int32} {fl : Int32} (hd30 : days ≤ 30) (hfl : fl = 0 → ∀ w, w < 3 → ∀ c, c ∈ C w → c ≠ -4) : ∀ (d i : Nat) (z : Int32) (st : px_S) (h : px_H) (fuel : Nat), i + d = days → d < fuel → m_HW h → m_JS T st h C → m_LK st h C (h 5 0) → m_LM st (h 5 0) (h 7 0) → ∃ (f : px_H) (st' : px_S), f_X1_draw_31 T fuel (nI days) fl z (nI i) st = some (nI (f 5 0), st') ∧ j_Dn C d h z f ∧ m_fr m_TF st st' ∧ st' 11 1 = st 11 1 := by
  intro d
  induction d with
  | zero =>
    intro i z st h fuel hi hf hw k l m
    obtain ⟨fuel, rfl⟩ : ∃ e, fuel = e + 1 := ⟨fuel - 1, by omega⟩
    rw [f_X1_draw_31, show i = days by omega, if_neg (nI_nlt (Nat.le_refl _) (by omega))]
    exact ⟨h, st, by rw [k.1.2.1], rfl, m_fr_refl _ _, rfl⟩
  | succ d ih =>
    intro i z st h fuel hi hf hw k l m
    obtain ⟨fuel, rfl⟩ : ∃ e, fuel = e + 1 := ⟨fuel - 1, by omega⟩
    have hs7 : h 5 0 < 128 := Nat.lt_of_lt_of_le hw.2.1 (m_pow7 hw.1)
    have hk := hw.2.2.2.1
    have h35 := c_35 (h 5 0) hs7 (h 7 0 + 1) (by omega) (by omega)
    have hzl := m_zz_lt (j_nz z)
    rw [f_X1_draw_31, if_pos (nI_lt (by omega) (by omega)), m.1]
    rcases Nat.eq_zero_or_pos (j_cn (h 5 0) (h 7 0 + 1)) with c0 | c0
    · rw [c0, if_neg (by decide)]
      obtain ⟨f, e1, e2⟩ := j_Dn_stop (C := C) (d + 1) h z c0
      exact ⟨f, st, by rw [k.1.2.1, e2], e1, m_fr_refl _ _, rfl⟩
    · have hlt : m_zz (j_nz z) % j_cn (h 5 0) (h 7 0 + 1) < j_cn (h 5 0) (h 7 0 + 1) := Nat.mod_lt _ c0
      have eidx : (j_nz z).toUInt32 >>> ((9 : Int32).toUInt32 &&& Int32.toUInt32 31) |>.toInt32 |> fun w => w - w / nI (j_cn (h 5 0) (h 7 0 + 1)) * nI (j_cn (h 5 0) (h 7 0 + 1)) = nI (m_zz (j_nz z) % j_cn (h 5 0) (h 7 0 + 1)) := by
        show (((j_nz z).toUInt32 >>> ((9 : Int32).toUInt32 &&& Int32.toUInt32 31)).toInt32 - ((j_nz z).toUInt32 >>> ((9 : Int32).toUInt32 &&& Int32.toUInt32 31)).toInt32 / nI (j_cn (h 5 0) (h 7 0 + 1)) * nI (j_cn (h 5 0) (h 7 0 + 1))) = _
        rw [m_zz_eq]; exact pk_rem hzl c0 (by omega)
      have eidx' : ((((z * 1103515245) + 12345).toUInt32 >>> ((9 : Int32).toUInt32 &&& Int32.toUInt32 31)).toInt32 - (((z * 1103515245) + 12345).toUInt32 >>> ((9 : Int32).toUInt32 &&& Int32.toUInt32 31)).toInt32 / nI (j_cn (h 5 0) (h 7 0 + 1)) * nI (j_cn (h 5 0) (h 7 0 + 1))) = nI (m_zz (j_nz z) % j_cn (h 5 0) (h 7 0 + 1)) := eidx
      -- which meeting
      have hex : ∃ M, M < 128 ∧ j_g (h 5 0) (h 7 0 + 1) M = true ∧ j_mn (h 5 0) (h 7 0 + 1) M = m_zz (j_nz z) % j_cn (h 5 0) (h 7 0 + 1) := by
        have : ∀ N t, t < j_mn (h 5 0) (h 7 0 + 1) N → ∃ M, M < N ∧ j_g (h 5 0) (h 7 0 + 1) M = true ∧ j_mn (h 5 0) (h 7 0 + 1) M = t := by
          intro N
          induction N with
          | zero => intro t ht; exact absurd ht (Nat.not_lt_zero _)
          | succ N ihN =>
            intro t ht
            unfold j_mn at ht
            rw [j_su_s] at ht
            rcases Nat.lt_or_ge t (j_mn (h 5 0) (h 7 0 + 1) N) with hl | hl
            · obtain ⟨M, m1, m2, m3⟩ := ihN t hl
              exact ⟨M, by omega, m2, m3⟩
            · unfold j_mn at hl
              cases e : j_g (h 5 0) (h 7 0 + 1) N
              · rw [e] at ht; simp at ht; omega
              · rw [e] at ht; simp at ht
                exact ⟨N, by omega, e, by unfold j_mn; omega⟩
        exact this 128 _ hlt
      obtain ⟨M, hM, m1, m2⟩ := hex
      have cq := m_CQ_of hw k l
      obtain ⟨v, w1, w2⟩ := m_loserC (T := T) cq hM
      have e27 : st 27 (m_zz (j_nz z) % j_cn (h 5 0) (h 7 0 + 1)) = nI M := by rw [← m2]; exact m.2 M hM m1
      have pd : f_X0_passDay T 12 st = some (up st 12 8 (nI (j_dm (h 8 0)))) := m_dayC hw.2.2.2.2.1 k.1.2.2.2.2.1
      have kd : m_JS T (up st 12 8 (nI (j_dm (h 8 0)))) (j_dy h) C := m_JS_set k 8 (j_dm (h 8 0)) (by omega)
      have frd : m_fr m_TF st (up st 12 8 (nI (j_dm (h 8 0)))) := m_fr_up (m_fr_refl _ _) (by simp [m_TF]) _ _
      rw [if_pos (by rw [show (0 : Int32) = nI 0 from rfl]; exact nI_lt c0 (by omega)), if_neg (nI_ne0 c0 (by omega)), eidx', if_pos (m_px (by omega) (by omega)), nI_clamp (by omega), e27, m_eq_bind w1, m_eq_bind pd]
      rcases w2 with ⟨v0, v1⟩ | ⟨q, hq, v0, v1, v2, v3⟩
      · -- nobody goes
        have D1 : j_D C h (m_zz (j_nz z)) (j_dy h) := Or.inr ⟨c0, M, v, hM, m1, m2, Or.inl ⟨v0, v1⟩, Or.inl ⟨v0, rfl⟩⟩
        rw [if_pos v0, f_X1_draw_102, if_pos v0]
        have lm : m_LM (up st 12 8 (nI (j_dm (h 8 0)))) (h 5 0) (h 7 0) := ⟨by rw [m_up_row _ _ _ _ (by decide)]; exact m.1, fun x hx hg => by rw [m_up_row _ _ _ _ (by decide)]; exact m.2 x hx hg⟩
        by_cases efl : fl = 0
        · rw [if_pos efl, nI_1]
          have lk : m_LK (up st 12 8 (nI (j_dm (h 8 0)))) (j_dy h) C (h 5 0) := by
            have := m_LK_day (hfl efl) l
            exact ⟨by rw [m_up_row _ _ _ _ (by decide)]; exact this.1, fun q hq => by rw [m_up_row _ _ _ _ (by decide), m_up_row _ _ _ _ (by decide)]; exact this.2 q hq⟩
          obtain ⟨f, st', x1, x2, x3, x4⟩ := ih (i + 1) (j_nz z) _ (j_dy h) fuel (by omega) (by omega) (j_dy_w hw) kd lk lm
          exact ⟨f, st', x1, ⟨_, D1, x2⟩, m_fr_tr frd x3, by rw [x4, m_up_row _ _ _ _ (by decide)]⟩
        · rw [if_neg efl, f_X1_draw_112, kd.1.2.1]
          obtain ⟨s1, a1, a2, a3, a4, a5, _⟩ := m_lookC kd (j_dy_w hw) (j_dy_w hw).2.1
          rw [m_eq_bind a1, nI_1]
          have lm1 : m_LM s1 (h 5 0) (h 7 0) := ⟨by rw [a5 12 (by decide)]; exact lm.1, fun x hx hg => by rw [a2 27 (by decide)]; exact lm.2 x hx hg⟩
          obtain ⟨f, st', x1, x2, x3, x4⟩ := ih (i + 1) (j_nz z) s1 (j_dy h) fuel (by omega) (by omega) (j_dy_w hw) a4 a3 lm1
          exact ⟨f, st', x1, ⟨_, D1, x2⟩, m_fr_tr frd (m_fr_tr (m_TFl a2) x3), by rw [x4, a5 1 (by decide), m_up_row _ _ _ _ (by decide)]⟩
      · -- one goes
        have D1 : j_D C h (m_zz (j_nz z)) (j_lv h q) := Or.inr ⟨c0, M, v, hM, m1, m2, Or.inr ⟨q, hq, v0, v1, v2, v3⟩, Or.inr ⟨q, hq, v0, rfl⟩⟩
        have vn : ¬ v = -1 := by rw [v0]; exact m_n1 (by omega)
        have lv : f_X0_leave T 12 v (up st 12 8 (nI (j_dm (h 8 0)))) = some (up (up st 12 8 (nI (j_dm (h 8 0)))) 12 5 (nI (m_dif (h 5 0) (2 ^ q)))) := by
          rw [v0]; exact m_leaveC hs7 hq kd.1.2.1
        have kl : m_JS T (up (up st 12 8 (nI (j_dm (h 8 0)))) 12 5 (nI (m_dif (h 5 0) (2 ^ q)))) (j_lv h q) C := by
          have := m_JS_set kd 5 (m_dif (h 5 0) (2 ^ q)) (by omega)
          rw [j_lv_eq] at this; exact this
        have hwl := j_lv_w hw q
        obtain ⟨s1, a1, a2, a3, a4⟩ := m_listC (T := T) hwl kl
        have k1 : m_JS T s1 (j_lv h q) C := by
          obtain ⟨b1, a, ha, b2, b3, b4⟩ := kl
          exact ⟨m_HC_eq b1 (a2 _ (by decide)) (a2 _ (by decide)) (a2 _ (by decide)) (a2 _ (by decide)) (a2 _ (by decide)), a, ha, b2, by rw [a3 1 (by decide)]; exact b3, m_TX_eq b4 (a2 _ (by simp; omega)) (a2 _ (by simp; omega))⟩
        obtain ⟨s2, b1, b2, b3, b4, b5, _⟩ := m_lookC k1 hwl hwl.2.1
        rw [if_neg vn, m_eq_bind lv, m_eq_bind a1, f_X1_draw_102, if_neg vn, f_X1_draw_112, k1.1.2.1, m_eq_bind b1, nI_1]
        have lm1 : m_LM s2 ((j_lv h q) 5 0) ((j_lv h q) 7 0) := ⟨by rw [b5 12 (by decide)]; exact a4.1, fun x hx hg => by rw [b2 27 (by decide)]; exact a4.2 x hx hg⟩
        obtain ⟨f, st', x1, x2, x3, x4⟩ := ih (i + 1) (j_nz z) s2 (j_lv h q) fuel (by omega) (by omega) hwl b4 b3 lm1
        refine ⟨f, st', x1, ⟨_, D1, x2⟩, m_fr_tr frd (m_fr_tr (m_fr_up (m_fr_refl _ _) (by simp [m_TF]) _ _) (m_fr_tr (m_fr_mono a2 ?_) (m_fr_tr (m_TFl b2) x3))), ?_⟩
        · intro a ha; simp [m_TF] at ha ⊢; omega
        · rw [x4, b5 1 (by decide), a3 1 (by decide), m_up_row _ _ _ _ (by decide), m_up_row _ _ _ _ (by decide)]
theorem m_drawC0 {T days : Nat} {C : Nat → List Int32} {st : px_S} {h : px_H} (hd30 : days ≤ 30) (hw : m_HW h) (k : m_JS T st h C) (z : Int32) : ∃ (f : px_H) (st' : px_S), f_X1_draw T z (nI days) st = some (nI (f 5 0), st') ∧ j_Dn C days h z f ∧ m_fr m_TF st st' ∧ st' 11 1 = st 11 1 := by
  have hT : px_isT T (st 11 1).toNatClampNeg ∧ m_TX st (st 11 1).toNatClampNeg C := by
    obtain ⟨_, a, ha, k2, k3, k4⟩ := k
    rw [k3, nI_clamp (by omega)]; exact ⟨k2, k4⟩
  have fl : ∃ fl : Int32, f_X4_names T st (st 11 1).toNatClampNeg (-4) = some fl ∧ (fl = 0 → ∀ w, w < 3 → ∀ c, c ∈ C w → c ≠ -4) := by
    rcases m_namesC (T := T) hT.2 (-4) with e | ⟨e, g⟩
    · exact ⟨1, e, fun q => absurd q (by decide)⟩
    · exact ⟨0, e, fun _ => g⟩
  obtain ⟨fl, efl, hfl⟩ := fl
  obtain ⟨s1, a1, a2, a3, a4⟩ := m_listC (T := T) hw k
  have k1 : m_JS T s1 h C := by
    obtain ⟨b1, a, ha, b2, b3, b4⟩ := k
    exact ⟨m_HC_eq b1 (a2 _ (by decide)) (a2 _ (by decide)) (a2 _ (by decide)) (a2 _ (by decide)) (a2 _ (by decide)), a, ha, b2, by rw [a3 1 (by decide)]; exact b3, m_TX_eq b4 (a2 _ (by simp; omega)) (a2 _ (by simp; omega))⟩
  obtain ⟨s2, b1, b2, b3, b4, b5, _⟩ := m_lookC k1 hw hw.2.1
  have lm1 : m_LM s2 (h 5 0) (h 7 0) := ⟨by rw [b5 12 (by decide)]; exact a4.1, fun x hx hg => by rw [b2 27 (by decide)]; exact a4.2 x hx hg⟩
  obtain ⟨f, st', x1, x2, x3, x4⟩ := m_drawC (T := T) (days := days) hd30 hfl days 0 z s2 h 1000 (by omega) (by omega) hw b4 b3 lm1
  rw [f_X1_draw, if_pos hT.1, m_eq_bind efl, m_eq_bind a1, k1.1.2.1, m_eq_bind b1]
  refine ⟨f, st', x1, x2, m_fr_tr (m_fr_mono a2 ?_) (m_fr_tr (m_TFl b2) x3), by rw [x4, b5 1 (by decide), a3 1 (by decide)]⟩
  intro a ha; simp [m_TF] at ha ⊢; omega
