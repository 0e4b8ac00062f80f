theorem m_swR {T n : Nat} {st : px_S} {o : Nat → Nat} (hn : n ≤ 7) (ho : ∀ j, j < n → st 55 j = nI (o j)) (hl : ∀ j, j < 7 → o j < 128) {p q : Nat} (hp : p < n) (hq : q < n) (hpq : p ≠ q) (b : Bool) : ∃ s1, f_X6_swears T (nI p) (nI q) (if b then 1 else 0) st = some s1 ∧ m_fr [55] st s1 ∧ (∀ j, j < n → s1 55 j = nI (j_bd o p q b j)) ∧ ∀ j, n ≤ j → s1 55 j = st 55 j := by
  have hinp : px_in (nI p) 7 := m_px (by omega) (by omega)
  have hinq : px_in (nI q) 7 := m_px (by omega) (by omega)
  have e1 := (c_b1 _ (hl p (by omega)) q (by omega) b).2.2
  have e2 := (c_b1 _ (hl q (by omega)) p (by omega) b).2.2
  have oq : ∀ x : Int32, (up st 55 p x) 55 q = nI (o q) := fun x => by rw [m_up, if_pos rfl, if_neg (Ne.symm hpq)]; exact ho q hq
  rw [f_X6_swears, if_pos hinp, if_pos hinp, if_pos hinq, if_pos hinq, nI_clamp (n := p) (by omega), nI_clamp (n := q) (by omega), ho p hp, oq, e1, e2]
  refine ⟨_, rfl, m_fr_up (m_fr_up (m_fr_refl _ _) (by simp) _ _) (by simp) _ _, fun j hj => ?_, fun j hj => ?_⟩
  · rw [m_up, if_pos rfl, m_up, if_pos rfl, j_bd]
    by_cases h1 : j = q
    · rw [if_pos h1, if_neg (by omega), if_pos h1]
    · rw [if_neg h1]
      by_cases h2 : j = p
      · rw [if_pos h2, if_pos h2]
      · rw [if_neg h2, if_neg h2, if_neg h1]; exact ho j hj
  · rw [m_up, if_pos rfl, if_neg (by omega), m_up, if_pos rfl, if_neg (by omega)]
/-- an oath more, and gone again -/
theorem j_bd_back {o : Nat → Nat} {p q : Nat} (hp : p < 7) (hq : q < 7) (hpq : p ≠ q) (hl : ∀ j, j < 7 → o j < 128) (hsym : ∀ a b, a < 7 → b < 7 → (o a).testBit b = (o b).testBit a) (h0 : (o p).testBit q = false) {j : Nat} (hj : j < 7) : j_bd (j_bd o p q true) p q false j = o j := by
  have hl1 : ∀ i, i < 7 → j_bd o p q true i < 128 := fun i hi => j_bd_lt true hp hq hl hi
  refine m_ext7 (j_bd_lt false hp hq hl1 hj) (hl j hj) (fun i hi => ?_)
  rw [j_bd_bit false hpq hi, j_bd_bit true hpq hi]
  by_cases c : (j = p ∧ i = q) ∨ (j = q ∧ i = p)
  · rw [if_pos c]
    rcases c with ⟨rfl, rfl⟩ | ⟨rfl, rfl⟩
    · exact h0.symm
    · rw [hsym j i hj hi]; exact h0.symm
  · rw [if_neg c, if_neg c]
theorem j_bd_sym {o : Nat → Nat} {p q : Nat} (hpq : p ≠ q) (b : Bool) (hsym : ∀ a c, a < 7 → c < 7 → (o a).testBit c = (o c).testBit a) : ∀ a c, a < 7 → c < 7 → (j_bd o p q b a).testBit c = (j_bd o p q b c).testBit a := by
  intro a c ha hc
  rw [j_bd_bit b hpq hc, j_bd_bit b hpq ha]
  by_cases e : (a = p ∧ c = q) ∨ (a = q ∧ c = p)
  · rw [if_pos e, if_pos (by omega)]
  · rw [if_neg e, if_neg (by omega)]; exact hsym a c ha hc
theorem j_bd_back2 {o : Nat → Nat} {p q r t : Nat} (hp : p < 7) (hq : q < 7) (hr : r < 7) (ht : t < 7) (hpq : p < q) (hrt : r < t) (hne : ¬ (p = r ∧ q = t)) (hl : ∀ j, j < 7 → o j < 128) (hsym : ∀ a b, a < 7 → b < 7 → (o a).testBit b = (o b).testBit a) (h0 : (o p).testBit q = false) (h1 : (o r).testBit t = false) {j : Nat} (hj : j < 7) : j_bd (j_bd (j_bd (j_bd o p q true) r t true) p q false) r t false j = o j := by
  have l1 : ∀ i, i < 7 → j_bd o p q true i < 128 := fun i hi => j_bd_lt true hp hq hl hi
  have l2 : ∀ i, i < 7 → j_bd (j_bd o p q true) r t true i < 128 := fun i hi => j_bd_lt true hr ht l1 hi
  have l3 : ∀ i, i < 7 → j_bd (j_bd (j_bd o p q true) r t true) p q false i < 128 := fun i hi => j_bd_lt false hp hq l2 hi
  refine m_ext7 (j_bd_lt false hr ht l3 hj) (hl j hj) (fun i hi => ?_)
  rw [j_bd_bit false (by omega) hi, j_bd_bit false (by omega) hi, j_bd_bit true (by omega) hi, j_bd_bit true (by omega) hi]
  by_cases c : (j = r ∧ i = t) ∨ (j = t ∧ i = r)
  · rw [if_pos c]
    rcases c with ⟨rfl, rfl⟩ | ⟨rfl, rfl⟩
    · exact h1.symm
    · rw [hsym j i hj hi]; exact h1.symm
  · rw [if_neg c]
    by_cases d : (j = p ∧ i = q) ∨ (j = q ∧ i = p)
    · rw [if_pos d]
      rcases d with ⟨rfl, rfl⟩ | ⟨rfl, rfl⟩
      · exact h0.symm
      · rw [hsym j i hj hi]; exact h0.symm
    · rw [if_neg d, if_neg c, if_neg d]
theorem m_inR' {T : Nat} {st : px_S} {h : px_H} (hw : m_HW h) (h4 : st 48 11 = nI (h 4 0)) (h5 : st 48 12 = nI (h 5 0)) {p : Nat} (hp : p < 7) : f_X6_isIn T st (nI p) = some (if (h 5 0).testBit p then 1 else 0) := by
  rcases Nat.lt_or_ge p (h 4 0) with hl | hl
  · exact m_inR hw h4 h5 hl
  · rw [m_inR0 hw.1 h4 (m_kn0 hl (by omega)), m_lt_bit hw.2.1 hl]; rfl
theorem m_CQ_bd {st s1 : px_S} {h : px_H} {C : Nat → List Int32} {s : Nat} {o o' : Nat → Nat} {k : Nat} (c : m_CQ st h C s o k) (f : m_fr [16] st s1) (ho : ∀ j, j < 7 → s1 16 j = nI (o' j)) (hl : ∀ j, j < 7 → o' j < 128) : m_CQ s1 h C s o' k := by
  obtain ⟨⟨c1, c2⟩, c3, c4, c5⟩ := c
  exact ⟨⟨by rw [f 11 (by decide)]; exact c1, fun q hq => by rw [f 22 (by decide), f 23 (by decide)]; exact c2 q hq⟩, fun q hq => ⟨ho q hq, hl q hq⟩, by rw [f 12 (by decide)]; exact c4, c5⟩
theorem m_RQ_bd {st s1 : px_S} {h : px_H} {C : Nat → List Int32} {s : Nat} {o o' : Nat → Nat} {k : Nat} (c : m_RQ st h C s o k) (f : m_fr [55] st s1) (ho : ∀ j, j < h 4 0 → s1 55 j = nI (o' j)) (hl : ∀ j, j < 7 → o' j < 128) (hs : ∀ a b, a < 7 → b < 7 → (o' a).testBit b = (o' b).testBit a) : m_RQ s1 h C s o' k := by
  obtain ⟨⟨c1, c2⟩, c3, c4, c5, c6, c7, c8, c9⟩ := c
  refine ⟨⟨by rw [f 48 (by decide)]; exact c1, fun p q hp hq hpr => ?_⟩, ho, hl, hs, by rw [f 48 (by decide)]; exact c6, c7, by rw [f 48 (by decide)]; exact c8, fun j hj => by rw [f 52 (by decide), f 53 (by decide)]; exact c9 j hj⟩
  have := c2 p q hp hq hpr
  unfold m_ent at *
  rw [f 56 (by decide), f 57 (by decide), f 58 (by decide)]; exact this
theorem op_sworn {T : Nat} {st : px_S} (ag : px_ag) (hI : Inv T st) : ∃ T2 st2, px_op14 T st ag T2 st2 ∧ Inv T2 st2 := by
  have hI0 := hI
  obtain ⟨h1, h2, h3, h4, h5, h, hh, him⟩ := hI
  have hh0 := hh
  obtain ⟨hw, h9, hc, hr⟩ := hh
  have hn := hw.1
  have hs7 : h 5 0 < 128 := Nat.lt_of_lt_of_le hw.2.1 (m_pow7 hn)
  have hl := m_o128 hw
  have hsym := hw.2.2.2.2.2.2.2.2.1
  rcases j_kn_cases hn (ag 1) with q1 | ⟨p, hp, ep, q1⟩
  · exact ⟨T, st, ⟨rfl, -2, st, by rw [f_X5_sworn, m_eq_bind (m_inC0 (T := T + 2) hc.1 q1), if_pos rfl], by rw [f_X6_sworn, m_eq_bind (m_inR0 hn hr.1 q1), if_pos rfl]⟩, hI0⟩
  by_cases hb : (h 5 0).testBit p = true
  case neg => exact ⟨T, st, ⟨rfl, -2, st, by rw [f_X5_sworn, ep, m_eq_bind (m_inC hw hc.1 hc.2.1 hp), if_neg hb, if_pos rfl], by rw [f_X6_sworn, ep, m_eq_bind (m_inR hw hr.1 hr.2.1 hp), if_neg hb, if_pos rfl]⟩, hI0⟩
  have hp7 : p < 7 := by omega
  obtain ⟨C, s1, e1, f1, r1, k1, c1, j1⟩ := m_tohC h1 h3 hh0
  obtain ⟨s2, e2, f2, l2, _⟩ := m_looksR (T := T) j1 hw hw.2.1
  have j2 := m_RJ_sc j1 f2
  have rq := m_RQ_of j2 hw l2
  have r12 : s1 48 12 = nI (h 5 0) := j1.1.2.1
  have c0 : f_X5_sworn (T + 2) (ag 1) st = (if (if m_pop (j_ag h C (h 5 0) (h 3) p) < h 7 0 then (1 : Int32) else 0) = 0 then ((f_X1_savingOath (T + 2) s1 (nI p)).bind fun b6 => (some (b6, s1))) else (some ((-2), s1))) := by
    rw [f_X5_sworn, ep, m_eq_bind (m_inC hw hc.1 hc.2.1 hp), if_pos hb, if_neg (by decide), m_eq_bind e1, m_eq_bind (m_safeC c1 hp7)]
  have r0 : f_X6_sworn T (ag 1) s1 = (if (if m_pop (j_ag h C (h 5 0) (h 3) p) < h 7 0 then (1 : Int32) else 0) = 0 then (f_X6_sworn_34 T 1000 (nI p) (-1) 0 s2) else (some ((-2), s2))) := by
    rw [f_X6_sworn, ep, m_eq_bind (m_inR hw j1.1.1 j1.1.2.1 hp), if_pos hb, if_neg (by decide), r12, m_eq_bind e2, m_eq_bind (m_safeR rq hw hw.2.1 hp7)]
  by_cases hsafe : m_pop (j_ag h C (h 5 0) (h 3) p) < h 7 0
  · exact ⟨T, s2, ⟨rfl, -2, s1, by rw [c0, if_pos hsafe, if_neg (by decide)], by rw [r0, if_pos hsafe, if_neg (by decide)]⟩, Inv_sc hI0 f1 r1 f2⟩
  rw [if_neg hsafe, if_pos rfl] at c0 r0
  -- which oath would do
  obtain ⟨G, eG⟩ : ∃ G : Nat → Bool, G = fun q => j_pr (h 5 0) p q && !((h 3 p).testBit q) && decide (m_pop (j_ag h C (h 5 0) (j_bd (h 3) p q true) p) < h 7 0) := ⟨_, rfl⟩
  have hpin : px_in (nI p) 7 := m_px hp7 (by omega)
  have CA : ∃ v : Int32, f_X1_savingOath (T + 2) s1 (nI p) = some v ∧ ((v = -1 ∧ ∀ q, q < 7 → G q = false) ∨ ∃ q, q < 7 ∧ v = nI q ∧ G q = true ∧ ∀ r, r < q → G r = false) := by
    have o16 := c1.2.1 p hp7
    rw [f_X1_savingOath, if_pos hpin, nI_clamp (by omega), o16.1]
    refine m_for (σ := Unit) (fun f i _ => f_X1_savingOath_12 (T + 2) s1 f (nI p) (nI (h 3 p)) (nI i)) 7 (fun i _ => ∀ q, q < i → G q = false) (fun r => ∃ v : Int32, r = some v ∧ ((v = -1 ∧ ∀ q, q < 7 → G q = false) ∨ ∃ q, q < 7 ∧ v = nI q ∧ G q = true ∧ ∀ r, r < q → G r = false)) ?_ ?_ 7 0 () 1000 (by omega) (fun q hq => by omega) (by omega)
    · intro f i _ hi hz
      rw [f_X1_savingOath_12, if_pos (m_7 hi), m_eq_bind (m_pairC hs7 c1.1.1 hp7 hi), nI_1]
      have skip : G i = false → (∃ s' : Unit, (∀ q, q < i + 1 → G q = false) ∧ f_X1_savingOath_12 (T + 2) s1 f (nI p) (nI (h 3 p)) (nI (i + 1)) = f_X1_savingOath_12 (T + 2) s1 f (nI p) (nI (h 3 p)) (nI (i + 1))) := fun hg => ⟨(), fun q hq => by
        rcases Nat.lt_or_ge q i with hl | hl
        · exact hz q hl
        · rw [show q = i by omega]; exact hg, rfl⟩
      by_cases hpr : j_pr (h 5 0) p i = true
      · rw [if_pos hpr, if_neg (by decide), b_has _ (hl p hp7) i (by omega)]
        by_cases hsw : (h 3 p).testBit i = true
        · left
          rw [if_neg (by rw [if_pos hsw]; decide)]
          exact skip (by rw [eG]; simp [hsw])
        · rw [if_pos (by rw [if_neg hsw]), b_bit i (by omega), b_or _ (hl p hp7) _ (m_bit2 i hi), m_eq_bind (m_agC0 c1.1 hp7 (Nat.or_lt_two_pow (n := 7) (hl p hp7) (m_bit2 i hi))), c1.2.2.1]
          have hne := (j_pr_iff.mp hpr).1
          have ea : j_bt (fun x => j_pr (h 5 0) x p && j_w h C (h 5 0) x p ((h 3 p ||| 2 ^ i).testBit x)) 7 = j_ag h C (h 5 0) (j_bd (h 3) p i true) p := by
            unfold j_ag
            have : j_bd (h 3) p i true p = h 3 p ||| 2 ^ i := by unfold j_bd j_b1; rw [if_pos rfl, if_pos rfl]
            rw [this]
          rw [ea, b_pop _ (j_ag_lt _ _ _ _ _)]
          have hp1 := m_pop_le (j_ag h C (h 5 0) (j_bd (h 3) p i true) p)
          have hk := hw.2.2.2.1
          by_cases hg : m_pop (j_ag h C (h 5 0) (j_bd (h 3) p i true) p) < h 7 0
          · right
            rw [if_pos (nI_lt hg (by omega))]
            exact ⟨nI i, rfl, Or.inr ⟨i, hi, rfl, by rw [eG]; simp [hpr, hsw, hg], hz⟩⟩
          · left
            rw [if_neg (nI_nlt (by omega) (by omega))]
            exact skip (by rw [eG]; simp [hg])
      · left
        rw [if_neg hpr, if_pos rfl]
        exact skip (by rw [eG]; simp [hpr])
    · intro f _ hz
      rw [f_X1_savingOath_12, if_neg (by decide)]
      exact ⟨-1, rfl, Or.inl ⟨rfl, hz⟩⟩
  have RA : ∃ (v : Int32) (s3 : px_S), f_X6_sworn_34 T 1000 (nI p) (-1) 0 s2 = some (v, s3) ∧ m_sc s1 s3 ∧ ((v = -1 ∧ ∀ q, q < 7 → G q = false) ∨ ∃ q, q < 7 ∧ v = nI q ∧ G q = true ∧ ∀ r, r < q → G r = false) := by
    refine m_for (σ := Int32 × px_S) (fun f i z => f_X6_sworn_34 T f (nI p) z.1 (nI i) z.2) (h 4 0) (fun i z => m_RQ z.2 h C (h 5 0) (h 3) (h 7 0) ∧ m_sc s1 z.2 ∧ ((z.1 = -1 ∧ ∀ q, q < i → G q = false) ∨ ∃ q, q < i ∧ z.1 = nI q ∧ G q = true ∧ ∀ r, r < q → G r = false)) (fun r => ∃ (v : Int32) (s3 : px_S), r = some (v, s3) ∧ m_sc s1 s3 ∧ ((v = -1 ∧ ∀ q, q < 7 → G q = false) ∨ ∃ q, q < 7 ∧ v = nI q ∧ G q = true ∧ ∀ r, r < q → G r = false)) ?_ ?_ (h 4 0) 0 (-1, s2) 1000 (by omega) ⟨rq, f2, Or.inl ⟨rfl, fun q hq => by omega⟩⟩ (by omega)
    · intro f i z hi hz
      obtain ⟨z1, z2⟩ := z
      obtain ⟨zq, zs, zv⟩ := hz
      simp only at zq zs zv ⊢
      have zj := m_RJ_sc j1 zs
      rw [f_X6_sworn_34, zj.1.1, if_pos (nI_lt hi (by omega))]
      rcases zv with ⟨v1, v2⟩ | ⟨q, v1, v2, v3, v4⟩
      case inr =>
        right
        rw [if_neg (by rw [v2]; exact m_n1 (by omega))]
        exact ⟨z1, z2, rfl, zs, Or.inr ⟨q, by omega, v2, v3, v4⟩⟩
      left
      rw [if_pos v1, m_eq_bind (m_inR hw zj.1.1 zj.1.2.1 hi)]
      have skip : G i = false → ∃ s' : Int32 × px_S, (m_RQ s'.2 h C (h 5 0) (h 3) (h 7 0) ∧ m_sc s1 s'.2 ∧ ((s'.1 = -1 ∧ ∀ q, q < i + 1 → G q = false) ∨ ∃ q, q < i + 1 ∧ s'.1 = nI q ∧ G q = true ∧ ∀ r, r < q → G r = false)) ∧ f_X6_sworn_34 T f (nI p) z1 (nI i + 1) z2 = f_X6_sworn_34 T f (nI p) s'.1 (nI (i + 1)) s'.2 := fun hg => ⟨(z1, z2), ⟨zq, zs, Or.inl ⟨v1, fun q hq => by
        rcases Nat.lt_or_ge q i with hl | hl
        · exact v2 q hl
        · rw [show q = i by omega]; exact hg⟩⟩, by rw [nI_1]⟩
      by_cases hbi : (h 5 0).testBit i = true
      · rw [if_pos hbi, if_neg (by decide)]
        by_cases hip : i = p
        · rw [if_pos (by rw [hip])]
          exact skip (by rw [eG]; simp [j_pr, hip])
        · rw [if_neg (by rw [nI_eq (by omega) (by omega)]; exact hip), m_eq_bind (m_swornR zq hw hp (show i < 7 by omega))]
          have hpr : j_pr (h 5 0) p i = true := j_pr_iff.mpr ⟨fun e => hip e.symm, hb, hbi⟩
          by_cases hsw : (h 3 p).testBit i = true
          · rw [if_pos hsw, if_neg (by decide)]
            exact skip (by rw [eG]; simp [hsw])
          · rw [if_neg hsw, if_pos rfl]
            obtain ⟨t1, a1, a2, a3, a4⟩ := m_swR (T := T) (o := h 3) hn zq.2.1 hl hp hi (Ne.symm hip) true
            have l1 : ∀ j, j < 7 → j_bd (h 3) p i true j < 128 := fun j hj => j_bd_lt true hp7 (by omega) hl hj
            have tq := m_RQ_bd zq a2 a3 l1 (j_bd_sym (Ne.symm hip) true hsym)
            obtain ⟨t2, b1, b2, b3, b4⟩ := m_swR (T := T) (o := j_bd (h 3) p i true) hn a3 l1 hp hi (Ne.symm hip) false
            have back : ∀ j, j < 7 → j_bd (j_bd (h 3) p i true) p i false j = h 3 j := fun j hj => j_bd_back hp7 (by omega) (Ne.symm hip) hl hsym (Bool.eq_false_iff.mpr hsw) hj
            have t55 : t2 55 = z2 55 := by
              funext j
              rcases Nat.lt_or_ge j (h 4 0) with hl | hl
              · rw [b3 j hl, back j (by omega), zq.2.1 j hl]
              · rw [b4 j hl, a4 j hl]
            have tr : ∀ a, t2 a = z2 a := fun a => by
              by_cases e : a = 55
              · rw [e]; exact t55
              · rw [b2 a (by simp; exact e), a2 a (by simp; exact e)]
            have t2q : m_RQ t2 h C (h 5 0) (h 3) (h 7 0) := by rw [show t2 = z2 from funext tr]; exact zq
            have t2s : m_sc s1 t2 := by rw [show t2 = z2 from funext tr]; exact zs
            rw [m_eq_bind (show f_X6_swears T (nI p) (nI i) 1 z2 = some t1 from a1), m_eq_bind (m_safeR tq hw hw.2.1 hp7)]
            by_cases hg : m_pop (j_ag h C (h 5 0) (j_bd (h 3) p i true) p) < h 7 0
            · rw [if_pos hg, if_neg (by decide), f_X6_sworn_89, m_eq_bind (show f_X6_swears T (nI p) (nI i) 0 t1 = some t2 from b1), nI_1]
              exact ⟨(nI i, t2), ⟨t2q, t2s, Or.inr ⟨i, by omega, rfl, by rw [eG]; simp [hpr, hsw, hg], v2⟩⟩, rfl⟩
            · rw [if_neg hg, if_pos rfl, f_X6_sworn_89, m_eq_bind (show f_X6_swears T (nI p) (nI i) 0 t1 = some t2 from b1), nI_1]
              refine ⟨(-1, t2), ⟨t2q, t2s, Or.inl ⟨rfl, fun q hq => ?_⟩⟩, rfl⟩
              rcases Nat.lt_or_ge q i with hl | hl
              · exact v2 q hl
              · rw [show q = i by omega, eG]; simp [hg]
      · rw [if_neg hbi, if_pos rfl]
        exact skip (by rw [eG]; simp [j_pr, hbi])
    · intro f z hz
      obtain ⟨z1, z2⟩ := z
      obtain ⟨zq, zs, zv⟩ := hz
      simp only at zq zs zv ⊢
      rw [f_X6_sworn_34, (m_RJ_sc j1 zs).1.1, if_neg (nI_nlt (Nat.le_refl _) (by omega))]
      refine ⟨z1, z2, rfl, zs, ?_⟩
      rcases zv with ⟨v1, v2⟩ | ⟨q, v1, v2, v3, v4⟩
      · refine Or.inl ⟨v1, fun q hq => ?_⟩
        rcases Nat.lt_or_ge q (h 4 0) with hl | hl
        · exact v2 q hl
        · rw [eG]; simp [j_pr, m_lt_bit hw.2.1 hl]
      · exact Or.inr ⟨q, by omega, v2, v3, v4⟩
  obtain ⟨v, ca, cv⟩ := CA
  obtain ⟨w, s3, ra, rs, rv⟩ := RA
  have evw : v = w := by
    rcases cv with ⟨a1, a2⟩ | ⟨q, a1, a2, a3, a4⟩
    · rcases rv with ⟨b1, b2⟩ | ⟨r, b1, b2, b3, b4⟩
      · rw [a1, b1]
      · rw [a2 r b1] at b3; cases b3
    · rcases rv with ⟨b1, b2⟩ | ⟨r, b1, b2, b3, b4⟩
      · rw [b2 q a1] at a3; cases a3
      · rw [a2, b2]
        congr 1
        rcases Nat.lt_trichotomy q r with g | g | g
        · rw [b4 q g] at a3; cases a3
        · exact g
        · rw [a4 r g] at b3; cases b3
  exact ⟨T, s3, ⟨rfl, v, s1, by rw [c0, m_eq_bind ca], by rw [r0, ra, evw]⟩, Inv_sc hI0 f1 r1 rs⟩
