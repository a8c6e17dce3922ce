-- ===== meet, waits: the walk of two =====
noncomputable def sg1 (fi : Nat → Int32) (m i : Nat) : Int32 := if i < m then fi i else 3
noncomputable def sg2 (tl : Nat → Int32) (m wt i : Nat) : Int32 := if wt ≤ i ∧ i < wt + m then tl (i - wt) else 3
theorem within_m1 {x : Int32} {m : Nat} (hm : m ≤ 40) : (∃ i, i < m ∧ x = nI i) ∧ (0 ≤ x ∧ x ≤ nI m - 1) ∨ ¬ (0 ≤ x ∧ x ≤ nI m - 1) := by
  by_cases c : 0 ≤ x ∧ x ≤ nI m - 1
  · left
    refine ⟨?_, c⟩
    rcases Nat.eq_zero_or_pos m with z | z
    · exfalso
      rw [z] at c
      have := Int32.le_trans c.1 c.2
      exact absurd this (by decide)
    · have e : nI m - 1 = nI (m - 1) := pk_sub (show 1 ≤ m by omega)
      obtain ⟨i, hi, hx⟩ := i32_nat (n := m - 1) c.1 (by rw [← e]; exact c.2) (by omega)
      exact ⟨i, by omega, hx⟩
  · exact Or.inr c
theorem signW1 {ct : Nat → Int32} {E : Nat → Int64} {q m i : Nat} {fi : Nat → Int32} (hq : q < 8) (hm : m ≤ 40) (hi : i < 1000) (hfi : ∀ i, i < m → fi i = (E (40 * q + i)).toInt32) : f_X5_signOrWait (nI q) (nI m) (nI i) ct E = some (sg1 fi m i) := by
  unfold f_X5_signOrWait sg1
  have key : (0 ≤ nI i ∧ nI i ≤ nI m - 1) ↔ i < m := by
    have a := (le_sub (m := m) (a := 1) (n := i) hm (by omega) (by omega)).2.2
    constructor
    · intro z; have := a.mp z.2; omega
    · intro z; exact ⟨nI_pos' (by omega), a.mpr (by omega)⟩
  rw [isWithin_eq, ob]
  by_cases c : i < m
  · rw [if_pos (key.mpr c), if_neg one_ne0, signAt_eq hq (by omega), ob, if_pos c, hfi i c]
  · rw [if_neg (fun z => c (key.mp z)), if_pos rfl, if_neg c]
theorem signW2 {ct : Nat → Int32} {E : Nat → Int64} {q m i wt : Nat} {tl : Nat → Int32} (hq : q < 8) (hm : m ≤ 40) (hi : i < 1000) (hwt : wt < 1000) (htl : ∀ i, i < m → tl i = (E (40 * q + i)).toInt32) : f_X5_signOrWait (nI q) (nI m) (nI i - nI wt) ct E = some (sg2 tl m wt i) := by
  by_cases c : wt ≤ i
  · rw [pk_sub c, signW1 (ct := ct) (fi := tl) hq hm (by omega) htl]
    unfold sg1 sg2
    by_cases c2 : i - wt < m
    · rw [if_pos c2, if_pos ⟨c, by omega⟩]
    · rw [if_neg c2, if_neg (fun z => c2 (by omega))]
  · unfold f_X5_signOrWait sg2
    have hneg : nI i - nI wt < 0 := pk_sneg (by omega) (by omega)
    rw [isWithin_eq, ob, if_neg (show ¬ (0 ≤ nI i - nI wt ∧ nI i - nI wt ≤ nI m - 1) from fun z => absurd z.1 (Int32.not_le.mpr hneg)), if_pos rfl, if_neg (fun z => c z.1)]
theorem is4_sg1 {fi : Nat → Int32} {m i : Nat} (h : ∀ i, i < m → is4 (fi i)) : is4 (sg1 fi m i) := by
  unfold sg1
  by_cases c : i < m
  · rw [if_pos c]; exact h i c
  · rw [if_neg c]; exact Or.inr (Or.inr (Or.inr rfl))
theorem is4_sg2 {tl : Nat → Int32} {m wt i : Nat} (h : ∀ i, i < m → is4 (tl i)) : is4 (sg2 tl m wt i) := by
  unfold sg2
  by_cases c : wt ≤ i ∧ i < wt + m
  · rw [if_pos c]; exact h _ (by omega)
  · rw [if_neg c]; exact Or.inr (Or.inr (Or.inr rfl))
theorem metL {cx cm f P K Wt C F G N fi tl : Nat → Int32} {E : Nat → Int64} {s n q m q2 m2 p p2 kd kd2 wt L : Nat} (h : IRn s n f P K Wt C F G N) (hp : p < n) (hp2 : p2 < n) (hkd : kd ≤ 5) (hkd2 : kd2 ≤ 5) (hK : K p = nI kd) (hK2 : K p2 = nI kd2) (hq : q < 8) (hq2 : q2 < 8) (hm : m ≤ 40) (hm2 : m2 ≤ 40) (hwt : wt ≤ 9) (hL : L = if m < wt + m2 then wt + m2 else m) (hfi : ∀ i, i < m → isSg (E (40 * q + i)) ∧ fi i = (E (40 * q + i)).toInt32) (htl : ∀ i, i < m2 → isSg (E (40 * q2 + i)) ∧ tl i = (E (40 * q2 + i)).toInt32) : ∀ (j a b : Nat) (w v ct wBy wCell wFaces wFell wSign wTurns : Nat → Int32) (x y : WS), j ≤ L → j < a → j < b → okw s x → okw s y → x.2.2.1 ≤ L - j → y.2.2.1 ≤ L - j → WXs w kd (f 1) (G p) x (nI (L - j)) → WXs v kd2 (f 1) (G p2) y (nI (L - j)) → WMs wCell wFaces wTurns wSign wBy wFell 0 x → WMs wCell wFaces wTurns wSign wBy wFell 1 y → (∀ i, i ≠ 17 → ct i = cm i) →
    ∃ u u2, f_X5_meeting_b33 cx f P E a w v (nI q) (nI m) (nI q2) (nI m2) (nI wt) (nI L) (nI (L - j)) = some u ∧ f_X6_met_b52 fi N tl b ct wBy wCell wFaces wFell wSign wTurns (nI m) (nI p) (nI m2) (nI p2) (nI wt) (nI (L - j)) = some u2 ∧ u.1 = u2.1 ∧ (∀ i, i ≠ 17 → u2.2.1 i = cm i) := by
  have hL2 : L ≤ 49 := by
    rw [hL]
    by_cases c : m < wt + m2
    · rw [if_pos c]; omega
    · rw [if_neg c]; omega
  have hmax : (if nI m < nI m2 + nI wt then nI m2 + nI wt else nI m) = nI L := by
    rw [nI_add, show m2 + wt = wt + m2 from Nat.add_comm _ _, hL]
    by_cases c : m < wt + m2
    · rw [if_pos c, if_pos ((nI_ltI (by omega) (by omega)).mpr c)]
    · rw [if_neg c, if_neg (fun z => c ((nI_ltI (by omega) (by omega)).mp z))]
  have f4 : ∀ i, i < m → is4 (fi i) := fun i hi => by rw [(hfi i hi).2]; exact isSg_of (hfi i hi).1
  have t4 : ∀ i, i < m2 → is4 (tl i) := fun i hi => by rw [(htl i hi).2]; exact isSg_of (htl i hi).1
  intro j
  induction j with
  | zero =>
    intro a b w v ct wBy wCell wFaces wFell wSign wTurns x y _ ha hb _ _ _ _ _ _ _ _ hct
    obtain ⟨k, rfl⟩ : ∃ k, a = k + 1 := ⟨a - 1, by omega⟩
    obtain ⟨k2, rfl⟩ : ∃ k, b = k + 1 := ⟨b - 1, by omega⟩
    rw [f_X5_meeting_b33, f_X6_met_b52, hmax, Nat.sub_zero, if_pos (Int32.le_refl _), if_pos (Int32.le_refl _)]
    exact ⟨_, _, rfl, rfl, rfl, hct⟩
  | succ j ih =>
    intro a b w v ct wBy wCell wFaces wFell wSign wTurns x y hj ha hb hox hoy htx hty hwx hwy hmx hmy hct
    obtain ⟨k, rfl⟩ : ∃ k, a = k + 1 := ⟨a - 1, by omega⟩
    obtain ⟨k2, rfl⟩ : ∃ k, b = k + 1 := ⟨b - 1, by omega⟩
    obtain ⟨i, hi⟩ : ∃ i, i = L - (j + 1) := ⟨_, rfl⟩
    rw [← hi] at htx hty hwx hwy ⊢
    have hno : ¬ nI L ≤ nI i := fun z => by have := (nI_leI (by omega) (by omega)).mp z; omega
    obtain ⟨w', r, s1, s2, s3, s4, s5, s6, s7⟩ := step_both (ct := ct) (sign := sg1 fi m i) (k2 := nI i) h hp (show 0 < 2 by decide) hkd hK (is4_sg1 f4) hox (by omega) hwx hmx rfl
    obtain ⟨v', r2, t1, t2, t3, t4', t5, t6, t7⟩ := step_both (ct := r.1) (sign := sg2 tl m2 wt i) (k2 := nI i) h hp2 (show 1 < 2 by decide) hkd2 hK2 (is4_sg2 t4) hoy (by omega) hwy (WM_keep hmy s7 (by decide)) rfl
    have s4' := WM_keep s4 t7 (show 0 ≠ 1 by decide)
    have e1 : nI i + (1 : Int32) = nI (L - j) := by rw [nI_1]; congr 1; omega
    have hct2 : ∀ i, i ≠ 17 → r2.1 i = cm i := fun i hi => (t7.1 i hi).trans ((s7.1 i hi).trans (hct i hi))
    have m101 : ∀ (k52 : (Nat → Int32) → (Nat → Int32) → (Nat → Int32) → (Nat → Int32) → (Nat → Int32) → (Nat → Int32) → (Nat → Int32) → Int32 → Int32 → Int32 → Int32 → Int32 → Int32 → Option (Int32 × (Nat → Int32) × (Nat → Int32) × (Nat → Int32) × (Nat → Int32) × (Nat → Int32) × (Nat → Int32) × (Nat → Int32))) (l7 l8 : Int32), f_X6_met_b101 fi N tl k52 ct wBy wCell wFaces wFell wSign wTurns (nI m) (nI p) (nI m2) (nI p2) (nI wt) (nI i) l7 l8 (sg1 fi m i) (nI p) 0 = f_X6_met_b143 fi N tl k52 r.1 r.2.1 r.2.2.1 r.2.2.2.1 r.2.2.2.2.1 r.2.2.2.2.2.1 r.2.2.2.2.2.2 (nI m) (nI p) (nI m2) (nI p2) (nI wt) (nI i) l7 l8 (sg2 tl m2 wt i) (nI p2) 1 := by
      intro k52 l7 l8
      unfold f_X6_met_b101
      rw [show f_X6_step 0 (nI p) (sg1 fi m i) (nI i) ct N wBy wCell wFaces wFell wSign wTurns = some r from s2, ob]
      rw [show f_X6_isIn (nI i).toInt64 (nI wt).toInt64 (nI m2 + nI wt - 1).toInt64 = some (if nI wt ≤ nI i ∧ nI i ≤ nI m2 + nI wt - 1 then 1 else 0) from isIn_eq _ _ _, ob]
      have key : (nI wt ≤ nI i ∧ nI i ≤ nI m2 + nI wt - 1) ↔ (wt ≤ i ∧ i < wt + m2) := by
        rw [nI_add, nI_leI (by omega) (by omega), Int32.le_iff_toInt_le, show (1 : Int32) = nI 1 from rfl, pk_sub_toInt (by omega) (by omega), nI_toI (by omega)]
        omega
      unfold sg2
      by_cases c : wt ≤ i ∧ i < wt + m2
      · rw [if_pos (key.mpr c), if_neg one_ne0, pk_sub c.1, if_pos (inb_nI (show i - wt < 40 by omega) (by decide)), nI_cl (by omega), if_pos c]
      · rw [if_neg (fun z => c (key.mp z)), if_pos rfl, if_neg c]
    have mhead : f_X6_met_b52 fi N tl (k2 + 1) ct wBy wCell wFaces wFell wSign wTurns (nI m) (nI p) (nI m2) (nI p2) (nI wt) (nI i) = f_X6_met_b101 fi N tl (f_X6_met_b52 fi N tl k2) ct wBy wCell wFaces wFell wSign wTurns (nI m) (nI p) (nI m2) (nI p2) (nI wt) (nI i) (wCell 0) (wCell 1) (sg1 fi m i) (nI p) 0 := by
      rw [f_X6_met_b52, hmax, if_neg hno]
      unfold sg1
      by_cases c : i < m
      · rw [if_neg (fun z => by have := (nI_leI (by omega) (by omega)).mp z; omega), if_pos (inb_nI (show i < 40 by omega) (by decide)), nI_cl (by omega), if_pos c]
      · rw [if_pos ((nI_leI (by omega) (by omega)).mpr (by omega)), if_neg c]
    rw [mhead, m101]
    unfold f_X6_met_b143
    rw [show f_X6_step 1 (nI p2) (sg2 tl m2 wt i) (nI i) r.1 N r.2.1 r.2.2.1 r.2.2.2.1 r.2.2.2.2.1 r.2.2.2.2.2.1 r.2.2.2.2.2.2 = some r2 from t2]
    rw [f_X5_meeting_b33, if_neg hno, signW1 (ct := cx) hq hm (by omega) (fun i hi => (hfi i hi).2), ob, s1, ob, signW2 (ct := cx) hq2 hm2 (by omega) (by omega) (fun i hi => (htl i hi).2), ob, t1, ob]
    simp only [ob, f_X5_meeting_b120, f_X5_meeting_b121, f_X5_meeting_b145, f_X6_met_b185, f_X6_met_b190, if_true, if_neg one_ne0]
    rw [e1] at s3 t3
    rw [s3.2.2.2.1, t3.2.2.2.1, hwx.2.2.2.1, hwy.2.2.2.1, s4'.1, t4'.1, hmx.1, hmy.1, e1]
    have go := ih k k2 w' v' r2.1 r2.2.1 r2.2.2.1 r2.2.2.2.1 r2.2.2.2.2.1 r2.2.2.2.2.2.1 r2.2.2.2.2.2.2 _ _ (by omega) (by omega) (by omega) s5 t5 (by omega) (by omega) s3 t3 s4' t4' hct2
    by_cases c0 : nI (stepS s P (f 1) (f 2) (G p) kd x (sg1 fi m i) (nI i)).1 = nI (stepS s P (f 1) (f 2) (G p2) kd2 y (sg2 tl m2 wt i) (nI i)).1
    · rw [if_pos c0, if_pos c0, if_pos c0]
      by_cases c1 : nI (stepS s P (f 1) (f 2) (G p) kd x (sg1 fi m i) (nI i)).1 = nI y.1
      · rw [if_pos c1]
        by_cases c2 : nI (stepS s P (f 1) (f 2) (G p2) kd2 y (sg2 tl m2 wt i) (nI i)).1 = nI x.1
        · rw [if_pos c2]; exact ⟨_, _, rfl, rfl, rfl, hct2⟩
        · rw [if_neg c2]; exact ⟨_, _, rfl, rfl, rfl, hct2⟩
      · rw [if_neg c1]; exact ⟨_, _, rfl, rfl, rfl, hct2⟩
    · rw [if_neg c0, if_neg c0, if_neg c0]
      by_cases c1 : nI (stepS s P (f 1) (f 2) (G p) kd x (sg1 fi m i) (nI i)).1 = nI y.1
      · rw [if_pos c1, if_pos c1]
        by_cases c2 : nI (stepS s P (f 1) (f 2) (G p2) kd2 y (sg2 tl m2 wt i) (nI i)).1 = nI x.1
        · rw [if_pos c2, if_pos c2]; exact ⟨_, _, rfl, rfl, rfl, hct2⟩
        · rw [if_neg c2, if_neg c2]; exact go
      · rw [if_neg c1, if_neg c1]; exact go
theorem met_both {cx cm f P K Wt C F G N fi tl : Nat → Int32} {E : Nat → Int64} {s n q m q2 m2 p p2 wt : Nat} (h : IRn s n f P K Wt C F G N) (hp : p < n) (hp2 : p2 < n) (hq : q < 8) (hq2 : q2 < 8) (hm : m ≤ 40) (hm2 : m2 ≤ 40) (hwt : wt ≤ 9) (hfi : ∀ i, i < m → isSg (E (40 * q + i)) ∧ fi i = (E (40 * q + i)).toInt32) (htl : ∀ i, i < m2 → isSg (E (40 * q2 + i)) ∧ tl i = (E (40 * q2 + i)).toInt32) (w v ct wBy wCell wFaces wFell wSign wTurns : Nat → Int32) (hct : ∀ i, i ≠ 17 → ct i = cm i) :
    ∃ w1 v1 u u2, f_X4_begin (nI p) w f C F K G = some w1 ∧ f_X4_begin (nI p2) v f C F K G = some v1 ∧ f_X5_meeting (nI q) (nI m) (nI q2) (nI m2) (nI wt) cx f P w1 E v1 = some u ∧ f_X6_met (nI m) (nI p) (nI m2) (nI p2) (nI wt) ct fi N tl wBy wCell wFaces wFell wSign wTurns = some u2 ∧ u.1 = u2.1 ∧ (∀ i, i ≠ 17 → u2.2.1 i = cm i) := by
  obtain ⟨w1, kd, c, fc, a, b, d, g, t1, t2, t3, t4, t5, t6, t7, t8, t9, t10, t11, t12⟩ := begin_both (ct := ct) (w := w) (wBy := wBy) (wCell := wCell) (wFaces := wFaces) (wFell := wFell) (wSign := wSign) (wTurns := wTurns) h hp 0 (by decide)
  obtain ⟨v1, kd2, c2, fc2, a2, b2, d2, g2, y1, y2, y3, y4, y5, y6, y7, y8, y9, y10, y11, y12⟩ := begin_both (ct := ct) (w := v) (wBy := wBy) (wCell := a) (wFaces := b) (wFell := d) (wSign := wSign) (wTurns := g) h hp2 1 (by decide)
  obtain ⟨k, hk⟩ := FU_s
  have hL2 : (if m < wt + m2 then wt + m2 else m) ≤ 49 := by
    by_cases c : m < wt + m2
    · rw [if_pos c]; omega
    · rw [if_neg c]; omega
  have hmax : (if nI m < nI wt + nI m2 then nI wt + nI m2 else nI m) = nI (if m < wt + m2 then wt + m2 else m) := by
    rw [nI_add]
    by_cases c : m < wt + m2
    · rw [if_pos c, if_pos ((nI_ltI (by omega) (by omega)).mpr c)]
    · rw [if_neg c, if_neg (fun z => c ((nI_ltI (by omega) (by omega)).mp z))]
  have hm0 : WMs a2 b2 g2 wSign wBy d2 0 (x0S c fc) := by
    obtain ⟨z1, z2, z3, z4⟩ := y12 0 (by decide)
    obtain ⟨x1, x2, x3, x4, x5⟩ := t6
    exact ⟨z1.trans x1, z2.trans x2, z4.trans x3, z3.trans x4, x5⟩
  obtain ⟨u, u2, g1, g2', g3, g4⟩ := metL (cx := cx) (cm := cm) h hp hp2 t7 y7 t9 y9 hq hq2 hm hm2 hwt rfl hfi htl (if m < wt + m2 then wt + m2 else m) FU FU w1 v1 ct wBy a2 b2 d2 wSign g2 (x0S c fc) (x0S c2 fc2) (Nat.le_refl _) (by omega) (by omega) t8 y8 (by rw [Nat.sub_self]; exact Nat.le_refl _) (by rw [Nat.sub_self]; exact Nat.le_refl _) (by rw [Nat.sub_self]; exact t5) (by rw [Nat.sub_self]; exact y5) hm0 y6 hct
  rw [Nat.sub_self] at g1 g2'
  have e5 : f_X4_begin (nI p) w f C F K G = some w1 := t1
  refine ⟨w1, v1, ?_⟩
  unfold f_X5_meeting f_X6_met
  rw [t1, y1, t2, t3]
  simp only [ob]
  rw [show f_X6_start 0 (nI c) (nI fc) ct wCell wFaces wFell wTurns = some (a, b, d, g) from t4]
  simp only [ob]
  rw [y2, y3]
  simp only [ob]
  rw [show f_X6_start 1 (nI c2) (nI fc2) ct a b d g = some (a2, b2, d2, g2) from y4]
  simp only [ob]
  rw [t5.2.2.2.1, y5.2.2.2.1, hm0.1, y6.1, hmax]
  by_cases z : nI (x0S c fc).1 = nI (x0S c2 fc2).1
  · rw [if_pos z, if_pos z]
    exact ⟨_, _, trivial, trivial, rfl, rfl, rfl, hct⟩
  · rw [if_neg z, if_neg z]
    exact ⟨u, u2, trivial, trivial, g1, g2', g3, g4⟩
theorem case_meet {cx cm f P K Wt C F G N w w2 xr mr Ks Z hh z fi tl wBy wCell wFaces wFell wSign wTurns : Nat → Int32} {E e : Nat → Int64} (h : IRel f P K Wt C F G N) (hr : RRef xr mr) (hsh : ∀ n, N 89 = nI n → n ≤ 8 → RSh Ks Z hh z E e n) (a1 a2 a3 a4 a5 a6 : Int32) :
    ∃ u v, f_X5_meet a1 a2 a3 a4 a5 a6 cx f C F K G P w xr Ks E Z w2 = some u ∧ f_X6_meet a1 a2 a3 a4 a5 a6 cm e fi hh N mr z tl wBy wCell wFaces wFell wSign wTurns = some v ∧ u.1 = v.1 ∧ RRef u.2.2.1 v.2.2.2.1 ∧ (∀ j, j ≠ 17 → v.2.1 j = cm j) := by
  obtain ⟨s, n, hn⟩ := h
  have hS := hsh n hn.n7 hn.1.2.2.1
  unfold f_X5_meet f_X6_meet
  rcases both_load (cx := cx) (ct := cm) (fi := fi) (tl := tl) hn hS a1 a2 a3 a4 a5 a6 with ⟨code, fi', tl', c1, c2, c3⟩ | ⟨q, m, q2, m2, p, p2, fi', tl', b1, b2, b3, b4, b5, b6, b7, rfl, rfl, rfl, rfl, rfl, rfl, b14, b15, b16, b17⟩
  · obtain ⟨u, v, r1, r2, r3, r4, r5⟩ := refT (cx := cx) (cm := cm) c1 hr
    rw [c2, c3]
    simp only [ob]
    rw [if_neg r4, if_neg r5, r1, r2]
    exact ⟨_, _, rfl, rfl, rfl, r3, fun _ _ => rfl⟩
  · obtain ⟨w1, v1, u, u2, d1, d2, d3, d4, d5, d6⟩ := met_both (cx := cx) (cm := cm) hn b5 b6 b1 b2 b3 b4 (show 0 ≤ 9 by decide) b16 b17 w w2 cm wBy wCell wFaces wFell wSign wTurns (fun _ _ => rfl)
    rw [b14, b15]
    simp only [ob, if_true]
    rw [if_pos (show (0 : Int32) ≤ 1 by decide), d1]
    simp only [ob]
    rw [d2]
    simp only [ob]
    rw [show f_X5_meeting (nI q) (nI m) (nI q2) (nI m2) 0 cx f P w1 E v1 = some u from d3, show f_X6_met (nI m) (nI p) (nI m2) (nI p2) 0 cm fi' N tl' wBy wCell wFaces wFell wSign wTurns = some u2 from d4]
    exact ⟨_, _, rfl, rfl, d5, hr, d6⟩
theorem waitsL {cx cm f P K Wt C F G N xr mr Ks Z hh z fi tl : Nat → Int32} {E e : Nat → Int64} {s n q m q2 m2 p p2 : Nat} (h : IRn s n f P K Wt C F G N) (hp : p < n) (hp2 : p2 < n) (hq : q < 8) (hq2 : q2 < 8) (hm : m ≤ 40) (hm2 : m2 ≤ 40) (hfi : ∀ i, i < m → isSg (E (40 * q + i)) ∧ fi i = (E (40 * q + i)).toInt32) (htl : ∀ i, i < m2 → isSg (E (40 * q2 + i)) ∧ tl i = (E (40 * q2 + i)).toInt32) : ∀ (j a b : Nat) (w v ct wBy wCell wFaces wFell wSign wTurns : Nat → Int32), j ≤ 10 → j < a → j < b → (∀ i, i ≠ 17 → ct i = cm i) →
    ∃ u u2, f_X5_waits_b30 cx f C F K G P Ks E Z a w xr v (nI q) (nI m) (nI p) (nI q2) (nI m2) (nI p2) (nI (10 - j)) = some u ∧ f_X6_waits_b30 e hh N z b ct fi mr tl wBy wCell wFaces wFell wSign wTurns (nI m) (nI p) (nI m2) (nI p2) (nI (10 - j)) = some u2 ∧ u.1 = u2.1 ∧ u.2.2.1 = xr ∧ u2.2.2.2.1 = mr ∧ (∀ i, i ≠ 17 → u2.2.1 i = cm i) := by
  intro j
  induction j with
  | zero =>
    intro a b w v ct wBy wCell wFaces wFell wSign wTurns _ ha hb hct
    obtain ⟨k, rfl⟩ : ∃ k, a = k + 1 := ⟨a - 1, by omega⟩
    obtain ⟨k2, rfl⟩ : ∃ k, b = k + 1 := ⟨b - 1, by omega⟩
    rw [f_X5_waits_b30, f_X6_waits_b30, if_pos (by decide), if_pos (by decide)]
    exact ⟨_, _, rfl, rfl, rfl, rfl, rfl, hct⟩
  | succ j ih =>
    intro a b w v ct wBy wCell wFaces wFell wSign wTurns hj ha hb hct
    obtain ⟨k, rfl⟩ : ∃ k, a = k + 1 := ⟨a - 1, by omega⟩
    obtain ⟨k2, rfl⟩ : ∃ k, b = k + 1 := ⟨b - 1, by omega⟩
    have e1 : nI (10 - (j + 1)) + (1 : Int32) = nI (10 - j) := by rw [nI_1]; congr 1; omega
    obtain ⟨w1, v1, u, u2, d1, d2, d3, d4, d5, d6⟩ := met_both (cx := cx) (cm := cm) h hp hp2 hq hq2 hm hm2 (show 10 - (j + 1) ≤ 9 by omega) hfi htl w v ct wBy wCell wFaces wFell wSign wTurns hct
    rw [f_X5_waits_b30, f_X6_waits_b30, if_neg (fun z => by have := (nI_ltI (a := 9) (by omega) (by omega)).mp z; omega), if_neg (fun z => by have := (nI_leI (a := 10) (by omega) (by omega)).mp z; omega), d1]
    simp only [ob]
    rw [d2]
    simp only [ob]
    rw [d3, d4]
    simp only [ob]
    rw [d5, e1]
    by_cases c : u2.1 = -1
    · rw [if_pos c, if_pos c]
      exact ⟨_, _, rfl, rfl, rfl, rfl, rfl, d6⟩
    · rw [if_neg c, if_neg c]
      exact ih k k2 _ _ _ _ _ _ _ _ _ (by omega) (by omega) (by omega) d6
theorem case_waits {cx cm f P K Wt C F G N w w2 xr mr Ks Z hh z fi tl wBy wCell wFaces wFell wSign wTurns : Nat → Int32} {E e : Nat → Int64} (h : IRel f P K Wt C F G N) (hr : RRef xr mr) (hsh : ∀ n, N 89 = nI n → n ≤ 8 → RSh Ks Z hh z E e n) (a1 a2 a3 a4 a5 a6 : Int32) :
    ∃ u v, f_X5_waits a1 a2 a3 a4 a5 a6 cx f C F K G P w xr Ks E Z w2 = some u ∧ f_X6_waits a1 a2 a3 a4 a5 a6 cm e fi hh N mr z tl wBy wCell wFaces wFell wSign wTurns = some v ∧ u.1 = v.1 ∧ RRef u.2.2.1 v.2.2.2.1 ∧ (∀ j, j ≠ 17 → v.2.1 j = cm j) := by
  obtain ⟨s, n, hn⟩ := h
  have hS := hsh n hn.n7 hn.1.2.2.1
  obtain ⟨k, hk⟩ := FU_s
  unfold f_X5_waits f_X6_waits
  rcases both_load (cx := cx) (ct := cm) (fi := fi) (tl := tl) hn hS a1 a2 a3 a4 a5 a6 with ⟨code, fi', tl', c1, c2, c3⟩ | ⟨q, m, q2, m2, p, p2, fi', tl', b1, b2, b3, b4, b5, b6, b7, rfl, rfl, rfl, rfl, rfl, rfl, b14, b15, b16, b17⟩
  · obtain ⟨u, v, r1, r2, r3, r4, r5⟩ := refT (cx := cx) (cm := cm) c1 hr
    rw [c2, c3]
    simp only [ob]
    rw [if_neg r4, if_neg r5, r1, r2]
    exact ⟨_, _, rfl, rfl, rfl, r3, fun _ _ => rfl⟩
  · obtain ⟨u, u2, d1, d2, d3, d4, d5, d6⟩ := waitsL (cx := cx) (cm := cm) (xr := xr) (mr := mr) (Ks := Ks) (Z := Z) (hh := hh) (z := z) (e := e) hn b5 b6 b1 b2 b3 b4 b16 b17 10 FU FU w w2 cm wBy wCell wFaces wFell wSign wTurns (Nat.le_refl _) (by omega) (by omega) (fun _ _ => rfl)
    rw [b14, b15]
    simp only [ob, if_true]
    rw [if_pos (show (0 : Int32) ≤ 1 by decide)]
    exact ⟨u, u2, d1, d2, d3, by rw [d4, d5]; exact hr, d6⟩
