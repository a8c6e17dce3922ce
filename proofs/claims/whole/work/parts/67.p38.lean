-- ===== again =====
theorem follow_eq {cx f P K Wt C F G N w tl : Nat → Int32} {E : Nat → Int64} {s n p q m b kd : Nat} {x : WS} (h : IRn s n f P K Wt C F G N) (hkd : kd ≤ 5) (hq : q < 8) (hm : m ≤ 40) (htl : ∀ i, i < m → isSg (E (40 * q + i)) ∧ tl i = (E (40 * q + i)).toInt32) (hok : okw s x) (hw : WXs w kd (f 1) (G p) x (nI b)) : ∃ w', f_X5_follow (nI q) (nI m) cx E w f P = some w' ∧ WXs w' kd (f 1) (G p) (runS s P (f 1) (f 2) (G p) kd tl b 0 m x) (nI (b + m)) := by
  obtain ⟨k, hk⟩ := FU_s
  obtain ⟨q1, q2, q3, q4, q5, q6, q7, q8⟩ := h.1
  obtain ⟨w', e1, e2⟩ := followL (ct := cx) (P := P) (b := b) q2 q4 rfl hkd hq hm (fun i hi => (htl i hi).1) m FU w x (Nat.le_refl _) (by omega) hok (by rw [Nat.sub_self]; exact hw)
  rw [Nat.sub_self] at e1 e2
  refine ⟨w', e1, ?_⟩
  rw [runS_congr (g := tl) (g2 := fun i => (E (40 * q + i)).toInt32) m 0 x (fun i _ hi => (htl i (by omega)).2)]
  exact e2
theorem againPass {cm f P K Wt C F G N tl mr hh z : Nat → Int32} {e E : Nat → Int64} {s n q m p kd t r : Nat} (h : IRn s n f P K Wt C F G N) (hp : p < n) (hkd : kd ≤ 5) (hK : K p = nI kd) (hm : m ≤ 40) (ht : t ≤ 20) (hr : r < t) (htl : ∀ i, i < m → isSg (E (40 * q + i)) ∧ tl i = (E (40 * q + i)).toInt32) : ∀ (j a : Nat) (w ct wBy wCell wFaces wFell wSign wTurns : Nat → Int32) (x : WS), j ≤ m → okw s x → x.2.2.1 ≤ m * r + (m - j) → WXs w kd (f 1) (G p) x (nI (m * r + (m - j))) → WMs wCell wFaces wTurns wSign wBy wFell 0 x → (∀ i, i ≠ 17 → ct i = cm i) →
    ∃ R : R7, f_X6_again_b64 e hh N z (a + j) ct mr tl wBy wCell wFaces wFell wSign wTurns (nI m) (nI p) (nI t) (nI (m * r + (m - j))) = f_X6_again_b64 e hh N z a R.1 mr tl R.2.1 R.2.2.1 R.2.2.2.1 R.2.2.2.2.1 R.2.2.2.2.2.1 R.2.2.2.2.2.2 (nI m) (nI p) (nI t) (nI (m * r + m)) ∧ WMs R.2.2.1 R.2.2.2.1 R.2.2.2.2.2.2 R.2.2.2.2.2.1 R.2.1 R.2.2.2.2.1 0 (runS s P (f 1) (f 2) (G p) kd tl (m * r) (m - j) j x) ∧ (runS s P (f 1) (f 2) (G p) kd tl (m * r) (m - j) j x).2.2.1 ≤ m * r + m ∧ (∀ i, i ≠ 17 → R.1 i = cm i) := by
  have hB : m * r + m ≤ m * t := by
    have := Nat.mul_le_mul_left m (show r + 1 ≤ t by omega)
    rw [Nat.mul_succ] at this
    exact this
  have hT : m * t ≤ 800 := Nat.le_trans (Nat.mul_le_mul hm ht) (by decide)
  intro j
  induction j with
  | zero =>
    intro a w ct wBy wCell wFaces wFell wSign wTurns x _ hok htx hw hmx hct
    exact ⟨(ct, wBy, wCell, wFaces, wFell, wSign, wTurns), rfl, hmx, htx, hct⟩
  | succ j ih =>
    intro a w ct wBy wCell wFaces wFell wSign wTurns x hj hok htx hw hmx hct
    obtain ⟨y1, y2⟩ := htl (m - (j + 1)) (by omega)
    obtain ⟨w', R, s1, s2, s3, s4, s5, s6, s7⟩ := step_both (ct := ct) (sign := tl (m - (j + 1))) (k2 := nI (m * r + (m - (j + 1)))) h hp (show 0 < 2 by decide) hkd hK (by rw [y2]; exact isSg_of y1) hok (by omega) hw hmx rfl
    have hno : ¬ nI (m * t) ≤ nI (m * r + (m - (j + 1))) := fun z => by have := (nI_leI (by omega) (by omega)).mp z; omega
    have hm0 : ¬ nI m = 0 := fun z => by have := nI_inj (b := 0) (by omega) (by omega) z; omega
    have e1 : nI (m * r + (m - (j + 1))) + (1 : Int32) = nI (m * r + (m - j)) := by rw [nI_1]; congr 1; omega
    have e2 : nI (m * r + (m - (j + 1))) - nI (m * r + (m - (j + 1))) / nI m * nI m = nI (m - (j + 1)) := by
      rw [pk_rem (show m * r + (m - (j + 1)) < 2 ^ 31 by omega) (show 0 < m by omega) (show m < 2 ^ 31 by omega), Nat.mul_add_mod, Nat.mod_eq_of_lt (by omega)]
    rw [show a + (j + 1) = (a + j) + 1 from rfl, f_X6_again_b64, pk_mul, if_neg hno, if_pos hm0, e2, if_pos (inb_nI (show m - (j + 1) < 40 by omega) (by decide)), nI_cl (by omega), show f_X6_step 0 (nI p) (tl (m - (j + 1))) (nI (m * r + (m - (j + 1)))) ct N wBy wCell wFaces wFell wSign wTurns = some R from s2, ob, e1]
    rw [e1] at s3
    obtain ⟨R2, r1, r2, r3, r4⟩ := ih a w' R.1 R.2.1 R.2.2.1 R.2.2.2.1 R.2.2.2.2.1 R.2.2.2.2.2.1 R.2.2.2.2.2.2 _ (by omega) s5 (by omega) s3 s4 (fun i hi => (s7.1 i hi).trans (hct i hi))
    have e3 : m - (j + 1) + 1 = m - j := by omega
    refine ⟨R2, r1, ?_, ?_, r4⟩
    · show WMs _ _ _ _ _ _ 0 (runS s P _ _ _ kd tl (m * r) (m - (j + 1) + 1) j _)
      rw [e3]
      exact r2
    · show (runS s P _ _ _ kd tl (m * r) (m - (j + 1) + 1) j _).2.2.1 ≤ _
      rw [e3]
      exact r3
theorem againL {cx cm f P K Wt C F G N tl xr mr Ks Z hh z : Nat → Int32} {E e : Nat → Int64} {s n q m p kd t : Nat} (h : IRn s n f P K Wt C F G N) (hp : p < n) (hkd : kd ≤ 5) (hK : K p = nI kd) (hq : q < 8) (hm : m ≤ 40) (ht : t ≤ 20) (htl : ∀ i, i < m → isSg (E (40 * q + i)) ∧ tl i = (E (40 * q + i)).toInt32) : ∀ (j a b : Nat) (w ct wBy wCell wFaces wFell wSign wTurns : Nat → Int32) (x : WS), j ≤ t → j < a → okw s x → x.2.2.1 ≤ m * (t - j) → WXs w kd (f 1) (G p) x (nI (m * (t - j))) → WMs wCell wFaces wTurns wSign wBy wFell 0 x → (∀ i, i ≠ 17 → ct i = cm i) →
    ∃ u v, f_X5_again_b58 cx f C F K G P Ks E Z a w xr (nI q) (nI m) (nI t) (nI (t - j)) = some u ∧ f_X6_again_b64 e hh N z (b + 1 + m * j) ct mr tl wBy wCell wFaces wFell wSign wTurns (nI m) (nI p) (nI t) (nI (m * (t - j))) = some v ∧ u.1 = v.1 ∧ u.2.2 = xr ∧ v.2.2.1 = mr ∧ (∀ i, i ≠ 17 → v.2.1 i = cm i) := by
  intro j
  induction j with
  | zero =>
    intro a b w ct wBy wCell wFaces wFell wSign wTurns x _ ha hok htx hw hmx hct
    obtain ⟨k, rfl⟩ : ∃ k, a = k + 1 := ⟨a - 1, by omega⟩
    rw [f_X5_again_b58, if_pos ((nI_leI (b := t - 0) (by omega) (by omega)).mpr (by omega)), Nat.mul_zero, Nat.sub_zero, show b + 1 + 0 = b + 1 from rfl, f_X6_again_b64, pk_mul, if_pos (Int32.le_refl _)]
    exact ⟨_, _, rfl, rfl, hw.2.2.2.1.trans hmx.1.symm, rfl, rfl, hct⟩
  | succ j ih =>
    intro a b w ct wBy wCell wFaces wFell wSign wTurns x hj ha hok htx hw hmx hct
    obtain ⟨k, rfl⟩ : ∃ k, a = k + 1 := ⟨a - 1, by omega⟩
    obtain ⟨r, hr⟩ : ∃ r, r = t - (j + 1) := ⟨_, rfl⟩
    have hr1 : t - j = r + 1 := by omega
    rw [← hr] at htx hw ⊢
    obtain ⟨w', f1, f2⟩ := follow_eq (cx := cx) (b := m * r) h hkd hq hm htl hok hw
    obtain ⟨R, r1, r2, r3, r4⟩ := againPass (cm := cm) (mr := mr) (hh := hh) (z := z) (e := e) (t := t) (r := r) h hp hkd hK hm ht (by omega) htl m (b + 1 + m * j) w ct wBy wCell wFaces wFell wSign wTurns x (Nat.le_refl _) hok (by rw [Nat.sub_self]; exact htx) (by rw [Nat.sub_self]; exact hw) hmx hct
    rw [Nat.sub_self] at r1 r2 r3
    obtain ⟨u, v, g1, g2, g3, g4, g5, g6⟩ := ih k b w' R.1 R.2.1 R.2.2.1 R.2.2.2.1 R.2.2.2.2.1 R.2.2.2.2.2.1 R.2.2.2.2.2.2 _ (by omega) (by omega) (runS_ok h.1.2.1 m 0 x hok) (by rw [hr1, Nat.mul_succ]; exact r3) (by rw [hr1, Nat.mul_succ]; exact f2) r2 r4
    refine ⟨u, v, ?_, ?_, g3, g4, g5, g6⟩
    · rw [f_X5_again_b58, if_neg (fun z => by have := (nI_leI (by omega) (by omega)).mp z; omega), f1, ob, nI_1, ← hr1]
      exact g1
    · rw [show b + 1 + m * (j + 1) = b + 1 + m * j + m by rw [Nat.mul_succ]; omega]
      rw [show m * r + 0 = m * r from rfl] at r1
      rw [r1, show m * r + m = m * (t - j) by rw [hr1, Nat.mul_succ]]
      exact g2
theorem case_again {cx cm f P K Wt C F G N w xr mr Ks Z hh z tl wBy wCell wFaces wFell wSign wTurns : Nat → Int32} {E e : Nat → Int64} (h : IRel f P K Wt C F G N) (hr : RRef xr mr) (hsh : ∀ n, N 89 = nI n → n ≤ 8 → RSh Ks Z hh z E e n) (a1 a2 a3 a4 : Int32) :
    ∃ u v, f_X5_again a1 a2 a3 a4 cx f C F K G P w xr Ks E Z = some u ∧ f_X6_again a1 a2 a3 a4 cm e hh N mr z tl wBy wCell wFaces wFell wSign wTurns = some v ∧ u.1 = v.1 ∧ RRef u.2.2 v.2.2.1 ∧ (∀ j, j ≠ 17 → v.2.1 j = cm j) := by
  obtain ⟨s, n, hn⟩ := h
  obtain ⟨q1, q2, q3, q4, q5, q6, q7, q8⟩ := hn.1
  have hS := hsh n q7 q3
  have main : ∀ wl : Int32, isB wl → (wl = 1 → (∃ j, j < n ∧ a3 = nI j) ∧ ∃ t, t ≤ 20 ∧ a4 = nI t) → ∃ u v, f_X5_again_b30 cx f C F K G P Ks E Z w xr a1 a2 a3 a4 wl a2 a1 = some u ∧ f_X6_again_b27 e hh N z cm mr tl wBy wCell wFaces wFell wSign wTurns a1 a2 a3 a4 wl = some v ∧ u.1 = v.1 ∧ RRef u.2.2 v.2.2.1 ∧ (∀ j, j ≠ 17 → v.2.1 j = cm j) := by
    intro wl hwl hper
    unfold f_X5_again_b30 f_X6_again_b27
    rcases tell_both (ct := cx) (ct2 := cm) (tl := tl) hS q3 a1 a2 wl hwl with ⟨code, tl', c1, c2, c3⟩ | ⟨q, m, tl', c1, c2, rfl, rfl, rfl, c3, c4, c5⟩
    · obtain ⟨u, v, r1, r2, r3, r4, r5⟩ := refT (cx := cx) (cm := cm) c1 hr
      rw [c2, c3]
      simp only [ob]
      rw [if_neg r4, if_neg r5, r1, r2]
      exact ⟨_, _, rfl, rfl, rfl, r3, fun _ _ => rfl⟩
    · obtain ⟨⟨p, hp, rfl⟩, t, ht, rfl⟩ := hper rfl
      obtain ⟨k, hk⟩ := FU_s
      obtain ⟨w1, kd, c, fc, a, b, d, g, t1, t2, t3, t4, t5, t6, t7, t8, t9, t10, t11, t12⟩ := begin_both (ct := cm) (w := w) (wBy := wBy) (wCell := wCell) (wFaces := wFaces) (wFell := wFell) (wSign := wSign) (wTurns := wTurns) hn hp 0 (by decide)
      rw [c3, c4]
      simp only [ob, if_true]
      rw [if_pos (show (0 : Int32) ≤ 1 by decide), t1, t2, t3]
      simp only [ob]
      rw [show f_X6_start 0 (nI c) (nI fc) cm wCell wFaces wFell wTurns = some (a, b, d, g) from t4]
      simp only [ob]
      have hT : m * t ≤ 800 := Nat.le_trans (Nat.mul_le_mul c2 ht) (by decide)
      obtain ⟨u, v, g1, g2, g3, g4, g5, g6⟩ := againL (cx := cx) (cm := cm) (xr := xr) (mr := mr) (Ks := Ks) (Z := Z) (hh := hh) (z := z) (e := e) hn hp t7 t9 c1 c2 ht c5 t FU (FU - 1 - m * t) w1 cm wBy a b d wSign g (x0S c fc) (Nat.le_refl _) (by omega) t8 (by rw [Nat.sub_self]; exact Nat.zero_le _) (by rw [Nat.sub_self]; exact t5) t6 (fun _ _ => rfl)
      rw [Nat.sub_self] at g1 g2
      rw [show FU - 1 - m * t + 1 + m * t = FU by omega] at g2
      exact ⟨u, v, g1, g2, g3, by rw [g4, g5]; exact hr, g6⟩
  unfold f_X5_again f_X6_again f_X5_again_b29 f_X6_again_b26
  rw [isWithin_eq, show f_X6_isIn a4.toInt64 0 20 = some (if 0 ≤ a4 ∧ a4 ≤ 20 then 1 else 0) from isIn_eq a4 0 20]
  rcases isOne_both (ct := cm) q3 q6 q7 a3 with ⟨j, hj, hja, i1, i2⟩ | ⟨i1, i2⟩
  · rw [i1, i2]
    simp only [ob, if_neg one_ne0]
    by_cases c4 : 0 ≤ a4 ∧ a4 ≤ 20
    · rw [if_pos c4, if_neg one_ne0, if_neg one_ne0]
      exact main 1 (Or.inr rfl) (fun _ => ⟨⟨j, hj, hja⟩, (i32_nat (n := 20) c4.1 c4.2 (by decide)).elim fun t ht => ⟨t, ht⟩⟩)
    · rw [if_neg c4, if_pos rfl, if_pos rfl]
      exact main 0 (Or.inl rfl) (fun z => absurd z (by decide))
  · rw [i1, i2]
    simp only [ob, if_true]
    exact main 0 (Or.inl rfl) (fun z => absurd z (by decide))
