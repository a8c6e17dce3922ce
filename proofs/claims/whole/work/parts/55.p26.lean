-- ===== differ, agreed =====
theorem WM_keep {ct wBy wCell wFaces wFell wSign wTurns : Nat → Int32} {i j : Nat} {x : WS} {r : R7} (h : WMs wCell wFaces wTurns wSign wBy wFell i x) (hk : keepM ct wBy wCell wFaces wFell wSign wTurns j r) (hij : i ≠ j) : WMs r.2.2.1 r.2.2.2.1 r.2.2.2.2.2.2 r.2.2.2.2.2.1 r.2.1 r.2.2.2.2.1 i x := by
  obtain ⟨a1, a2, a3, a4, a5, a6⟩ := hk.2 i hij
  exact ⟨a2.trans h.1, a3.trans h.2.1, a6.trans h.2.2.1, a4.trans h.2.2.2.1, fun z => ⟨a5.trans (h.2.2.2.2 z).1, a1.trans (h.2.2.2.2 z).2⟩⟩
theorem WX_face {w : Nat → Int32} {kd c f f2 : Nat} {left pl k : Int32} (h : WXs w kd left pl (x0S c f) k) : WXs (upd w 5 (nI f2)) kd left pl (x0S c f2) k := by
  obtain ⟨w1, w2, w3, w4, w5, w6, w7, w8, w9, w10⟩ := h
  exact ⟨(upd_ne (by decide)).trans w1, (upd_ne (by decide)).trans w2, (upd_ne (by decide)).trans w3, (upd_ne (by decide)).trans w4, upd_eq, (upd_ne (by decide)).trans w6, (upd_ne (by decide)).trans w7, (upd_ne (by decide)).trans w8, fun h => (upd_ne (by decide)).trans (w9 h), fun h => ⟨(upd_ne (by decide)).trans (w10 h).1, (upd_ne (by decide)).trans (w10 h).2.1, (w10 h).2.2⟩⟩
theorem differL {cx cm f P K Wt C F G N tl xr mr Ks Z hh z : Nat → Int32} {E e : Nat → Int64} {s n q m p p2 kd kd2 : Nat} (h : IRn s n f P K Wt C F G N) (hp : p < n) (hp2 : p2 < n) (hkd : kd ≤ 5) (hkd2 : kd2 ≤ 5) (hK : K p = nI kd) (hK2 : K p2 = nI kd2) (hq : q < 8) (hm : m ≤ 40) (htl : ∀ i, i < m → isSg (E (40 * q + i)) ∧ tl i = (E (40 * q + i)).toInt32) : ∀ (j a b : Nat) (w v ct wBy wCell wFaces wFell wSign wTurns : Nat → Int32) (x y : WS), j ≤ m → j < a → j < b → okw s x → okw s y → x.2.2.1 ≤ m - j → y.2.2.1 ≤ m - j → WXs w kd (f 1) (G p) x (nI (m - j)) → WXs v kd2 (f 1) (G p2) y (nI (m - j)) → WMs wCell wFaces wTurns wSign wBy wFell 0 x → WMs wCell wFaces wTurns wSign wBy wFell 1 y → (∀ i, i ≠ 17 → ct i = cm i) →
    ∃ u u2, f_X5_differ_b75 cx f C F K G P Ks E Z a w xr v (nI q) (nI m) (nI (m - j)) = some u ∧ f_X6_differ_b81 e hh N z b ct mr tl wBy wCell wFaces wFell wSign wTurns (nI m) (nI p) (nI p2) (nI (m - j)) = some u2 ∧ u.1 = u2.1 ∧ u.2.2.1 = xr ∧ u2.2.2.1 = mr ∧ (∀ i, i ≠ 17 → u2.2.1 i = cm i) := by
  intro j
  induction j with
  | zero =>
    intro a b w v ct wBy wCell wFaces wFell wSign wTurns x y _ ha hb _ _ _ _ _ _ _ _ hct
    obtain ⟨k, rfl⟩ : ∃ k, a = k + 1 := ⟨a - 1, by omega⟩
    obtain ⟨k2, rfl⟩ : ∃ k, b = k + 1 := ⟨b - 1, by omega⟩
    have hyes : nI m ≤ nI (m - 0) := (nI_leI (by omega) (by omega)).mpr (by omega)
    rw [f_X5_differ_b75, f_X6_differ_b81, if_pos hyes, if_pos hyes]
    exact ⟨_, _, rfl, rfl, rfl, rfl, rfl, hct⟩
  | succ j ih =>
    intro a b w v ct wBy wCell wFaces wFell wSign wTurns x y hj ha hb hox hoy htx hty hwx hwy hmx hmy hct
    obtain ⟨k, rfl⟩ : ∃ k, a = k + 1 := ⟨a - 1, by omega⟩
    obtain ⟨k2, rfl⟩ : ∃ k, b = k + 1 := ⟨b - 1, by omega⟩
    have hno : ¬ nI m ≤ nI (m - (j + 1)) := fun z => by have := (nI_leI (by omega) (by omega)).mp z; omega
    have h40 : m - (j + 1) < 40 := by omega
    obtain ⟨y1, y2⟩ := htl (m - (j + 1)) (by omega)
    obtain ⟨w', r, s1, s2, s3, s4, s5, s6, s7⟩ := step_both (ct := ct) (sign := (E (40 * q + (m - (j + 1)))).toInt32) (k2 := nI (m - (j + 1))) h hp (show 0 < 2 by decide) hkd hK (isSg_of y1) hox (by omega) hwx hmx rfl
    obtain ⟨v', r2, t1, t2, t3, t4, t5, t6, t7⟩ := step_both (ct := r.1) (sign := (E (40 * q + (m - (j + 1)))).toInt32) (k2 := nI (m - (j + 1))) h hp2 (show 1 < 2 by decide) hkd2 hK2 (isSg_of y1) hoy (by omega) hwy (WM_keep hmy s7 (by decide)) rfl
    have s4' := WM_keep s4 t7 (show 0 ≠ 1 by decide)
    have e1 : nI (m - (j + 1)) + (1 : Int32) = nI (m - j) := by rw [nI_1]; congr 1; omega
    have hct2 : ∀ i, i ≠ 17 → r2.1 i = cm i := fun i hi => (t7.1 i hi).trans ((s7.1 i hi).trans (hct i hi))
    rw [f_X5_differ_b75, f_X6_differ_b81, if_neg hno, if_neg hno]
    simp only [if_pos (inb_nI h40 (show 40 ≤ 2147483648 by decide)), nI_cl (show m - (j + 1) < 2147483648 by omega), signAt_eq hq h40, y2, Option.bind_some]
    rw [s1, show f_X6_step 0 (nI p) (E (40 * q + (m - (j + 1)))).toInt32 (nI (m - (j + 1))) ct N wBy wCell wFaces wFell wSign wTurns = some r from s2]
    simp only [Option.bind_some]
    rw [t1, show f_X6_step 1 (nI p2) (E (40 * q + (m - (j + 1)))).toInt32 (nI (m - (j + 1))) r.1 N r.2.1 r.2.2.1 r.2.2.2.1 r.2.2.2.2.1 r.2.2.2.2.2.1 r.2.2.2.2.2.2 = some r2 from t2]
    simp only [Option.bind_some, standsAs_eq, f_X6_differ_b148]
    rw [e1] at s3 t3
    rw [s3.2.2.2.1, s3.2.2.2.2.1, t3.2.2.2.1, t3.2.2.2.2.1, s4'.1, s4'.2.1, t4.1, t4.2.1, e1]
    by_cases c1 : nI (stepS s P (f 1) (f 2) (G p) kd x (E (40 * q + (m - (j + 1)))).toInt32 (nI (m - (j + 1)))).1 = nI (stepS s P (f 1) (f 2) (G p2) kd2 y (E (40 * q + (m - (j + 1)))).toInt32 (nI (m - (j + 1)))).1
    · rw [if_pos c1]
      by_cases c2 : nI (stepS s P (f 1) (f 2) (G p) kd x (E (40 * q + (m - (j + 1)))).toInt32 (nI (m - (j + 1)))).2.1 = nI (stepS s P (f 1) (f 2) (G p2) kd2 y (E (40 * q + (m - (j + 1)))).toInt32 (nI (m - (j + 1)))).2.1
      · rw [if_pos c2, if_pos (And.intro c1 c2), if_neg one_ne0]
        exact ih k k2 w' v' r2.1 r2.2.1 r2.2.2.1 r2.2.2.2.1 r2.2.2.2.2.1 r2.2.2.2.2.2.1 r2.2.2.2.2.2.2 _ _ (by omega) (by omega) (by omega) s5 t5 (by omega) (by omega) s3 t3 s4' t4 hct2
      · rw [if_neg c2, if_neg (show ¬ (_ ∧ _) from fun z => c2 z.2), if_pos rfl]
        exact ⟨_, _, rfl, rfl, rfl, rfl, rfl, hct2⟩
    · rw [if_neg c1, if_neg (show ¬ (_ ∧ _) from fun z => c1 z.1), if_pos rfl]
      exact ⟨_, _, rfl, rfl, rfl, rfl, rfl, hct2⟩
theorem case_differ {cx cm f P K Wt C F G N w w2 xr mr Ks Z hh z tl wBy wCell wFaces wFell wSign wTurns : Nat → Int32} {E e : Nat → Int64} (h : IRel f P K Wt C F G N) (hr : RRef xr mr) (hsh : ∀ n, N 89 = nI n → n ≤ 8 → RSh Ks Z hh z E e n) (a1 a2 a3 a4 : Int32) :
    ∃ u v, f_X5_differ a1 a2 a3 a4 cx f C F K G P w xr Ks E Z w2 = some u ∧ f_X6_differ a1 a2 a3 a4 cm e hh N mr z tl wBy wCell wFaces wFell wSign wTurns = some v ∧ u.1 = v.1 ∧ RRef u.2.2.1 v.2.2.1 ∧ (∀ j, j ≠ 17 → v.2.1 j = cm j) := by
  obtain ⟨s, n, hn⟩ := h
  obtain ⟨q1, q2, q3, q4, q5, q6, q7, q8⟩ := hn.1
  have hS := hsh n q7 q3
  have main : ∀ wl : Int32, isB wl → (wl = 1 → (∃ p, p < n ∧ a3 = nI p) ∧ (∃ p, p < n ∧ a4 = nI p)) → f_X5_arePair a3 a4 cx f = some wl → ∃ u v, f_X5_differ a1 a2 a3 a4 cx f C F K G P w xr Ks E Z w2 = some u ∧ f_X6_differ_b29 e hh N z cm mr tl wBy wCell wFaces wFell wSign wTurns a1 a2 a3 a4 wl = some v ∧ u.1 = v.1 ∧ RRef u.2.2.1 v.2.2.1 ∧ (∀ j, j ≠ 17 → v.2.1 j = cm j) := by
    intro wl hwl hper i1
    unfold f_X5_differ f_X6_differ_b29
    rw [i1]
    simp only [Option.bind_some]
    rcases tell_both (ct := cx) (ct2 := cm) (tl := tl) hS q3 a1 a2 wl hwl with ⟨code, tl', c1, c2, c3⟩ | ⟨q, m, tl', c1, c2, rfl, rfl, rfl, c3, c4, c5⟩
    · obtain ⟨u, v, r1, r2, r3, r4, r5⟩ := refT (cx := cx) (cm := cm) c1 hr
      rw [c2, c3]
      simp only [Option.bind_some]
      rw [if_neg r4, if_neg r5, r1, r2]
      exact ⟨_, _, rfl, rfl, rfl, r3, fun _ _ => rfl⟩
    · obtain ⟨⟨p, hp, rfl⟩, ⟨p2, hp2, rfl⟩⟩ := hper rfl
      obtain ⟨k, hk⟩ := FU_s
      obtain ⟨hs, he, hv, hc⟩ := id hn
      obtain ⟨w1, kd, c, fc, a, b, d, g, t1, t2, t3, t4, t5, t6, t7, t8, t9, t10, t11, t12⟩ := begin_both (ct := cm) (w := w) (wBy := wBy) (wCell := wCell) (wFaces := wFaces) (wFell := wFell) (wSign := wSign) (wTurns := wTurns) hn hp 0 (by decide)
      obtain ⟨v1, kd2, c2', fc2, b1, b2, b3, b4, b5, b6, b7⟩ := begin_eq (w := w2) q3 q6 hv hp2
      obtain ⟨a', b', d', g', s1, s2, s3⟩ := start_eq (ct := cm) (wCell := a) (wFaces := b) (wTurns := g) (wSign := wSign) (wBy := wBy) (wFell := d) (i := 1) (c := c) (f := fc) (by decide)
      rw [c3, c4]
      simp only [Option.bind_some, if_true]
      rw [if_pos (show (0 : Int32) ≤ 1 by decide), t1, t2, t3]
      simp only [Option.bind_some]
      rw [show f_X6_start 0 (nI c) (nI fc) cm wCell wFaces wFell wTurns = some (a, b, d, g) from t4, b1]
      simp only [Option.bind_some]
      rw [show f_X6_start 1 (nI c) (nI fc) cm a b d g = some (a', b', d', g') from s1]
      rw [t5.2.2.2.1, t5.2.2.2.2.1]
      have hw0 : WMs a' b' g' wSign wBy d' 0 (x0S c fc) := by
        obtain ⟨y1, y2, y3, y4⟩ := s3 0 (by decide)
        exact ⟨y1.trans t6.1, y2.trans t6.2.1, y4.trans t6.2.2.1, y3.trans t6.2.2.2.1, fun z => absurd rfl z⟩
      obtain ⟨u, v, g1, g2, g3, g4, g5, g6⟩ := differL (cx := cx) (cm := cm) (xr := xr) (mr := mr) (Ks := Ks) (Z := Z) (hh := hh) (z := z) (e := e) hn hp hp2 t7 b3 t9 b5 c1 c2 c5 m FU FU w1 (upd (upd v1 4 (nI c)) 5 (nI fc)) cm wBy a' b' d' wSign g' (x0S c fc) (x0S c fc) (Nat.le_refl _) (by omega) (by omega) t8 t8 (by rw [Nat.sub_self]; exact Nat.le_refl _) (by rw [Nat.sub_self]; exact Nat.le_refl _) (by rw [Nat.sub_self]; exact t5) (by rw [Nat.sub_self]; exact WX_face (WX_cell b2)) hw0 s2 (fun _ _ => rfl)
      rw [Nat.sub_self] at g1 g2
      exact ⟨u, v, g1, by rw [Option.bind_some]; exact g2, g3, by rw [g4, g5]; exact hr, g6⟩
  have no := main 0 (Or.inl rfl) (fun z => absurd z (by decide))
  unfold f_X6_differ f_X6_differ_b28
  unfold f_X5_arePair at main no
  rcases isOne_both (ct := cm) q3 q6 q7 a3 with ⟨i, hi, hia, i1, i2⟩ | ⟨i1, i2⟩
  · rcases isOne_both (ct := cm) q3 q6 q7 a4 with ⟨j, hj, hja, j1, j2⟩ | ⟨j1, j2⟩
    · rw [i2, j2]
      rw [i1, j1] at main no
      simp only [Option.bind_some, if_neg one_ne0] at main no ⊢
      by_cases c : a3 = a4
      · rw [if_pos c]
        exact no (by rw [if_pos c])
      · rw [if_neg c]
        exact main 1 (Or.inr rfl) (fun _ => ⟨⟨i, hi, hia⟩, ⟨j, hj, hja⟩⟩) (by rw [if_neg c])
    · rw [i2, j2]
      rw [i1, j1] at no
      simp only [Option.bind_some, if_neg one_ne0, if_true] at no ⊢
      exact no trivial
  · rw [i2]
    rw [i1] at no
    simp only [Option.bind_some, if_true] at no ⊢
    exact no trivial
theorem agreedL {cx ct f P K Wt C F G N wBy wSign : Nat → Int32} {s n : Nat} (h : IRn s n f P K Wt C F G N) : ∀ (j a b : Nat) (w wCell wFaces wFell wTurns : Nat → Int32) (acc : Int32), j ≤ n → j < a → j < b →
    ∃ u v, f_X5_agreed_b4 cx f C F K G P a w acc (nI (n - j)) = some u ∧ f_X6_agreed_b4 ct N wBy wSign b wCell wFaces wFell wTurns acc (nI (n - j)) = some v ∧ u.1 = v.1 := by
  obtain ⟨hs, he, hv, hc⟩ := id h
  obtain ⟨q1, q2, q3, q4, q5, q6, q7, q8, q9, q10⟩ := hs
  intro j
  induction j with
  | zero =>
    intro a b w wCell wFaces wFell wTurns acc _ ha hb
    obtain ⟨k, rfl⟩ : ∃ k, a = k + 1 := ⟨a - 1, by omega⟩
    obtain ⟨k2, rfl⟩ : ∃ k, b = k + 1 := ⟨b - 1, by omega⟩
    have hyes : nI n ≤ nI (n - 0) := (nI_leI (by omega) (by omega)).mpr (by omega)
    rw [f_X5_agreed_b4, f_X6_agreed_b4]
    simp only [f_X6_many, Option.bind_some, q6, q7]
    rw [if_pos hyes, if_pos hyes]
    exact ⟨_, _, rfl, rfl, rfl⟩
  | succ j ih =>
    intro a b w wCell wFaces wFell wTurns acc hj ha hb
    obtain ⟨k, rfl⟩ : ∃ k, a = k + 1 := ⟨a - 1, by omega⟩
    obtain ⟨k2, rfl⟩ : ∃ k, b = k + 1 := ⟨b - 1, by omega⟩
    have hno : ¬ nI n ≤ nI (n - (j + 1)) := fun z => by have := (nI_leI (by omega) (by omega)).mp z; omega
    have e : nI (n - (j + 1)) + (1 : Int32) = nI (n - j) := by rw [nI_1]; congr 1; omega
    obtain ⟨e1, e2, e3, e4, e5⟩ := he (n - (j + 1)) (by omega)
    obtain ⟨w1, kd, c, fc, a', b', d, g, t1, t2, t3, t4, t5, t6, t7, t8, t9, t10, t11, t12⟩ := begin_both (ct := ct) (w := w) (wBy := wBy) (wCell := wCell) (wFaces := wFaces) (wFell := wFell) (wSign := wSign) (wTurns := wTurns) h (show n - (j + 1) < n by omega) 0 (by decide)
    rw [f_X5_agreed_b4, f_X6_agreed_b4]
    simp only [f_X6_many, Option.bind_some, q6, q7]
    rw [if_neg hno, if_neg hno, t1, t2, t3]
    simp only [Option.bind_some]
    rw [show f_X6_start 0 (nI c) (nI fc) ct wCell wFaces wFell wTurns = some (a', b', d, g) from t4, X4_goesBy_eq (P := P) q2 q4 rfl t7 t8.1 t5]
    simp only [Option.bind_some]
    have hg := X6_goesBy_eq (ct := ct) (sign := 1) (i := 0) q2 q5 q8.1 q9.1 (fun k hk => hc.ok q2 hk) (by decide) (show n - (j + 1) < 8 by omega) t7 (e1.trans t9) e5 t8.1 (show (x0S c fc).2.2.1 < 2147483648 from (by decide : (0 : Nat) < 2147483648)) t6
    rw [show f_X6_goesBy 0 (nI (n - (j + 1))) 1 ct N wBy a' wSign g = _ from hg]
    simp only [Option.bind_some, f_X5_agreed_b47, f_X6_agreed_b52, e, q8.1]
    by_cases y : goesS s P (f 1) (f 2) (G (n - (j + 1))) kd c 0 0 0 1 = f 1
    · rw [if_pos y, if_pos y]
      exact ih k k2 _ _ _ _ _ _ (by omega) (by omega) (by omega)
    · rw [if_neg y, if_neg y, show acc ||| (0 : Int32) = acc from Int32.or_zero]
      exact ih k k2 _ _ _ _ _ _ (by omega) (by omega) (by omega)
theorem case_agreed {cx cm f P K Wt C F G N w wBy wCell wFaces wFell wSign wTurns : Nat → Int32} (h : IRel f P K Wt C F G N) : ∃ u v, f_X5_agreed cx f C F K G P w = some u ∧ f_X6_agreed cm N wBy wCell wFaces wFell wSign wTurns = some v ∧ u.1 = v.1 := by
  obtain ⟨s, n, hn⟩ := h
  obtain ⟨k, hk⟩ := FU_s
  have hn8 := hn.1.2.2.1
  obtain ⟨u, v, g1, g2, g3⟩ := agreedL (cx := cx) (ct := cm) (wBy := wBy) (wSign := wSign) hn n FU FU w wCell wFaces wFell wTurns 0 (Nat.le_refl _) (by omega) (by omega)
  rw [Nat.sub_self] at g1 g2
  exact ⟨u, v, g1, g2, g3⟩
