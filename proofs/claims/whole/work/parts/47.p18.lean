-- ===== one step by both; lefts, idle, differ, judge =====
theorem begin_both {ct f P K Wt C F G N w wBy wCell wFaces wFell wSign wTurns : Nat → Int32} {s n p : Nat} (h : IRn s n f P K Wt C F G N) (hp : p < n) (i : Nat) (hi : i < 2) : ∃ (w1 : Nat → Int32) (kd c fc : Nat) (a b d g : Nat → Int32), f_X4_begin (nI p) w f C F K G = some w1 ∧ f_X6_cell (nI p) ct N = some (nI c) ∧ f_X6_faces (nI p) ct N = some (nI fc) ∧ f_X6_start (nI i) (nI c) (nI fc) ct wCell wFaces wFell wTurns = some (a, b, d, g) ∧ WXs w1 kd (f 1) (G p) (x0S c fc) (nI 0) ∧ WMs a b g wSign wBy d i (x0S c fc) ∧ kd ≤ 5 ∧ okw s (x0S c fc) ∧ K p = nI kd ∧ C p = nI c ∧ F p = nI fc ∧ (∀ j, j ≠ i → a j = wCell j ∧ b j = wFaces j ∧ d j = wFell j ∧ g j = wTurns j) := by
  obtain ⟨hs, he, hv, hc⟩ := h
  obtain ⟨q1, q2, q3, q4, q5, q6, q7, q8⟩ := hs
  obtain ⟨w1, kd, c, fc, b1, b2, b3, b4, b5, b6, b7⟩ := begin_eq (w := w) q3 q6 hv hp
  obtain ⟨e1, e2, e3, e4, e5⟩ := he p (by omega)
  obtain ⟨a, b, d, g, s1, s2, s3⟩ := start_eq (ct := ct) (wCell := wCell) (wFaces := wFaces) (wTurns := wTurns) (wSign := wSign) (wBy := wBy) (wFell := wFell) (i := i) (c := c) (f := fc) hi
  exact ⟨w1, kd, c, fc, a, b, d, g, b1, by rw [(mkind (show p < 8 by omega)).2.2.1, e3, b6], by rw [(mkind (show p < 8 by omega)).2.2.2.1, e4, b7], s1, b2, s2, b3, b4, b5, b6, b7, s3⟩
theorem step_both {ct f P K Wt C F G N w wBy wCell wFaces wFell wSign wTurns : Nat → Int32} {s n p kd i : Nat} {sign k k2 : Int32} {x : WS} (h : IRn s n f P K Wt C F G N) (hp : p < n) (hi : i < 2) (hkd : kd ≤ 5) (hK : K p = nI kd) (hsg : is4 sign) (hok : okw s x) (ht : x.2.2.1 < 2147483647) (hw : WXs w kd (f 1) (G p) x k) (hm : WMs wCell wFaces wTurns wSign wBy wFell i x) (hk : k2 = k) :
    ∃ (w' : Nat → Int32) (r : R7), f_X4_step sign w f P = some w' ∧ f_X6_step (nI i) (nI p) sign k2 ct N wBy wCell wFaces wFell wSign wTurns = some r ∧ WXs w' kd (f 1) (G p) (stepS s P (f 1) (f 2) (G p) kd x sign k) (k + 1) ∧ WMs r.2.2.1 r.2.2.2.1 r.2.2.2.2.2.2 r.2.2.2.2.2.1 r.2.1 r.2.2.2.2.1 i (stepS s P (f 1) (f 2) (G p) kd x sign k) ∧ okw s (stepS s P (f 1) (f 2) (G p) kd x sign k) ∧ (stepS s P (f 1) (f 2) (G p) kd x sign k).2.2.1 ≤ x.2.2.1 + 1 ∧ keepM ct wBy wCell wFaces wFell wSign wTurns i r := by
  subst hk
  obtain ⟨hs, he, hv, hc⟩ := h
  obtain ⟨q1, q2, q3, q4, q5, q6, q7, q8, q9, q10⟩ := hs
  obtain ⟨e1, e2, e3, e4, e5⟩ := he p (by omega)
  obtain ⟨w', a1, a2⟩ := X4_step_eq (P := P) q2 q4 rfl hkd hsg hok hw
  obtain ⟨r, b1, b2, b3, b4, b5⟩ := X6_step_eq (ct := ct) (k := k2) q2 q5 q8.1 q9.1 (fun k hk => hc.ok q2 hk) hi (show p < 8 by omega) hkd (e1.trans hK) e5 hsg hok ht hm
  exact ⟨w', r, a1, b1, a2, b3, stepS_ok q2 hok, stepS_t, b2⟩
theorem leftsL {cx cm f P K Wt C F G N xr mr : Nat → Int32} {s n p kd fd : Nat} (h : IRn s n f P K Wt C F G N) (hp : p < n) (hkd : kd ≤ 5) (hK : K p = nI kd) (hf : fd < 4) : ∀ (j a b t : Nat) (w ct wBy wCell wFaces wFell wSign wTurns : Nat → Int32) (x : WS), t + j = 21 → j < a → j < b → okw s x → x.2.2.1 ≤ t → WXs w kd (f 1) (G p) x (nI t) → WMs wCell wFaces wTurns wSign wBy wFell 0 x → (∀ i, i ≠ 17 → ct i = cm i) →
    ∃ u v, f_X5_lefts_b35 cx f C F K G P a w xr (nI fd) (nI t) = some u ∧ f_X6_lefts_b44 N b ct mr wBy wCell wFaces wFell wSign wTurns (nI p) (nI fd) (nI t) = some v ∧ u.1 = v.1 ∧ u.2.2 = xr ∧ v.2.2.1 = mr ∧ (∀ i, i ≠ 17 → v.2.1 i = cm i) := by
  intro j
  induction j with
  | zero =>
    intro a b t w ct wBy wCell wFaces wFell wSign wTurns x ht ha hb hok hx hw hm hct
    obtain ⟨k, rfl⟩ : ∃ k, a = k + 1 := ⟨a - 1, by omega⟩
    obtain ⟨k2, rfl⟩ : ∃ k, b = k + 1 := ⟨b - 1, by omega⟩
    have t21 : t = 21 := by omega
    subst t21
    rw [f_X5_lefts_b35, f_X6_lefts_b44, if_pos (show (20 : Int32) < nI 21 by decide)]
    unfold f_X6_lefts_b74
    rw [if_neg (show ¬ nI 21 ≤ (20 : Int32) by decide), if_pos (show (20 : Int32) < nI 21 by decide)]
    by_cases y : wFaces 0 = nI fd
    · rw [if_pos y]
      exact ⟨_, _, rfl, rfl, rfl, rfl, rfl, hct⟩
    · rw [if_neg y]
      exact ⟨_, _, rfl, rfl, rfl, rfl, rfl, hct⟩
  | succ j ih =>
    intro a b t w ct wBy wCell wFaces wFell wSign wTurns x ht ha hb hok hx hw hm hct
    obtain ⟨k, rfl⟩ : ∃ k, a = k + 1 := ⟨a - 1, by omega⟩
    obtain ⟨k2, rfl⟩ : ∃ k, b = k + 1 := ⟨b - 1, by omega⟩
    have hno : ¬ (20 : Int32) < nI t := fun z => by have := (nI_ltI (a := 20) (by omega) (by omega)).mp z; omega
    have hle : nI t ≤ (20 : Int32) := Int32.not_lt.mp hno
    rw [f_X5_lefts_b35, f_X6_lefts_b44, if_neg hno, if_neg hno]
    unfold f_X6_lefts_b74
    rw [if_pos hle, hw.2.2.2.2.1, hm.2.1]
    by_cases y : nI x.2.1 = nI fd
    · rw [if_pos y, if_pos y]
      exact ⟨_, _, rfl, rfl, rfl, rfl, rfl, hct⟩
    · rw [if_neg y, if_neg y]
      obtain ⟨w', r, s1, s2, s3, s4, s5, s6, s7⟩ := step_both (ct := ct) (sign := 1) (k2 := nI t) h hp (show 0 < 2 by decide) hkd hK (Or.inr (Or.inl rfl)) hok (by omega) hw hm rfl
      rw [s1, show (0 : Int32) = nI 0 from rfl, s2]
      simp only [Option.bind_some]
      rw [show nI t + (1 : Int32) = nI (t + 1) from nI_1 t] at s3 ⊢
      exact ih k k2 (t + 1) w' r.1 r.2.1 r.2.2.1 r.2.2.2.1 r.2.2.2.2.1 r.2.2.2.2.2.1 r.2.2.2.2.2.2 _ (by omega) (by omega) (by omega) s5 (by omega) s3 s4 (fun i hi => (s7.1 i hi).trans (hct i hi))
theorem case_lefts {cx cm f P K Wt C F G N w xr mr wBy wCell wFaces wFell wSign wTurns : Nat → Int32} (h : IRel f P K Wt C F G N) (hr : RRef xr mr) (a1 a2 : Int32) :
    ∃ u v, f_X5_lefts a1 a2 cx f C F K G P w xr = some u ∧ f_X6_lefts a1 a2 cm N mr wBy wCell wFaces wFell wSign wTurns = some v ∧ u.1 = v.1 ∧ RRef u.2.2 v.2.2.1 ∧ (∀ j, j ≠ 17 → v.2.1 j = cm j) := by
  obtain ⟨g1, g2, e1, e2, e3⟩ := refuse_both (cx := cx) (cm := cm) (code := -2) (Or.inl rfl) hr
  obtain ⟨s, n, hn⟩ := h
  obtain ⟨q1, q2, q3, q4, q5, q6, q7, q8⟩ := hn.1
  have hX : f_X5_lefts_b18 cx f C F K G P w xr = some (-2, w, g1) := by unfold f_X5_lefts_b18; rw [e1]; rfl
  have hM : f_X6_lefts_b20 N cm mr wBy wCell wFaces wFell wSign wTurns = some (-2, cm, g2, wBy, wCell, wFaces, wFell, wSign, wTurns) := by unfold f_X6_lefts_b20; rw [e2]; rfl
  unfold f_X5_lefts f_X6_lefts
  rw [isFaces_X5, show f_X6_isIn a2.toInt64 0 3 = some (if 0 ≤ a2 ∧ a2 ≤ 3 then 1 else 0) from isIn_eq a2 0 3, hX, hM]
  rcases isOne_both (ct := cm) q3 q6 q7 a1 with ⟨p, hp, rfl, i1, i2⟩ | ⟨i1, i2⟩
  · rw [i1, i2]
    simp only [Option.bind_some, if_neg one_ne0]
    by_cases c2 : 0 ≤ a2 ∧ a2 ≤ 3
    · obtain ⟨fd, hf, rfl⟩ := i32_nat (n := 3) c2.1 c2.2 (by decide)
      obtain ⟨m, hm⟩ := FU_s
      obtain ⟨w1, kd, c, fc, a, b, d, g, t1, t2, t3, t4, t5, t6, t7, t8, t9, t10, t11, t12⟩ := begin_both (ct := cm) (w := w) (wBy := wBy) (wCell := wCell) (wFaces := wFaces) (wFell := wFell) (wSign := wSign) (wTurns := wTurns) hn hp 0 (by decide)
      rw [if_pos c2, if_neg one_ne0, if_neg one_ne0, t1, t2, t3]
      simp only [Option.bind_some]
      rw [show (0 : Int32) = nI 0 from rfl, t4]
      simp only [Option.bind_some]
      obtain ⟨u, v, g1, g2, g3, g4, g5, g6⟩ := leftsL (cx := cx) (cm := cm) (xr := xr) (mr := mr) hn hp t7 t9 (show fd < 4 by omega) 21 FU FU 0 w1 cm wBy a b d wSign g (x0S c fc) (by omega) (by omega) (by omega) t8 (Nat.le_refl _) t5 t6 (fun _ _ => rfl)
      exact ⟨u, v, g1, g2, g3, by rw [g4, g5]; exact hr, g6⟩
    · rw [if_neg c2, if_pos rfl, if_pos rfl]
      exact ⟨_, _, rfl, rfl, rfl, e3, fun _ _ => rfl⟩
  · rw [i1, i2]
    simp only [Option.bind_some, if_true]
    exact ⟨_, _, rfl, rfl, rfl, e3, fun _ _ => rfl⟩
theorem idleL {cx cm f P K Wt C F G N tl xr mr Ks Z hh z : Nat → Int32} {E e : Nat → Int64} {s n q m p kd : Nat} (h : IRn s n f P K Wt C F G N) (hp : p < n) (hkd : kd ≤ 5) (hK : K p = nI kd) (hq : q < 8) (hm : m ≤ 40) (htl : ∀ i, i < m → isSg (E (40 * q + i)) ∧ tl i = (E (40 * q + i)).toInt32) : ∀ (j a b : Nat) (w ct wBy wCell wFaces wFell wSign wTurns : Nat → Int32) (acc : Int32) (x : WS), j ≤ m → j < a → j < b → okw s x → x.2.2.1 ≤ m - j → WXs w kd (f 1) (G p) x (nI (m - j)) → WMs wCell wFaces wTurns wSign wBy wFell 0 x → (∀ i, i ≠ 17 → ct i = cm i) →
    ∃ u v, f_X5_idle_b42 cx f C F K G P Ks E Z a w xr (nI q) (nI m) acc (nI (m - j)) = some u ∧ f_X6_idle_b46 e hh N z b ct mr tl wBy wCell wFaces wFell wSign wTurns (nI m) (nI p) acc (nI (m - j)) = some v ∧ u.1 = v.1 ∧ u.2.2 = xr ∧ v.2.2.1 = mr ∧ (∀ i, i ≠ 17 → v.2.1 i = cm i) := by
  intro j
  induction j with
  | zero =>
    intro a b w ct wBy wCell wFaces wFell wSign wTurns acc x _ ha hb _ _ _ _ hct
    obtain ⟨k, rfl⟩ : ∃ k, a = k + 1 := ⟨a - 1, by omega⟩
    obtain ⟨k2, rfl⟩ : ∃ k, b = k + 1 := ⟨b - 1, by omega⟩
    have hyes : nI m ≤ nI (m - 0) := (nI_leI (by omega) (by omega)).mpr (by omega)
    rw [f_X5_idle_b42, f_X6_idle_b46, if_pos hyes, if_pos hyes]
    exact ⟨_, _, rfl, rfl, rfl, rfl, rfl, hct⟩
  | succ j ih =>
    intro a b w ct wBy wCell wFaces wFell wSign wTurns acc x hj ha hb hok hx hw hmm hct
    obtain ⟨k, rfl⟩ : ∃ k, a = k + 1 := ⟨a - 1, by omega⟩
    obtain ⟨k2, rfl⟩ : ∃ k, b = k + 1 := ⟨b - 1, by omega⟩
    have hno : ¬ nI m ≤ nI (m - (j + 1)) := fun z => by have := (nI_leI (by omega) (by omega)).mp z; omega
    have h40 : m - (j + 1) < 40 := by omega
    obtain ⟨y1, y2⟩ := htl (m - (j + 1)) (by omega)
    obtain ⟨w', r, s1, s2, s3, s4, s5, s6, s7⟩ := step_both (ct := ct) (sign := (E (40 * q + (m - (j + 1)))).toInt32) (k2 := nI (m - (j + 1))) h hp (show 0 < 2 by decide) hkd hK (isSg_of y1) hok (by omega) hw hmm rfl
    have e1 : nI (m - (j + 1)) + (1 : Int32) = nI (m - j) := by rw [nI_1]; congr 1; omega
    rw [f_X5_idle_b42, f_X6_idle_b46, if_neg hno, if_neg hno, if_pos (inb_nI h40 (by decide)), nI_cl (by omega), signAt_eq hq h40, y2]
    simp only [Option.bind_some]
    rw [s1, show f_X6_step 0 (nI p) (E (40 * q + (m - (j + 1)))).toInt32 (nI (m - (j + 1))) ct N wBy wCell wFaces wFell wSign wTurns = some r from s2]
    simp only [Option.bind_some, f_X5_idle_b93, f_X6_idle_b93, asNumber_eq]
    rw [e1] at s3
    rw [s3.2.2.2.1, hw.2.2.2.1, s4.1, hmm.1, e1]
    have go := fun acc => ih k k2 w' r.1 r.2.1 r.2.2.1 r.2.2.2.1 r.2.2.2.2.1 r.2.2.2.2.2.1 r.2.2.2.2.2.2 acc _ (by omega) (by omega) (by omega) s5 (by omega) s3 s4 (fun i hi => (s7.1 i hi).trans (hct i hi))
    by_cases y : nI (stepS s P (f 1) (f 2) (G p) kd x (E (40 * q + (m - (j + 1)))).toInt32 (nI (m - (j + 1)))).1 = nI x.1
    · rw [if_pos y, if_pos y, if_neg one_ne0]
      exact go (acc + 1)
    · rw [if_neg y, if_neg y, if_true]
      exact go (acc + 0)
theorem case_idle {cx cm f P K Wt C F G N w xr mr Ks Z hh z tl wBy wCell wFaces wFell wSign wTurns : Nat → Int32} {E e : Nat → Int64} (h : IRel f P K Wt C F G N) (hr : RRef xr mr) (hsh : ∀ n, N 89 = nI n → n ≤ 8 → RSh Ks Z hh z E e n) (a1 a2 a3 : Int32) :
    ∃ u v, f_X5_idle a1 a2 a3 cx f C F K G P w xr Ks E Z = some u ∧ f_X6_idle a1 a2 a3 cm e hh N mr z tl wBy wCell wFaces wFell wSign wTurns = some v ∧ u.1 = v.1 ∧ RRef u.2.2 v.2.2.1 ∧ (∀ j, j ≠ 17 → v.2.1 j = cm j) := by
  obtain ⟨s, n, hn⟩ := h
  obtain ⟨q1, q2, q3, q4, q5, q6, q7, q8⟩ := hn.1
  have hS := hsh n q7 q3
  unfold f_X5_idle f_X6_idle
  have key : ∀ wl : Int32, isB wl → (wl = 1 → ∃ p, p < n ∧ a3 = nI p) → f_X0_isOne a3 f = some wl → f_X6_isPerson a3 cm N = some wl → ∃ u v, f_X5_idle a1 a2 a3 cx f C F K G P w xr Ks E Z = some u ∧ f_X6_idle a1 a2 a3 cm e hh N mr z tl wBy wCell wFaces wFell wSign wTurns = some v ∧ u.1 = v.1 ∧ RRef u.2.2 v.2.2.1 ∧ (∀ j, j ≠ 17 → v.2.1 j = cm j) := by
    intro wl hwl hper i1 i2
    unfold f_X5_idle f_X6_idle
    rw [i1, i2]
    simp only [Option.bind_some]
    rcases tell_both (ct := cx) (ct2 := cm) (tl := tl) hS q3 a1 a2 wl hwl with ⟨code, tl', c1, c2, c3⟩ | ⟨q, m, tl', c1, c2, rfl, rfl, rfl, c3, c4, c5⟩
    · obtain ⟨u, v, r1, r2, r3, r4, r5⟩ := refT (cx := cx) (cm := cm) c1 hr
      rw [c2, c3]
      simp only [Option.bind_some]
      rw [if_neg r4, if_neg r5, r1, r2]
      exact ⟨_, _, rfl, rfl, rfl, r3, fun _ _ => rfl⟩
    · obtain ⟨p, hp, rfl⟩ := hper rfl
      obtain ⟨k, hk⟩ := FU_s
      obtain ⟨w1, kd, c, fc, a, b, d, g, t1, t2, t3, t4, t5, t6, t7, t8, t9, t10, t11, t12⟩ := begin_both (ct := cm) (w := w) (wBy := wBy) (wCell := wCell) (wFaces := wFaces) (wFell := wFell) (wSign := wSign) (wTurns := wTurns) hn hp 0 (by decide)
      rw [c3, c4]
      simp only [Option.bind_some, if_true]
      rw [if_pos (show (0 : Int32) ≤ 1 by decide), t1, t2, t3]
      simp only [Option.bind_some]
      rw [show f_X6_start 0 (nI c) (nI fc) cm wCell wFaces wFell wTurns = some (a, b, d, g) from t4]
      simp only [Option.bind_some]
      obtain ⟨u, v, g1, g2, g3, g4, g5, g6⟩ := idleL (cx := cx) (cm := cm) (xr := xr) (mr := mr) (Ks := Ks) (Z := Z) (hh := hh) (z := z) (e := e) hn hp t7 t9 c1 c2 c5 m FU FU w1 cm wBy a b d wSign g 0 (x0S c fc) (Nat.le_refl _) (by omega) (by omega) t8 (by rw [Nat.sub_self]; exact Nat.le_refl _) (by rw [Nat.sub_self]; exact t5) t6 (fun _ _ => rfl)
      rw [Nat.sub_self] at g1 g2
      exact ⟨u, v, g1, g2, g3, by rw [g4, g5]; exact hr, g6⟩
  rcases isOne_both (ct := cm) q3 q6 q7 a3 with ⟨j, hj, hja, i1, i2⟩ | ⟨i1, i2⟩
  · exact key 1 (Or.inr rfl) (fun _ => ⟨j, hj, hja⟩) i1 i2
  · exact key 0 (Or.inl rfl) (fun z => absurd z (by decide)) i1 i2
theorem judgeM {ct hh z mr : Nat → Int32} {e : Nat → Int64} {s m : Nat} (hs : s < 8) (hm : m ≤ 40) : ∀ (j a : Nat), j ≤ m → j < a → f_X6_judge_b63 ct e hh z a mr (nI s) (nI m) (nI (m - j)) = some (enc (bad e (40 * s) m j), mr) := by
  intro j
  induction j with
  | zero =>
    intro a _ ha
    obtain ⟨k, rfl⟩ : ∃ k, a = k + 1 := ⟨a - 1, by omega⟩
    rw [f_X6_judge_b63, if_pos ((nI_leI (by omega) (by omega)).mpr (by omega))]
    rfl
  | succ j ih =>
    intro a hj ha
    obtain ⟨k, rfl⟩ : ∃ k, a = k + 1 := ⟨a - 1, by omega⟩
    have hx := ix40 (s := s) (i := m - (j + 1)) hs (by omega)
    rw [f_X6_judge_b63, if_neg (fun q => by have := (nI_leI (by omega) (by omega)).mp q; omega), if_pos hx.2.2.1, hx.2.2.2, isIn64]
    simp only [Option.bind_some]
    have e1 : nI (m - (j + 1)) + (1 : Int32) = nI (m - j) := by rw [nI_1]; congr 1; omega
    unfold bad
    by_cases q : isSg (e (40 * s + (m - (j + 1))))
    · have q0 : ¬ ((if 0 ≤ e (40 * s + (m - (j + 1))) ∧ e (40 * s + (m - (j + 1))) ≤ 3 then (1 : Int32) else 0) = 0) := by rw [if_pos q]; decide
      rw [if_neg q0, if_pos q, e1, ih k (by omega) (by omega)]
    · have q0 : ((if 0 ≤ e (40 * s + (m - (j + 1))) ∧ e (40 * s + (m - (j + 1))) ≤ 3 then (1 : Int32) else 0) = 0) := by rw [if_neg q]
      rw [if_pos q0, if_neg q]
      rfl
theorem case_judge {cx cm Ks Z hh z xr mr : Nat → Int32} {E e : Nat → Int64} (hr : RRef xr mr) {n : Nat} (hn : n ≤ 8) (h : RSh Ks Z hh z E e n) (a1 a2 : Int32) : ∃ u v, f_X5_judge a1 a2 cx xr Ks E Z = some u ∧ f_X6_judge a1 a2 cm e hh mr z = some v ∧ u.1 = v.1 ∧ RRef u.2 v.2 := by
  obtain ⟨g1, g2, e1, e2, e3⟩ := refuse_both (cx := cx) (cm := cm) (code := -2) (Or.inl rfl) hr
  obtain ⟨g5, g6, e5, e6, e7⟩ := refuse_both (cx := cx) (cm := cm) (code := -3) (Or.inr (Or.inl rfl)) hr
  obtain ⟨g8, g9, e8, e9, e10⟩ := refuse_both (cx := cx) (cm := cm) (code := -4) (Or.inr (Or.inr (Or.inl rfl))) hr
  have hM : f_X6_judge_b19 cm e hh z mr = some (-2, g2) := by unfold f_X6_judge_b19; rw [e2]; rfl
  unfold f_X5_judge f_X6_judge f_X5_isTold
  rw [isShelf_X3, isShelf_X6, isWithin_eq, show f_X6_isIn a2.toInt64 0 40 = some (if 0 ≤ a2 ∧ a2 ≤ 40 then 1 else 0) from isIn_eq a2 0 40, hM, e1, e2]
  simp only [Option.bind_some]
  by_cases c1 : 0 ≤ a1 ∧ a1 ≤ 7
  · rw [if_pos c1]
    simp only [if_neg one_ne0]
    by_cases c2 : 0 ≤ a2 ∧ a2 ≤ 40
    · rw [if_pos c2]
      simp only [if_neg one_ne0, Option.bind_some]
      obtain ⟨s, hs, rfl⟩ := i32_nat (n := 7) c1.1 c1.2 (by decide)
      obtain ⟨m, hm, rfl⟩ := i32_nat (n := 40) c2.1 c2.2 (by decide)
      have hs8 : s < 8 := by omega
      obtain ⟨hK, hc⟩ := h s hs8
      have hnum := shelf_num (h := hh) (s := s) hn
      rw [rowFault_eq hs8 hs8, rowIn_eq hs8, sizeOf_eq hs8]
      simp only [Option.bind_some, rfv, hK, or_self]
      unfold f_X5_judge_b42
      rcases hc with q | ⟨p, hp, q⟩ | ⟨so, m2, h1, h2, h3, h4, h5, h6⟩
      · have w := hnum.1 q
        simp only [if_neg w, if_pos q, if_neg (show ¬ (-4 : Int32) = 0 by decide), if_neg (show ¬ (0 : Int32) ≤ -4 by decide), e8, e9, Option.bind_some]
        exact ⟨_, _, rfl, rfl, rfl, e10⟩
      · have w := hnum.2.1 p hp q
        simp only [if_pos w.1, if_neg (show ¬ (-3 : Int32) = 0 by decide), if_neg (show ¬ (0 : Int32) ≤ -3 by decide), e5, e6, Option.bind_some]
        exact ⟨_, _, rfl, rfl, rfl, e7⟩
      · have w := hnum.2.2 so h1 h3
        simp only [if_neg w.1, if_neg w.2, if_true, if_pos (show (0 : Int32) ≤ 1 by decide), if_pos (ix8 hs8).1, (ix8 hs8).2, h4, h5, if_neg (show ¬ (-2 : Int32) = 0 by decide), e1, e2, Option.bind_some]
        by_cases c3 : nI m ≤ nI m2
        · rw [if_pos c3, if_pos c3, firstWrong_eq hs8 hm]
          obtain ⟨k, hk⟩ := FU_s
          have b := judgeM (ct := cm) (hh := hh) (z := z) (mr := mr) (e := e) hs8 hm m FU (Nat.le_refl _) (by omega)
          rw [Nat.sub_self] at b
          have hmm : m ≤ m2 := (nI_leI (by omega) (by omega)).mp c3
          refine ⟨_, _, rfl, b, ?_, hr⟩
          rw [bad_congr (e := e) (fun i hi => h6 i (by omega)) m (Nat.le_refl _)]
        · rw [if_neg c3, if_neg c3]
          exact ⟨_, _, rfl, rfl, rfl, e3⟩
    · rw [if_neg c2]
      simp only [if_true, Option.bind_some]
      exact ⟨_, _, rfl, rfl, rfl, e3⟩
  · rw [if_neg c1]
    simp only [if_true, Option.bind_some]
    exact ⟨_, _, rfl, rfl, rfl, e3⟩
