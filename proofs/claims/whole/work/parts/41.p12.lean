-- ===== a telling by both, whole =====
theorem tel_both {ct cm o P w0 N tl wBy wCell wFaces wFell wSign wTurns : Nat → Int32} {E : Nat → Int64} {s p q m kd c f : Nat} {left old pl : Int32} (hs : s ≤ 7) (h0 : o 0 = nI s) (h2 : o 2 = old) (hkd : kd ≤ 5) (hok : okw s (x0S c f)) (hw : WXs w0 kd left pl (x0S c f) (nI 0)) (hq : q < 8) (hm : m ≤ 40) (htl : ∀ i, i < m → isSg (E (40 * q + i)) ∧ tl i = (E (40 * q + i)).toInt32) (n0 : N 90 = nI s) (n1 : N 91 = left) (n2 : N 92 = old) (hp : ∀ k, okc s k → N (pt k) = P k ∧ isB (P k)) (hpp : p < 8) (nk : N (5 * p) = nI kd) (nc : N (5 * p + 2) = nI c) (nf : N (5 * p + 3) = nI f) (npl : N (5 * p + 4) = pl) :
    ∃ (w : Nat → Int32) (r : R7) (x : WS), f_X5_follow (nI q) (nI m) ct E w0 o P = some w ∧ f_X6_go (nI p) (nI m) cm N tl wBy wCell wFaces wFell wSign wTurns = some r ∧ okw s x ∧ WXs w kd left pl x (nI m) ∧ WMs r.2.2.1 r.2.2.2.1 r.2.2.2.2.2.2 r.2.2.2.2.2.1 r.2.1 r.2.2.2.2.1 0 x ∧ (∀ j, j ≠ 17 → r.1 j = cm j) ∧ x = runS s P left old pl kd tl 0 0 m (x0S c f) ∧ (x.2.2.2.2.2 ≠ -1 → r.1 17 = nI (runD s P left old pl kd tl 0 0 m (x0S c f))) := by
  obtain ⟨k, hk⟩ := FU_s
  obtain ⟨w, e1, e2⟩ := followL (ct := ct) (P := P) (b := 0) hs h0 h2 hkd hq hm (fun i hi => (htl i hi).1) m FU w0 (x0S c f) (Nat.le_refl _) (by omega) hok (by rw [Nat.sub_self]; exact hw)
  rw [Nat.sub_self] at e1 e2
  have hrun : runS s P left old pl kd (fun i => (E (40 * q + i)).toInt32) 0 0 m (x0S c f) = runS s P left old pl kd tl 0 0 m (x0S c f) := runS_congr m 0 _ (fun i _ hi => ((htl i (by omega)).2).symm)
  rw [hrun] at e2
  obtain ⟨a, b, d, g, s1, s2, s3⟩ := start_eq (ct := cm) (wCell := wCell) (wFaces := wFaces) (wTurns := wTurns) (wSign := wSign) (wBy := wBy) (wFell := wFell) (i := 0) (c := c) (f := f) (by decide)
  obtain ⟨r, g1, g2, g3, g4, g5⟩ := goL (tl := tl) (P := P) hs n0 n1 n2 hp hpp hkd nk npl hm (fun i hi => by rw [(htl i hi).2]; exact isSg_of (htl i hi).1) m FU cm wBy a b d wSign g (x0S c f) (Nat.le_refl _) (by omega) hok (by show 0 + m < _; omega) s2
  rw [Nat.sub_self] at g1 g3 g5
  refine ⟨w, r, _, e1, ?_, runS_ok hs m 0 _ hok, ?_, g3, g2.1, rfl, fun h => g5 h rfl⟩
  · unfold f_X6_go
    rw [(mkind hpp).2.2.1, (mkind hpp).2.2.2.1, nc, nf]
    simp only [Option.bind_some]
    rw [show (0 : Int32) = nI 0 from rfl, s1]
    simp only [Option.bind_some]
    exact g1
  · rw [Nat.zero_add] at e2
    exact e2
theorem begin_eq {w f C F K G : Nat → Int32} {s n p : Nat} {Wt : Nat → Int32} (hn : n ≤ 8) (h7 : f 7 = nI n) (hv : IRv s n K Wt C F G) (hp : p < n) : ∃ w' kd c fc, f_X4_begin (nI p) w f C F K G = some w' ∧ WXs w' kd (f 1) (G p) (x0S c fc) (nI 0) ∧ kd ≤ 5 ∧ okw s (x0S c fc) ∧ K p = nI kd ∧ C p = nI c ∧ F p = nI fc := by
  obtain ⟨⟨kd, hk1, hk2⟩, _, ⟨c, hc1, hc2⟩, ⟨fc, hf1, hf2⟩, _⟩ := hv p hp
  have hp8 : p < 8 := by omega
  have i1 : f_X0_isOne (nI p) f = some 1 := by
    unfold f_X0_isOne
    rw [isWithin_eq, if_pos ⟨nI_pos' (by omega), (nI_leI (b := 7) (by omega) (by omega)).mpr (by omega)⟩]
    simp only [Option.bind_some, if_neg one_ne0]
    rw [h7, if_neg (fun z => by have := (nI_leI (by omega) (by omega)).mp z; omega)]
  unfold f_X4_begin
  rw [i1]
  simp only [Option.bind_some, if_neg one_ne0, if_pos (ix8 hp8).1, (ix8 hp8).2]
  refine ⟨_, kd, c, fc, rfl, ?_, hk1, ⟨hc1, hf1⟩, hk2, hc2, hf2⟩
  refine ⟨?_, ?_, ?_, ?_, ?_, ?_, ?_, ?_, ?_, ?_⟩
  · simp [upd, hk2]
  · simp [upd]
  · simp [upd]
  · simp [upd, hc2]
  · simp [upd, hf2]
  · simp [upd]; rfl
  · simp [upd]
  · simp [upd]
  · intro _; simp [upd]
  · intro h; exact absurd rfl h
/-- where one of the people comes to, by the first m signs of tl -/
noncomputable def finS (s : Nat) (P : Nat → Int32) (left old : Int32) (K C F G tl : Nat → Int32) (m p : Nat) : WS := runS s P left old (G p) (K p).toNatClampNeg tl 0 0 m (x0S (C p).toNatClampNeg (F p).toNatClampNeg)
/-- one of the people, by a told telling, as things are -/
theorem per_both {ct cm f P K Wt C F G N tl w wBy wCell wFaces wFell wSign wTurns : Nat → Int32} {E : Nat → Int64} {s n p q m : Nat} (h : IRn s n f P K Wt C F G N) (hp : p < n) (hq : q < 8) (hm : m ≤ 40) (htl : ∀ i, i < m → isSg (E (40 * q + i)) ∧ tl i = (E (40 * q + i)).toInt32) :
    ∃ (w1 w2 : Nat → Int32) (r : R7) (kd : Nat), f_X4_begin (nI p) w f C F K G = some w1 ∧ f_X5_follow (nI q) (nI m) ct E w1 f P = some w2 ∧ f_X6_go (nI p) (nI m) cm N tl wBy wCell wFaces wFell wSign wTurns = some r ∧ okw s (finS s P (f 1) (f 2) K C F G tl m p) ∧ WXs w2 kd (f 1) (G p) (finS s P (f 1) (f 2) K C F G tl m p) (nI m) ∧ WMs r.2.2.1 r.2.2.2.1 r.2.2.2.2.2.2 r.2.2.2.2.2.1 r.2.1 r.2.2.2.2.1 0 (finS s P (f 1) (f 2) K C F G tl m p) ∧ (∀ j, j ≠ 17 → r.1 j = cm j) := by
  obtain ⟨hs, he, hv, hc⟩ := h
  obtain ⟨q1, q2, q3, q4, q5, q6, q7, q8, q9, q10, q11, q12, q13⟩ := hs
  obtain ⟨w1, kd, c, fc, b1, b2, b3, b4, b5, b6, b7⟩ := begin_eq (w := w) q3 q6 hv hp
  obtain ⟨e1, e2, e3, e4, e5⟩ := he p (by omega)
  obtain ⟨w2, r, x, t1, t2, t3, t4, t5, t6, t7, t8⟩ := tel_both (ct := ct) (cm := cm) (wBy := wBy) (wCell := wCell) (wFaces := wFaces) (wFell := wFell) (wSign := wSign) (wTurns := wTurns) q2 q4 rfl b3 b4 b2 hq hm htl q5 q8.1 q9.1 (fun k hk => hc.ok q2 hk) (show p < 8 by omega) (e1.trans b5) (e3.trans b6) (e4.trans b7) e5
  have hx : x = finS s P (f 1) (f 2) K C F G tl m p := by
    have h1 : c / 10 < s := b4.1.1
    have h2 : fc < 4 := b4.2
    rw [t7]
    unfold finS
    rw [b5, b6, b7, nI_cl (by omega), nI_cl (show c < 2147483648 by omega), nI_cl (show fc < 2147483648 by omega)]
  rw [hx] at t3 t4 t5
  exact ⟨w1, w2, r, kd, b1, t1, t2, t3, t4, t5, t6⟩
theorem refT {cx cm xr mr : Nat → Int32} {code : Int32} (hc : isCode code) (hr : RRef xr mr) : ∃ u v, f_X5_refuse code cx xr = some (code, u) ∧ f_X6_refuse code cm mr = some (code, v) ∧ RRef u v ∧ ¬ code = 0 ∧ ¬ 0 ≤ code := by
  obtain ⟨u, v, h1, h2, h3⟩ := refuse_both (cx := cx) (cm := cm) hc hr
  refine ⟨u, v, h1, h2, h3, ?_, ?_⟩ <;> rcases hc with rfl | rfl | rfl | rfl | rfl <;> decide
theorem case_comes {cx cm f P K Wt C F G N w xr mr Ks Z hh z tl wBy wCell wFaces wFell wSign wTurns : Nat → Int32} {E e : Nat → Int64} (h : IRel f P K Wt C F G N) (hr : RRef xr mr) (hsh : ∀ n, N 89 = nI n → n ≤ 8 → RSh Ks Z hh z E e n) (a1 a2 a3 a4 : Int32) :
    ∃ u v, f_X5_comes a1 a2 a3 a4 cx f C F K G P w xr Ks E Z = some u ∧ f_X6_comes a1 a2 a3 a4 cm e hh N mr z tl wBy wCell wFaces wFell wSign wTurns = some v ∧ u.1 = v.1 ∧ RRef u.2.2 v.2.2.1 ∧ (∀ j, j ≠ 17 → v.2.1 j = cm j) := by
  obtain ⟨s, n, hn⟩ := h
  have hn0 := hn
  obtain ⟨hs, he, hv, hc⟩ := hn
  obtain ⟨q1, q2, q3, q4, q5, q6, q7, q8, q9, q10, q11, q12, q13⟩ := hs
  have hS := hsh n q7 q3
  have main : ∀ wl : Int32, isB wl → (wl = 1 → ∃ j, j < n ∧ a3 = nI j) → ∃ u v, f_X5_comes_b29 cx f C F K G P Ks E Z w xr a1 a2 a3 a4 wl a2 a1 = some u ∧ f_X6_comes_b27 e hh N z cm mr tl wBy wCell wFaces wFell wSign wTurns a1 a2 a3 a4 wl = some v ∧ u.1 = v.1 ∧ RRef u.2.2 v.2.2.1 ∧ (∀ j, j ≠ 17 → v.2.1 j = cm j) := by
    intro wl hwl hper
    unfold f_X5_comes_b29 f_X6_comes_b27
    rcases tell_both (ct := cx) (ct2 := cm) (tl := tl) hS q3 a1 a2 wl hwl with ⟨code, tl', c1, c2, c3⟩ | ⟨q, m, tl', c1, c2, rfl, rfl, rfl, c3, c4, c5⟩
    · obtain ⟨u, v, r1, r2, r3, r4, r5⟩ := refT (cx := cx) (cm := cm) c1 hr
      rw [c2, c3]
      simp only [Option.bind_some]
      rw [if_neg r4, if_neg r5, r1, r2]
      exact ⟨_, _, rfl, rfl, rfl, r3, fun _ _ => rfl⟩
    · obtain ⟨j, hj, rfl⟩ := hper rfl
      obtain ⟨w1, w2, r, kd, t1, t2, t3, t4, t5, t6, t7⟩ := per_both (ct := cx) (cm := cm) (w := w) (wBy := wBy) (wCell := wCell) (wFaces := wFaces) (wFell := wFell) (wSign := wSign) (wTurns := wTurns) hn0 hj c1 c2 c5
      rw [c3, c4]
      simp only [Option.bind_some, if_true]
      rw [if_pos (show (0 : Int32) ≤ 1 by decide), t1, t3]
      simp only [Option.bind_some]
      rw [t2]
      simp only [Option.bind_some]
      by_cases z0 : a4 = 0
      · rw [if_pos z0, if_pos z0]
        exact ⟨_, _, rfl, rfl, t5.2.2.2.1.trans t6.1.symm, hr, t7⟩
      · rw [if_neg z0, if_neg z0]
        by_cases z1 : a4 = 1
        · rw [if_pos z1, if_pos z1]
          exact ⟨_, _, rfl, rfl, t5.2.2.2.2.1.trans t6.2.1.symm, hr, t7⟩
        · rw [if_neg z1, if_neg z1]
          exact ⟨_, _, rfl, rfl, t5.2.2.2.2.2.2.1.trans t6.2.2.2.1.symm, hr, t7⟩
  unfold f_X5_comes f_X6_comes
  rw [isWithin_eq, show f_X6_isIn a4.toInt64 0 2 = some (if 0 ≤ a4 ∧ a4 ≤ 2 then 1 else 0) from isIn_eq a4 0 2]
  rcases isOne_both (ct := cm) q3 q6 q7 a3 with ⟨j, hj, hja, i1, i2⟩ | ⟨i1, i2⟩
  · rw [i1, i2]
    simp only [Option.bind_some, if_neg one_ne0]
    by_cases c4 : 0 ≤ a4 ∧ a4 ≤ 2
    · rw [if_pos c4, if_neg one_ne0, if_neg one_ne0]
      exact main 1 (Or.inr rfl) (fun _ => ⟨j, hj, hja⟩)
    · rw [if_neg c4, if_pos rfl, if_pos rfl]
      exact main 0 (Or.inl rfl) (fun z => absurd z (by decide))
  · rw [i1, i2]
    simp only [Option.bind_some, if_true]
    exact main 0 (Or.inl rfl) (fun z => absurd z (by decide))
