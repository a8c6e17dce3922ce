-- ===== by a telling, with something changed: alike, kinds, ponds =====
theorem WX_kind {w : Nat → Int32} {kd kd2 : Nat} {left pl k : Int32} {x : WS} (h : WXs w kd left pl x k) : WXs (upd w 1 (nI kd2)) kd2 left pl x k := by
  obtain ⟨w1, w2, w3, w4, w5, w6, w7, w8, w9, w10⟩ := h
  exact ⟨upd_eq, (upd_ne (by decide)).trans w2, (upd_ne (by decide)).trans w3, (upd_ne (by decide)).trans w4, (upd_ne (by decide)).trans w5, (upd_ne (by decide)).trans w6, (upd_ne (by decide)).trans w7, (upd_ne (by decide)).trans w8, fun h => (upd_ne (by decide)).trans (w9 h), fun h => ⟨(upd_ne (by decide)).trans (w10 h).1, (upd_ne (by decide)).trans (w10 h).2.1, (w10 h).2.2⟩⟩
theorem WX_left {w : Nat → Int32} {kd : Nat} {left left2 pl k : Int32} {x : WS} (h : WXs w kd left pl x k) : WXs (upd w 2 left2) kd left2 pl x k := by
  obtain ⟨w1, w2, w3, w4, w5, w6, w7, w8, w9, w10⟩ := h
  exact ⟨(upd_ne (by decide)).trans w1, upd_eq, (upd_ne (by decide)).trans w3, (upd_ne (by decide)).trans w4, (upd_ne (by decide)).trans w5, (upd_ne (by decide)).trans w6, (upd_ne (by decide)).trans w7, (upd_ne (by decide)).trans w8, fun h => (upd_ne (by decide)).trans (w9 h), fun h => ⟨(upd_ne (by decide)).trans (w10 h).1, (upd_ne (by decide)).trans (w10 h).2.1, (w10 h).2.2⟩⟩
theorem WX_cell {w : Nat → Int32} {kd c c2 f : Nat} {left pl k : Int32} (h : WXs w kd left pl (x0S c f) k) : WXs (upd w 4 (nI c2)) kd left pl (x0S c2 f) k := by
  obtain ⟨w1, w2, w3, w4, w5, w6, w7, w8, w9, w10⟩ := h
  exact ⟨(upd_ne (by decide)).trans w1, (upd_ne (by decide)).trans w2, (upd_ne (by decide)).trans w3, upd_eq, (upd_ne (by decide)).trans w5, (upd_ne (by decide)).trans w6, (upd_ne (by decide)).trans w7, (upd_ne (by decide)).trans w8, fun h => (upd_ne (by decide)).trans (w9 h), fun h => ⟨(upd_ne (by decide)).trans (w10 h).1, (upd_ne (by decide)).trans (w10 h).2.1, (w10 h).2.2⟩⟩
theorem per_mod {ct cm f P K Wt C F G N N2 tl w0 wBy wCell wFaces wFell wSign wTurns : Nat → Int32} {E : Nat → Int64} {s n p q m kd c fc : Nat} {L : Int32} (h : IRn s n f P K Wt C F G N) (hp : p < n) (hq : q < 8) (hm : m ≤ 40) (htl : ∀ i, i < m → isSg (E (40 * q + i)) ∧ tl i = (E (40 * q + i)).toInt32) (hkd : kd ≤ 5) (hok : okw s (x0S c fc)) (hfc : F p = nI fc) (hw : WXs w0 kd L (G p) (x0S c fc) (nI 0)) (hN : ∀ j, j ≠ 91 → j ≠ 5 * p → j ≠ 5 * p + 2 → N2 j = N j) (h91 : N2 91 = L) (hk : N2 (5 * p) = nI kd) (hcc : N2 (5 * p + 2) = nI c) :
    ∃ (w2 : Nat → Int32) (r : R7) (x : WS), f_X5_follow (nI q) (nI m) ct E w0 f P = some w2 ∧ f_X6_go (nI p) (nI m) cm N2 tl wBy wCell wFaces wFell wSign wTurns = some r ∧ okw s x ∧ WXs w2 kd L (G p) x (nI m) ∧ WMs r.2.2.1 r.2.2.2.1 r.2.2.2.2.2.2 r.2.2.2.2.2.1 r.2.1 r.2.2.2.2.1 0 x ∧ (∀ j, j ≠ 17 → r.1 j = cm j) := by
  obtain ⟨hs, he, hv, hc⟩ := h
  obtain ⟨q1, q2, q3, q4, q5, q6, q7, q8, q9, q10⟩ := hs
  obtain ⟨e1, e2, e3, e4, e5⟩ := he p (by omega)
  obtain ⟨w2, r, x, t1, t2, t3, t4, t5, t6, t7, t8⟩ := tel_both (ct := ct) (cm := cm) (P := P) (wBy := wBy) (wCell := wCell) (wFaces := wFaces) (wFell := wFell) (wSign := wSign) (wTurns := wTurns) q2 q4 rfl hkd hok hw hq hm htl ((hN 90 (by omega) (by omega) (by omega)).trans q5) h91 ((hN 92 (by omega) (by omega) (by omega)).trans q9.1) (fun k hk => by
    have h1 := hk.1
    have h2 := hk.2
    rw [hN (pt k) (by unfold pt; omega) (by unfold pt; omega) (by unfold pt; omega)]
    exact hc.ok q2 hk) (show p < 8 by omega) hk hcc ((hN _ (by omega) (by omega) (by omega)).trans (e4.trans hfc)) ((hN _ (by omega) (by omega) (by omega)).trans e5)
  exact ⟨w2, r, x, t1, t2, t3, t4, t5, t6⟩
theorem standsAs_eq {a b : Int32} {w : Nat → Int32} : f_X4_standsAs a b w = some (if w 4 = a ∧ w 5 = b then 1 else 0) := by
  unfold f_X4_standsAs
  by_cases h1 : w 4 = a
  · rw [if_pos h1]
    by_cases h2 : w 5 = b
    · rw [if_pos h2, if_pos ⟨h1, h2⟩]
    · rw [if_neg h2, if_neg (fun z => h2 z.2)]
  · rw [if_neg h1, if_neg (fun z => h1 z.1)]
theorem case_alike {cx cm f P K Wt C F G N w w2 xr mr Ks Z hh z tl wBy wCell wFaces wFell wSign wTurns : Nat → Int32} {E e : Nat → Int64} (h : IRel f P K Wt C F G N) (hr : RRef xr mr) (hsh : ∀ n, N 89 = nI n → n ≤ 8 → RSh Ks Z hh z E e n) (a1 a2 a3 : Int32) :
    ∃ u v, f_X5_alike a1 a2 a3 cx f C F K G P w xr Ks E Z w2 = some u ∧ f_X6_alike a1 a2 a3 cm e hh N mr z tl wBy wCell wFaces wFell wSign wTurns = some v ∧ u.1 = v.1 ∧ RRef u.2.2.1 v.2.2.2.1 ∧ v.2.2.1 = N ∧ (∀ j, j ≠ 17 → v.2.1 j = cm j) := by
  obtain ⟨s, n, hn⟩ := h
  obtain ⟨q1, q2, q3, q4, q5, q6, q7, q8⟩ := hn.1
  have hS := hsh n q7 q3
  have hN3 : upd (upd (upd N 91 0) 91 1) 91 (N 91) = N := by
    funext j
    by_cases z : j = 91
    · rw [z, upd_eq]
    · rw [upd_ne z, upd_ne z, upd_ne z]
  have key : ∀ wl : Int32, isB wl → (wl = 1 → ∃ p, p < n ∧ a3 = nI p) → f_X0_isOne a3 f = some wl → f_X6_isPerson a3 cm N = some wl → ∃ u v, f_X5_alike a1 a2 a3 cx f C F K G P w xr Ks E Z w2 = some u ∧ f_X6_alike a1 a2 a3 cm e hh N mr z tl wBy wCell wFaces wFell wSign wTurns = some v ∧ u.1 = v.1 ∧ RRef u.2.2.1 v.2.2.2.1 ∧ v.2.2.1 = N ∧ (∀ j, j ≠ 17 → v.2.1 j = cm j) := by
    intro wl hwl hper i1 i2
    unfold f_X5_alike f_X6_alike
    rw [i1, i2]
    simp only [Option.bind_some]
    rcases tell_both (ct := cx) (ct2 := cm) (tl := tl) hS q3 a1 a2 wl hwl with ⟨code, tl', c1, c2, c3⟩ | ⟨q, m, tl', c1, c2, rfl, rfl, rfl, c3, c4, c5⟩
    · obtain ⟨u, v, r1, r2, r3, r4, r5⟩ := refT (cx := cx) (cm := cm) c1 hr
      rw [c2, c3]
      simp only [Option.bind_some]
      rw [if_neg r4, if_neg r5, r1, r2]
      exact ⟨_, _, rfl, rfl, rfl, r3, rfl, fun _ _ => rfl⟩
    · obtain ⟨p, hp, rfl⟩ := hper rfl
      obtain ⟨hs, he, hv, hc⟩ := id hn
      obtain ⟨e1, e2, e3, e4, e5⟩ := he p (by omega)
      obtain ⟨w1, kd, c, fc, b1, b2, b3, b4, b5, b6, b7⟩ := begin_eq (w := w) q3 q6 hv hp
      obtain ⟨w1', kd', c', fc', d1, d2, d3, d4, d5, d6, d7⟩ := begin_eq (w := w2) q3 q6 hv hp
      obtain ⟨v1, r1, x1, m1, m2, m3, m4, m5, m6⟩ := per_mod (ct := cx) (cm := cm) (N2 := upd N 91 0) (wBy := wBy) (wCell := wCell) (wFaces := wFaces) (wFell := wFell) (wSign := wSign) (wTurns := wTurns) hn hp c1 c2 c5 b3 b4 b7 (WX_left (left2 := 0) b2) (fun j h1 h2 h3 => upd_ne h1) upd_eq ((upd_ne (by omega)).trans (e1.trans b5)) ((upd_ne (by omega)).trans (e3.trans b6))
      obtain ⟨v2, r2, x2, n1, n2, n3, n4, n5, n6⟩ := per_mod (ct := cx) (cm := r1.1) (N2 := upd (upd N 91 0) 91 1) (wBy := r1.2.1) (wCell := r1.2.2.1) (wFaces := r1.2.2.2.1) (wFell := r1.2.2.2.2.1) (wSign := r1.2.2.2.2.2.1) (wTurns := r1.2.2.2.2.2.2) hn hp c1 c2 c5 d3 d4 d7 (WX_left (left2 := 1) d2) (fun j h1 h2 h3 => (upd_ne h1).trans (upd_ne h1)) upd_eq ((upd_ne (by omega)).trans ((upd_ne (by omega)).trans (e1.trans d5))) ((upd_ne (by omega)).trans ((upd_ne (by omega)).trans (e3.trans d6)))
      rw [c3, c4]
      simp only [Option.bind_some, if_true]
      rw [if_pos (show (0 : Int32) ≤ 1 by decide), b1, m2]
      simp only [Option.bind_some]
      rw [m1, n2]
      simp only [Option.bind_some]
      rw [d1]
      simp only [Option.bind_some]
      rw [n1]
      simp only [Option.bind_some, standsAs_eq, asNumber_eq]
      rw [n4.2.2.2.1, n4.2.2.2.2.1, m4.2.2.2.1, m4.2.2.2.2.1, n5.1, n5.2.1, m5.1, m5.2.1, hN3]
      have hfin : ∀ j, j ≠ 17 → r2.1 j = cm j := fun j hj => (n6 j hj).trans (m6 j hj)
      by_cases y1 : nI x2.1 = nI x1.1
      · rw [if_pos y1]
        by_cases y2 : nI x2.2.1 = nI x1.2.1
        · rw [if_pos y2, if_pos (show nI x1.1 = nI x2.1 ∧ nI x1.2.1 = nI x2.2.1 from ⟨y1.symm, y2.symm⟩), if_neg one_ne0]
          exact ⟨_, _, rfl, rfl, rfl, hr, rfl, hfin⟩
        · rw [if_neg y2, if_neg (show ¬ (nI x1.1 = nI x2.1 ∧ nI x1.2.1 = nI x2.2.1) from fun z => y2 z.2.symm), if_pos rfl]
          exact ⟨_, _, rfl, rfl, rfl, hr, rfl, hfin⟩
      · rw [if_neg y1, if_neg (show ¬ (nI x1.1 = nI x2.1 ∧ nI x1.2.1 = nI x2.2.1) from fun z => y1 z.1.symm), if_pos rfl]
        exact ⟨_, _, rfl, rfl, rfl, hr, rfl, hfin⟩
  rcases isOne_both (ct := cm) q3 q6 q7 a3 with ⟨j, hj, hja, i1, i2⟩ | ⟨i1, i2⟩
  · exact key 1 (Or.inr rfl) (fun _ => ⟨j, hj, hja⟩) i1 i2
  · exact key 0 (Or.inl rfl) (fun z => absurd z (by decide)) i1 i2
