-- ===== ring: two counts of signs, alike but for where one fell =====
noncomputable def SimW (x y : WS) : Prop := x.1 = y.1 ∧ x.2.1 = y.2.1 ∧ x.2.2.1 = y.2.2.1 ∧ x.2.2.2.1 = y.2.2.2.1 ∧ x.2.2.2.2.1 = y.2.2.2.2.1 ∧ (x.2.2.2.2.2 = -1 ↔ y.2.2.2.2.2 = -1)
theorem SimW.refl (x : WS) : SimW x x := ⟨rfl, rfl, rfl, rfl, rfl, Iff.rfl⟩
theorem stepS_sim {s : Nat} {P : Nat → Int32} {left old pl : Int32} {kd : Nat} {x y : WS} {sign k k2 : Int32} (h : SimW x y) (hk : ¬ k = -1) (hk2 : ¬ k2 = -1) : SimW (stepS s P left old pl kd x sign k) (stepS s P left old pl kd y sign k2) := by
  obtain ⟨x1, x2, x3, x4, x5, x6⟩ := x
  obtain ⟨y1, y2, y3, y4, y5, y6⟩ := y
  obtain ⟨h1, h2, h3, h4, h5, h6⟩ := h
  dsimp only at h1 h2 h3 h4 h5 h6
  subst h1 h2 h3 h4 h5
  unfold stepS
  dsimp only
  by_cases q : x6 = -1
  · rw [if_pos q, if_pos (h6.mp q)]
    by_cases q0 : sign = 0
    · rw [if_pos q0, if_pos q0]
      cases nxt s x1 x2 with
      | none => exact ⟨rfl, rfl, rfl, rfl, rfl, h6⟩
      | some c' =>
        refine ⟨rfl, rfl, rfl, rfl, rfl, ?_⟩
        dsimp only
        by_cases z : P c' = 0
        · rw [if_pos z, if_pos z]
        · rw [if_neg z, if_neg z]
          exact ⟨fun w => absurd w hk, fun w => absurd w hk2⟩
    · rw [if_neg q0, if_neg q0]
      by_cases q3 : sign = 3
      · rw [if_pos q3, if_pos q3]; exact ⟨rfl, rfl, rfl, rfl, rfl, h6⟩
      · rw [if_neg q3, if_neg q3]; exact ⟨rfl, rfl, rfl, rfl, rfl, h6⟩
  · rw [if_neg q, if_neg (fun w => q (h6.mpr w))]
    exact ⟨rfl, rfl, rfl, rfl, rfl, h6⟩
theorem runS_sim {s : Nat} {P : Nat → Int32} {left old pl : Int32} {kd b b2 : Nat} {g : Nat → Int32} : ∀ (j i : Nat) (x y : WS), SimW x y → b + i + j < 2147483648 → b2 + i + j < 2147483648 → SimW (runS s P left old pl kd g b i j x) (runS s P left old pl kd g b2 i j y) := by
  intro j
  induction j with
  | zero => intro i x y h _ _; exact h
  | succ j ih =>
    intro i x y h h1 h2
    show SimW (runS s P left old pl kd g b (i + 1) j _) (runS s P left old pl kd g b2 (i + 1) j _)
    exact ih _ _ _ (stepS_sim h (nI_ne1 (by omega)) (nI_ne1 (by omega))) (by omega) (by omega)
theorem ringPass {cm f P K Wt C F G N tl mr hh z : Nat → Int32} {e : Nat → Int64} {s n m p kd : Nat} (h : IRn s n f P K Wt C F G N) (hp : p < n) (hkd : kd ≤ 5) (hK : K p = nI kd) (hm : m ≤ 40) (htl : ∀ i, i < m → is4 (tl i)) (k43 : (Nat → Int32) → (Nat → Int32) → (Nat → Int32) → (Nat → Int32) → (Nat → Int32) → (Nat → Int32) → (Nat → Int32) → (Nat → Int32) → (Nat → Int32) → Int32 → Int32 → Int32 → Option (Int32 × (Nat → Int32) × (Nat → Int32) × (Nat → Int32) × (Nat → Int32) × (Nat → Int32) × (Nat → Int32) × (Nat → Int32) × (Nat → Int32) × (Nat → Int32))) (l5 : Int32) : ∀ (j a : Nat) (ct wBy wCell wFaces wFell wSign wTurns : Nat → Int32) (x : WS), j ≤ m → j < a → okw s x → x.2.2.1 + j < 2147483647 → WMs wCell wFaces wTurns wSign wBy wFell 0 x → (∀ i, i ≠ 17 → ct i = cm i) →
    ∃ R : R7, f_X6_ring_b53 e hh N z k43 a ct mr tl wBy wCell wFaces wFell wSign wTurns (nI m) (nI p) l5 (nI (m - j)) = f_X6_ring_b53 e hh N z k43 1 R.1 mr tl R.2.1 R.2.2.1 R.2.2.2.1 R.2.2.2.2.1 R.2.2.2.2.2.1 R.2.2.2.2.2.2 (nI m) (nI p) l5 (nI m) ∧ WMs R.2.2.1 R.2.2.2.1 R.2.2.2.2.2.2 R.2.2.2.2.2.1 R.2.1 R.2.2.2.2.1 0 (runS s P (f 1) (f 2) (G p) kd tl 0 (m - j) j x) ∧ (runS s P (f 1) (f 2) (G p) kd tl 0 (m - j) j x).2.2.1 ≤ x.2.2.1 + j ∧ (∀ i, i ≠ 17 → R.1 i = cm i) := by
  obtain ⟨q1, q2, q3, q4, q5, q6, q7, q8, q9, q10⟩ := h.1
  obtain ⟨e1, e2, e3, e4, e5⟩ := h.2.1 p (by omega)
  intro j
  induction j with
  | zero =>
    intro a ct wBy wCell wFaces wFell wSign wTurns x _ ha hok htx hmx hct
    obtain ⟨k, rfl⟩ : ∃ k, a = k + 1 := ⟨a - 1, by omega⟩
    refine ⟨(ct, wBy, wCell, wFaces, wFell, wSign, wTurns), ?_, hmx, Nat.le_refl _, hct⟩
    rw [f_X6_ring_b53, show (1 : Nat) = 0 + 1 from rfl, f_X6_ring_b53, Nat.sub_zero, if_pos (Int32.le_refl _), if_pos (Int32.le_refl _)]
  | succ j ih =>
    intro a ct wBy wCell wFaces wFell wSign wTurns x hj ha hok htx hmx hct
    obtain ⟨k, rfl⟩ : ∃ k, a = k + 1 := ⟨a - 1, by omega⟩
    obtain ⟨R, b1, b2, b3, b4, b5⟩ := X6_step_eq (ct := ct) (k := nI (m - (j + 1))) q2 q5 q8.1 q9.1 (fun k hk => h.2.2.2.ok q2 hk) (show 0 < 2 by decide) (show p < 8 by omega) hkd (e1.trans hK) e5 (htl (m - (j + 1)) (by omega)) hok (by omega) hmx
    have e9 : nI (m - (j + 1)) + (1 : Int32) = nI (m - j) := by rw [nI_1]; congr 1; omega
    have ht2 : (stepS s P (f 1) (f 2) (G p) kd x (tl (m - (j + 1))) (nI (m - (j + 1)))).2.2.1 ≤ x.2.2.1 + 1 := stepS_t
    rw [f_X6_ring_b53, if_neg (fun z => by have := (nI_leI (by omega) (by omega)).mp z; omega), if_pos (inb_nI (show m - (j + 1) < 40 by omega) (by decide)), nI_cl (by omega), show f_X6_step 0 (nI p) (tl (m - (j + 1))) (nI (m - (j + 1))) ct N wBy wCell wFaces wFell wSign wTurns = some R from b1, ob, e9]
    obtain ⟨R2, r1, r2, r3, r4⟩ := ih k R.1 R.2.1 R.2.2.1 R.2.2.2.1 R.2.2.2.2.1 R.2.2.2.2.2.1 R.2.2.2.2.2.2 _ (by omega) (by omega) (stepS_ok (kd := kd) (left := f 1) (old := f 2) (pl := G p) (P := P) q2 hok) (by omega) b3 (fun i hi => (b2.1 i hi).trans (hct i hi))
    have e10 : m - (j + 1) + 1 = m - j := by omega
    have e11 : (0 : Nat) + (m - (j + 1)) = m - (j + 1) := Nat.zero_add _
    have hrun : runS s P (f 1) (f 2) (G p) kd tl 0 (m - (j + 1)) (j + 1) x = runS s P (f 1) (f 2) (G p) kd tl 0 (m - j) j (stepS s P (f 1) (f 2) (G p) kd x (tl (m - (j + 1))) (nI (m - (j + 1)))) := by
      show runS s P (f 1) (f 2) (G p) kd tl 0 (m - (j + 1) + 1) j (stepS s P (f 1) (f 2) (G p) kd x (tl (m - (j + 1))) (nI (0 + (m - (j + 1))))) = _
      rw [e10, e11]
    rw [hrun]
    exact ⟨R2, r1, r2, by omega, r4⟩
theorem ringL {cx cm f P K Wt C F G N tl xr mr Ks Z hh z : Nat → Int32} {E e : Nat → Int64} {s n q m p kd c0 f0 : Nat} (h : IRn s n f P K Wt C F G N) (hp : p < n) (hkd : kd ≤ 5) (hK : K p = nI kd) (hC : C p = nI c0) (hF : F p = nI f0) (hq : q < 8) (hm : m ≤ 40) (htl : ∀ i, i < m → isSg (E (40 * q + i)) ∧ tl i = (E (40 * q + i)).toInt32) : ∀ (j a b : Nat) (w ct wBy wCell wFaces wFell wSign wTurns : Nat → Int32) (x y : WS), j ≤ 20 → j < a → j < b → okw s x → okw s y → SimW x y → y.2.2.1 ≤ m * (20 - j) → WXs w kd (f 1) (G p) x (nI (m * (20 - j))) → WMs wCell wFaces wTurns wSign wBy wFell 0 y → (∀ i, i ≠ 17 → ct i = cm i) →
    ∃ u v, f_X5_ring_b39 cx f C F K G P Ks E Z a w xr (nI q) (nI m) (nI p) (nI (21 - j)) = some u ∧ f_X6_ring_b43 e hh N z b ct mr tl wBy wCell wFaces wFell wSign wTurns (nI m) (nI p) (nI (21 - j)) = some v ∧ u.1 = v.1 ∧ u.2.2 = xr ∧ v.2.2.1 = mr ∧ (∀ i, i ≠ 17 → v.2.1 i = cm i) := by
  have hn8 := h.1.2.2.1
  obtain ⟨d1, d2, d3, d4, d5⟩ := h.2.1 p (by omega)
  intro j
  induction j with
  | zero =>
    intro a b w ct wBy wCell wFaces wFell wSign wTurns x y _ ha hb hok hoky hsim htx hw hmx hct
    obtain ⟨k, rfl⟩ : ∃ k, a = k + 1 := ⟨a - 1, by omega⟩
    obtain ⟨k2, rfl⟩ : ∃ k, b = k + 1 := ⟨b - 1, by omega⟩
    rw [f_X5_ring_b39, f_X6_ring_b43, if_pos (show (20 : Int32) < nI (21 - 0) by decide), if_pos (show (20 : Int32) < nI (21 - 0) by decide)]
    exact ⟨_, _, rfl, rfl, rfl, rfl, rfl, hct⟩
  | succ j ih =>
    intro a b w ct wBy wCell wFaces wFell wSign wTurns x y hj ha hb hok hoky hsim htx hw hmx hct
    obtain ⟨k, rfl⟩ : ∃ k, a = k + 1 := ⟨a - 1, by omega⟩
    obtain ⟨k2, rfl⟩ : ∃ k, b = k + 1 := ⟨b - 1, by omega⟩
    obtain ⟨kk, hk⟩ := FU_s
    have hT : m * (20 - (j + 1)) ≤ 800 := Nat.le_trans (Nat.mul_le_mul hm (show 20 - (j + 1) ≤ 20 by omega)) (by decide)
    have hM : m * (20 - j) = m * (20 - (j + 1)) + m := by rw [show 20 - j = (20 - (j + 1)) + 1 by omega, Nat.mul_succ]
    have hno : ¬ (20 : Int32) < nI (21 - (j + 1)) := fun z => by have := (nI_ltI (a := 20) (by omega) (by omega)).mp z; omega
    have e1 : nI (21 - (j + 1)) + (1 : Int32) = nI (21 - j) := by rw [nI_1]; congr 1; omega
    obtain ⟨w', f1, f2⟩ := follow_eq (cx := cx) (b := m * (20 - (j + 1))) h hkd hq hm htl hok hw
    have h4 : ∀ i, i < m → is4 (tl i) := fun i hi => by rw [(htl i hi).2]; exact isSg_of (htl i hi).1
    obtain ⟨R, r1, r2, r3, r4⟩ := ringPass (cm := cm) (mr := mr) (hh := hh) (z := z) (e := e) h hp hkd hK hm h4 (f_X6_ring_b43 e hh N z k2) (nI (21 - (j + 1))) m FU ct wBy wCell wFaces wFell wSign wTurns y (Nat.le_refl _) (by omega) hoky (by omega) hmx hct
    rw [Nat.sub_self] at r1 r2 r3
    have hs2 : SimW (runS s P (f 1) (f 2) (G p) kd tl (m * (20 - (j + 1))) 0 m x) (runS s P (f 1) (f 2) (G p) kd tl 0 0 m y) := runS_sim m 0 x y hsim (by omega) (by omega)
    have hx2 := runS_ok (P := P) (left := f 1) (old := f 2) (pl := G p) (kd := kd) (g := tl) (b := m * (20 - (j + 1))) h.1.2.1 m 0 x hok
    have hy2 := runS_ok (P := P) (left := f 1) (old := f 2) (pl := G p) (kd := kd) (g := tl) (b := 0) h.1.2.1 m 0 y hoky
    have h8 : p < 8 := by omega
    rw [f_X5_ring_b39, f_X6_ring_b43, if_neg hno, if_neg hno, f1, ob]
    rw [show f_X6_ring_b53 e hh N z (f_X6_ring_b43 e hh N z k2) FU ct mr tl wBy wCell wFaces wFell wSign wTurns (nI m) (nI p) (nI (21 - (j + 1))) 0 = _ from r1]
    rw [f_X6_ring_b53, if_pos (Int32.le_refl _), (mkind h8).2.2.1, (mkind h8).2.2.2.1]
    simp only [ob, if_pos (ix8 h8).1, (ix8 h8).2, standsAs_eq, f_X6_ring_b111, e1]
    rw [f2.2.2.2.1, f2.2.2.2.2.1, r2.1, r2.2.1, d3, d4, ← hs2.1, ← hs2.2.1]
    obtain ⟨u, v, g1, g2, g3, g4, g5, g6⟩ := ih k k2 w' R.1 R.2.1 R.2.2.1 R.2.2.2.1 R.2.2.2.2.1 R.2.2.2.2.2.1 R.2.2.2.2.2.2 _ _ (by omega) (by omega) (by omega) hx2 hy2 hs2 (by omega) (by rw [hM]; exact f2) r2 r4
    by_cases c1 : nI (runS s P (f 1) (f 2) (G p) kd tl (m * (20 - (j + 1))) 0 m x).1 = C p
    · rw [if_pos c1]
      by_cases c2 : nI (runS s P (f 1) (f 2) (G p) kd tl (m * (20 - (j + 1))) 0 m x).2.1 = F p
      · rw [if_pos c2, if_pos (show nI (runS s P (f 1) (f 2) (G p) kd tl (m * (20 - (j + 1))) 0 m x).1 = C p ∧ nI (runS s P (f 1) (f 2) (G p) kd tl (m * (20 - (j + 1))) 0 m x).2.1 = F p from ⟨c1, c2⟩), if_neg one_ne0]
        exact ⟨_, _, rfl, rfl, rfl, rfl, rfl, r4⟩
      · rw [if_neg c2, if_neg (show ¬ (nI (runS s P (f 1) (f 2) (G p) kd tl (m * (20 - (j + 1))) 0 m x).1 = C p ∧ nI (runS s P (f 1) (f 2) (G p) kd tl (m * (20 - (j + 1))) 0 m x).2.1 = F p) from fun z => c2 z.2), if_pos rfl]
        exact ⟨u, v, g1, g2, g3, g4, g5, g6⟩
    · rw [if_neg c1, if_neg (show ¬ (nI (runS s P (f 1) (f 2) (G p) kd tl (m * (20 - (j + 1))) 0 m x).1 = C p ∧ nI (runS s P (f 1) (f 2) (G p) kd tl (m * (20 - (j + 1))) 0 m x).2.1 = F p) from fun z => c1 z.1), if_pos rfl]
      exact ⟨u, v, g1, g2, g3, g4, g5, g6⟩
theorem case_ring {cx cm f P K Wt C F G N w xr mr Ks Z hh z tl wBy wCell wFaces wFell wSign wTurns : Nat → Int32} {E e : Nat → Int64} (h : IRel f P K Wt C F G N) (hr : RRef xr mr) (hsh : ∀ n, N 89 = nI n → n ≤ 8 → RSh Ks Z hh z E e n) (a1 a2 a3 : Int32) :
    ∃ u v, f_X5_ring a1 a2 a3 cx f C F K G P w xr Ks E Z = some u ∧ f_X6_ring a1 a2 a3 cm e hh N mr z tl wBy wCell wFaces wFell wSign wTurns = some v ∧ u.1 = v.1 ∧ RRef u.2.2 v.2.2.1 ∧ (∀ j, j ≠ 17 → v.2.1 j = cm j) := by
  obtain ⟨s, n, hn⟩ := h
  obtain ⟨q1, q2, q3, q4, q5, q6, q7, q8⟩ := hn.1
  have hS := hsh n q7 q3
  have key : ∀ wl : Int32, isB wl → (wl = 1 → ∃ p, p < n ∧ a3 = nI p) → f_X0_isOne a3 f = some wl → f_X6_isPerson a3 cm N = some wl → ∃ u v, f_X5_ring a1 a2 a3 cx f C F K G P w xr Ks E Z = some u ∧ f_X6_ring a1 a2 a3 cm e hh N mr z tl wBy wCell wFaces wFell wSign wTurns = some v ∧ u.1 = v.1 ∧ RRef u.2.2 v.2.2.1 ∧ (∀ j, j ≠ 17 → v.2.1 j = cm j) := by
    intro wl hwl hper i1 i2
    unfold f_X5_ring f_X6_ring
    rw [i1, i2]
    simp only [ob]
    rcases tell_both (ct := cx) (ct2 := cm) (tl := tl) hS q3 a1 a2 wl hwl with ⟨code, tl', c1, c2, c3⟩ | ⟨q, m, tl', c1, c2, rfl, rfl, rfl, c3, c4, c5⟩
    · obtain ⟨u, v, r1, r2, r3, r4, r5⟩ := refT (cx := cx) (cm := cm) c1 hr
      rw [c2, c3]
      simp only [ob]
      rw [if_neg r4, if_neg r5, r1, r2]
      exact ⟨_, _, rfl, rfl, rfl, r3, fun _ _ => rfl⟩
    · obtain ⟨p, hp, rfl⟩ := hper rfl
      obtain ⟨k, hk⟩ := FU_s
      obtain ⟨w1, kd, c, fc, a, b, d, g, t1, t2, t3, t4, t5, t6, t7, t8, t9, t10, t11, t12⟩ := begin_both (ct := cm) (w := w) (wBy := wBy) (wCell := wCell) (wFaces := wFaces) (wFell := wFell) (wSign := wSign) (wTurns := wTurns) hn hp 0 (by decide)
      rw [c3, c4]
      simp only [ob, if_true]
      rw [if_pos (show (0 : Int32) ≤ 1 by decide), t1, t2, t3]
      simp only [ob]
      rw [show f_X6_start 0 (nI c) (nI fc) cm wCell wFaces wFell wTurns = some (a, b, d, g) from t4]
      simp only [ob]
      obtain ⟨u, v, g1, g2, g3, g4, g5, g6⟩ := ringL (cx := cx) (cm := cm) (xr := xr) (mr := mr) (Ks := Ks) (Z := Z) (hh := hh) (z := z) (e := e) hn hp t7 t9 t10 t11 c1 c2 c5 20 FU FU w1 cm wBy a b d wSign g (x0S c fc) (x0S c fc) (Nat.le_refl _) (by omega) (by omega) t8 t8 (SimW.refl _) (by rw [Nat.sub_self]; exact Nat.zero_le _) (by rw [Nat.sub_self]; exact t5) t6 (fun _ _ => rfl)
      exact ⟨u, v, g1, g2, g3, by rw [g4, g5]; exact hr, g6⟩
  rcases isOne_both (ct := cm) q3 q6 q7 a3 with ⟨j, hj, hja, i1, i2⟩ | ⟨i1, i2⟩
  · exact key 1 (Or.inr rfl) (fun _ => ⟨j, hj, hja⟩) i1 i2
  · exact key 0 (Or.inl rfl) (fun z => absurd z (by decide)) i1 i2
