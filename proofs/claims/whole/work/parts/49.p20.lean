-- ===== kinds =====
theorem kindsL0 {cx cm f P K Wt C F G N tl xr mr Ks Z hh z : Nat → Int32} {E e : Nat → Int64} {s n q m p : Nat} {cl : Int32} (h : IRn s n f P K Wt C F G N) (hp : p < n) (hq : q < 8) (hm : m ≤ 40) (htl : ∀ i, i < m → isSg (E (40 * q + i)) ∧ tl i = (E (40 * q + i)).toInt32) : ∀ (j a b : Nat) (w ct N2 wBy wCell wFaces wFell wSign wTurns : Nat → Int32) (acc : Int32), j ≤ 6 → j < a → j < b → (∀ i, i ≠ 17 → ct i = cm i) → (∀ i, i ≠ 5 * p → N2 i = N i) →
    ∃ u v, f_X5_kinds_b64 cx f C F K G P Ks E Z a w xr (nI q) (nI m) (nI p) cl 0 acc (nI (6 - j)) = some u ∧ f_X6_kinds_b83 e hh z b ct N2 mr tl wBy wCell wFaces wFell wSign wTurns (nI m) (nI p) cl 0 (nI (5 * p)) (N (5 * p)) acc (nI (6 - j)) = some v ∧ u.1 = v.1 ∧ u.2.2 = xr ∧ v.2.2.2.1 = mr ∧ v.2.2.1 = N ∧ (∀ i, i ≠ 17 → v.2.1 i = cm i) := by
  obtain ⟨hs, he, hv, hc⟩ := id h
  obtain ⟨q1, q2, q3, q4, q5, q6, q7, q8, q9, q10⟩ := hs
  obtain ⟨e1, e2, e3, e4, e5⟩ := he p (by omega)
  have hin : inb (nI (5 * p)) 97 := inb_nI (by omega) (by decide)
  have hcl : (nI (5 * p)).toNatClampNeg = 5 * p := nI_cl (by omega)
  intro j
  induction j with
  | zero =>
    intro a b w ct N2 wBy wCell wFaces wFell wSign wTurns acc _ ha hb hct hN2
    obtain ⟨k, rfl⟩ : ∃ k, a = k + 1 := ⟨a - 1, by omega⟩
    obtain ⟨k2, rfl⟩ : ∃ k, b = k + 1 := ⟨b - 1, by omega⟩
    rw [f_X5_kinds_b64, f_X6_kinds_b83]
    simp only [if_true, f_X5_kinds_b77, f_X6_kinds_b96, if_pos (show (6 : Int32) ≤ nI (6 - 0) by decide), if_pos hin, hcl]
    refine ⟨_, _, rfl, rfl, rfl, rfl, rfl, ?_, hct⟩
    funext i
    dsimp only
    by_cases y : i = 5 * p
    · rw [y, upd_eq]
    · rw [upd_ne y]; exact hN2 i y
  | succ j ih =>
    intro a b w ct N2 wBy wCell wFaces wFell wSign wTurns acc hj ha hb hct hN2
    obtain ⟨k, rfl⟩ : ∃ k, a = k + 1 := ⟨a - 1, by omega⟩
    obtain ⟨k2, rfl⟩ : ∃ k, b = k + 1 := ⟨b - 1, by omega⟩
    have hno : ¬ (6 : Int32) ≤ nI (6 - (j + 1)) := fun z => by have := (nI_leI (a := 6) (by omega) (by omega)).mp z; omega
    obtain ⟨w1, kd, c, fc, b1, b2, b3, b4, b5, b6, b7⟩ := begin_eq (w := w) q3 q6 hv hp
    have e : nI (6 - (j + 1)) + (1 : Int32) = nI (6 - j) := by rw [nI_1]; congr 1; omega
    have hN3 : ∀ i, i ≠ 5 * p → upd N2 (5 * p) (nI (6 - (j + 1))) i = N i := fun i hi => (upd_ne hi).trans (hN2 i hi)
    obtain ⟨v1, r1, x1, m1, m2, m3, m4, m5, m6⟩ := per_mod (ct := cx) (cm := ct) (N2 := upd N2 (5 * p) (nI (6 - (j + 1)))) (wBy := wBy) (wCell := wCell) (wFaces := wFaces) (wFell := wFell) (wSign := wSign) (wTurns := wTurns) h hp hq hm htl (kd := 6 - (j + 1)) (by omega) b4 b7 (WX_kind b2) (fun i h1 h2 h3 => hN3 i h2) ((hN3 91 (by omega)).trans q8.1) upd_eq ((hN3 _ (by omega)).trans (e3.trans b6))
    rw [f_X5_kinds_b64, f_X6_kinds_b83]
    simp only [if_true, f_X5_kinds_b77, f_X6_kinds_b96, if_neg hno, if_pos hin, hcl]
    rw [b1, m2]
    simp only [Option.bind_some, if_true, f_X5_kinds_b114]
    rw [m1]
    simp only [Option.bind_some, f_X5_kinds_b145, f_X6_kinds_b135]
    rw [m4.2.2.2.1, m5.1, e]
    have go := fun acc => ih k k2 v1 r1.1 (upd N2 (5 * p) (nI (6 - (j + 1)))) r1.2.1 r1.2.2.1 r1.2.2.2.1 r1.2.2.2.2.1 r1.2.2.2.2.2.1 r1.2.2.2.2.2.2 acc (by omega) (by omega) (by omega) (fun i hi => (m6 i hi).trans (hct i hi)) hN3
    by_cases y : nI x1.1 = cl
    · rw [if_pos y, if_pos y]
      exact go _
    · rw [if_neg y, if_neg y, show acc ||| (0 : Int32) = acc from Int32.or_zero]
      exact go _
theorem kindsL1 {cx cm f P K Wt C F G N tl xr mr Ks Z hh z : Nat → Int32} {E e : Nat → Int64} {s n q m p : Nat} {cl : Int32} (h : IRn s n f P K Wt C F G N) (hp : p < n) (hq : q < 8) (hm : m ≤ 40) (htl : ∀ i, i < m → isSg (E (40 * q + i)) ∧ tl i = (E (40 * q + i)).toInt32) : ∀ (j a b : Nat) (w ct N2 wBy wCell wFaces wFell wSign wTurns : Nat → Int32) (acc : Int32), j ≤ 2 → j < a → j < b → (∀ i, i ≠ 17 → ct i = cm i) → (∀ i, i ≠ 91 → N2 i = N i) →
    ∃ u v, f_X5_kinds_b64 cx f C F K G P Ks E Z a w xr (nI q) (nI m) (nI p) cl 1 acc (nI (2 - j)) = some u ∧ f_X6_kinds_b83 e hh z b ct N2 mr tl wBy wCell wFaces wFell wSign wTurns (nI m) (nI p) cl 1 (nI (91)) (N (91)) acc (nI (2 - j)) = some v ∧ u.1 = v.1 ∧ u.2.2 = xr ∧ v.2.2.2.1 = mr ∧ v.2.2.1 = N ∧ (∀ i, i ≠ 17 → v.2.1 i = cm i) := by
  obtain ⟨hs, he, hv, hc⟩ := id h
  obtain ⟨q1, q2, q3, q4, q5, q6, q7, q8, q9, q10⟩ := hs
  obtain ⟨e1, e2, e3, e4, e5⟩ := he p (by omega)
  have hin : inb (nI (91)) 97 := inb_nI (by omega) (by decide)
  have hcl : (nI (91)).toNatClampNeg = 91 := nI_cl (by omega)
  intro j
  induction j with
  | zero =>
    intro a b w ct N2 wBy wCell wFaces wFell wSign wTurns acc _ ha hb hct hN2
    obtain ⟨k, rfl⟩ : ∃ k, a = k + 1 := ⟨a - 1, by omega⟩
    obtain ⟨k2, rfl⟩ : ∃ k, b = k + 1 := ⟨b - 1, by omega⟩
    rw [f_X5_kinds_b64, f_X6_kinds_b83]
    simp only [if_neg one_ne0, f_X5_kinds_b77, f_X6_kinds_b96, if_pos (show (2 : Int32) ≤ nI (2 - 0) by decide), if_pos hin, hcl]
    refine ⟨_, _, rfl, rfl, rfl, rfl, rfl, ?_, hct⟩
    funext i
    dsimp only
    by_cases y : i = 91
    · rw [y, upd_eq]
    · rw [upd_ne y]; exact hN2 i y
  | succ j ih =>
    intro a b w ct N2 wBy wCell wFaces wFell wSign wTurns acc hj ha hb hct hN2
    obtain ⟨k, rfl⟩ : ∃ k, a = k + 1 := ⟨a - 1, by omega⟩
    obtain ⟨k2, rfl⟩ : ∃ k, b = k + 1 := ⟨b - 1, by omega⟩
    have hno : ¬ (2 : Int32) ≤ nI (2 - (j + 1)) := fun z => by have := (nI_leI (a := 2) (by omega) (by omega)).mp z; omega
    obtain ⟨w1, kd, c, fc, b1, b2, b3, b4, b5, b6, b7⟩ := begin_eq (w := w) q3 q6 hv hp
    have e : nI (2 - (j + 1)) + (1 : Int32) = nI (2 - j) := by rw [nI_1]; congr 1; omega
    have hN3 : ∀ i, i ≠ 91 → upd N2 (91) (nI (2 - (j + 1))) i = N i := fun i hi => (upd_ne hi).trans (hN2 i hi)
    obtain ⟨v1, r1, x1, m1, m2, m3, m4, m5, m6⟩ := per_mod (ct := cx) (cm := ct) (N2 := upd N2 (91) (nI (2 - (j + 1)))) (wBy := wBy) (wCell := wCell) (wFaces := wFaces) (wFell := wFell) (wSign := wSign) (wTurns := wTurns) h hp hq hm htl b3 b4 b7 (WX_left (left2 := nI (2 - (j + 1))) b2) (fun i h1 h2 h3 => hN3 i h1) upd_eq ((hN3 _ (by omega)).trans (e1.trans b5)) ((hN3 _ (by omega)).trans (e3.trans b6))
    rw [f_X5_kinds_b64, f_X6_kinds_b83]
    simp only [if_neg one_ne0, f_X5_kinds_b77, f_X6_kinds_b96, if_neg hno, if_pos hin, hcl]
    rw [b1, m2]
    simp only [Option.bind_some, if_neg one_ne0, f_X5_kinds_b114]
    rw [m1]
    simp only [Option.bind_some, f_X5_kinds_b145, f_X6_kinds_b135]
    rw [m4.2.2.2.1, m5.1, e]
    have go := fun acc => ih k k2 v1 r1.1 (upd N2 (91) (nI (2 - (j + 1)))) r1.2.1 r1.2.2.1 r1.2.2.2.1 r1.2.2.2.2.1 r1.2.2.2.2.2.1 r1.2.2.2.2.2.2 acc (by omega) (by omega) (by omega) (fun i hi => (m6 i hi).trans (hct i hi)) hN3
    by_cases y : nI x1.1 = cl
    · rw [if_pos y, if_pos y]
      exact go _
    · rw [if_neg y, if_neg y, show acc ||| (0 : Int32) = acc from Int32.or_zero]
      exact go _
theorem case_kinds {cx cm f P K Wt C F G N w xr mr Ks Z hh z tl wBy wCell wFaces wFell wSign wTurns : Nat → Int32} {E e : Nat → Int64} (h : IRel f P K Wt C F G N) (hr : RRef xr mr) (hsh : ∀ n, N 89 = nI n → n ≤ 8 → RSh Ks Z hh z E e n) (a1 a2 a3 a4 a5 : Int32) :
    ∃ u v, f_X5_kinds a1 a2 a3 a4 a5 cx f C F K G P w xr Ks E Z = some u ∧ f_X6_kinds a1 a2 a3 a4 a5 cm e hh N mr z tl wBy wCell wFaces wFell wSign wTurns = some v ∧ u.1 = v.1 ∧ RRef u.2.2 v.2.2.2.1 ∧ v.2.2.1 = N ∧ (∀ j, j ≠ 17 → v.2.1 j = cm j) := by
  obtain ⟨s, n, hn⟩ := h
  obtain ⟨q1, q2, q3, q4, q5, q6, q7, q8⟩ := hn.1
  have hS := hsh n q7 q3
  have main : ∀ wl : Int32, isB wl → (wl = 1 → (∃ p, p < n ∧ a3 = nI p) ∧ (a5 = 0 ∨ a5 = 1)) → ∃ u v, f_X5_kinds_b41 cx f C F K G P Ks E Z w xr a1 a2 a3 a4 a5 wl a2 a1 = some u ∧ f_X6_kinds_b34 e hh z cm N mr tl wBy wCell wFaces wFell wSign wTurns a1 a2 a3 a4 a5 wl = some v ∧ u.1 = v.1 ∧ RRef u.2.2 v.2.2.2.1 ∧ v.2.2.1 = N ∧ (∀ j, j ≠ 17 → v.2.1 j = cm j) := by
    intro wl hwl hper
    unfold f_X5_kinds_b41 f_X6_kinds_b34
    rcases tell_both (ct := cx) (ct2 := cm) (tl := tl) hS q3 a1 a2 wl hwl with ⟨code, tl', c1, c2, c3⟩ | ⟨q, m, tl', c1, c2, rfl, rfl, rfl, c3, c4, c5⟩
    · obtain ⟨u, v, r1, r2, r3, r4, r5⟩ := refT (cx := cx) (cm := cm) c1 hr
      rw [c2, c3]
      simp only [Option.bind_some]
      rw [if_neg r4, if_neg r5, r1, r2]
      exact ⟨_, _, rfl, rfl, rfl, r3, rfl, fun _ _ => rfl⟩
    · obtain ⟨⟨p, hp, rfl⟩, h5⟩ := hper rfl
      obtain ⟨k, hk⟩ := FU_s
      rw [c3, c4]
      simp only [Option.bind_some, if_true, if_pos (show (0 : Int32) ≤ 1 by decide)]
      rcases h5 with rfl | rfl
      · simp only [if_true, f_X6_kinds_b66, show (5 : Int32) * nI p = nI (5 * p) from pk_mul 5 p, if_pos (inb_nI (show 5 * p < 97 by omega) (show 97 ≤ 2147483648 by decide)), nI_cl (show 5 * p < 2147483648 by omega)]
        obtain ⟨u, v, g1, g2, g3, g4, g5, g6, g7⟩ := kindsL0 (cx := cx) (cm := cm) (xr := xr) (mr := mr) (Ks := Ks) (Z := Z) (hh := hh) (z := z) (e := e) (cl := a4) hn hp c1 c2 c5 6 FU FU w cm N wBy wCell wFaces wFell wSign wTurns 0 (Nat.le_refl _) (by omega) (by omega) (fun _ _ => rfl) (fun _ _ => rfl)
        rw [show nI (6 - 6) = 0 from rfl] at g1 g2
        exact ⟨u, v, g1, g2, g3, by rw [g4, g5]; exact hr, g6, g7⟩
      · simp only [if_neg one_ne0, f_X6_kinds_b66, if_pos (show inb (91 : Int32) 97 by decide)]
        obtain ⟨u, v, g1, g2, g3, g4, g5, g6, g7⟩ := kindsL1 (cx := cx) (cm := cm) (xr := xr) (mr := mr) (Ks := Ks) (Z := Z) (hh := hh) (z := z) (e := e) (cl := a4) hn hp c1 c2 c5 2 FU FU w cm N wBy wCell wFaces wFell wSign wTurns 0 (Nat.le_refl _) (by omega) (by omega) (fun _ _ => rfl) (fun _ _ => rfl)
        rw [show nI (2 - 2) = 0 from rfl] at g1 g2
        rw [show nI 91 = (91 : Int32) from rfl] at g2
        exact ⟨u, v, g1, g2, g3, by rw [g4, g5]; exact hr, g6, g7⟩
  have no := main 0 (Or.inl rfl) (fun z => absurd z (by decide))
  unfold f_X5_kinds f_X6_kinds
  rw [isWithin_eq, show f_X6_isIn a5.toInt64 0 1 = some (if 0 ≤ a5 ∧ a5 ≤ 1 then 1 else 0) from isIn_eq a5 0 1]
  rcases isOne_both (ct := cm) q3 q6 q7 a3 with ⟨j, hj, hja, i1, i2⟩ | ⟨i1, i2⟩
  · rw [i1, i2]
    simp only [Option.bind_some, if_neg one_ne0]
    rcases isCell_both (t := cm) q2 q4 q5 a4 with ⟨k, hk70, hk, hka, k1, k2⟩ | ⟨k1, k2⟩
    · rw [k1, k2]
      simp only [Option.bind_some, if_neg one_ne0]
      by_cases c2 : 0 ≤ a5 ∧ a5 ≤ 1
      · rw [if_pos c2, if_neg one_ne0, if_neg one_ne0]
        obtain ⟨v, hv, hva⟩ := i32_nat (n := 1) c2.1 c2.2 (by decide)
        refine main 1 (Or.inr rfl) (fun _ => ⟨⟨j, hj, hja⟩, ?_⟩)
        rcases (show v = 0 ∨ v = 1 by omega) with rfl | rfl
        · exact Or.inl hva
        · exact Or.inr hva
      · rw [if_neg c2, if_pos rfl, if_pos rfl]
        exact no
    · rw [k1, k2]
      simp only [Option.bind_some, if_true]
      exact no
  · rw [i1, i2]
    simp only [Option.bind_some, if_true]
    exact no
