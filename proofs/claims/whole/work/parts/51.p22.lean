-- ===== ponds =====
theorem pondsL {cx cm f P K Wt C F G N tl xr mr Ks Z hh z : Nat → Int32} {E e : Nat → Int64} {s n q m p : Nat} (h : IRn s n f P K Wt C F G N) (hp : p < n) (hq : q < 8) (hm : m ≤ 40) (htl : ∀ i, i < m → isSg (E (40 * q + i)) ∧ tl i = (E (40 * q + i)).toInt32) : ∀ (j a b : Nat) (w ct N2 wBy wCell wFaces wFell wSign wTurns : Nat → Int32) (acc : Int32), j ≤ 67 → j + 4 < a → j < b → (∀ i, i ≠ 17 → ct i = cm i) → (∀ i, i ≠ 5 * p + 2 → N2 i = N i) →
    ∃ u v, f_X5_ponds_b34 cx f C F K G P Ks E Z a w xr (nI q) (nI m) (nI p) acc (nI (67 - j)) = some u ∧ f_X6_ponds_b38 e hh z b ct N2 mr tl wBy wCell wFaces wFell wSign wTurns (nI m) (nI p) (N (5 * p + 2)) acc (nI (67 - j)) = some v ∧ u.1 = v.1 ∧ u.2.2 = xr ∧ v.2.2.2.1 = mr ∧ v.2.2.1 = N ∧ (∀ i, i ≠ 17 → v.2.1 i = cm i) := by
  obtain ⟨hs, he, hv, hc⟩ := id h
  obtain ⟨q1, q2, q3, q4, q5, q6, q7, q8, q9, q10⟩ := hs
  obtain ⟨e1, e2, e3, e4, e5⟩ := he p (by omega)
  have hx := ixN (p := p) (q := 2) (by omega) (by decide)
  have hx1 : (5 : Int32) * nI p + 2 = nI (5 * p + 2) := hx.1
  intro j
  induction j with
  | zero =>
    intro a b w ct N2 wBy wCell wFaces wFell wSign wTurns acc _ ha hb hct hN2
    obtain ⟨k2, rfl⟩ : ∃ k, b = k + 1 := ⟨b - 1, by omega⟩
    rw [ponds_end q2 q4 _ _ _ _ a (by omega), f_X6_ponds_b38, if_pos (show (67 : Int32) ≤ nI (67 - 0) by decide), hx1, if_pos hx.2.1, hx.2.2]
    refine ⟨_, _, rfl, rfl, rfl, rfl, rfl, ?_, hct⟩
    funext i
    dsimp only
    by_cases y : i = 5 * p + 2
    · rw [y, upd_eq]
    · rw [upd_ne y]; exact hN2 i y
  | succ j ih =>
    intro a b w ct N2 wBy wCell wFaces wFell wSign wTurns acc hj ha hb hct hN2
    obtain ⟨k, rfl⟩ : ∃ k, a = k + 1 := ⟨a - 1, by omega⟩
    obtain ⟨k2, rfl⟩ : ∃ k, b = k + 1 := ⟨b - 1, by omega⟩
    have h70 : ¬ (70 : Int32) ≤ nI (67 - (j + 1)) := fun z => by have := (nI_leI (a := 70) (by omega) (by omega)).mp z; omega
    have h67 : ¬ (67 : Int32) ≤ nI (67 - (j + 1)) := fun z => by have := (nI_leI (a := 67) (by omega) (by omega)).mp z; omega
    have e : nI (67 - (j + 1)) + (1 : Int32) = nI (67 - j) := by rw [nI_1]; congr 1; omega
    have z0 : ∀ x : Int32, x + 0 = x := fun x => Int32.add_zero x
    have n90 : N2 90 = nI s := (hN2 90 (by omega)).trans q5
    rw [f_X5_ponds_b34, f_X6_ponds_b38, if_neg h70, if_neg h67]
    rcases isCell_both (t := ct) q2 q4 n90 (nI (67 - (j + 1))) with ⟨c2, hc70, hc2, hce, i1, i2⟩ | ⟨i1, i2⟩
    · have hc21 := hc2.1
      have hc22 := hc2.2
      have hcq : c2 = 67 - (j + 1) := (nI_inj (by omega) (by omega) hce).symm
      have npt : N2 (pt c2) = P c2 := (hN2 _ (by unfold pt; omega)).trans (hc.ok q2 hc2).1
      rw [i2]
      simp only [Option.bind_some, if_neg one_ne0]
      rw [hce, isDry_X0 q2 q4 hc2, hasPond_X6 q2 hc2, npt]
      simp only [Option.bind_some, f_X5_ponds_b95, f_X6_ponds_b101, f_X6_ponds_b98]
      rw [hcq, e]
      rcases (hc.ok q2 hc2).2 with y | y
      · rw [hcq] at y
        rw [y]
        simp only [if_true, if_neg (show ¬ (0 : Int32) = 1 by decide), if_neg one_ne0, hx1, if_pos hx.2.1, hx.2.2]
        obtain ⟨w1, kd, c, fc, b1, b2, b3, b4, b5, b6, b7⟩ := begin_eq (w := w) q3 q6 hv hp
        have hN3 : ∀ i, i ≠ 5 * p + 2 → upd N2 (5 * p + 2) (nI (67 - (j + 1))) i = N i := fun i hi => (upd_ne hi).trans (hN2 i hi)
        rw [hcq] at hc2
        obtain ⟨v1, r1, x1, m1, m2, m3, m4, m5, m6⟩ := per_mod (ct := cx) (cm := ct) (N2 := upd N2 (5 * p + 2) (nI (67 - (j + 1)))) (wBy := wBy) (wCell := wCell) (wFaces := wFaces) (wFell := wFell) (wSign := wSign) (wTurns := wTurns) h hp hq hm htl b3 (show okw s (x0S (67 - (j + 1)) fc) from ⟨hc2, b4.2⟩) b7 (WX_cell b2) (fun i h1 h2 h3 => hN3 i h3) ((hN3 91 (by omega)).trans q8.1) ((hN3 _ (by omega)).trans (e1.trans b5)) upd_eq
        rw [b1, m2]
        simp only [Option.bind_some]
        rw [m1]
        simp only [Option.bind_some, isFallen_eq, asNumber_eq]
        rw [m4.2.2.2.2.2.2.1, m5.2.2.2.1]
        have go := fun acc => ih k k2 v1 r1.1 (upd N2 (5 * p + 2) (nI (67 - (j + 1)))) r1.2.1 r1.2.2.1 r1.2.2.2.1 r1.2.2.2.2.1 r1.2.2.2.2.2.1 r1.2.2.2.2.2.2 acc (by omega) (by omega) (by omega) (fun i hi => (m6 i hi).trans (hct i hi)) hN3
        by_cases y3 : x1.2.2.2.2.2 = -1
        · rw [if_pos y3, if_pos y3]
          exact go (acc + 0)
        · rw [if_neg y3, if_neg y3]
          exact go (acc + 1)
      · rw [hcq] at y
        rw [y]
        simp only [if_true, if_neg one_ne0]
        exact ih k k2 w ct N2 wBy wCell wFaces wFell wSign wTurns acc (by omega) (by omega) (by omega) hct hN2
    · rw [i2, isDry_no i1]
      simp only [Option.bind_some, if_true, f_X5_ponds_b95, f_X6_ponds_b101]
      rw [e]
      exact ih k k2 w ct N2 wBy wCell wFaces wFell wSign wTurns acc (by omega) (by omega) (by omega) hct hN2
