-- ===== firstFall =====
theorem firstFallL {cx cm f P K Wt C F G N tl xr mr Ks Z hh z : Nat → Int32} {E e : Nat → Int64} {s n q m : Nat} (h : IRn s n f P K Wt C F G N) (hq : q < 8) (hm : m ≤ 40) (htl : ∀ i, i < m → isSg (E (40 * q + i)) ∧ tl i = (E (40 * q + i)).toInt32) : ∀ (j a b : Nat) (w ct wBy wCell wFaces wFell wSign wTurns : Nat → Int32) (acc : Int32), j ≤ n → j < a → j < b → (∀ i, i ≠ 17 → ct i = cm i) →
    ∃ u v, f_X5_firstFall_b24 cx f C F K G P Ks E Z a w xr (nI q) (nI m) acc (nI (n - j)) = some u ∧ f_X6_firstFall_b24 e hh N z b ct mr tl wBy wCell wFaces wFell wSign wTurns (nI m) acc (nI (n - j)) = some v ∧ u.1 = v.1 ∧ u.2.2 = xr ∧ v.2.2.1 = mr ∧ (∀ i, i ≠ 17 → v.2.1 i = cm i) := by
  obtain ⟨q1, q2, q3, q4, q5, q6, q7, q8⟩ := h.1
  intro j
  induction j with
  | zero =>
    intro a b w ct wBy wCell wFaces wFell wSign wTurns acc _ ha hb hct
    obtain ⟨k, rfl⟩ : ∃ k, a = k + 1 := ⟨a - 1, by omega⟩
    obtain ⟨k2, rfl⟩ : ∃ k, b = k + 1 := ⟨b - 1, by omega⟩
    rw [f_X5_firstFall_b24, f_X6_firstFall_b24]
    simp only [f_X6_many, Option.bind_some, q6, q7]
    rw [if_pos ((nI_leI (by omega) (by omega)).mpr (by omega)), if_pos ((nI_leI (by omega) (by omega)).mpr (by omega))]
    exact ⟨_, _, rfl, rfl, rfl, rfl, rfl, hct⟩
  | succ j ih =>
    intro a b w ct wBy wCell wFaces wFell wSign wTurns acc hj ha hb hct
    obtain ⟨k, rfl⟩ : ∃ k, a = k + 1 := ⟨a - 1, by omega⟩
    obtain ⟨k2, rfl⟩ : ∃ k, b = k + 1 := ⟨b - 1, by omega⟩
    have hno : ¬ nI n ≤ nI (n - (j + 1)) := fun z => by have := (nI_leI (by omega) (by omega)).mp z; omega
    obtain ⟨w1, w2, r, kd, t1, t2, t3, t4, t5, t6, t7⟩ := per_both (ct := cx) (cm := ct) (w := w) (wBy := wBy) (wCell := wCell) (wFaces := wFaces) (wFell := wFell) (wSign := wSign) (wTurns := wTurns) h (show n - (j + 1) < n by omega) hq hm htl
    have e : nI (n - (j + 1)) + (1 : Int32) = nI (n - j) := by rw [nI_1]; congr 1; omega
    rw [f_X5_firstFall_b24, f_X6_firstFall_b24]
    simp only [f_X6_many, Option.bind_some, q6, q7]
    rw [if_neg hno, if_neg hno, t1, t3]
    simp only [Option.bind_some]
    rw [t2]
    simp only [Option.bind_some, isFallen_eq, f_X5_firstFall_b92, f_X5_firstFall_b83, f_X6_firstFall_b78, f_X6_firstFall_b67, f_X6_firstFall_b76, e]
    rw [t5.2.2.2.2.2.2.1, t6.2.2.2.1]
    have hct2 : ∀ i, i ≠ 17 → r.1 i = cm i := fun i hi => (t7 i hi).trans (hct i hi)
    have go := fun acc => ih k k2 w2 r.1 r.2.1 r.2.2.1 r.2.2.2.1 r.2.2.2.2.1 r.2.2.2.2.2.1 r.2.2.2.2.2.2 acc (by omega) (by omega) (by omega) hct2
    by_cases y : (finS s P (f 1) (f 2) K C F G tl m (n - (j + 1))).2.2.2.2.2 = -1
    · rw [if_pos y, if_pos y, if_pos rfl]
      exact go acc
    · rw [if_neg y, if_neg y, if_neg one_ne0]
      by_cases y2 : acc = -1
      · rw [if_pos y2, if_pos y2]
        exact go _
      · rw [if_neg y2, if_neg y2]
        by_cases y3 : acc ≤ (finS s P (f 1) (f 2) K C F G tl m (n - (j + 1))).2.2.2.2.2
        · rw [if_pos y3, if_pos y3]
          exact go acc
        · rw [if_neg y3, if_neg y3]
          exact go _
theorem case_firstFall {cx cm f P K Wt C F G N w xr mr Ks Z hh z tl wBy wCell wFaces wFell wSign wTurns : Nat → Int32} {E e : Nat → Int64} (h : IRel f P K Wt C F G N) (hr : RRef xr mr) (hsh : ∀ n, N 89 = nI n → n ≤ 8 → RSh Ks Z hh z E e n) (a1 a2 : Int32) :
    ∃ u v, f_X5_firstFall a1 a2 cx f C F K G P w xr Ks E Z = some u ∧ f_X6_firstFall a1 a2 cm e hh N mr z tl wBy wCell wFaces wFell wSign wTurns = some v ∧ u.1 = v.1 ∧ RRef u.2.2 v.2.2.1 ∧ (∀ j, j ≠ 17 → v.2.1 j = cm j) := by
  obtain ⟨s, n, hn⟩ := h
  obtain ⟨q1, q2, q3, q4, q5, q6, q7, q8⟩ := hn.1
  have hS := hsh n q7 q3
  unfold f_X5_firstFall f_X6_firstFall
  rcases tell_both (ct := cx) (ct2 := cm) (tl := tl) hS q3 a1 a2 1 (Or.inr rfl) with ⟨code, tl', c1, c2, c3⟩ | ⟨q, m, tl', c1, c2, rfl, rfl, _, c3, c4, c5⟩
  · obtain ⟨u, v, r1, r2, r3, r4, r5⟩ := refT (cx := cx) (cm := cm) c1 hr
    rw [c2, c3]
    simp only [Option.bind_some]
    rw [if_neg r4, if_neg r5, r1, r2]
    exact ⟨_, _, rfl, rfl, rfl, r3, fun _ _ => rfl⟩
  · obtain ⟨k, hk⟩ := FU_s
    rw [c3, c4]
    simp only [Option.bind_some, if_true]
    rw [if_pos (show (0 : Int32) ≤ 1 by decide)]
    obtain ⟨u, v, g1, g2, g3, g4, g5, g6⟩ := firstFallL (cx := cx) (cm := cm) (xr := xr) (mr := mr) (Ks := Ks) (Z := Z) (hh := hh) (z := z) (e := e) hn c1 c2 c5 n FU FU w cm wBy wCell wFaces wFell wSign wTurns (-1) (Nat.le_refl _) (by omega) (by omega) (fun _ _ => rfl)
    rw [Nat.sub_self] at g1 g2
    exact ⟨u, v, g1, g2, g3, by rw [g4, g5]; exact hr, g6⟩
