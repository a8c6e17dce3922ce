-- ===== shelves and told tellings =====
theorem lgk (x y : Int64) : (lg_cmp x y < 0 ↔ x < y) ∧ (0 < lg_cmp x y ↔ y < x) ∧ (lg_cmp x y ≤ 0 ↔ x ≤ y) := by
  unfold lg_cmp
  by_cases h1 : x > y
  · rw [if_pos h1]
    exact ⟨⟨fun h => absurd h (by decide), fun h => absurd h (Int64.lt_asymm h1)⟩, ⟨fun _ => h1, fun _ => by decide⟩, ⟨fun h => absurd h (by decide), fun h => absurd h1 (Int64.not_lt.mpr h)⟩⟩
  · rw [if_neg h1]
    have h3 : x ≤ y := Int64.not_lt.mp h1
    by_cases h2 : x = y
    · rw [if_pos h2]
      exact ⟨⟨fun h => absurd h (by decide), fun h => absurd h (by rw [h2]; exact Int64.lt_irrefl)⟩, ⟨fun h => absurd h (by decide), fun h => absurd h h1⟩, ⟨fun _ => h3, fun _ => by decide⟩⟩
    · rw [if_neg h2]
      exact ⟨⟨fun _ => Int64.lt_of_le_of_ne h3 h2, fun _ => by decide⟩, ⟨fun h => absurd h (by decide), fun h => absurd h h1⟩, ⟨fun _ => h3, fun _ => by decide⟩⟩
noncomputable abbrev isSg (x : Int64) : Prop := 0 ≤ x ∧ x ≤ 3
theorem isIn64 (x a b : Int64) : f_X6_isIn x a b = some (if a ≤ x ∧ x ≤ b then 1 else 0) := by
  unfold f_X6_isIn
  by_cases h1 : x < a
  · rw [if_pos ((lgk _ _).1.mpr h1), if_neg (fun q => absurd q.1 (Int64.not_le.mpr h1))]
  · rw [if_neg (fun q => h1 ((lgk _ _).1.mp q))]
    by_cases h2 : b < x
    · rw [if_pos ((lgk _ _).2.1.mpr h2), if_neg (fun q => absurd q.2 (Int64.not_le.mpr h2))]
    · rw [if_neg (fun q => h2 ((lgk _ _).2.1.mp q)), if_pos ⟨Int64.not_lt.mp h1, Int64.not_lt.mp h2⟩]
theorem isSg_of {x : Int64} (h : isSg x) : x.toInt32 = 0 ∨ x.toInt32 = 1 ∨ x.toInt32 = 2 ∨ x.toInt32 = 3 := by
  obtain ⟨h1, h2⟩ := h
  rw [Int64.le_iff_toInt_le] at h1 h2
  have e0 : (0 : Int64).toInt = 0 := by decide
  have e3 : (3 : Int64).toInt = 3 := by decide
  rw [e0] at h1
  rw [e3] at h2
  rcases (show x.toInt = 0 ∨ x.toInt = 1 ∨ x.toInt = 2 ∨ x.toInt = 3 by omega) with q | q | q | q
  · left; rw [show x = 0 from Int64.toInt_inj.mp (by rw [q]; rfl)]; rfl
  · right; left; rw [show x = 1 from Int64.toInt_inj.mp (by rw [q]; rfl)]; rfl
  · right; right; left; rw [show x = 2 from Int64.toInt_inj.mp (by rw [q]; rfl)]; rfl
  · right; right; right; rw [show x = 3 from Int64.toInt_inj.mp (by rw [q]; rfl)]; rfl
/-- the first of the last j of m elements from place b on that is no sign -/
noncomputable def bad (E : Nat → Int64) (b m : Nat) : Nat → Option Nat
  | 0 => none
  | j + 1 => if isSg (E (b + (m - (j + 1)))) then bad E b m j else some (m - (j + 1))
theorem bad_congr {E e : Nat → Int64} {b m : Nat} (h : ∀ i, i < m → E (b + i) = e (b + i)) : ∀ j, j ≤ m → bad E b m j = bad e b m j := by
  intro j
  induction j with
  | zero => intro _; rfl
  | succ j ih =>
    intro hj
    unfold bad
    rw [h (m - (j + 1)) (by omega), ih (by omega)]
theorem bad_none {E : Nat → Int64} {b m : Nat} : ∀ j, j ≤ m → bad E b m j = none → ∀ i, m - j ≤ i → i < m → isSg (E (b + i)) := by
  intro j
  induction j with
  | zero => intro _ _ i h1 h2; omega
  | succ j ih =>
    intro hj h i h1 h2
    unfold bad at h
    by_cases q : isSg (E (b + (m - (j + 1))))
    · rw [if_pos q] at h
      by_cases q2 : i = m - (j + 1)
      · rw [q2]; exact q
      · exact ih (by omega) h i (by omega) h2
    · rw [if_neg q] at h; cases h
theorem ix40 {s i : Nat} (hs : s < 8) (hi : i < 40) : inb (nI s * (40 : Int32) + nI i) 320 ∧ (nI s * (40 : Int32) + nI i).toNatClampNeg = 40 * s + i ∧ inb ((40 : Int32) * nI s + nI i) 320 ∧ ((40 : Int32) * nI s + nI i).toNatClampNeg = 40 * s + i := by
  have e : nI s * (40 : Int32) + nI i = nI (40 * s + i) := by
    show nI s * nI 40 + nI i = _
    rw [pk_mul, nI_add, Nat.mul_comm]
  have e2 : (40 : Int32) * nI s + nI i = nI (40 * s + i) := by
    show nI 40 * nI s + nI i = _
    rw [pk_mul, nI_add]
  rw [e, e2, nI_cl (by omega)]
  exact ⟨inb_nI (by omega) (by decide), rfl, inb_nI (by omega) (by decide), rfl⟩
theorem elementAt_eq {E : Nat → Int64} {s i : Nat} (hs : s < 8) (hi : i < 40) : f_X3_elementAt (nI s) (nI i) E = some (E (40 * s + i)) := by
  unfold f_X3_elementAt
  rw [if_pos (ix40 hs hi).1, (ix40 hs hi).2.1]
theorem signAt_eq {E : Nat → Int64} {s i : Nat} (hs : s < 8) (hi : i < 40) : f_X3_signAt (nI s) (nI i) E = some ((E (40 * s + i)).toInt32) := by
  unfold f_X3_signAt
  rw [if_pos (ix40 hs hi).1, (ix40 hs hi).2.1]
theorem firstWrongL {E : Nat → Int64} {s m : Nat} (hs : s < 8) (hm : m ≤ 40) : ∀ (j n : Nat), j ≤ m → j < n → f_X3_firstWrong_b2 E n (nI s) (nI m) (nI (m - j)) = some (enc (bad E (40 * s) m j)) := by
  intro j
  induction j with
  | zero =>
    intro n _ hn
    obtain ⟨k, rfl⟩ : ∃ k, n = k + 1 := ⟨n - 1, by omega⟩
    rw [f_X3_firstWrong_b2, if_pos ((nI_leI (by omega) (by omega)).mpr (by omega))]
    rfl
  | succ j ih =>
    intro n hj hn
    obtain ⟨k, rfl⟩ : ∃ k, n = k + 1 := ⟨n - 1, by omega⟩
    rw [f_X3_firstWrong_b2, if_neg (fun q => by have := (nI_leI (by omega) (by omega)).mp q; omega), elementAt_eq hs (by omega)]
    simp only [Option.bind_some]
    have e : nI (m - (j + 1)) + (1 : Int32) = nI (m - j) := by rw [nI_1]; congr 1; omega
    have hi := ih k (by omega) (by omega)
    unfold bad
    by_cases q : isSg (E (40 * s + (m - (j + 1))))
    · rw [if_neg (fun z => absurd ((lgk _ _).1.mp z) (Int64.not_lt.mpr q.1)), if_pos ((lgk _ _).2.2.mpr q.2), if_pos q, e, hi]
    · rw [if_neg q]
      by_cases q1 : E (40 * s + (m - (j + 1))) < 0
      · rw [if_pos ((lgk _ _).1.mpr q1)]; rfl
      · rw [if_neg (fun z => q1 ((lgk _ _).1.mp z)), if_neg (fun z => q ⟨Int64.not_lt.mp q1, (lgk _ _).2.2.mp z⟩)]; rfl
theorem firstWrong_eq {E : Nat → Int64} {s m : Nat} (hs : s < 8) (hm : m ≤ 40) : f_X3_firstWrong (nI s) (nI m) E = some (enc (bad E (40 * s) m m)) := by
  obtain ⟨k, hk⟩ := FU_s
  have h := firstWrongL (E := E) hs hm m FU (Nat.le_refl _) (by omega)
  rw [Nat.sub_self] at h
  exact h
theorem loadL {ct h z : Nat → Int32} {e : Nat → Int64} {s m : Nat} (hs : s < 8) (hm : m ≤ 40) : ∀ (j n : Nat) (tl : Nat → Int32), j ≤ m → j < n → ∃ tl', f_X6_load_b29 ct e h z n tl (nI s) (nI m) (nI (m - j)) = some (if bad e (40 * s) m j = none then 1 else -5, tl') ∧ (bad e (40 * s) m j = none → ∀ i, tl' i = if m - j ≤ i ∧ i < m then (e (40 * s + i)).toInt32 else tl i) := by
  intro j
  induction j with
  | zero =>
    intro n tl _ hn
    obtain ⟨k, rfl⟩ : ∃ k, n = k + 1 := ⟨n - 1, by omega⟩
    rw [f_X6_load_b29, if_pos ((nI_leI (by omega) (by omega)).mpr (by omega))]
    exact ⟨tl, rfl, fun _ i => by rw [if_neg (by omega)]⟩
  | succ j ih =>
    intro n tl hj hn
    obtain ⟨k, rfl⟩ : ∃ k, n = k + 1 := ⟨n - 1, by omega⟩
    have hx := ix40 (s := s) (i := m - (j + 1)) hs (by omega)
    rw [f_X6_load_b29, if_neg (fun q => by have := (nI_leI (by omega) (by omega)).mp q; omega)]
    simp only [if_pos hx.2.2.1, hx.2.2.2, isIn64, Option.bind_some]
    have e1 : nI (m - (j + 1)) + (1 : Int32) = nI (m - j) := by rw [nI_1]; congr 1; omega
    unfold bad
    by_cases q : isSg (e (40 * s + (m - (j + 1))))
    · have q0 : ¬ ((if 0 ≤ e (40 * s + (m - (j + 1))) ∧ e (40 * s + (m - (j + 1))) ≤ 3 then (1 : Int32) else 0) = 0) := by rw [if_pos q]; decide
      rw [if_neg q0, if_pos q, if_pos (inb_nI (by omega) (by decide)), nI_cl (by omega), e1]
      obtain ⟨tl', h1, h2⟩ := ih k (upd tl (m - (j + 1)) (e (40 * s + (m - (j + 1)))).toInt32) (by omega) (by omega)
      refine ⟨tl', h1, fun hb i => ?_⟩
      rw [h2 hb i]
      by_cases c1 : m - j ≤ i ∧ i < m
      · rw [if_pos c1, if_pos ⟨by omega, c1.2⟩]
      · rw [if_neg c1]
        by_cases c2 : i = m - (j + 1)
        · rw [if_pos ⟨by omega, by omega⟩, c2]; simp [upd]
        · rw [if_neg (by omega)]; simp [upd, c2]
    · have q0 : ((if 0 ≤ e (40 * s + (m - (j + 1))) ∧ e (40 * s + (m - (j + 1))) ≤ 3 then (1 : Int32) else 0) = 0) := by rw [if_neg q]
      rw [if_pos q0, if_neg q]
      exact ⟨tl, by simp, fun hb => by cases hb⟩
/-- what shelves hold, the class's and the model's; n people -/
noncomputable def RSh (K Z h z : Nat → Int32) (E e : Nat → Int64) (n : Nat) : Prop := ∀ s, s < 8 → K s = h s ∧ (h s = -1 ∨ (∃ p, p < n ∧ h s = nI (10 + p)) ∨ (∃ so m : Nat, so ≤ 4 ∧ m ≤ 40 ∧ h s = nI so ∧ Z s = nI m ∧ z s = nI m ∧ ∀ i, i < m → E (40 * s + i) = e (40 * s + i)))
theorem shelf_cases (x : Int32) (n : Nat) (hn : n < 2147483648) : (∃ j, j ≤ n ∧ x = nI j ∧ 0 ≤ x ∧ x ≤ nI n) ∨ ¬ (0 ≤ x ∧ x ≤ nI n) := by
  by_cases h : 0 ≤ x ∧ x ≤ nI n
  · left
    obtain ⟨j, h1, h2⟩ := i32_nat h.1 h.2 hn
    exact ⟨j, h1, h2, h.1, h.2⟩
  · exact Or.inr h
theorem isShelf_X3 (x : Int32) : f_X3_isShelf x = some (if 0 ≤ x ∧ x ≤ 7 then 1 else 0) := by
  unfold f_X3_isShelf
  rw [isWithin_eq]
  simp only [Option.bind_some]
  rw [if_pos (w01 _)]
theorem isShelf_X6 (x : Int32) : f_X6_isShelf x = some (if 0 ≤ x ∧ x ≤ 7 then 1 else 0) := by
  unfold f_X6_isShelf
  rw [show f_X6_isIn x.toInt64 0 7 = some (if 0 ≤ x ∧ x ≤ 7 then 1 else 0) from isIn_eq x 0 7]
  simp only [Option.bind_some]
  rw [if_pos (w01 _)]
