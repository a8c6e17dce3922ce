noncomputable abbrev rfv (K : Nat → Int32) (s t : Nat) : Int32 := if 10 ≤ K s ∨ 10 ≤ K t then -3 else if K s = -1 ∨ K t = -1 then -4 else 0
theorem holdsOne_eq {K : Nat → Int32} {s : Nat} (hs : s < 8) : f_X3_holdsOne (nI s) K = some (if 10 ≤ K s then 1 else 0) := by
  unfold f_X3_holdsOne
  rw [if_pos (inb_nI hs (by decide)), nI_cl (by omega)]
  by_cases q : K s < 10
  · rw [if_pos q, if_neg (Int32.not_le.mpr q)]
  · rw [if_neg q, if_pos (Int32.not_lt.mp q)]
theorem held_eq {K : Nat → Int32} {s : Nat} (hs : s < 8) : f_X3_held (nI s) K = some (K s) := by
  unfold f_X3_held
  rw [if_pos (inb_nI hs (by decide)), nI_cl (by omega)]
theorem sizeOf_eq {K : Nat → Int32} {s : Nat} (hs : s < 8) : f_X3_sizeOf (nI s) K = some (K s) := by
  unfold f_X3_sizeOf
  rw [if_pos (inb_nI hs (by decide)), nI_cl (by omega)]
theorem rowFault_eq {ct K : Nat → Int32} {s t : Nat} (hs : s < 8) (ht : t < 8) : f_X5_rowFault (nI s) (nI t) ct K = some (rfv K s t) := by
  unfold f_X5_rowFault
  rw [holdsOne_eq hs, holdsOne_eq ht, held_eq hs, held_eq ht]
  simp only [Option.bind_some, rfv]
  by_cases q1 : 10 ≤ K s
  · rw [if_pos q1, if_neg (by decide), if_pos (Or.inl q1)]
  · rw [if_neg q1, if_pos rfl]
    by_cases q2 : 10 ≤ K t
    · rw [if_pos q2, if_neg (by decide), if_pos (Or.inr q2)]
    · rw [if_neg q2, if_pos rfl, if_neg (not_or.mpr ⟨q1, q2⟩)]
      by_cases q3 : K s = -1
      · rw [if_pos q3, if_pos (Or.inl q3)]
      · rw [if_neg q3]
        by_cases q4 : K t = -1
        · rw [if_pos q4, if_pos (Or.inr q4)]
        · rw [if_neg q4, if_neg (not_or.mpr ⟨q3, q4⟩)]
theorem enc_ne1 {E : Nat → Int64} {b m : Nat} (hm : m ≤ 40) : (enc (bad E b m m) = -1) ↔ bad E b m m = none := by
  have key : ∀ j, j ≤ m → ∀ r, bad E b m j = some r → r < m := by
    intro j
    induction j with
    | zero => intro _ r h; cases h
    | succ j ih =>
      intro hj r h
      unfold bad at h
      by_cases q : isSg (E (b + (m - (j + 1))))
      · rw [if_pos q] at h; exact ih (by omega) r h
      · rw [if_neg q] at h; cases h; omega
  cases hb : bad E b m m with
  | none => exact ⟨fun _ => rfl, fun _ => rfl⟩
  | some r =>
    have hr := key m (Nat.le_refl _) r hb
    exact ⟨fun h => absurd h (nI_ne1 (by omega)), fun h => by cases h⟩
theorem tellingsFault_eq {ct K Z : Nat → Int32} {E : Nat → Int64} {s t m1 m2 : Nat} (hs : s < 8) (ht : t < 8) (h1 : m1 ≤ 40) (h2 : m2 ≤ 40) : f_X5_tellingsFault (nI s) (nI m1) (nI t) (nI m2) ct K E Z = some (if rfv K s t = 0 then (if Z s < nI m1 ∨ Z t < nI m2 then -2 else if bad E (40 * s) m1 m1 = none ∧ bad E (40 * t) m2 m2 = none then 0 else -5) else rfv K s t) := by
  unfold f_X5_tellingsFault
  rw [rowFault_eq hs ht, sizeOf_eq hs, sizeOf_eq ht, firstWrong_eq hs h1, firstWrong_eq ht h2]
  simp only [Option.bind_some]
  have b75 : f_X5_tellingsFault_b75 ct K E Z = some (-5) := rfl
  have b76 : f_X5_tellingsFault_b76 ct K E Z 1 = some 0 := rfl
  rw [b75, b76]
  by_cases q0 : rfv K s t = 0
  · rw [if_pos q0, if_pos q0]
    by_cases q1 : Z s < nI m1
    · rw [if_pos q1, if_pos (Or.inl q1)]
    · rw [if_neg q1]
      by_cases q2 : Z t < nI m2
      · rw [if_neg (Int32.not_le.mpr q2), if_pos (Or.inr q2)]
      · rw [if_pos (Int32.not_lt.mp q2), if_neg (not_or.mpr ⟨q1, q2⟩)]
        by_cases q3 : bad E (40 * s) m1 m1 = none
        · rw [if_pos ((enc_ne1 h1).mpr q3)]
          by_cases q4 : bad E (40 * t) m2 m2 = none
          · rw [if_pos ((enc_ne1 h2).mpr q4), if_pos ⟨q3, q4⟩]
          · rw [if_neg (fun z => q4 ((enc_ne1 h2).mp z)), if_neg (fun z => q4 z.2)]
        · rw [if_neg (fun z => q3 ((enc_ne1 h1).mp z)), if_neg (fun z => q3 z.1)]
  · rw [if_neg q0, if_neg q0]
noncomputable abbrev isCode (x : Int32) : Prop := x = -2 ∨ x = -3 ∨ x = -4 ∨ x = -5 ∨ x = -6
theorem rowIn_eq {ct h : Nat → Int32} {s : Nat} (hs : s < 8) : f_X6_rowIn (nI s) ct h = some (if 10 ≤ h s then -3 else if h s = -1 then -4 else 1) := by
  unfold f_X6_rowIn
  simp only [if_pos (inb_nI hs (show 8 ≤ 2147483648 by decide)), nI_cl (show s < 2147483648 by omega)]
  by_cases q : h s < 10
  · rw [if_pos q, if_neg (Int32.not_le.mpr q)]
    by_cases q2 : h s = -1
    · rw [if_pos q2, if_pos q2]
    · rw [if_neg q2, if_neg q2]
  · rw [if_neg q, if_pos (Int32.not_lt.mp q)]
/-- what a shelf holds, in numbers -/
theorem shelf_num {h : Nat → Int32} {s n : Nat} (hn : n ≤ 8) : (h s = -1 → ¬ 10 ≤ h s) ∧ (∀ p, p < n → h s = nI (10 + p) → 10 ≤ h s ∧ h s ≠ -1) ∧ (∀ so, so ≤ 4 → h s = nI so → ¬ 10 ≤ h s ∧ h s ≠ -1) := by
  refine ⟨fun q => by rw [q]; decide, fun p hp q => ?_, fun so hso q => ?_⟩
  · rw [q]; exact ⟨(nI_leI (a := 10) (by omega) (by omega)).mpr (by omega), nI_ne1 (by omega)⟩
  · rw [q]; exact ⟨fun z => by have := (nI_leI (a := 10) (by omega) (by omega)).mp z; omega, nI_ne1 (by omega)⟩
theorem load_both {ct ct2 K Z h z tl : Nat → Int32} {E e : Nat → Int64} {n s m : Nat} (hR : RSh K Z h z E e n) (hn : n ≤ 8) (hs : s < 8) (hm : m ≤ 40) :
    (∃ code tl', isCode code ∧ f_X5_tellingsFault (nI s) (nI m) (nI s) (nI 0) ct K E Z = some code ∧ f_X6_load (nI s) (nI m) ct2 e h z tl = some (code, tl')) ∨
    (∃ tl', f_X5_tellingsFault (nI s) (nI m) (nI s) (nI 0) ct K E Z = some 0 ∧ f_X6_load (nI s) (nI m) ct2 e h z tl = some (1, tl') ∧ ∀ i, i < m → isSg (E (40 * s + i)) ∧ tl' i = (E (40 * s + i)).toInt32) := by
  obtain ⟨hK, hc⟩ := hR s hs
  have hnum := shelf_num (h := h) (s := s) hn
  rw [tellingsFault_eq hs hs hm (by decide)]
  unfold f_X6_load
  rw [rowIn_eq hs]
  simp only [Option.bind_some, rfv, hK, or_self]
  rcases hc with q | ⟨p, hp, q⟩ | ⟨so, m2, h1, h2, h3, h4, h5, h6⟩
  · left
    have q2 := hnum.1 q
    refine ⟨-4, tl, by simp [isCode], ?_, ?_⟩
    · simp [q2, q]
    · simp only [if_neg q2, if_pos q]
      rw [if_neg (by decide)]
  · left
    obtain ⟨q2, q3⟩ := hnum.2.1 p hp q
    refine ⟨-3, tl, by simp [isCode], ?_, ?_⟩
    · simp [q2]
    · simp only [if_pos q2]
      rw [if_neg (by decide)]
  · obtain ⟨q2, q3⟩ := hnum.2.2 so h1 h3
    have hin := inb_nI hs (show 8 ≤ 2147483648 by decide)
    have hcl := nI_cl (show s < 2147483648 by omega)
    simp only [if_neg q2, if_neg q3, if_true, h4, h5, hcl, if_pos hin]
    rw [if_pos (show (0 : Int32) ≤ 1 by decide)]
    have hz0 : ¬ nI m2 < nI 0 := fun z => by have := (nI_ltI (by omega) (by omega)).mp z; omega
    by_cases q4 : m ≤ m2
    · have q5 : nI m ≤ nI m2 := (nI_leI (by omega) (by omega)).mpr q4
      have q6 : ¬ (nI m2 < nI m ∨ nI m2 < nI 0) := by
        intro z
        rcases z with z | z
        · exact absurd q5 (Int32.not_le.mpr z)
        · exact hz0 z
      rw [if_neg q6, if_pos q5]
      obtain ⟨k, hk⟩ := FU_s
      obtain ⟨tl', g1, g2⟩ := loadL (ct := ct2) (h := h) (z := z) (e := e) hs hm m FU tl (Nat.le_refl _) (by omega)
      rw [Nat.sub_self] at g1 g2
      have hb : bad E (40 * s) m m = bad e (40 * s) m m := bad_congr (fun i hi => h6 i (by omega)) m (Nat.le_refl _)
      have hb0 : bad E (40 * s) 0 0 = none := rfl
      rw [hb, hb0]
      show _ ∨ _
      by_cases q7 : bad e (40 * s) m m = none
      · right
        rw [if_pos q7] at g1
        refine ⟨tl', by simp [q7], g1, fun i hi => ?_⟩
        have g3 := bad_none m (Nat.le_refl _) q7 i (by omega) hi
        rw [h6 i (by omega)]
        exact ⟨g3, by rw [g2 q7 i, if_pos ⟨by omega, hi⟩]⟩
      · left
        rw [if_neg q7] at g1
        exact ⟨-5, tl', by simp [isCode], by simp [q7], g1⟩
    · left
      have q5 : ¬ nI m ≤ nI m2 := fun z => q4 ((nI_leI (by omega) (by omega)).mp z)
      refine ⟨-2, tl, by simp [isCode], ?_, by rw [if_neg q5]⟩
      rw [if_pos (Or.inl (Int32.not_le.mp q5))]
theorem tell_both {ct ct2 K Z h z tl : Nat → Int32} {E e : Nat → Int64} {n : Nat} (hR : RSh K Z h z E e n) (hn : n ≤ 8) (S N w : Int32) (hw : isB w) :
    (∃ code tl', isCode code ∧ f_X5_tellingFault S N w ct K E Z = some code ∧ f_X6_loadIf w S N ct2 e h z tl = some (code, tl')) ∨
    (∃ s m tl', s < 8 ∧ m ≤ 40 ∧ S = nI s ∧ N = nI m ∧ w = 1 ∧ f_X5_tellingFault S N w ct K E Z = some 0 ∧ f_X6_loadIf w S N ct2 e h z tl = some (1, tl') ∧ ∀ i, i < m → isSg (E (40 * s + i)) ∧ tl' i = (E (40 * s + i)).toInt32) := by
  have hIn : ∀ x : Int32, f_X6_isIn x.toInt64 0 40 = some (if 0 ≤ x ∧ x ≤ 40 then 1 else 0) := fun x => isIn_eq x 0 40
  unfold f_X5_tellingFault f_X6_loadIf f_X5_isTold
  rw [isShelf_X3, isShelf_X6, isWithin_eq, hIn]
  simp only [Option.bind_some]
  by_cases c1 : 0 ≤ S ∧ S ≤ 7
  · rw [if_pos c1]
    simp only [if_neg (show ¬ (1 : Int32) = 0 by decide)]
    by_cases c2 : 0 ≤ N ∧ N ≤ 40
    · rw [if_pos c2]
      simp only [if_neg (show ¬ (1 : Int32) = 0 by decide), Option.bind_some]
      rcases hw with rfl | rfl
      · left
        simp only [if_true]
        exact ⟨-2, tl, by simp [isCode], rfl, rfl⟩
      · obtain ⟨s, hs, rfl⟩ := i32_nat (n := 7) c1.1 c1.2 (by decide)
        obtain ⟨m, hm, rfl⟩ := i32_nat (n := 40) c2.1 c2.2 (by decide)
        simp only [if_neg (show ¬ (1 : Int32) = 0 by decide)]
        rcases load_both (ct := ct) (ct2 := ct2) (tl := tl) hR hn (show s < 8 by omega) hm with ⟨code, tl', g1, g2, g3⟩ | ⟨tl', g1, g2, g3⟩
        · left
          refine ⟨code, tl', g1, ?_, ?_⟩
          · rw [show (0 : Int32) = nI 0 from rfl, g2]; rfl
          · rw [g3]; rfl
        · right
          refine ⟨s, m, tl', by omega, hm, rfl, rfl, trivial, ?_, ?_, g3⟩
          · rw [show f_X5_tellingsFault (nI s) (nI m) (nI s) 0 ct K E Z = some 0 from g1]; rfl
          · rw [g2]; rfl
    · left
      rw [if_neg c2]
      simp only [if_true, Option.bind_some]
      exact ⟨-2, tl, by simp [isCode], rfl, rfl⟩
  · left
    rw [if_neg c1]
    simp only [if_true, Option.bind_some]
    exact ⟨-2, tl, by simp [isCode], rfl, rfl⟩
