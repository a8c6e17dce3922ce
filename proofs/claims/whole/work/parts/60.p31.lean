-- ===== copy, the case =====
theorem le_sub {m a n : Nat} (hm : m ≤ 40) (ha : a < 2147483648) (hn : n < 2147483648) : (nI a ≤ nI m - nI n ↔ a + n ≤ m) ∧ (nI m - nI a < nI n ↔ m < a + n) ∧ (nI n ≤ nI m - nI a ↔ a + n ≤ m) := by
  simp only [Int32.le_iff_toInt_le, Int32.lt_iff_toInt_lt, sub_toI hm ha, sub_toI hm hn, nI_toI ha, nI_toI hn]
  omega
theorem case_copy {cx cm Ks Z hh z xr mr : Nat → Int32} {E e mv : Nat → Int64} (hr : RRef xr mr) {n : Nat} (hn : n ≤ 8) (h : RSh Ks Z hh z E e n) (a1 a2 a3 a4 a5 : Int32) : ∃ u v, f_X5_copy a1 a2 a3 a4 a5 cx xr Ks E Z = some u ∧ f_X6_copy a1 a2 a3 a4 a5 cm e hh mv mr z = some v ∧ u.1 = v.1 ∧ RRef u.2.1 v.2.2.2 ∧ RSh Ks Z hh z u.2.2 v.2.1 n := by
  obtain ⟨g1, g2, e1, e2, e3⟩ := refuse_both (cx := cx) (cm := cm) (code := -2) (Or.inl rfl) hr
  obtain ⟨g5, g6, e5, e6, e7⟩ := refuse_both (cx := cx) (cm := cm) (code := -3) (Or.inr (Or.inl rfl)) hr
  obtain ⟨g8, g9, e8, e9, e10⟩ := refuse_both (cx := cx) (cm := cm) (code := -4) (Or.inr (Or.inr (Or.inl rfl))) hr
  have x22 : f_X5_copy_b22 cx Ks Z xr E = some (-2, g1, E) := by unfold f_X5_copy_b22; rw [e1]; rfl
  have x155 : f_X5_copy_b155 cx Ks Z xr E = some (-2, g1, E) := by unfold f_X5_copy_b155; rw [e1]; rfl
  have m14 : f_X6_copy_b14 cm hh z e mv mr = some (-2, e, mv, g2) := by unfold f_X6_copy_b14; rw [e2]; rfl
  have m150 : f_X6_copy_b150 cm hh z e mv mr = some (-2, e, mv, g2) := by unfold f_X6_copy_b150; rw [e2]; rfl
  have m90 : f_X6_copy_b90 cm hh z e mv mr = some (-3, e, mv, g6) := by unfold f_X6_copy_b90; rw [e6]; rfl
  unfold f_X5_copy f_X6_copy
  rw [isShelf_X3, isShelf_X6, isShelf_X3, isShelf_X6, x22, m14]
  simp only [Option.bind_some]
  by_cases c1 : 0 ≤ a1 ∧ a1 ≤ 7
  · rw [if_pos c1, if_neg one_ne0, if_neg one_ne0]
    by_cases c2 : 0 ≤ a2 ∧ a2 ≤ 7
    · rw [if_pos c2, if_neg one_ne0, if_neg one_ne0]
      obtain ⟨s, hs, rfl⟩ := i32_nat (n := 7) c1.1 c1.2 (by decide)
      obtain ⟨t, ht, rfl⟩ := i32_nat (n := 7) c2.1 c2.2 (by decide)
      have hs8 : s < 8 := by omega
      have ht8 : t < 8 := by omega
      obtain ⟨hK, hc⟩ := h s hs8
      obtain ⟨hK2, hc2⟩ := h t ht8
      have nA := shelf_num (h := hh) (s := s) hn
      have nB := shelf_num (h := hh) (s := t) hn
      have rf := rowFault_eq (ct := cx) (K := Ks) hs8 ht8
      unfold rfv at rf
      rw [hK, hK2] at rf
      simp only [held_eq hs8, held_eq ht8, Option.bind_some, hK, hK2, if_pos (ix8 hs8).1, if_pos (ix8 ht8).1, (ix8 hs8).2, (ix8 ht8).2, f_X5_copy_b57, f_X6_copy_b45, f_X5_copy_b58, f_X6_copy_b46, if_true, if_neg one_ne0, m90, e5]
      by_cases o : 10 ≤ hh s ∨ 10 ≤ hh t
      · have x91 : f_X5_copy_b91 cx Ks Z xr E (nI s) (nI t) a3 a4 a5 = some (-3, g5, E) := by
          unfold f_X5_copy_b91
          rw [rf, if_pos o, Option.bind_some, if_neg (show ¬ (-3 : Int32) = 0 by decide), e5]
          rfl
        have hX : ∀ (p q r : Prop) [Decidable p] [Decidable q] [Decidable r], (if p then f_X5_copy_b91 cx Ks Z xr E (nI s) (nI t) a3 a4 a5 else if q then f_X5_copy_b91 cx Ks Z xr E (nI s) (nI t) a3 a4 a5 else if r then f_X5_copy_b91 cx Ks Z xr E (nI s) (nI t) a3 a4 a5 else some (-3, g5, E)) = some (-3, g5, E) := by
          intro p q r _ _ _
          rw [x91]
          by_cases y : p
          · rw [if_pos y]
          · rw [if_neg y]
            by_cases y : q
            · rw [if_pos y]
            · rw [if_neg y]
              by_cases y : r
              · rw [if_pos y]
              · rw [if_neg y]
        have hM : ∀ (x : Option (Int32 × (Nat → Int64) × (Nat → Int64) × (Nat → Int32))), (if 10 ≤ hh s then some (-3, e, mv, g6) else if 10 ≤ hh t then some (-3, e, mv, g6) else x) = some (-3, e, mv, g6) := by
          intro x
          by_cases y : 10 ≤ hh s
          · rw [if_pos y]
          · rw [if_neg y, if_pos (o.resolve_left y)]
        have hM2 : ∀ (p q : Prop) [Decidable p] [Decidable q] (x : Option (Int32 × (Nat → Int64) × (Nat → Int64) × (Nat → Int32))), x = some (-3, e, mv, g6) → ∀ y, y = some (-3, e, mv, g6) → (if p then x else if q then x else y) = some (-3, e, mv, g6) := by
          intro p q _ _ x hx y hy
          rw [hx, hy]
          by_cases w : p
          · rw [if_pos w]
          · rw [if_neg w]
            by_cases w : q
            · rw [if_pos w]
            · rw [if_neg w]
        exact ⟨_, _, hX _ _ _, hM2 _ _ _ (hM _) _ (hM _), rfl, e7, h⟩
      · have o1 : ¬ 10 ≤ hh s := fun y => o (Or.inl y)
        have o2 : ¬ 10 ≤ hh t := fun y => o (Or.inr y)
        by_cases p : hh s = -1 ∨ hh t = -1
        · have x91 : f_X5_copy_b91 cx Ks Z xr E (nI s) (nI t) a3 a4 a5 = some (-4, g8, E) := by
            unfold f_X5_copy_b91
            rw [rf, if_neg o, if_pos p, Option.bind_some, if_neg (show ¬ (-4 : Int32) = 0 by decide), e8]
            rfl
          have m97 : f_X6_copy_b97 cm hh z e mv mr (nI s) (nI t) a3 a4 a5 0 = some (-4, e, mv, g9) := by
            unfold f_X6_copy_b97
            rw [if_pos rfl, e9]
            rfl
          rw [x91, m97]
          by_cases y : hh s = -1
          · rw [if_pos y, if_pos y, if_neg o1, if_neg o2]
            exact ⟨_, _, rfl, rfl, rfl, e10, h⟩
          · have y2 := p.resolve_left y
            rw [if_neg y, if_neg y, if_pos y2, if_pos y2, if_neg o1, if_neg o2]
            exact ⟨_, _, rfl, rfl, rfl, e10, h⟩
        · have p1 : ¬ hh s = -1 := fun y => p (Or.inl y)
          have p2 : ¬ hh t = -1 := fun y => p (Or.inr y)
          have rA : ∃ m : Nat, m ≤ 40 ∧ Z s = nI m ∧ z s = nI m ∧ ∀ i, i < m → E (40 * s + i) = e (40 * s + i) := by
            rcases hc with q | ⟨j, hj, q⟩ | ⟨so, m, r1, r2, r3, r4, r5, r6⟩
            · exact absurd q p1
            · exact absurd (nA.2.1 j hj q).1 o1
            · exact ⟨m, r2, r4, r5, r6⟩
          have rB : ∃ m : Nat, m ≤ 40 ∧ Z t = nI m ∧ z t = nI m := by
            rcases hc2 with q | ⟨j, hj, q⟩ | ⟨so, m, r1, r2, r3, r4, r5, r6⟩
            · exact absurd q p2
            · exact absurd (nB.2.1 j hj q).1 o2
            · exact ⟨m, r2, r4, r5⟩
          obtain ⟨m1, d1, d2, d3, d4⟩ := rA
          obtain ⟨m2, f1, f2, f3⟩ := rB
          rw [if_neg p1, if_neg p1, if_neg p2, if_neg p2, if_neg o1, if_neg o2]
          by_cases y : hh s = hh t
          · rw [if_pos y, if_pos y]
            unfold f_X5_copy_b91 f_X6_copy_b97
            rw [rf, if_neg o, if_neg p, Option.bind_some, if_pos rfl, if_neg one_ne0, sizeOf_eq hs8, sizeOf_eq ht8, x155, m150]
            simp only [if_pos (ix8 hs8).1, if_pos (ix8 ht8).1, (ix8 hs8).2, (ix8 ht8).2, d2, d3, f2, f3, isWithin_eq, Option.bind_some]
            have no : ∃ (u : Int32 × (Nat → Int32) × (Nat → Int64)) (v : Int32 × (Nat → Int64) × (Nat → Int64) × (Nat → Int32)), some (-2, g1, E) = some u ∧ some (-2, e, mv, g2) = some v ∧ u.1 = v.1 ∧ RRef u.2.1 v.2.2.2 ∧ RSh Ks Z hh z u.2.2 v.2.1 n := ⟨_, _, rfl, rfl, rfl, e3, h⟩
            by_cases c5 : a5 < 0
            · rw [if_pos c5, if_pos c5]; exact no
            · rw [if_neg c5, if_neg c5]
              by_cases c3 : a3 < 0
              · rw [if_pos c3, if_neg (show ¬ (0 ≤ a3 ∧ a3 ≤ nI m1 - a5) from fun w => absurd w.1 (Int32.not_le.mpr c3)), if_pos rfl]; exact no
              · rw [if_neg c3]
                obtain ⟨k, hk, rfl⟩ := nI_of c5
                obtain ⟨a, ha, rfl⟩ := nI_of c3
                have l1 := le_sub d1 ha hk
                by_cases w1 : a + k ≤ m1
                · rw [if_pos (show 0 ≤ nI a ∧ nI a ≤ nI m1 - nI k from ⟨nI_pos' ha, l1.1.mpr w1⟩), if_neg one_ne0, if_neg (show ¬ nI m1 - nI a < nI k from fun w => by have := l1.2.1.mp w; omega)]
                  by_cases c4 : a4 < 0
                  · rw [if_pos c4, if_neg (show ¬ (0 ≤ a4 ∧ a4 ≤ nI m2 - nI k) from fun w => absurd w.1 (Int32.not_le.mpr c4)), if_pos rfl]; exact no
                  · rw [if_neg c4]
                    obtain ⟨b, hb, rfl⟩ := nI_of c4
                    have l2 := le_sub f1 hb hk
                    by_cases w2 : b + k ≤ m2
                    · rw [if_pos (show 0 ≤ nI b ∧ nI b ≤ nI m2 - nI k from ⟨nI_pos' hb, l2.1.mpr w2⟩), if_neg one_ne0, if_pos (l2.2.2.mpr w2)]
                      obtain ⟨E2, e2', mv2, k1, k2, k3⟩ := move_both (ct := cm) (mr := mr) (mv := mv) (a := a) (b := b) (n := k) (m1 := m1) h hs8 ht8 (Or.inr trivial) (by omega) (by omega) (fun i hi => by rw [Nat.add_assoc]; exact d4 _ (by omega))
                      rw [k1, k2, Option.bind_some]
                      exact ⟨_, _, rfl, rfl, rfl, hr, k3⟩
                    · rw [if_neg (show ¬ (0 ≤ nI b ∧ nI b ≤ nI m2 - nI k) from fun w => w2 (l2.1.mp w.2)), if_pos rfl, if_neg (show ¬ nI k ≤ nI m2 - nI b from fun w => w2 (l2.2.2.mp w))]; exact no
                · rw [if_neg (show ¬ (0 ≤ nI a ∧ nI a ≤ nI m1 - nI k) from fun w => w1 (l1.1.mp w.2)), if_pos rfl, if_pos (show nI m1 - nI a < nI k from l1.2.1.mpr (by omega))]
                  by_cases c4 : a4 < 0
                  · rw [if_pos c4]; exact no
                  · rw [if_neg c4]; exact no
          · rw [if_neg y, if_neg y]
            exact ⟨_, _, rfl, rfl, rfl, e7, h⟩
    · rw [if_neg c2, if_pos rfl, if_pos rfl]
      exact ⟨_, _, rfl, rfl, rfl, e3, h⟩
  · rw [if_neg c1, if_pos rfl, if_pos rfl]
    exact ⟨_, _, rfl, rfl, rfl, e3, h⟩
