-- ===== status =====
noncomputable def gk (N : Nat → Int32) (k : Nat) : Int32 := if k % 10 < 7 then N (pt k) else 0
theorem pondStep {s : Nat} {f P N : Nat → Int32} (hs : s ≤ 7) (h0 : f 0 = nI s) (n0 : N 90 = nI s) (hc : IRc s P N) {k : Nat} (hk : k < 70) (a : Nat) (acc : Int32) : f_X0_howManyPonds_b4 f P (a + 1) acc (nI k) = f_X0_howManyPonds_b4 f P a (acc + gk N k) (nI (k + 1)) := by
  rw [f_X0_howManyPonds_b4, if_neg (fun z => by have := (nI_leI (a := 70) (by omega) (by omega)).mp z; omega), nI_1]
  rcases isCell_both (N := N) (t := f) hs h0 n0 (nI k) with ⟨c, hc70, hcc, hce, i1, i2⟩ | ⟨i1, i2⟩
  · have hkc : k = c := nI_inj (by omega) (by omega) hce
    rw [hkc, hasPond_X0 hs h0 hcc, ob, asNumber_eq, ob]
    have h2 := hcc.2
    unfold gk
    rw [if_pos (show c % 10 < 7 by omega), (hc.ok hs hcc).1]
    rcases (hc.ok hs hcc).2 with z | z
    · simp only [z, if_true]
    · simp only [z, if_neg one_ne0]
  · unfold f_X0_hasPond
    rw [i1, ob, if_pos rfl, ob, asNumber_eq, ob, if_pos rfl]
    unfold gk
    by_cases c7 : k % 10 < 7
    · rw [if_pos c7, (hc k hk c7).1, (hc k hk c7).2.2 (fun ho => by
        have := isCell_ok hs h0 ho
        rw [this] at i1
        cases i1)]
    · rw [if_neg c7]
theorem modelStep {ct hh N mr : Nat → Int32} {i : Nat} (hi : i < 49) (a : Nat) (acc : Int32) : f_X6_status_b103 ct hh N mr (a + 1) acc (nI i) = f_X6_status_b103 ct hh N mr a (acc + N (40 + i)) (nI (i + 1)) := by
  rw [f_X6_status_b103, if_neg (fun z => by have := (nI_leI (a := 49) (by omega) (by omega)).mp z; omega), show (40 : Int32) + nI i = nI (40 + i) from nI_add 40 i, if_pos (inb_nI (by omega) (by decide)), nI_cl (by omega), nI_1]
theorem rowStep {s : Nat} {f P N ct hh mr : Nat → Int32} (hs : s ≤ 7) (h0 : f 0 = nI s) (n0 : N 90 = nI s) (hc : IRc s P N) : ∀ (j a b : Nat) (acc : Int32), j ≤ 7 → 10 * j < a → 7 * j < b → ∃ r, f_X0_howManyPonds_b4 f P a acc (nI (70 - 10 * j)) = some r ∧ f_X6_status_b103 ct hh N mr b acc (nI (49 - 7 * j)) = some r := by
  intro j
  induction j with
  | zero =>
    intro a b acc _ ha hb
    obtain ⟨k, rfl⟩ : ∃ k, a = k + 1 := ⟨a - 1, by omega⟩
    obtain ⟨k2, rfl⟩ : ∃ k, b = k + 1 := ⟨b - 1, by omega⟩
    rw [f_X0_howManyPonds_b4, if_pos (by decide), f_X6_status_b103, if_pos (by decide)]
    exact ⟨_, rfl, rfl⟩
  | succ j ih =>
    intro a b acc hj ha hb
    obtain ⟨k, rfl⟩ : ∃ k, a = k + 1 + 1 + 1 + 1 + 1 + 1 + 1 + 1 + 1 + 1 := ⟨a - 10, by omega⟩
    obtain ⟨k2, rfl⟩ : ∃ k, b = k + 1 + 1 + 1 + 1 + 1 + 1 + 1 := ⟨b - 7, by omega⟩
    obtain ⟨r, hr1, hr2, hr3⟩ : ∃ r, r ≤ 6 ∧ 70 - 10 * (j + 1) = 10 * r ∧ 49 - 7 * (j + 1) = 7 * r := ⟨6 - j, by omega, by omega, by omega⟩
    have g1 : ∀ c, c < 7 → gk N (10 * r + c) = N (40 + (7 * r + c)) := fun c hc => by
      unfold gk pt
      rw [if_pos (by omega)]
      congr 1
      omega
    have g2 : ∀ c, 7 ≤ c → c < 10 → gk N (10 * r + c) = 0 := fun c hc hc2 => by
      unfold gk
      rw [if_neg (by omega)]
    have st := fun c (hc10 : c < 10) a acc => pondStep hs h0 n0 hc (show 10 * r + c < 70 by omega) a acc
    have sm := fun c (hc7 : c < 7) a acc => modelStep (ct := ct) (hh := hh) (N := N) (mr := mr) (show 7 * r + c < 49 by omega) a acc
    rw [hr2, hr3]
    have s0 := st 0 (by decide)
    have m0 := sm 0 (by decide)
    rw [Nat.add_zero] at s0 m0
    rw [s0, st 1 (by decide), st 2 (by decide), st 3 (by decide), st 4 (by decide), st 5 (by decide), st 6 (by decide), st 7 (by decide), st 8 (by decide), st 9 (by decide)]
    rw [m0, sm 1 (by decide), sm 2 (by decide), sm 3 (by decide), sm 4 (by decide), sm 5 (by decide), sm 6 (by decide)]
    have g0 := g1 0 (by decide)
    rw [Nat.add_zero, Nat.add_zero] at g0
    rw [g0, g1 1 (by decide), g1 2 (by decide), g1 3 (by decide), g1 4 (by decide), g1 5 (by decide), g1 6 (by decide), g2 7 (by decide) (by decide), g2 8 (by decide) (by decide), g2 9 (by decide) (by decide), Int32.add_zero, Int32.add_zero, Int32.add_zero]
    rw [show 10 * r + 9 + 1 = 70 - 10 * j by omega, show 7 * r + 6 + 1 = 49 - 7 * j by omega]
    exact ih k k2 _ (by omega) (by omega) (by omega)
theorem holdL {Ks hh ct N mr : Nat → Int32} (h : ∀ s, s < 8 → Ks s = hh s) : ∀ (j a b : Nat) (acc : Int32), j ≤ 8 → j < a → j < b → ∃ r, f_X3_howManyHold_b4 Ks a acc (nI (8 - j)) = some r ∧ f_X6_status_b157 ct hh N mr b acc (nI (8 - j)) = some r := by
  intro j
  induction j with
  | zero =>
    intro a b acc _ ha hb
    obtain ⟨k, rfl⟩ : ∃ k, a = k + 1 := ⟨a - 1, by omega⟩
    obtain ⟨k2, rfl⟩ : ∃ k, b = k + 1 := ⟨b - 1, by omega⟩
    rw [f_X3_howManyHold_b4, if_pos (by decide), f_X6_status_b157, if_pos (by decide)]
    exact ⟨_, rfl, rfl⟩
  | succ j ih =>
    intro a b acc hj ha hb
    obtain ⟨k, rfl⟩ : ∃ k, a = k + 1 := ⟨a - 1, by omega⟩
    obtain ⟨k2, rfl⟩ : ∃ k, b = k + 1 := ⟨b - 1, by omega⟩
    have h8 : 8 - (j + 1) < 8 := by omega
    have hno : ¬ (8 : Int32) ≤ nI (8 - (j + 1)) := fun z => by have := (nI_leI (a := 8) (by omega) (by omega)).mp z; omega
    have e : nI (8 - (j + 1)) + (1 : Int32) = nI (8 - j) := by rw [nI_1]; congr 1; omega
    rw [f_X3_howManyHold_b4, f_X6_status_b157, if_neg hno, if_neg hno]
    simp only [if_pos (ix8 h8).1, (ix8 h8).2, h _ h8, f_X3_howManyHold_b26, f_X6_status_b179, asNumber_eq, ob, e, if_true, if_neg one_ne0]
    by_cases c : hh (8 - (j + 1)) = -1
    · rw [if_pos c, if_pos c]; exact ih k k2 _ (by omega) (by omega) (by omega)
    · rw [if_neg c, if_neg c]; exact ih k k2 _ (by omega) (by omega) (by omega)
theorem case_status {cx cm f P K Wt C F G N xr mr rd by_ tp Ks Z hh z : Nat → Int32} {E e : Nat → Int64} {n0 : Nat} (h : IRel f P K Wt C F G N) (hr : RRef xr mr) (ht : RTape rd by_ cm tp) (hsh : RSh Ks Z hh z E e n0) (a1 : Int32) : ∃ u v, f_X5_status a1 cx f P rd xr Ks = some u ∧ f_X6_status a1 cm hh N mr = some v ∧ u = v := by
  obtain ⟨s, n, ⟨q1, q2, q3, q4, q5, q6, q7, ⟨q8, -⟩, ⟨q9, -⟩, ⟨d, q10, q14, q15⟩, q11, q12, q13⟩, he, hv, hc⟩ := h
  obtain ⟨k, hk⟩ := FU_s
  obtain ⟨r, r1, r2⟩ := rowStep (ct := cm) (hh := hh) (mr := mr) q2 q4 q5 hc 7 FU FU 0 (by decide) (by omega) (by omega)
  obtain ⟨t, t1, t2⟩ := holdL (hh := hh) (ct := cm) (N := N) (mr := mr) (fun s hs => (hsh s hs).1) 8 FU FU 0 (by decide) (by omega) (by omega)
  obtain ⟨w, w1, w2, w3, w4⟩ := ht
  have p1 : f_X0_howManyPonds f P = some r := r1
  have p2 : f_X6_status_b103 cm hh N mr FU 0 0 = some r := r2
  have p3 : f_X3_howManyHold Ks = some t := t1
  have p4 : f_X6_status_b157 cm hh N mr FU 0 0 = some t := t2
  unfold f_X5_status f_X6_status
  rw [isWithin_eq, show f_X6_isIn a1.toInt64 12 16 = some (if 12 ≤ a1 ∧ a1 ≤ 16 then 1 else 0) from isIn_eq a1 12 16, p1, p2, p3, p4]
  simp only [f_X6_many, ob]
  by_cases c : 12 ≤ a1 ∧ a1 ≤ 16
  · obtain ⟨i, hi, rfl⟩ := i32_nat (n := 16) (Int32.le_trans (by decide) c.1) c.2 (by decide)
    have hi2 : 12 ≤ i := (nI_leI (a := 12) (by omega) (by omega)).mp c.1
    have ne : ∀ j, j < 12 → ¬ nI i = nI j := fun j hj z => by have := nI_inj (by omega) (by omega) z; omega
    rw [if_pos c, if_neg (show ¬ nI i = 0 from ne 0 (by decide)), if_neg (show ¬ nI i = 1 from ne 1 (by decide)), if_neg (show ¬ nI i = 2 from ne 2 (by decide)), if_neg (show ¬ nI i = 3 from ne 3 (by decide)), if_neg (show ¬ nI i = 4 from ne 4 (by decide)), if_neg (show ¬ nI i = 5 from ne 5 (by decide)), if_neg (show ¬ nI i = 6 from ne 6 (by decide)), if_neg (show ¬ nI i = 7 from ne 7 (by decide)), if_neg (show ¬ nI i = 8 from ne 8 (by decide)), if_neg (show ¬ nI i = 9 from ne 9 (by decide)), if_neg (show ¬ nI i = 10 from ne 10 (by decide)), if_neg one_ne0, if_neg one_ne0]
    rw [show nI i - 12 = nI (i - 12) from pk_sub hi2, show nI i - 10 = nI (i - 10) from pk_sub (show 10 ≤ i by omega), if_pos (inb_nI (show i - 12 < 5 by omega) (by decide)), if_pos (inb_nI (show i - 10 < 7 by omega) (by decide)), nI_cl (by omega), nI_cl (by omega)]
    refine ⟨_, _, rfl, rfl, ?_⟩
    rw [hr (i - 12) (by omega)]
    congr 1
    omega
  · rw [if_neg c, if_pos rfl, if_pos rfl]
    by_cases b0 : a1 = 0
    · rw [if_pos b0, if_pos b0]; exact ⟨_, _, rfl, rfl, q6.trans q7.symm⟩
    · rw [if_neg b0, if_neg b0]
      by_cases b1 : a1 = 1
      · rw [if_pos b1, if_pos b1, b1, if_pos (by decide)]; exact ⟨_, _, rfl, rfl, q4.trans q5.symm⟩
      · rw [if_neg b1, if_neg b1]
        by_cases b2 : a1 = 2
        · rw [if_pos b2, if_pos b2, b2, if_pos (by decide)]; exact ⟨_, _, rfl, rfl, q8.symm⟩
        · rw [if_neg b2, if_neg b2]
          by_cases b3 : a1 = 3
          · rw [if_pos b3, if_pos b3, b3, if_pos (by decide)]; exact ⟨_, _, rfl, rfl, q9.symm⟩
          · rw [if_neg b3, if_neg b3]
            by_cases b4 : a1 = 4
            · rw [if_pos b4, if_pos b4, b4, if_pos (by decide)]; exact ⟨_, _, rfl, rfl, q14.trans q15.symm⟩
            · rw [if_neg b4, if_neg b4]
              by_cases b5 : a1 = 5
              · rw [if_pos b5, if_pos b5]; exact ⟨_, _, rfl, rfl, rfl⟩
              · rw [if_neg b5, if_neg b5]
                by_cases b6 : a1 = 6
                · rw [if_pos b6, if_pos b6, b6, if_pos (by decide)]; exact ⟨_, _, rfl, rfl, q11.symm⟩
                · rw [if_neg b6, if_neg b6]
                  by_cases b7 : a1 = 7
                  · rw [if_pos b7, if_pos b7, b7, if_pos (by decide)]; exact ⟨_, _, rfl, rfl, q12.symm⟩
                  · rw [if_neg b7, if_neg b7]
                    by_cases b8 : a1 = 8
                    · rw [if_pos b8, if_pos b8]; exact ⟨_, _, rfl, rfl, w2.trans w3.symm⟩
                    · rw [if_neg b8, if_neg b8]
                      by_cases b9 : a1 = 9
                      · rw [if_pos b9, if_pos b9]; exact ⟨_, _, rfl, rfl, q13.symm⟩
                      · rw [if_neg b9, if_neg b9]
                        by_cases b10 : a1 = 10
                        · rw [if_pos b10]; exact ⟨_, _, rfl, rfl, rfl⟩
                        · rw [if_neg b10]; exact ⟨_, _, rfl, rfl, rfl⟩
