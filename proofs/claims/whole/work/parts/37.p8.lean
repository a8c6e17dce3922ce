-- ===== the relation between the two, piece by piece =====
theorem upd_eq {f : Nat → Int32} {k : Nat} {x : Int32} : upd f k x k = x := if_pos rfl
theorem upd_ne {f : Nat → Int32} {k j : Nat} {x : Int32} (h : j ≠ k) : upd f k x j = f j := if_neg h
noncomputable def IRs (s n : Nat) (f N : Nat → Int32) : Prop := 3 ≤ s ∧ s ≤ 7 ∧ n ≤ 8 ∧ f 0 = nI s ∧ N 90 = nI s ∧ f 7 = nI n ∧ N 89 = nI n ∧ (N 91 = f 1 ∧ isB (f 1)) ∧ (N 92 = f 2 ∧ isB (f 2)) ∧ (∃ d : Nat, d ≤ 12 ∧ f 3 = nI d ∧ N 93 = nI d) ∧ N 94 = f 4 ∧ N 95 = f 5 ∧ N 96 = f 6
noncomputable def IRe (K Wt C F G N : Nat → Int32) : Prop := ∀ p, p < 8 → N (5 * p) = K p ∧ N (5 * p + 1) = Wt p ∧ N (5 * p + 2) = C p ∧ N (5 * p + 3) = F p ∧ N (5 * p + 4) = G p
noncomputable def IRv (s n : Nat) (K Wt C F G : Nat → Int32) : Prop := ∀ p, p < n → (∃ a : Nat, a ≤ 5 ∧ K p = nI a) ∧ (∃ a : Nat, a ≤ 9 ∧ Wt p = nI a) ∧ (∃ a : Nat, okc s a ∧ C p = nI a) ∧ (∃ a : Nat, a < 4 ∧ F p = nI a) ∧ isB (G p)
noncomputable def IRc (s : Nat) (P N : Nat → Int32) : Prop := ∀ k, k < 70 → k % 10 < 7 → N (pt k) = P k ∧ isB (P k) ∧ (¬ okc s k → P k = 0)
noncomputable def IRn (s n : Nat) (f P K Wt C F G N : Nat → Int32) : Prop := IRs s n f N ∧ IRe K Wt C F G N ∧ IRv s n K Wt C F G ∧ IRc s P N
noncomputable def IRel (f P K Wt C F G N : Nat → Int32) : Prop := ∃ s n : Nat, IRn s n f P K Wt C F G N
theorem IRe.congr {K Wt C F G N N2 : Nat → Int32} (h : IRe K Wt C F G N) (hN : ∀ j, j < 40 → N2 j = N j) : IRe K Wt C F G N2 := fun p hp => by
  obtain ⟨a, b, c, d, e⟩ := h p hp
  exact ⟨(hN _ (by omega)).trans a, (hN _ (by omega)).trans b, (hN _ (by omega)).trans c, (hN _ (by omega)).trans d, (hN _ (by omega)).trans e⟩
theorem IRc.congr {s : Nat} {P N N2 : Nat → Int32} (h : IRc s P N) (hN : ∀ j, 40 ≤ j → j < 89 → N2 j = N j) : IRc s P N2 := fun k hk h7 => by
  obtain ⟨a, b⟩ := h k hk h7
  exact ⟨(hN _ (by unfold pt; omega) (by unfold pt; omega)).trans a, b⟩
theorem IRs.congr {s n : Nat} {f N N2 : Nat → Int32} (h : IRs s n f N) (hN : ∀ j, 89 ≤ j → N2 j = N j) : IRs s n f N2 := by
  obtain ⟨a, b, c, d, e, g, i, j, k, ⟨q, q1, q2, q3⟩, l, m, o⟩ := h
  exact ⟨a, b, c, d, (hN _ (by omega)).trans e, g, (hN _ (by omega)).trans i, ⟨(hN _ (by omega)).trans j.1, j.2⟩, ⟨(hN _ (by omega)).trans k.1, k.2⟩, ⟨q, q1, q2, (hN _ (by omega)).trans q3⟩, (hN _ (by omega)).trans l, (hN _ (by omega)).trans m, (hN _ (by omega)).trans o⟩
theorem IRc.ok {s : Nat} {P N : Nat → Int32} (h : IRc s P N) (hs : s ≤ 7) {k : Nat} (hk : okc s k) : N (pt k) = P k ∧ isB (P k) := by
  have h1 := hk.1
  have h2 := hk.2
  exact ⟨(h k (by omega) (by omega)).1, (h k (by omega) (by omega)).2.1⟩
noncomputable def RRef (xr mr : Nat → Int32) : Prop := ∀ j, j < 5 → xr j = mr (j + 2)
theorem refuse_both {cx cm xr mr : Nat → Int32} {code : Int32} (hc : isCode code) (hr : RRef xr mr) : ∃ u v, f_X5_refuse code cx xr = some (code, u) ∧ f_X6_refuse code cm mr = some (code, v) ∧ RRef u v := by
  have key : ∀ j, j < 5 → code = -(nI (j + 2)) → ∃ u v, f_X5_refuse code cx xr = some (code, u) ∧ f_X6_refuse code cm mr = some (code, v) ∧ RRef u v := by
    intro j hj he
    have e1 : ((-2 : Int32) - code) = nI j := by
      rw [he]
      rcases (show j = 0 ∨ j = 1 ∨ j = 2 ∨ j = 3 ∨ j = 4 by omega) with rfl | rfl | rfl | rfl | rfl <;> decide
    have e2 : -code = nI (j + 2) := by
      rw [he]
      rcases (show j = 0 ∨ j = 1 ∨ j = 2 ∨ j = 3 ∨ j = 4 by omega) with rfl | rfl | rfl | rfl | rfl <;> decide
    have e3 : (-6 : Int32) ≤ code ∧ code ≤ -2 := by
      rw [he]
      rcases (show j = 0 ∨ j = 1 ∨ j = 2 ∨ j = 3 ∨ j = 4 by omega) with rfl | rfl | rfl | rfl | rfl <;> decide
    unfold f_X5_refuse f_X6_refuse
    rw [isWithin_eq, if_pos e3]
    simp only [Option.bind_some, e1, e2, if_neg (show ¬ (1 : Int32) = 0 by decide), if_pos (inb_nI (show j < 5 from hj) (by decide)), if_pos (inb_nI (show j + 2 < 7 by omega) (by decide)), nI_cl (show j < 2147483648 by omega), nI_cl (show j + 2 < 2147483648 by omega)]
    refine ⟨_, _, rfl, rfl, fun i hi => ?_⟩
    by_cases q : i = j
    · rw [q, upd_eq, upd_eq, hr j hj]
    · rw [upd_ne q, upd_ne (by omega), hr i hi]
  rcases hc with rfl | rfl | rfl | rfl | rfl
  · exact key 0 (by decide) (by decide)
  · exact key 1 (by decide) (by decide)
  · exact key 2 (by decide) (by decide)
  · exact key 3 (by decide) (by decide)
  · exact key 4 (by decide) (by decide)
theorem isOne_both {f N ct : Nat → Int32} {n : Nat} (hn : n ≤ 8) (h1 : f 7 = nI n) (h2 : N 89 = nI n) (p : Int32) : (∃ j, j < n ∧ p = nI j ∧ f_X0_isOne p f = some 1 ∧ f_X6_isPerson p ct N = some 1) ∨ (f_X0_isOne p f = some 0 ∧ f_X6_isPerson p ct N = some 0) := by
  unfold f_X0_isOne f_X6_isPerson
  rw [show f_X6_isIn p.toInt64 0 ((N 89 - 1).toInt64) = some (if 0 ≤ p ∧ p ≤ N 89 - 1 then 1 else 0) from isIn_eq p 0 (N 89 - 1), isWithin_eq, h1, h2]
  simp only [Option.bind_some]
  rw [if_pos (w01 _)]
  have e1 : ((nI n - 1 : Int32)).toInt = (n : Int) - 1 := by
    rw [show (1 : Int32) = nI 1 from rfl, pk_sub_toInt (by omega) (by decide)]; rfl
  by_cases c1 : 0 ≤ p ∧ p ≤ 7
  · obtain ⟨j, hj, rfl⟩ := i32_nat (n := 7) c1.1 c1.2 (by decide)
    rw [if_pos c1, if_neg (show ¬ (1 : Int32) = 0 by decide)]
    have e2 : (nI n ≤ nI j) ↔ n ≤ j := nI_leI (by omega) (by omega)
    have e3 : (nI j ≤ nI n - 1) ↔ j < n := by
      rw [Int32.le_iff_toInt_le, e1, nI_toI (by omega)]; omega
    by_cases c2 : n ≤ j
    · right
      rw [if_pos (e2.mpr c2), if_neg (fun z => by have := e3.mp z.2; omega)]
      exact ⟨rfl, rfl⟩
    · left
      rw [if_neg (fun z => c2 (e2.mp z)), if_pos ⟨c1.1, e3.mpr (by omega)⟩]
      exact ⟨j, by omega, rfl, rfl, rfl⟩
  · right
    rw [if_neg c1, if_pos rfl, if_neg]
    · exact ⟨rfl, rfl⟩
    · intro z
      apply c1
      refine ⟨z.1, ?_⟩
      have h3 := z.2
      rw [Int32.le_iff_toInt_le, e1] at h3
      rw [Int32.le_iff_toInt_le]
      have : (7 : Int32).toInt = 7 := by decide
      omega
theorem case_tell {cx cm f P K Wt C F G N xr mr : Nat → Int32} (h : IRel f P K Wt C F G N) (hr : RRef xr mr) (a1 a2 : Int32) : ∃ u v, f_X5_tell a1 a2 cx f xr = some u ∧ f_X6_tell a1 a2 cm N mr = some v ∧ u.1 = v.1 ∧ IRel u.2.1 P K Wt C F G v.2.1 ∧ RRef u.2.2 v.2.2 := by
  obtain ⟨g1, g2, e1, e2, e3⟩ := refuse_both (cx := cx) (cm := cm) (code := -2) (Or.inl rfl) hr
  have hX : f_X5_tell_b28 cx f xr = some (-2, f, g1) := by unfold f_X5_tell_b28; rw [e1]; rfl
  have hM : f_X6_tell_b33 cm N mr = some (-2, N, g2) := by unfold f_X6_tell_b33; rw [e2]; rfl
  unfold f_X5_tell f_X6_tell
  rw [isWithin_eq, show f_X6_isIn a1.toInt64 0 2 = some (if 0 ≤ a1 ∧ a1 ≤ 2 then 1 else 0) from isIn_eq a1 0 2, hX, hM]
  simp only [Option.bind_some]
  by_cases c1 : 0 ≤ a1 ∧ a1 ≤ 2
  · rw [if_pos c1, if_neg (show ¬ (1 : Int32) = 0 by decide), if_neg (show ¬ (1 : Int32) = 0 by decide)]
    have hmain : ∀ (B : Int32) (B64 : Int64) (d : Nat), B.toInt64 = B64 → B = nI d → ((a1 = 2 ∧ d = 12) ∨ (a1 ≠ 2 ∧ d = 1)) → ∃ u v, f_X5_tell_b22 cx f xr a1 a2 B 0 a2 = some u ∧ f_X6_tell_b27 cm N mr a1 a2 B64 0 a2.toInt64 = some v ∧ u.1 = v.1 ∧ IRel u.2.1 P K Wt C F G v.2.1 ∧ RRef u.2.2 v.2.2 := by
      intro B B64 d hB hd hcase
      unfold f_X5_tell_b22 f_X6_tell_b27
      rw [isWithin_eq, ← hB, show f_X6_isIn a2.toInt64 0 B.toInt64 = some (if 0 ≤ a2 ∧ a2 ≤ B then 1 else 0) from isIn_eq a2 0 B, hX, hM]
      simp only [Option.bind_some]
      by_cases c2 : 0 ≤ a2 ∧ a2 ≤ B
      · rw [if_pos c2, if_neg (show ¬ (1 : Int32) = 0 by decide), if_neg (show ¬ (1 : Int32) = 0 by decide)]
        obtain ⟨v, hv, hva⟩ := i32_nat (n := d) c2.1 (by rw [← hd]; exact c2.2) (by omega)
        obtain ⟨s, n, hs, he, hp, hc⟩ := h
        obtain ⟨i, hi, hia⟩ := i32_nat (n := 2) c1.1 c1.2 (by decide)
        have e5 : (91 : Int32) + a1 = nI (91 + i) := by rw [hia]; exact nI_add 91 i
        simp only [e5, if_pos (inb_nI (show 91 + i < 97 by omega) (by decide)), nI_cl (show 91 + i < 2147483648 by omega)]
        obtain ⟨q1, q2, q3, q4, q5, q6, q7, ⟨q8, q9⟩, ⟨q10, q11⟩, ⟨dd, q12, q13, q14⟩, q15, q16, q17⟩ := hs
        have hb : d = 1 → isB a2 := fun hd1 => by
          rw [hva]
          rcases (show v = 0 ∨ v = 1 by omega) with rfl | rfl
          · exact Or.inl rfl
          · exact Or.inr rfl
        rcases (show i = 0 ∨ i = 1 ∨ i = 2 by omega) with rfl | rfl | rfl
        · have ha : a1 = 0 := hia
          rw [if_pos ha]
          have hd1 : d = 1 := hcase.elim (fun z => absurd (ha.symm.trans z.1) (by decide)) (fun z => z.2)
          refine ⟨_, _, rfl, rfl, q8.symm, ⟨s, n, ⟨q1, q2, q3, ?_, ?_, ?_, ?_, ⟨?_, ?_⟩, ⟨?_, ?_⟩, ⟨dd, q12, ?_, ?_⟩, ?_, ?_, ?_⟩, he.congr (fun j hj => upd_ne (by omega)), hp, hc.congr (fun j h1 h2 => upd_ne (by omega))⟩, hr⟩ <;> simp only [upd, if_true] <;> first | assumption | exact hb hd1
        · have ha : a1 = 1 := hia
          rw [if_neg (by rw [ha]; decide), if_pos ha]
          have hd1 : d = 1 := hcase.elim (fun z => absurd (ha.symm.trans z.1) (by decide)) (fun z => z.2)
          refine ⟨_, _, rfl, rfl, q10.symm, ⟨s, n, ⟨q1, q2, q3, ?_, ?_, ?_, ?_, ⟨?_, ?_⟩, ⟨?_, ?_⟩, ⟨dd, q12, ?_, ?_⟩, ?_, ?_, ?_⟩, he.congr (fun j hj => upd_ne (by omega)), hp, hc.congr (fun j h1 h2 => upd_ne (by omega))⟩, hr⟩ <;> simp only [upd, if_true] <;> first | assumption | exact hb hd1
        · have ha : a1 = 2 := hia
          rw [if_neg (by rw [ha]; decide), if_neg (by rw [ha]; decide)]
          have hd1 : d = 12 := hcase.elim (fun z => z.2) (fun z => absurd ha z.1)
          refine ⟨_, _, rfl, rfl, q13.trans q14.symm, ⟨s, n, ⟨q1, q2, q3, ?_, ?_, ?_, ?_, ⟨?_, ?_⟩, ⟨?_, ?_⟩, ⟨v, by omega, ?_, ?_⟩, ?_, ?_, ?_⟩, he.congr (fun j hj => upd_ne (by omega)), hp, hc.congr (fun j h1 h2 => upd_ne (by omega))⟩, hr⟩ <;> simp only [upd, if_true] <;> assumption
      · rw [if_neg c2, if_pos rfl, if_pos rfl]
        exact ⟨_, _, rfl, rfl, rfl, h, e3⟩
    by_cases c3 : a1 = 2
    · rw [if_pos c3, if_pos c3]
      exact hmain 12 12 12 rfl rfl (Or.inl ⟨c3, rfl⟩)
    · rw [if_neg c3, if_neg c3]
      exact hmain 1 1 1 rfl rfl (Or.inr ⟨c3, rfl⟩)
  · rw [if_neg c1, if_pos rfl, if_pos rfl]
    exact ⟨_, _, rfl, rfl, rfl, h, e3⟩
