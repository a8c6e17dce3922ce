-- ===== turn =====
theorem ob {α β : Type} (a : α) (f : α → Option β) : (Option.some a).bind f = f a := by
  have h : ∀ o, o = Option.some a → o.bind f = f a := fun o ho => by rw [ho]; exact rfl
  exact h _ rfl
noncomputable def bc (x : Int32) : Int32 := (f_J6_bitCount_0f7a4 x).getD 0
theorem bc_eq (x : Int32) : f_J6_bitCount_0f7a4 x = some (bc x) := rfl
noncomputable def bsum (x : Int32) : Int32 := 0 + bitI x 0 + bitI x 1 + bitI x 2 + bitI x 3 + bitI x 4 + bitI x 5 + bitI x 6 + bitI x 7
theorem bsum_all : ((List.range 256).all fun m => decide (bsum (nI m) = bc (nI m)) && (decide (0 ≤ bc (nI m)) && decide (bc (nI m) ≤ nI 8))) = true := by decide +kernel
theorem bsum_fin (m : Nat) (h : m < 256) : bsum (nI m) = bc (nI m) ∧ 0 ≤ bc (nI m) ∧ bc (nI m) ≤ nI 8 := by
  have a := List.all_eq_true.mp bsum_all m (List.mem_range.mpr h)
  rw [Bool.and_eq_true, Bool.and_eq_true] at a
  exact ⟨of_decide_eq_true a.1, of_decide_eq_true a.2.1, of_decide_eq_true a.2.2⟩
theorem ones_sum (x : Int32) : f_X6_ones x = some (bsum x) := by
  unfold f_X6_ones
  obtain ⟨k, hk⟩ := FU_s
  rw [hk, show k + 1101 = (k + 1092) + 1 + 1 + 1 + 1 + 1 + 1 + 1 + 1 + 1 from rfl]
  rw [f_X6_ones_b4, if_neg (by decide), f_X6_ones_b4, if_neg (by decide), f_X6_ones_b4, if_neg (by decide), f_X6_ones_b4, if_neg (by decide), f_X6_ones_b4, if_neg (by decide), f_X6_ones_b4, if_neg (by decide), f_X6_ones_b4, if_neg (by decide), f_X6_ones_b4, if_neg (by decide), f_X6_ones_b4, if_pos (by decide)]
  rfl
theorem ones_eq {m : Nat} (h : m < 256) : f_X6_ones (nI m) = some (bc (nI m)) := by rw [ones_sum, (bsum_fin m h).1]
theorem shl_all : ∀ n, n < 9 → (1 : Int32) <<< (nI n &&& 31) = nI (2 ^ n) ∧ 2 ^ n ≤ 256 ∧ 1 ≤ 2 ^ n := by decide +kernel
theorem shl_ex {n : Nat} (hn : n ≤ 8) : ∃ M : Nat, (1 : Int32) <<< (nI n &&& 31) = nI M ∧ M ≤ 256 ∧ 1 ≤ M := ⟨2 ^ n, shl_all n (by omega)⟩
noncomputable def BR (l2 l3 : Int32) : Prop := (l2 = -1 ∧ l3 = 9) ∨ ∃ b : Nat, b < 256 ∧ l2 = nI b ∧ l3 = bc (nI b)
theorem one_minus {v w : Int32} (hv : isB v) (hw : isB w) : (w = 1 - v) ↔ ¬ w = v := by
  rcases hv with rfl | rfl <;> rcases hw with rfl | rfl <;> decide
theorem turnL {s n : Nat} {cm f P K Wt C F G mr : Nat → Int32} {a1 v : Int32} {M : Nat} (hv : isB v) (s1 : (1 : Int32) <<< (nI n &&& 31) = nI M) (s2 : M ≤ 256) (s3 : 1 ≤ M) : ∀ (j a b : Nat) (N : Nat → Int32) (l2 l3 : Int32), IRn s n f P K Wt C F G N → j ≤ M → j < a → j < b → BR l2 l3 → ∃ r N2, f_X0_fewestToTurn_b16 f G Wt a (1 - v) l2 l3 (nI (M - j)) = some r ∧ f_X6_turn_b27 cm b N mr a1 v l2 (nI (M - j)) = (if r = -1 then some (-1, N2, mr) else if a1 = 0 then (some (bc r, N2, mr)) else some (r, N2, mr)) ∧ IRn s n f P K Wt C F G N2 := by
  intro j
  induction j with
  | zero =>
    intro a b N l2 l3 h _ ha hb hbr
    obtain ⟨k, rfl⟩ : ∃ k, a = k + 1 := ⟨a - 1, by omega⟩
    obtain ⟨k2, rfl⟩ : ∃ k, b = k + 1 := ⟨b - 1, by omega⟩
    have q := h.1
    have hyes : nI (M) ≤ nI (M - 0) := (nI_leI (by omega) (by omega)).mpr (by omega)
    rw [f_X0_fewestToTurn_b16, f_X6_turn_b27, q.2.2.2.2.2.1]
    simp only [f_X6_many, ob, q.2.2.2.2.2.2.1]
    rw [s1, if_pos hyes, if_pos hyes]
    refine ⟨l2, N, rfl, ?_, h⟩
    by_cases c1 : l2 = -1
    · rw [if_pos c1, if_pos c1]
    · rw [if_neg c1, if_neg c1]
      rcases hbr with ⟨z, -⟩ | ⟨bm, hbm, z1, z2⟩
      · exact absurd z c1
      · by_cases c2 : a1 = 0
        · rw [if_pos c2, if_pos c2, z1, ones_eq hbm]; rfl
        · rw [if_neg c2, if_neg c2]
  | succ j ih =>
    intro a b N l2 l3 h hj ha hb hbr
    obtain ⟨k, rfl⟩ : ∃ k, a = k + 1 := ⟨a - 1, by omega⟩
    obtain ⟨k2, rfl⟩ : ∃ k, b = k + 1 := ⟨b - 1, by omega⟩
    have q := h.1
    have hno : ¬ nI (M) ≤ nI (M - (j + 1)) := fun z => by have := (nI_leI (by omega) (by omega)).mp z; omega
    have hi : M - (j + 1) < 256 := by omega
    have e : nI (M - (j + 1)) + (1 : Int32) = nI (M - j) := by rw [nI_1]; congr 1; omega
    obtain ⟨y1, y2, y3⟩ := bsum_fin _ hi
    obtain ⟨N2, c1, c2⟩ := change_rel (ct := cm) h (nI (M - (j + 1)))
    obtain ⟨N3, d1, d2⟩ := change_rel (ct := cm) c2 (nI (M - (j + 1)))
    rw [flp_flp] at d2
    have hcb : isB (carr (f 1) (wgt (flp G (nI (M - (j + 1))) n) Wt 1 n n) (wgt (flp G (nI (M - (j + 1))) n) Wt 0 n n)) := carr_B q.2.2.2.2.2.2.2.1.2
    rw [f_X0_fewestToTurn_b16, f_X6_turn_b27, q.2.2.2.2.2.1]
    simp only [f_X6_many, ob, q.2.2.2.2.2.2.1]
    rw [s1, if_neg hno, if_neg hno, bc_eq, carried_eq h, c1]
    simp only [ob]
    rw [carriesM c2]
    simp only [ob, f_X0_fewestToTurn_b56, f_X6_turn_b57, f_X6_turn_b92, f_X6_turn_b87, f_X6_turn_b93, e]
    rw [d1]
    simp only [ob, if_true, if_neg one_ne0, ones_eq hi]
    have keep := ih k k2 N3 l2 l3 d2 (by omega) (by omega) (by omega) hbr
    have take := ih k k2 N3 (nI (M - (j + 1))) (bc (nI (M - (j + 1)))) d2 (by omega) (by omega) (by omega) (Or.inr ⟨_, hi, rfl, rfl⟩)
    by_cases t : carr (f 1) (wgt (flp G (nI (M - (j + 1))) n) Wt 1 n n) (wgt (flp G (nI (M - (j + 1))) n) Wt 0 n n) = v
    · rw [if_pos t, if_neg (fun q => (one_minus hv hcb).mp q t)]
      by_cases t2 : l3 ≤ bc (nI (M - (j + 1)))
      · rw [if_pos t2]; exact keep
      · rw [if_neg t2]; exact keep
    · rw [if_neg t, if_pos ((one_minus hv hcb).mpr t)]
      rcases hbr with ⟨z1, z2⟩ | ⟨bm, hbm, z1, z2⟩
      · rw [if_pos z1, z2, if_neg]
        · exact take
        · intro q
          have := Int32.le_trans q y3
          exact absurd this (by decide)
      · rw [if_neg (show ¬ l2 = -1 by rw [z1]; exact nI_ne1 (by omega))]
        rw [show f_X6_ones l2 = some l3 by rw [z1, z2]; exact ones_eq hbm]
        simp only [ob]
        by_cases t2 : l3 ≤ bc (nI (M - (j + 1)))
        · rw [if_pos t2, if_pos t2]; exact keep
        · rw [if_neg t2, if_neg t2]; exact take
theorem case_turn {cx cm f P K Wt C F G N xr mr : Nat → Int32} (h : IRel f P K Wt C F G N) (hr : RRef xr mr) (a1 : Int32) : ∃ u v, f_X5_turn a1 cx f G Wt xr = some u ∧ f_X6_turn a1 cm N mr = some v ∧ u.1 = v.1 ∧ IRel f P K Wt C F G v.2.1 ∧ RRef u.2 v.2.2 ∧ v.2.1 89 = N 89 := by
  obtain ⟨g1, g2, e1, e2, e3⟩ := refuse_both (cx := cx) (cm := cm) (code := -2) (Or.inl rfl) hr
  have h0 := h
  obtain ⟨s, n, hn⟩ := h
  have q := hn.1
  unfold f_X5_turn f_X6_turn
  rw [isWithin_eq, show f_X6_isIn a1.toInt64 0 1 = some (if 0 ≤ a1 ∧ a1 ≤ 1 then 1 else 0) from isIn_eq a1 0 1, e1, e2]
  simp only [ob]
  by_cases c1 : 0 ≤ a1 ∧ a1 ≤ 1
  · obtain ⟨m, hm⟩ := FU_s
    obtain ⟨M, s1, s2, s3⟩ := shl_ex q.2.2.1
    rw [if_pos c1, if_neg one_ne0, if_neg one_ne0, carriesM hn]
    unfold f_X0_fewestToTurn
    rw [carried0 hn]
    simp only [ob]
    have hcb : isB (carr (f 1) (wgt G Wt 1 n n) (wgt G Wt 0 n n)) := carr_B q.2.2.2.2.2.2.2.1.2
    obtain ⟨r, N2, r1, r2, r3⟩ := turnL (cm := cm) (mr := mr) (a1 := a1) hcb s1 s2 s3 (M - 1) (m + 1100) FU N (-1) 9 hn (by omega) (by omega) (by omega) (Or.inl ⟨rfl, rfl⟩)
    rw [show M - (M - 1) = 1 by omega] at r1 r2
    have r1' : f_X0_fewestToTurn_b16 f G Wt FU (1 - carr (f 1) (wgt G Wt 1 n n) (wgt G Wt 0 n n)) (-1) 9 0 = some r := by
      rw [hm, show m + 1101 = (m + 1100) + 1 from rfl, f_X0_fewestToTurn_b16, q.2.2.2.2.2.1, s1, if_neg (fun z => by have := (nI_leI (b := 0) (by omega) (by omega)).mp z; omega), bc_eq, carried0 hn]
      simp only [ob, f_X0_fewestToTurn_b56]
      rw [if_neg (show ¬ (9 : Int32) ≤ bc 0 by decide +kernel), if_neg (fun z => (one_minus hcb hcb).mp z rfl)]
      exact r1
    rw [r1', show f_X6_turn_b27 cm FU N mr a1 (carr (f 1) (wgt G Wt 1 n n) (wgt G Wt 0 n n)) (-1) 1 = _ from r2]
    simp only [ob, bc_eq]
    obtain ⟨i, hi, hia⟩ := i32_nat (n := 1) c1.1 c1.2 (by decide)
    rcases (show i = 0 ∨ i = 1 by omega) with rfl | rfl
    · have ha : a1 = 0 := hia
      rw [if_neg (show ¬ a1 = 1 by rw [ha]; decide), if_pos ha]
      by_cases z : r = -1
      · rw [if_pos z, if_pos z]
        exact ⟨_, _, rfl, rfl, z, ⟨s, n, r3⟩, hr, r3.n7.trans hn.n7.symm⟩
      · rw [if_neg z, if_neg z]
        exact ⟨_, _, rfl, rfl, rfl, ⟨s, n, r3⟩, hr, r3.n7.trans hn.n7.symm⟩
    · have ha : a1 = 1 := hia
      rw [if_pos ha, if_neg (show ¬ a1 = 0 by rw [ha]; decide)]
      by_cases z : r = -1
      · rw [if_pos z]
        exact ⟨_, _, rfl, rfl, z, ⟨s, n, r3⟩, hr, r3.n7.trans hn.n7.symm⟩
      · rw [if_neg z]
        exact ⟨_, _, rfl, rfl, rfl, ⟨s, n, r3⟩, hr, r3.n7.trans hn.n7.symm⟩
  · rw [if_neg c1, if_pos rfl, if_pos rfl]
    exact ⟨_, _, rfl, rfl, rfl, h0, e3, rfl⟩
