-- ===== who carries it: carries, swing =====
theorem IRn.n7 {s n : Nat} {f P K Wt C F G N : Nat → Int32} (h : IRn s n f P K Wt C F G N) : N 89 = nI n := h.1.2.2.2.2.2.2.1
noncomputable def bitI (m : Int32) (p : Nat) : Int32 := (m >>> (nI p &&& 31)) &&& 1
theorem and1_B (x : Int32) : isB (x &&& 1) := by
  obtain ⟨j, hj, e⟩ := pk_andE x (m := 1) 1 rfl
  rw [e]
  rcases (show j = 0 ∨ j = 1 by omega) with rfl | rfl
  · exact Or.inl rfl
  · exact Or.inr rfl
theorem bitI_B (m : Int32) (p : Nat) : isB (bitI m p) := and1_B _
theorem bit0 : ∀ p, p < 8 → bitI 0 p = 0 := by decide +kernel
noncomputable def flp (G : Nat → Int32) (m : Int32) (n p : Nat) : Int32 := if p < n then G p ^^^ bitI m p else G p
theorem xorB {a b : Int32} (ha : isB a) (hb : isB b) : isB (a ^^^ b) ∧ ((a ^^^ b = 0) ↔ a = b) ∧ ((a ^^^ b = 1) ↔ ¬ a = b) := by
  rcases ha with rfl | rfl <;> rcases hb with rfl | rfl <;> decide
theorem flp_flp {G : Nat → Int32} {m : Int32} {n : Nat} : flp (flp G m n) m n = G := by
  funext p
  unfold flp
  by_cases h : p < n
  · rw [if_pos h, if_pos h, Int32.xor_assoc, Int32.xor_self, Int32.xor_zero]
  · rw [if_neg h, if_neg h]
theorem flp_0 {G : Nat → Int32} {n : Nat} (hn : n ≤ 8) : flp G 0 n = G := by
  funext p
  unfold flp
  by_cases h : p < n
  · rw [if_pos h, bit0 p (by omega), Int32.xor_zero]
  · rw [if_neg h]
noncomputable def carr (L : Int32) (a b : Nat) : Int32 := if a = b then L else if a < b then 0 else 1
theorem carr_B {L : Int32} {a b : Nat} (h : isB L) : isB (carr L a b) := by
  unfold carr
  by_cases h1 : a = b
  · rw [if_pos h1]; exact h
  · rw [if_neg h1]
    by_cases h2 : a < b
    · rw [if_pos h2]; exact Or.inl rfl
    · rw [if_neg h2]; exact Or.inr rfl
theorem sub_zero {a b : Nat} (ha : a < 1000) (hb : b < 1000) : (nI a - nI b ≤ 0 ↔ a ≤ b) ∧ (0 ≤ nI a - nI b ↔ b ≤ a) ∧ (nI a - nI b = 0 ↔ a = b) := by
  have e : (nI a - nI b).toInt = (a : Int) - b := pk_sub_toInt (by omega) (by omega)
  have z : (0 : Int32).toInt = 0 := by decide
  refine ⟨?_, ?_, ?_⟩
  · rw [Int32.le_iff_toInt_le, e, z]; omega
  · rw [Int32.le_iff_toInt_le, e, z]; omega
  · rw [← Int32.toInt_inj, e, z]; omega
theorem carriesM {s n : Nat} {ct f P K Wt C F G N : Nat → Int32} (h : IRn s n f P K Wt C F G N) : f_X6_carries ct N = some (carr (f 1) (wgt G Wt 1 n n) (wgt G Wt 0 n n)) := by
  have hn := h.1.2.2.1
  have b1 := wgt_le (c := 1) h.2.2.1 n (Nat.le_refl _)
  have b0 := wgt_le (c := 0) h.2.2.1 n (Nat.le_refl _)
  obtain ⟨q1, q2, q3, q4, q5, q6, q7, ⟨q8, q9⟩, q10⟩ := h.1
  unfold f_X6_carries
  rw [weigh_eq h, weigh_eq h]
  simp only [Option.bind_some]
  obtain ⟨z1, z2, z3⟩ := sub_zero (show wgt G Wt 1 n n < 1000 by omega) (show wgt G Wt 0 n n < 1000 by omega)
  unfold carr
  by_cases c1 : wgt G Wt 1 n n = wgt G Wt 0 n n
  · rw [if_pos (z1.mpr (by omega)), if_pos (z2.mpr (by omega)), if_pos c1, q8]
  · rw [if_neg c1]
    by_cases c2 : wgt G Wt 1 n n < wgt G Wt 0 n n
    · rw [if_pos (z1.mpr (by omega)), if_neg (fun q => by have := z2.mp q; omega), if_pos c2]
    · rw [if_neg (fun q => by have := z1.mp q; omega), if_neg c2]
theorem carriedL {s n : Nat} {f P K Wt C F G N : Nat → Int32} (h : IRn s n f P K Wt C F G N) (m : Int32) : ∀ (j a x y : Nat), j ≤ n → j < a → x + 9 * j < 1000 → y + 9 * j < 1000 → f_X0_carriedIf_b4 f G Wt a m (nI x - nI y) (nI (n - j)) = some (carr (f 1) (x + wgt (flp G m n) Wt 1 n j) (y + wgt (flp G m n) Wt 0 n j)) := by
  obtain ⟨hs, he, hv, hc⟩ := h
  obtain ⟨q1, q2, q3, q4, q5, q6, q7, q8⟩ := hs
  intro j
  induction j with
  | zero =>
    intro a x y _ ha hx hy
    obtain ⟨k, rfl⟩ : ∃ k, a = k + 1 := ⟨a - 1, by omega⟩
    obtain ⟨z1, z2, z3⟩ := sub_zero (show x < 1000 by omega) (show y < 1000 by omega)
    rw [f_X0_carriedIf_b4, q6, if_pos ((nI_leI (by omega) (by omega)).mpr (by omega))]
    unfold carr wgt
    by_cases c1 : x = y
    · rw [if_pos (z3.mpr c1), if_pos (show x + 0 = y + 0 from c1)]
    · rw [if_neg (fun q => c1 (z3.mp q)), if_neg (show ¬ x + 0 = y + 0 from c1)]
      by_cases c2 : x < y
      · rw [if_pos (z1.mpr (by omega)), if_pos (show x + 0 < y + 0 from c2)]
      · rw [if_neg (fun q => by have := z1.mp q; omega), if_neg (show ¬ x + 0 < y + 0 from c2)]
  | succ j ih =>
    intro a x y hj ha hx hy
    obtain ⟨k, rfl⟩ : ∃ k, a = k + 1 := ⟨a - 1, by omega⟩
    have h8 : n - (j + 1) < 8 := by omega
    have e : nI (n - (j + 1)) + (1 : Int32) = nI (n - j) := by rw [nI_1]; congr 1; omega
    obtain ⟨-, ⟨w, hw1, hw2⟩, -, -, hg⟩ := hv (n - (j + 1)) (by omega)
    obtain ⟨x1, x2, x3⟩ := xorB hg (bitI_B m (n - (j + 1)))
    have hf : flp G m n (n - (j + 1)) = G (n - (j + 1)) ^^^ bitI m (n - (j + 1)) := if_pos (by omega)
    rw [f_X0_carriedIf_b4, q6, if_neg (fun z => by have := (nI_leI (by omega) (by omega)).mp z; omega)]
    simp only [if_pos (ix8 h8).1, (ix8 h8).2, f_X0_carriedIf_b31, f_X0_carriedIf_b55, e, hw2, if_true, if_neg one_ne0]
    rw [show ((m >>> (nI (n - (j + 1)) &&& 31)) &&& 1) = bitI m (n - (j + 1)) from rfl]
    unfold wgt
    rw [hf, hw2, nI_cl (show w < 2147483648 by omega)]
    by_cases c1 : G (n - (j + 1)) = bitI m (n - (j + 1))
    · rw [if_pos c1, if_neg (fun q => x3.mp q c1), if_pos (x2.mpr c1)]
      rw [show nI x - nI y + -nI w = nI x - nI (y + w) by rw [← nI_add]; grind]
      rw [ih k x (y + w) (by omega) (by omega) (by omega) (by omega), Nat.zero_add, Nat.add_assoc]
    · rw [if_neg c1, if_pos (x3.mpr c1), if_neg (fun q => c1 (x2.mp q))]
      rw [show nI x - nI y + nI w = nI (x + w) - nI y by rw [← nI_add]; grind]
      rw [ih k (x + w) y (by omega) (by omega) (by omega) (by omega), Nat.zero_add, Nat.add_assoc]
theorem carried_eq {s n : Nat} {f P K Wt C F G N : Nat → Int32} (h : IRn s n f P K Wt C F G N) (m : Int32) : f_X0_carriedIf m f G Wt = some (carr (f 1) (wgt (flp G m n) Wt 1 n n) (wgt (flp G m n) Wt 0 n n)) := by
  obtain ⟨k, hk⟩ := FU_s
  have hn := h.1.2.2.1
  have a := carriedL h m n FU 0 0 (Nat.le_refl _) (by omega) (by omega) (by omega)
  rw [Nat.sub_self, Nat.zero_add, Nat.zero_add] at a
  exact a
theorem carried0 {s n : Nat} {f P K Wt C F G N : Nat → Int32} (h : IRn s n f P K Wt C F G N) : f_X0_carriedIf 0 f G Wt = some (carr (f 1) (wgt G Wt 1 n n) (wgt G Wt 0 n n)) := by
  have a := carried_eq h 0
  rw [flp_0 h.1.2.2.1] at a
  exact a
theorem changeL {ct : Nat → Int32} {n : Nat} (hn : n ≤ 8) (m : Int32) : ∀ (j a : Nat) (N : Nat → Int32), j ≤ n → j < a → N 89 = nI n → ∃ N2, f_X6_change_b2 ct a N m (nI (n - j)) = some N2 ∧ (∀ p, n - j ≤ p → p < n → N2 (5 * p + 4) = N (5 * p + 4) ^^^ bitI m p) ∧ (∀ i, (∀ p, n - j ≤ p → p < n → i ≠ 5 * p + 4) → N2 i = N i) := by
  intro j
  induction j with
  | zero =>
    intro a N _ ha h7
    obtain ⟨k, rfl⟩ : ∃ k, a = k + 1 := ⟨a - 1, by omega⟩
    rw [f_X6_change_b2]
    simp only [f_X6_many, Option.bind_some, h7]
    rw [if_pos ((nI_leI (by omega) (by omega)).mpr (by omega))]
    exact ⟨_, rfl, fun p h1 h2 => absurd h1 (by omega), fun i _ => rfl⟩
  | succ j ih =>
    intro a N hj ha h7
    obtain ⟨k, rfl⟩ : ∃ k, a = k + 1 := ⟨a - 1, by omega⟩
    have h8 : n - (j + 1) < 8 := by omega
    have e : nI (n - (j + 1)) + (1 : Int32) = nI (n - j) := by rw [nI_1]; congr 1; omega
    obtain ⟨i1, i2, i3⟩ := ixN (q := 4) h8 (by decide)
    rw [f_X6_change_b2]
    simp only [f_X6_many, Option.bind_some, h7]
    rw [if_neg (fun z => by have := (nI_leI (by omega) (by omega)).mp z; omega)]
    rw [show (5 : Int32) * nI (n - (j + 1)) + 4 = nI (5 * (n - (j + 1)) + 4) from i1, if_pos i2, if_pos i2, i3, e, show ((m >>> (nI (n - (j + 1)) &&& 31)) &&& 1) = bitI m (n - (j + 1)) from rfl]
    obtain ⟨N2, r1, r2, r3⟩ := ih k (upd N (5 * (n - (j + 1)) + 4) (N (5 * (n - (j + 1)) + 4) ^^^ bitI m (n - (j + 1)))) (by omega) (by omega) ((upd_ne (by omega)).trans h7)
    refine ⟨N2, r1, fun p h1 h2 => ?_, fun i hi => ?_⟩
    · by_cases c : p = n - (j + 1)
      · rw [c, r3 _ (fun p h1 h2 => by omega), upd_eq]
      · rw [r2 p (by omega) h2, upd_ne (by omega)]
    · rw [r3 i (fun p h1 h2 => hi p (by omega) h2), upd_ne (hi _ (by omega) (by omega))]
theorem change_rel {s n : Nat} {ct f P K Wt C F G N : Nat → Int32} (h : IRn s n f P K Wt C F G N) (m : Int32) : ∃ N2, f_X6_change m ct N = some N2 ∧ IRn s n f P K Wt C F (flp G m n) N2 := by
  obtain ⟨k, hk⟩ := FU_s
  obtain ⟨hs, he, hv, hc⟩ := h
  have hn := hs.2.2.1
  obtain ⟨N2, r1, r2, r3⟩ := changeL (ct := ct) hn m n FU N (Nat.le_refl _) (by omega) hs.2.2.2.2.2.2.1
  rw [Nat.sub_self] at r1
  refine ⟨N2, r1, hs.congr (fun j hj => r3 _ (fun p h1 h2 => by omega)), fun p hp => ?_, fun p hp => ?_, hc.congr (fun j h1 h2 => r3 _ (fun p h3 h4 => by omega))⟩
  · obtain ⟨e1, e2, e3, e4, e5⟩ := he p hp
    refine ⟨(r3 _ (fun p h1 h2 => by omega)).trans e1, (r3 _ (fun p h1 h2 => by omega)).trans e2, (r3 _ (fun p h1 h2 => by omega)).trans e3, (r3 _ (fun p h1 h2 => by omega)).trans e4, ?_⟩
    unfold flp
    by_cases c : p < n
    · rw [if_pos c, r2 p (by omega) c, e5]
    · rw [if_neg c, r3 _ (fun p h1 h2 => by omega), e5]
  · obtain ⟨v1, v2, v3, v4, v5⟩ := hv p hp
    refine ⟨v1, v2, v3, v4, ?_⟩
    unfold flp
    rw [if_pos hp]
    exact (xorB v5 (bitI_B m p)).1
theorem case_carries {cx cm f P K Wt C F G N : Nat → Int32} (h : IRel f P K Wt C F G N) : ∃ u v, f_X5_carries cx f G Wt = some u ∧ f_X6_carries cm N = some v ∧ u = v := by
  obtain ⟨s, n, hn⟩ := h
  unfold f_X5_carries
  rw [carried0 hn, carriesM hn]
  exact ⟨_, _, rfl, rfl, rfl⟩
theorem case_swing {cx cm f P K Wt C F G N xr mr : Nat → Int32} (h : IRel f P K Wt C F G N) (hr : RRef xr mr) (a1 : Int32) : ∃ u v, f_X5_swing a1 cx f G Wt xr = some u ∧ f_X6_swing a1 cm N mr = some v ∧ u.1 = v.1 ∧ IRel f P K Wt C F G v.2.1 ∧ RRef u.2 v.2.2 ∧ v.2.1 89 = N 89 := by
  obtain ⟨g1, g2, e1, e2, e3⟩ := refuse_both (cx := cx) (cm := cm) (code := -2) (Or.inl rfl) hr
  have h0 := h
  obtain ⟨s, n, hn⟩ := h
  have q := hn.1
  unfold f_X5_swing f_X6_swing
  rcases isOne_both (ct := cm) q.2.2.1 q.2.2.2.2.2.1 q.2.2.2.2.2.2.1 a1 with ⟨p, hp, rfl, k1, k2⟩ | ⟨k1, k2⟩
  · rw [k1, k2]
    simp only [Option.bind_some]
    rw [if_neg one_ne0, if_neg one_ne0, carried_eq hn, carried0 hn, carriesM hn]
    simp only [Option.bind_some]
    obtain ⟨N2, c1, c2⟩ := change_rel (ct := cm) hn (1 <<< (nI p &&& 31))
    obtain ⟨N3, d1, d2⟩ := change_rel (ct := cm) c2 (1 <<< (nI p &&& 31))
    rw [flp_flp] at d2
    rw [c1]
    simp only [Option.bind_some]
    rw [carriesM c2]
    simp only [Option.bind_some]
    rw [d1]
    simp only [Option.bind_some, f_X5_swing_b44, asNumber_eq, if_true, if_neg one_ne0]
    by_cases z : carr (f 1) (wgt (flp G (1 <<< (nI p &&& 31)) n) Wt 1 n n) (wgt (flp G (1 <<< (nI p &&& 31)) n) Wt 0 n n) = carr (f 1) (wgt G Wt 1 n n) (wgt G Wt 0 n n)
    · rw [if_pos z, if_pos z.symm]
      exact ⟨_, _, rfl, rfl, rfl, ⟨s, n, d2⟩, hr, d2.n7.trans hn.n7.symm⟩
    · rw [if_neg z, if_neg (fun q => z q.symm)]
      exact ⟨_, _, rfl, rfl, rfl, ⟨s, n, d2⟩, hr, d2.n7.trans hn.n7.symm⟩
  · rw [k1, k2]
    simp only [Option.bind_some, if_true, e1, e2]
    exact ⟨_, _, rfl, rfl, rfl, h0, e3, rfl⟩
