-- ===== years =====
noncomputable def nx (x : Int32) : Int32 := x * (1103515245 : Int32) + (12345 : Int32)
noncomputable def dr (x : Int32) : Int32 := (x.toUInt32 >>> ((16 : Int32).toUInt32 &&& Int32.toUInt32 31)).toInt32 - (x.toUInt32 >>> ((16 : Int32).toUInt32 &&& Int32.toUInt32 31)).toInt32 / (12 : Int32) * (12 : Int32)
theorem drawX (f : Nat → Int32) : f_X0_draw f = some (dr (nx (f 6)), upd f 6 (nx (f 6))) := by
  unfold f_X0_draw
  rw [upd_eq]
  rfl
theorem drawM (ct N : Nat → Int32) : f_X6_draw 12 ct N = some (dr (nx (N 96)), upd N 96 (nx (N 96))) := by
  unfold f_X6_draw
  rw [if_pos (by decide), upd_eq]
  rfl
theorem IRn.seed {s n : Nat} {f P K Wt C F G N : Nat → Int32} (h : IRn s n f P K Wt C F G N) (x : Int32) : IRn s n (upd f 6 x) P K Wt C F G (upd N 96 x) := by
  obtain ⟨⟨q1, q2, q3, q4, q5, q6, q7, q8, q9, ⟨d, q10, q14, q15⟩, q11, q12, q13⟩, he, hv, hc⟩ := h
  exact ⟨⟨q1, q2, q3, q4, q5, q6, q7, q8, q9, ⟨d, q10, q14, q15⟩, q11, q12, rfl⟩, he.congr (fun j hj => upd_ne (by omega)), hv, hc.congr (fun j h1 h2 => upd_ne (by omega))⟩
theorem IRn.year0 {s n : Nat} {f P K Wt C F G N : Nat → Int32} (h : IRn s n f P K Wt C F G N) {x : Int32} (hx : isB x) : IRn s n (upd (upd f 2 (f 1)) 1 x) P K Wt C F G (upd (upd N 92 (N 91)) 91 x) := by
  obtain ⟨⟨q1, q2, q3, q4, q5, q6, q7, q8, q9, ⟨d, q10, q14, q15⟩, q11, q12, q13⟩, he, hv, hc⟩ := h
  exact ⟨⟨q1, q2, q3, q4, q5, q6, q7, ⟨rfl, hx⟩, q8, ⟨d, q10, q14, q15⟩, q11, q12, q13⟩, he.congr (fun j hj => (upd_ne (by omega)).trans (upd_ne (by omega))), hv, hc.congr (fun j h1 h2 => (upd_ne (by omega)).trans (upd_ne (by omega)))⟩
theorem IRn.year1 {s n : Nat} {f P K Wt C F G N : Nat → Int32} (h : IRn s n f P K Wt C F G N) : IRn s n (upd f 4 (f 4 + 1)) P K Wt C F G (upd N 94 (N 94 + 1)) := by
  obtain ⟨⟨q1, q2, q3, q4, q5, q6, q7, q8, q9, ⟨d, q10, q14, q15⟩, q11, q12, q13⟩, he, hv, hc⟩ := h
  exact ⟨⟨q1, q2, q3, q4, q5, q6, q7, q8, q9, ⟨d, q10, q14, q15⟩, congrArg (· + 1) q11, q12, q13⟩, he.congr (fun j hj => upd_ne (by omega)), hv, hc.congr (fun j h1 h2 => upd_ne (by omega))⟩
theorem IRn.pledge {s n p : Nat} {f P K Wt C F G N : Nat → Int32} (h : IRn s n f P K Wt C F G N) {x : Int32} (hp : p < n) (hx : isB x) : IRn s n f P K Wt C F (upd G p x) (upd N (5 * p + 4) x) := by
  obtain ⟨hs, he, hv, hc⟩ := h
  have hn := hs.2.2.1
  refine ⟨hs.congr (fun i hi => upd_ne (by omega)), he.upd1 (by omega), fun j hj => ?_, hc.congr (fun i h1 h2 => upd_ne (by omega))⟩
  obtain ⟨a, b, c, d, g⟩ := hv j hj
  refine ⟨a, b, c, d, ?_⟩
  by_cases z : j = p
  · rw [z, upd_eq]; exact hx
  · rw [upd_ne z]; exact g
theorem flip1 {x : Int32} (h : isB x) : x ^^^ 1 = 1 - x := by rcases h with rfl | rfl <;> decide
theorem flip1B {x : Int32} (h : isB x) : isB (1 - x) := by
  rcases h with rfl | rfl
  · exact Or.inr rfl
  · exact Or.inl rfl
theorem yearL {s n : Nat} {cm P K Wt C F mr : Nat → Int32} (k21 : (Nat → Int32) → (Nat → Int32) → Int32 → Int32 → Option (Int32 × (Nat → Int32) × (Nat → Int32))) (l1 l2 : Int32) : ∀ (j a b : Nat) (f G N : Nat → Int32), IRn s n f P K Wt C F G N → j ≤ n → j < a → j < b → ∃ f2 G2 N2, f_X0_passYear_b21 Wt a f G (nI (n - j)) = some (f2, G2) ∧ f_X6_years_b56 cm k21 b N mr l1 l2 (nI (n - j)) = k21 N2 mr l1 (l2 + 1) ∧ IRn s n f2 P K Wt C F G2 N2 := by
  intro j
  induction j with
  | zero =>
    intro a b f G N h _ ha hb
    obtain ⟨k, rfl⟩ : ∃ k, a = k + 1 := ⟨a - 1, by omega⟩
    obtain ⟨k2, rfl⟩ : ∃ k, b = k + 1 := ⟨b - 1, by omega⟩
    have hn := h.1.2.2.1
    have hyes : nI n ≤ nI (n - 0) := (nI_leI (by omega) (by omega)).mpr (by omega)
    rw [f_X0_passYear_b21, f_X6_years_b56, h.1.2.2.2.2.2.1, if_pos hyes]
    simp only [f_X6_many, ob, h.n7]
    rw [if_pos hyes]
    exact ⟨_, _, _, rfl, rfl, h.year1⟩
  | succ j ih =>
    intro a b f G N h hj ha hb
    obtain ⟨k, rfl⟩ : ∃ k, a = k + 1 := ⟨a - 1, by omega⟩
    obtain ⟨k2, rfl⟩ : ∃ k, b = k + 1 := ⟨b - 1, by omega⟩
    have hn := h.1.2.2.1
    have h8 : n - (j + 1) < 8 := by omega
    have hno : ¬ nI n ≤ nI (n - (j + 1)) := fun z => by have := (nI_leI (by omega) (by omega)).mp z; omega
    have e : nI (n - (j + 1)) + (1 : Int32) = nI (n - j) := by rw [nI_1]; congr 1; omega
    obtain ⟨i1, i2, i3⟩ := ixN (q := 4) h8 (by decide)
    obtain ⟨-, -, -, -, d5⟩ := h.2.1 _ h8
    have hg := (h.2.2.1 (n - (j + 1)) (by omega)).2.2.2.2
    obtain ⟨d, hd, hd1, hd2⟩ := h.1.2.2.2.2.2.2.2.2.2.1
    have e6 : N 96 = f 6 := h.1.2.2.2.2.2.2.2.2.2.2.2.2
    rw [f_X0_passYear_b21, f_X6_years_b56, h.1.2.2.2.2.2.1, if_neg hno]
    simp only [f_X6_many, ob, h.n7]
    rw [if_neg hno, show (5 : Int32) * nI (n - (j + 1)) + 4 = nI (5 * (n - (j + 1)) + 4) from i1, if_pos i2, i3, drawX, drawM, d5, e6]
    simp only [ob, if_pos (ix8 h8).1, (ix8 h8).2, f_X0_passYear_b54, f_X6_years_b98, if_pos i2, i3, e]
    rw [show upd f 6 (nx (f 6)) 3 = nI d from hd1, show upd N 96 (nx (f 6)) 93 = nI d from hd2]
    have hs := h.seed (nx (f 6))
    by_cases c : nI d ≤ dr (nx (f 6))
    · rw [if_pos c, if_pos c, Int32.xor_zero]
      have e9 : upd (upd N 96 (nx (f 6))) (5 * (n - (j + 1)) + 4) (G (n - (j + 1))) = upd N 96 (nx (f 6)) := by
        funext i
        by_cases z : i = 5 * (n - (j + 1)) + 4
        · rw [z, upd_eq, upd_ne (by omega), d5]
        · rw [upd_ne z]
      rw [e9]
      exact ih k k2 _ _ _ hs (by omega) (by omega) (by omega)
    · rw [if_neg c, if_neg c, flip1 hg]
      exact ih k k2 _ _ _ (hs.pledge (by omega) (flip1B hg)) (by omega) (by omega) (by omega)
theorem yearsL {s n m : Nat} {cx cm P K Wt C F xr mr : Nat → Int32} (hm : m ≤ 60) : ∀ (j a b : Nat) (f G N : Nat → Int32), IRn s n f P K Wt C F G N → j ≤ m → j < a → j < b → ∃ f2 G2 N2 r, f_X5_years_b19 cx Wt a f G xr (nI m) (nI (m - j)) = some (r, f2, G2, xr) ∧ f_X6_years_b21 cm b N mr (nI m) (nI (m - j)) = some (r, N2, mr) ∧ IRn s n f2 P K Wt C F G2 N2 := by
  intro j
  induction j with
  | zero =>
    intro a b f G N h _ ha hb
    obtain ⟨k, rfl⟩ : ∃ k, a = k + 1 := ⟨a - 1, by omega⟩
    obtain ⟨k2, rfl⟩ : ∃ k, b = k + 1 := ⟨b - 1, by omega⟩
    have hyes : nI m ≤ nI (m - 0) := (nI_leI (by omega) (by omega)).mpr (by omega)
    rw [f_X5_years_b19, f_X6_years_b21, if_pos hyes, if_pos hyes, h.1.2.2.2.2.2.2.2.1.1]
    exact ⟨_, _, _, _, rfl, rfl, h⟩
  | succ j ih =>
    intro a b f G N h hj ha hb
    obtain ⟨k, rfl⟩ : ∃ k, a = k + 1 := ⟨a - 1, by omega⟩
    obtain ⟨k2, rfl⟩ : ∃ k, b = k + 1 := ⟨b - 1, by omega⟩
    obtain ⟨kk, hk⟩ := FU_s
    have hn := h.1.2.2.1
    have hno : ¬ nI m ≤ nI (m - (j + 1)) := fun z => by have := (nI_leI (by omega) (by omega)).mp z; omega
    have e : nI (m - (j + 1)) + (1 : Int32) = nI (m - j) := by rw [nI_1]; congr 1; omega
    have hcb : isB (carr (f 1) (wgt G Wt 1 n n) (wgt G Wt 0 n n)) := carr_B h.1.2.2.2.2.2.2.2.1.2
    obtain ⟨f2, G2, N2, r1, r2, r3⟩ := yearL (cm := cm) (mr := mr) (f_X6_years_b21 cm k2) (nI m) (nI (m - (j + 1))) n FU FU _ _ _ (h.year0 hcb) (Nat.le_refl _) (by omega) (by omega)
    rw [Nat.sub_self] at r1 r2
    obtain ⟨f3, G3, N3, r, t1, t2, t3⟩ := ih k k2 f2 G2 N2 r3 (by omega) (by omega) (by omega)
    rw [f_X5_years_b19, f_X6_years_b21, if_neg hno, if_neg hno, carriesM h]
    unfold f_X0_passYear
    rw [carried0 h, ob, ob]
    rw [show f_X0_passYear_b21 Wt FU (upd (upd f 2 (f 1)) 1 (carr (f 1) (wgt G Wt 1 n n) (wgt G Wt 0 n n))) G 0 = some (f2, G2) from r1]
    rw [show f_X6_years_b56 cm (f_X6_years_b21 cm k2) FU (upd (upd N 92 (N 91)) 91 (carr (f 1) (wgt G Wt 1 n n) (wgt G Wt 0 n n))) mr (nI m) (nI (m - (j + 1))) 0 = _ from r2]
    rw [ob, e]
    exact ⟨f3, G3, N3, r, t1, t2, t3⟩
theorem case_years {cx cm f P K Wt C F G N xr mr : Nat → Int32} (h : IRel f P K Wt C F G N) (hr : RRef xr mr) (a1 : Int32) : ∃ u v, f_X5_years a1 cx f G Wt xr = some u ∧ f_X6_years a1 cm N mr = some v ∧ u.1 = v.1 ∧ IRel u.2.1 P K Wt C F u.2.2.1 v.2.1 ∧ RRef u.2.2.2 v.2.2 ∧ v.2.1 89 = N 89 := by
  obtain ⟨g1, g2, e1, e2, e3⟩ := refuse_both (cx := cx) (cm := cm) (code := -2) (Or.inl rfl) hr
  have h0 := h
  obtain ⟨s, n, hn⟩ := h
  unfold f_X5_years f_X6_years
  rw [isWithin_eq, show f_X6_isIn a1.toInt64 1 60 = some (if 1 ≤ a1 ∧ a1 ≤ 60 then 1 else 0) from isIn_eq a1 1 60, e1, e2]
  simp only [ob]
  by_cases c1 : 1 ≤ a1 ∧ a1 ≤ 60
  · obtain ⟨m, hm, rfl⟩ := i32_nat (n := 60) (Int32.le_trans (by decide) c1.1) c1.2 (by decide)
    obtain ⟨k, hk⟩ := FU_s
    rw [if_pos c1, if_neg one_ne0, if_neg one_ne0]
    obtain ⟨f2, G2, N2, r, t1, t2, t3⟩ := yearsL (cx := cx) (cm := cm) (xr := xr) (mr := mr) hm m FU FU f G N hn (Nat.le_refl _) (by omega) (by omega)
    rw [Nat.sub_self] at t1 t2
    exact ⟨_, _, t1, t2, rfl, ⟨s, n, t3⟩, hr, t3.n7.trans hn.n7.symm⟩
  · rw [if_neg c1, if_pos rfl, if_pos rfl]
    exact ⟨_, _, rfl, rfl, rfl, h0, e3, rfl⟩
