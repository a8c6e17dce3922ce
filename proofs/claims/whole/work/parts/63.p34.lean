-- ===== power: personOf, mightiest =====
theorem wgt_congr {G G2 Wt : Nat → Int32} {c : Int32} {n : Nat} (h : ∀ p, p < n → G p = G2 p) : ∀ j, j ≤ n → wgt G Wt c n j = wgt G2 Wt c n j := by
  intro j
  induction j with
  | zero => intro _; rfl
  | succ j ih =>
    intro hj
    unfold wgt
    rw [h _ (by omega), ih (by omega)]
theorem wgt_all {s n : Nat} {K Wt C F G : Nat → Int32} (hv : IRv s n K Wt C F G) : ∀ j, j ≤ n → wgt G Wt 0 n j + wgt G Wt 1 n j = wgt (fun _ => 1) Wt 1 n j := by
  intro j
  induction j with
  | zero => intro _; rfl
  | succ j ih =>
    intro hj
    unfold wgt
    have hg := (hv (n - (j + 1)) (by omega)).2.2.2.2
    have h2 := ih (by omega)
    rw [if_pos (show (1 : Int32) = 1 from rfl)]
    rcases hg with z | z
    · rw [z, if_pos rfl, if_neg (by decide)]; omega
    · rw [z, if_pos rfl, if_neg (by decide)]; omega
theorem full_all : ((List.range 9).all fun n => (List.range 8).all fun p => decide (p < n → bitI ((1 : Int32) <<< (nI n &&& 31) - 1) p = 1)) = true := by decide +kernel
theorem full_fin {n p : Nat} (hn : n ≤ 8) (hp : p < n) : bitI ((1 : Int32) <<< (nI n &&& 31) - 1) p = 1 := by
  have a := List.all_eq_true.mp full_all n (List.mem_range.mpr (by omega))
  exact of_decide_eq_true (List.all_eq_true.mp a p (List.mem_range.mpr (by omega))) hp
theorem wgt_leW {Wt G : Nat → Int32} {c : Int32} {n : Nat} (hw : ∀ p, p < n → ∃ a : Nat, a ≤ 9 ∧ Wt p = nI a) : ∀ j, j ≤ n → wgt G Wt c n j ≤ 9 * j := by
  intro j
  induction j with
  | zero => intro _; exact Nat.le_refl _
  | succ j ih =>
    intro hj
    obtain ⟨a, ha, hw2⟩ := hw (n - (j + 1)) (by omega)
    have h1 : (Wt (n - (j + 1))).toNatClampNeg ≤ 9 := by rw [hw2, nI_cl (by omega)]; exact ha
    have h2 := ih (by omega)
    unfold wgt
    by_cases z : G (n - (j + 1)) = c
    · rw [if_pos z]; omega
    · rw [if_neg z]; omega
theorem weightL {f Wt : Nat → Int32} {n : Nat} (hn : n ≤ 8) (h7 : f 7 = nI n) (hw : ∀ p, p < n → ∃ a : Nat, a ≤ 9 ∧ Wt p = nI a) (m : Int32) : ∀ (j a x : Nat), j ≤ n → j < a → f_X0_weightOf_b4 f Wt a m (nI x) (nI (n - j)) = some (nI (x + wgt (bitI m) Wt 1 n j)) := by
  intro j
  induction j with
  | zero =>
    intro a x _ ha
    obtain ⟨k, rfl⟩ : ∃ k, a = k + 1 := ⟨a - 1, by omega⟩
    rw [f_X0_weightOf_b4, h7, if_pos ((nI_leI (by omega) (by omega)).mpr (by omega))]
    rfl
  | succ j ih =>
    intro a x hj ha
    obtain ⟨k, rfl⟩ : ∃ k, a = k + 1 := ⟨a - 1, by omega⟩
    have h8 : n - (j + 1) < 8 := by omega
    have e : nI (n - (j + 1)) + (1 : Int32) = nI (n - j) := by rw [nI_1]; congr 1; omega
    obtain ⟨w, hw1, hw2⟩ := hw (n - (j + 1)) (by omega)
    rw [f_X0_weightOf_b4, h7, if_neg (fun z => by have := (nI_leI (by omega) (by omega)).mp z; omega)]
    simp only [if_pos (ix8 h8).1, (ix8 h8).2, f_X0_weightOf_b30, e, hw2]
    rw [show ((m >>> (nI (n - (j + 1)) &&& 31)) &&& 1) = bitI m (n - (j + 1)) from rfl]
    unfold wgt
    by_cases z : bitI m (n - (j + 1)) = 1
    · rw [if_pos z, if_pos z, nI_add, ih k _ (by omega) (by omega), hw2, nI_cl (by omega), Nat.add_assoc]
    · rw [if_neg z, if_neg z, ih k _ (by omega) (by omega), Nat.zero_add]
theorem weightOf_eq {f Wt : Nat → Int32} {n : Nat} (hn : n ≤ 8) (h7 : f 7 = nI n) (hw : ∀ p, p < n → ∃ a : Nat, a ≤ 9 ∧ Wt p = nI a) (m : Int32) : f_X0_weightOf m f Wt = some (nI (wgt (bitI m) Wt 1 n n)) := by
  obtain ⟨k, hk⟩ := FU_s
  have a := weightL hn h7 hw m n FU 0 (Nat.le_refl _) (by omega)
  rw [Nat.sub_self, Nat.zero_add] at a
  exact a
theorem powInner {ct N Wt : Nat → Int32} {n : Nat} (hn : n ≤ 8) (h7 : N 89 = nI n) (hN : ∀ p, p < 8 → N (5 * p + 1) = Wt p) (hw : ∀ p, p < n → ∃ a : Nat, a ≤ 9 ∧ Wt p = nI a) (k17 : Int32 → Int32 → Int32 → Int32 → Option Int32) (l1 l2 l3 m : Int32) : ∀ (j a x : Nat), j ≤ n → j < a → f_X6_power_b43 ct N k17 a l1 l2 l3 m (nI x) (nI (n - j)) = f_X6_power_b43 ct N k17 1 l1 l2 l3 m (nI (x + wgt (bitI m) Wt 1 n j)) (nI n) := by
  intro j
  induction j with
  | zero =>
    intro a x _ ha
    obtain ⟨k, rfl⟩ : ∃ k, a = k + 1 := ⟨a - 1, by omega⟩
    have hy : nI n ≤ nI n := Int32.le_refl _
    rw [f_X6_power_b43, show (1 : Nat) = 0 + 1 from rfl, f_X6_power_b43]
    simp only [f_X6_many, ob, h7]
    rw [Nat.sub_zero, if_pos hy, if_pos hy]
    rfl
  | succ j ih =>
    intro a x hj ha
    obtain ⟨k, rfl⟩ : ∃ k, a = k + 1 := ⟨a - 1, by omega⟩
    have h8 : n - (j + 1) < 8 := by omega
    have e : nI (n - (j + 1)) + (1 : Int32) = nI (n - j) := by rw [nI_1]; congr 1; omega
    obtain ⟨w, hw1, hw2⟩ := hw (n - (j + 1)) (by omega)
    rw [f_X6_power_b43]
    simp only [f_X6_many, ob, h7]
    rw [if_neg (fun z => by have := (nI_leI (by omega) (by omega)).mp z; omega), (mkind h8).2.1, hN _ h8, hw2]
    simp only [ob, e]
    rw [show ((m >>> (nI (n - (j + 1)) &&& 31)) &&& 1) = bitI m (n - (j + 1)) from rfl]
    unfold wgt
    rcases bitI_B m (n - (j + 1)) with z | z
    · rw [z, if_neg (by decide), Nat.zero_add, Int32.zero_mul, Int32.add_zero, ih k _ (by omega) (by omega)]
    · rw [z, if_pos rfl, Int32.one_mul, nI_add, ih k _ (by omega) (by omega), hw2, nI_cl (by omega), Nat.add_assoc]
theorem powL {ct f N Wt : Nat → Int32} {n p M : Nat} {tot : Int32} (hn : n ≤ 8) (h7 : f 7 = nI n) (n7 : N 89 = nI n) (hp : p < n) (hN : ∀ p, p < 8 → N (5 * p + 1) = Wt p) (hw : ∀ p, p < n → ∃ a : Nat, a ≤ 9 ∧ Wt p = nI a) (s1 : (1 : Int32) <<< (nI n &&& 31) = nI M) (s2 : M ≤ 256) (s3 : 1 ≤ M) : ∀ (j a b c : Nat), j ≤ M → j < a → j < b → c + j ≤ 256 → ∃ r : Nat, r ≤ 256 ∧ f_X0_powerOf_b21 f Wt a (nI p) (nI M) tot (nI c) (nI (M - j)) = some (nI r) ∧ f_X6_power_b17 ct N b (nI p) tot (nI c) (nI (M - j)) = some (nI r) := by
  intro j
  induction j with
  | zero =>
    intro a b c _ ha hb hc
    obtain ⟨k, rfl⟩ : ∃ k, a = k + 1 := ⟨a - 1, by omega⟩
    obtain ⟨k2, rfl⟩ : ∃ k, b = k + 1 := ⟨b - 1, by omega⟩
    have hyes : nI M ≤ nI (M - 0) := (nI_leI (by omega) (by omega)).mpr (by omega)
    rw [f_X0_powerOf_b21, f_X6_power_b17]
    simp only [f_X6_many, ob, n7]
    rw [s1, if_pos hyes, if_pos hyes]
    exact ⟨c, by omega, rfl, rfl⟩
  | succ j ih =>
    intro a b c hj ha hb hc
    obtain ⟨k, rfl⟩ : ∃ k, a = k + 1 := ⟨a - 1, by omega⟩
    obtain ⟨k2, rfl⟩ : ∃ k, b = k + 1 := ⟨b - 1, by omega⟩
    obtain ⟨kk, hk⟩ := FU_s
    have hno : ¬ nI M ≤ nI (M - (j + 1)) := fun z => by have := (nI_leI (by omega) (by omega)).mp z; omega
    have e : nI (M - (j + 1)) + (1 : Int32) = nI (M - j) := by rw [nI_1]; congr 1; omega
    have h8 : p < 8 := by omega
    have inner := fun k17 l2 l3 => powInner (ct := ct) hn n7 hN hw k17 (nI p) l2 l3 (nI (M - (j + 1))) n FU 0 (Nat.le_refl _) (by omega)
    rw [f_X0_powerOf_b21, f_X6_power_b17]
    simp only [f_X6_many, ob, n7]
    rw [s1, if_neg hno, if_neg hno]
    have keep := ih k k2 c (by omega) (by omega) (by omega) (by omega)
    have plus := ih k k2 (c + 1) (by omega) (by omega) (by omega) (by omega)
    by_cases z : ((nI (M - (j + 1)) >>> (nI p &&& 31)) &&& 1) = 0
    · have i0 := inner (f_X6_power_b17 ct N k2) tot (nI c)
      rw [Nat.sub_self, Nat.zero_add] at i0
      rw [if_pos z, if_pos z, weightOf_eq hn h7 hw, show f_X6_power_b43 ct N (f_X6_power_b17 ct N k2) FU (nI p) tot (nI c) (nI (M - (j + 1))) 0 0 = _ from i0]
      rw [show (1 : Nat) = 0 + 1 from rfl, f_X6_power_b43]
      simp only [f_X6_many, ob, n7]
      rw [if_pos (Int32.le_refl _), (mkind h8).2.1, hN _ h8]
      simp only [ob, if_pos (ix8 h8).1, (ix8 h8).2, f_X0_powerOf_b77, f_X0_powerOf_b78, f_X0_powerOf_b84, f_X6_power_b104, f_X6_power_b105, f_X6_power_b107, asNumber_eq, e, if_true, if_neg one_ne0]
      rw [show nI c + (0 : Int32) = nI c from nI_add c 0, show nI c + (1 : Int32) = nI (c + 1) from nI_1 c]
      by_cases t1 : tot < 2 * nI (wgt (bitI (nI (M - (j + 1)))) Wt 1 n n)
      · rw [if_pos t1, if_pos t1]; exact keep
      · rw [if_neg t1, if_neg t1]
        by_cases t2 : 2 * (nI (wgt (bitI (nI (M - (j + 1)))) Wt 1 n n) + Wt p) ≤ tot
        · rw [if_pos t2, if_pos t2]; exact keep
        · rw [if_neg t2, if_neg t2]; exact plus
    · rw [if_neg z, if_neg z]
      simp only [f_X0_powerOf_b84, f_X6_power_b107, e]
      exact keep
theorem power_both {s n p : Nat} {ct f P K Wt C F G N : Nat → Int32} (h : IRn s n f P K Wt C F G N) (hp : p < n) : ∃ r : Nat, r ≤ 256 ∧ f_X0_powerOf (nI p) f Wt = some (nI r) ∧ f_X6_power (nI p) ct N = some (nI r) := by
  have h0 := h
  obtain ⟨hs, he, hv, hc⟩ := h
  have hn := hs.2.2.1
  have h7 := hs.2.2.2.2.2.1
  have n7 := hs.2.2.2.2.2.2.1
  obtain ⟨M, s1, s2, s3⟩ := shl_ex hn
  obtain ⟨k, hk⟩ := FU_s
  have hw : ∀ p, p < n → ∃ a : Nat, a ≤ 9 ∧ Wt p = nI a := fun p hp => (hv p hp).2.1
  have hN : ∀ p, p < 8 → N (5 * p + 1) = Wt p := fun p hp => (he p hp).2.1
  have et : wgt (bitI ((1 : Int32) <<< (nI n &&& 31) - 1)) Wt 1 n n = wgt G Wt 0 n n + wgt G Wt 1 n n := by
    rw [wgt_all hv n (Nat.le_refl _)]
    exact wgt_congr (fun p hp => full_fin hn hp) n (Nat.le_refl _)
  obtain ⟨r, r0, r1, r2⟩ := powL (ct := ct) (tot := nI (wgt G Wt 0 n n + wgt G Wt 1 n n)) hn h7 n7 hp hN hw s1 s2 s3 M FU FU 0 (Nat.le_refl _) (by omega) (by omega) (by omega)
  rw [Nat.sub_self] at r1 r2
  refine ⟨r, r0, ?_, ?_⟩
  · unfold f_X0_powerOf
    rw [h7, weightOf_eq hn h7 hw, et, ob, s1]
    exact r1
  · unfold f_X6_power
    rw [weigh_eq h0, ob, weigh_eq h0, ob, nI_add]
    exact r2
theorem case_personOf {cx cm f P K Wt C F G N xr mr : Nat → Int32} (h : IRel f P K Wt C F G N) (hr : RRef xr mr) (a1 a2 : Int32) : ∃ u v, f_X5_personOf a1 a2 cx f C F K G Wt xr = some u ∧ f_X6_personOf a1 a2 cm N mr = some v ∧ u.1 = v.1 ∧ RRef u.2 v.2 := by
  obtain ⟨g1, g2, e1, e2, e3⟩ := refuse_both (cx := cx) (cm := cm) (code := -2) (Or.inl rfl) hr
  obtain ⟨s, n, hn⟩ := h
  have q := hn.1
  unfold f_X5_personOf f_X6_personOf f_X6_personOf_b20
  rcases isOne_both (ct := cm) q.2.2.1 q.2.2.2.2.2.1 q.2.2.2.2.2.2.1 a1 with ⟨p, hp, rfl, k1, k2⟩ | ⟨k1, k2⟩
  · rw [k1, k2, e1, e2, show f_X6_isIn a2.toInt64 0 5 = some (if 0 ≤ a2 ∧ a2 ≤ 5 then 1 else 0) from isIn_eq a2 0 5]
    have hn8 := q.2.2.1
    have h8 : p < 8 := by omega
    simp only [ob, if_neg one_ne0, if_pos (ix8 h8).1, (ix8 h8).2]
    obtain ⟨r, r0, r1, r2⟩ := power_both (ct := cm) hn hp
    rw [r1, r2]
    simp only [ob]
    obtain ⟨d1, d2, d3, d4, d5⟩ := hn.2.1 p h8
    by_cases c : 0 ≤ a2 ∧ a2 ≤ 5
    · obtain ⟨i, hi, rfl⟩ := i32_nat (n := 5) c.1 c.2 (by decide)
      rw [if_pos c, if_neg one_ne0]
      by_cases c5 : i < 5
      · obtain ⟨x1, x2, x3⟩ := ixN h8 c5
        rw [if_neg (show ¬ (5 : Int32) ≤ nI i from fun z => by have := (nI_leI (a := 5) (by omega) (by omega)).mp z; omega), x1, if_pos x2, x3]
        rcases (show i = 0 ∨ i = 1 ∨ i = 2 ∨ i = 3 ∨ i = 4 by omega) with rfl | rfl | rfl | rfl | rfl
        · rw [if_pos (by decide)]; exact ⟨_, _, rfl, rfl, d1.symm, hr⟩
        · rw [if_neg (by decide), if_pos (by decide)]; exact ⟨_, _, rfl, rfl, d2.symm, hr⟩
        · rw [if_neg (by decide), if_neg (by decide), if_pos (by decide)]; exact ⟨_, _, rfl, rfl, d3.symm, hr⟩
        · rw [if_neg (by decide), if_neg (by decide), if_neg (by decide), if_pos (by decide)]; exact ⟨_, _, rfl, rfl, d4.symm, hr⟩
        · rw [if_neg (by decide), if_neg (by decide), if_neg (by decide), if_neg (by decide), if_pos (by decide)]; exact ⟨_, _, rfl, rfl, d5.symm, hr⟩
      · have : i = 5 := by omega
        rw [this, if_pos (show (5 : Int32) ≤ nI 5 by decide), if_neg (by decide), if_neg (by decide), if_neg (by decide), if_neg (by decide), if_neg (by decide), if_pos (by decide)]
        exact ⟨_, _, rfl, rfl, rfl, hr⟩
    · have ne : ∀ i, i ≤ 5 → ¬ a2 = nI i := fun i hi z => c (by rw [z]; exact ⟨nI_pos' (by omega), (nI_leI (b := 5) (by omega) (by omega)).mpr hi⟩)
      rw [if_neg c, if_pos rfl, if_neg (show ¬ a2 = 0 from ne 0 (by decide)), if_neg (show ¬ a2 = 1 from ne 1 (by decide)), if_neg (show ¬ a2 = 2 from ne 2 (by decide)), if_neg (show ¬ a2 = 3 from ne 3 (by decide)), if_neg (show ¬ a2 = 4 from ne 4 (by decide)), if_neg (show ¬ a2 = 5 from ne 5 (by decide))]
      exact ⟨_, _, rfl, rfl, rfl, e3⟩
  · rw [k1, k2]
    simp only [ob, if_true, e1, e2]
    exact ⟨_, _, rfl, rfl, rfl, e3⟩
theorem mightL {s n : Nat} {cx cm f P K Wt C F G N xr mr : Nat → Int32} (h : IRn s n f P K Wt C F G N) : ∀ (j a b best : Nat) (pw : Int32), j ≤ n → j < a → j < b → best < n → f_X0_powerOf (nI best) f Wt = some pw → ∃ r, f_X5_mightiest_b23 cx f Wt a xr (nI best) pw (nI (n - j)) = some (r, xr) ∧ f_X6_mightiest_b18 cm N b mr (nI best) (nI (n - j)) = some (r, mr) := by
  have hs := h.1
  have hn := hs.2.2.1
  have h7 := hs.2.2.2.2.2.1
  have n7 := hs.2.2.2.2.2.2.1
  intro j
  induction j with
  | zero =>
    intro a b best pw _ ha hb h1 h2
    obtain ⟨k, rfl⟩ : ∃ k, a = k + 1 := ⟨a - 1, by omega⟩
    obtain ⟨k2, rfl⟩ : ∃ k, b = k + 1 := ⟨b - 1, by omega⟩
    have hyes : nI n ≤ nI (n - 0) := (nI_leI (by omega) (by omega)).mpr (by omega)
    rw [f_X5_mightiest_b23, f_X6_mightiest_b18, h7, if_pos hyes]
    simp only [f_X6_many, ob, n7]
    rw [if_pos hyes]
    exact ⟨_, rfl, rfl⟩
  | succ j ih =>
    intro a b best pw hj ha hb h1 h2
    obtain ⟨k, rfl⟩ : ∃ k, a = k + 1 := ⟨a - 1, by omega⟩
    obtain ⟨k2, rfl⟩ : ∃ k, b = k + 1 := ⟨b - 1, by omega⟩
    have hno : ¬ nI n ≤ nI (n - (j + 1)) := fun z => by have := (nI_leI (by omega) (by omega)).mp z; omega
    have e : nI (n - (j + 1)) + (1 : Int32) = nI (n - j) := by rw [nI_1]; congr 1; omega
    obtain ⟨r, r0, r1, r2⟩ := power_both (ct := cm) h (show n - (j + 1) < n by omega)
    obtain ⟨t, t0, t1, t2⟩ := power_both (ct := cm) h h1
    have hpw : pw = nI t := Option.some.inj (h2.symm.trans t1)
    rw [f_X5_mightiest_b23, f_X6_mightiest_b18, h7, if_neg hno]
    simp only [f_X6_many, ob, n7]
    rw [if_neg hno, r1, r2, t2]
    simp only [ob, f_X5_mightiest_b55, f_X6_mightiest_b44, e]
    rw [hpw]
    by_cases c : nI r ≤ nI t
    · rw [if_pos c, if_pos c]
      exact ih k k2 best (nI t) (by omega) (by omega) (by omega) h1 t1
    · rw [if_neg c, if_neg c]
      exact ih k k2 (n - (j + 1)) (nI r) (by omega) (by omega) (by omega) (by omega) r1
theorem case_mightiest {cx cm f P K Wt C F G N xr mr : Nat → Int32} (h : IRel f P K Wt C F G N) (hr : RRef xr mr) : ∃ u v, f_X5_mightiest cx f Wt xr = some u ∧ f_X6_mightiest cm N mr = some v ∧ u.1 = v.1 ∧ RRef u.2 v.2 := by
  obtain ⟨g1, g2, e1, e2, e3⟩ := refuse_both (cx := cx) (cm := cm) (code := -5) (Or.inr (Or.inr (Or.inr (Or.inl rfl)))) hr
  obtain ⟨s, n, hn⟩ := h
  have hs := hn.1
  have hn8 := hs.2.2.1
  have h7 := hs.2.2.2.2.2.1
  have n7 := hs.2.2.2.2.2.2.1
  unfold f_X5_mightiest f_X6_mightiest
  simp only [f_X6_many, ob, e1, e2, n7, h7]
  by_cases c : nI n = 0
  · rw [if_pos c, if_pos c]
    exact ⟨_, _, rfl, rfl, rfl, e3⟩
  · rw [if_neg c, if_neg c]
    have h0 : 0 < n := by
      rcases Nat.eq_zero_or_pos n with z | z
      · exact absurd (by rw [z]; rfl) c
      · exact z
    obtain ⟨k, hk⟩ := FU_s
    obtain ⟨r, r0, r1, r2⟩ := power_both (ct := cm) hn h0
    obtain ⟨t, t1, t2⟩ := mightL (cx := cx) (cm := cm) (xr := xr) (mr := mr) hn (n - 1) (k + 1100) FU 0 (nI r) (by omega) (by omega) (by omega) h0 r1
    rw [show n - (n - 1) = 1 by omega] at t1 t2
    have t1' : f_X5_mightiest_b23 cx f Wt FU xr 0 (-1) 0 = some (t, xr) := by
      rw [hk, show k + 1101 = (k + 1100) + 1 from rfl, f_X5_mightiest_b23, h7, if_neg (fun z => by have := (nI_leI (b := 0) (by omega) (by omega)).mp z; omega), show f_X0_powerOf 0 f Wt = some (nI r) from r1, ob, if_neg (show ¬ nI r ≤ -1 from fun z => absurd (Int32.lt_of_lt_of_le (neg1_lt (k := r) (by omega)) z) (by decide))]
      exact t1
    rw [t1', show f_X6_mightiest_b18 cm N FU mr 0 1 = some (t, mr) from t2]
    exact ⟨_, _, rfl, rfl, rfl, hr⟩
