-- ===== shelves: holds, element, show, row, set =====
theorem i32_lt {x : Int32} {m : Nat} (hm : m < 1000) (h0 : 0 ≤ x) (h : x ≤ nI m - 1) : ∃ j, j < m ∧ x = nI j := by
  have e1 : ((nI m - 1 : Int32)).toInt = (m : Int) - 1 := by
    rw [show (1 : Int32) = nI 1 from rfl, pk_sub_toInt (by omega) (by decide)]; rfl
  obtain ⟨j, hj, rfl⟩ := nI_of (Int32.not_lt.mpr h0)
  rw [Int32.le_iff_toInt_le, e1, nI_toI (by omega)] at h
  exact ⟨j, by omega, rfl⟩
theorem case_holds {cx cm Ks Z hh z : Nat → Int32} {E e : Nat → Int64} {n : Nat} (h : RSh Ks Z hh z E e n) (a1 : Int32) : ∃ u v, f_X5_holds a1 cx Ks = some u ∧ f_X6_holds a1 cm hh = some v ∧ u = v := by
  unfold f_X5_holds f_X6_holds
  rw [isShelf_X3, isShelf_X6]
  simp only [Option.bind_some]
  by_cases c1 : 0 ≤ a1 ∧ a1 ≤ 7
  · obtain ⟨s, hs, rfl⟩ := i32_nat (n := 7) c1.1 c1.2 (by decide)
    have hs8 : s < 8 := by omega
    rw [if_pos c1, if_neg one_ne0, if_neg one_ne0, held_eq hs8, if_pos (ix8 hs8).1, (ix8 hs8).2]
    exact ⟨_, _, rfl, rfl, (h s hs8).1⟩
  · rw [if_neg c1, if_pos rfl, if_pos rfl]
    exact ⟨_, _, rfl, rfl, rfl⟩
theorem rowK {x : Int32} {n : Nat} (hn : n ≤ 8) (h : x = -1 ∨ (∃ p, p < n ∧ x = nI (10 + p))) : ¬ (0 ≤ x ∧ x ≤ 4) := by
  rcases h with rfl | ⟨p, hp, rfl⟩
  · decide
  · intro q
    have := (nI_leI (b := 4) (by omega) (by omega)).mp q.2
    omega
theorem rowK2 {so : Nat} (h : so ≤ 4) : 0 ≤ nI so ∧ nI so ≤ (4 : Int32) := ⟨nI_pos' (by omega), (nI_leI (b := 4) (by omega) (by omega)).mpr h⟩
theorem case_element {cx cm Ks Z hh z : Nat → Int32} {E e : Nat → Int64} {n : Nat} (hn : n ≤ 8) (h : RSh Ks Z hh z E e n) (a1 a2 : Int32) : ∃ u v, f_X5_element a1 a2 cx Ks E Z = some u ∧ f_X6_element a1 a2 cm e hh z = some v ∧ u = v := by
  unfold f_X5_element f_X6_element f_X5_element_b40 f_X6_element_b56
  rw [isShelf_X3, isShelf_X6]
  simp only [Option.bind_some]
  by_cases c1 : 0 ≤ a1 ∧ a1 ≤ 7
  · obtain ⟨s, hs, rfl⟩ := i32_nat (n := 7) c1.1 c1.2 (by decide)
    have hs8 : s < 8 := by omega
    obtain ⟨hK, hc⟩ := h s hs8
    rw [if_pos c1, if_neg one_ne0, if_neg one_ne0]
    unfold f_X3_holdsRow
    rw [show f_X6_isIn (hh (nI s).toNatClampNeg).toInt64 0 4 = some (if 0 ≤ hh (nI s).toNatClampNeg ∧ hh (nI s).toNatClampNeg ≤ 4 then 1 else 0) from isIn_eq _ 0 4, isWithin_eq, sizeOf_eq hs8]
    simp only [Option.bind_some, if_pos (ix8 hs8).1, (ix8 hs8).2, hK, if_pos (w01 _)]
    rcases hc with q | q | ⟨so, m, h1, h2, h3, h4, h5, h6⟩
    · rw [if_neg (rowK hn (Or.inl q)), if_pos rfl, if_pos rfl]
      exact ⟨_, _, rfl, rfl, rfl⟩
    · rw [if_neg (rowK hn (Or.inr q)), if_pos rfl, if_pos rfl]
      exact ⟨_, _, rfl, rfl, rfl⟩
    · rw [h3, if_pos (rowK2 h1), if_neg one_ne0, if_neg one_ne0, h4, h5, isWithin_eq, show f_X6_isIn a2.toInt64 0 (nI m - 1).toInt64 = some (if 0 ≤ a2 ∧ a2 ≤ nI m - 1 then 1 else 0) from isIn_eq a2 0 _]
      simp only [Option.bind_some]
      by_cases c2 : 0 ≤ a2 ∧ a2 ≤ nI m - 1
      · obtain ⟨j, hj, rfl⟩ := i32_lt (by omega) c2.1 c2.2
        rw [if_pos c2, if_neg one_ne0, if_neg one_ne0, elementAt_eq hs8 (by omega), if_pos (ix40 hs8 (by omega)).2.2.1, (ix40 hs8 (by omega)).2.2.2]
        exact ⟨_, _, rfl, rfl, h6 j hj⟩
      · rw [if_neg c2, if_pos rfl, if_pos rfl]
        exact ⟨_, _, rfl, rfl, rfl⟩
  · rw [if_neg c1, if_pos rfl, if_pos rfl]
    exact ⟨_, _, rfl, rfl, rfl⟩
theorem RSh.put {Ks Z hh z : Nat → Int32} {E e : Nat → Int64} {n s : Nat} {x y : Int32} (h : RSh Ks Z hh z E e n) (hx : x = -1 ∨ ∃ p, p < n ∧ x = nI (10 + p)) : RSh (upd Ks s x) (upd Z s y) (upd hh s x) z E e n := fun t ht => by
  by_cases q : t = s
  · subst q
    rw [upd_eq, upd_eq]
    exact ⟨rfl, hx.elim Or.inl (fun w => Or.inr (Or.inl w))⟩
  · rw [upd_ne q, upd_ne q, upd_ne q]
    exact h t ht
theorem case_show {cx cm f P K Wt C F G N xr mr Ks Z hh z : Nat → Int32} {E e : Nat → Int64} (h : IRel f P K Wt C F G N) (hr : RRef xr mr) (hsh : ∀ n, N 89 = nI n → n ≤ 8 → RSh Ks Z hh z E e n) (a1 a2 : Int32) :
    ∃ u v, f_X5_show a1 a2 cx f xr Ks Z = some u ∧ f_X6_show a1 a2 cm hh N mr = some v ∧ u.1 = v.1 ∧ RRef u.2.1 v.2.2 ∧ (∀ n, N 89 = nI n → n ≤ 8 → RSh u.2.2.1 u.2.2.2 v.2.1 z E e n) := by
  obtain ⟨g1, g2, e1, e2, e3⟩ := refuse_both (cx := cx) (cm := cm) (code := -2) (Or.inl rfl) hr
  obtain ⟨s, n, hs, he, hv, hc⟩ := h
  obtain ⟨q1, q2, q3, q4, q5, q6, q7, q8, q9, q10, q11, q12, q13⟩ := hs
  have hX : f_X5_show_b27 cx f xr Ks Z = some (-2, g1, Ks, Z) := by unfold f_X5_show_b27; rw [e1]; rfl
  have hM : f_X6_show_b20 cm N hh mr = some (-2, hh, g2) := by unfold f_X6_show_b20; rw [e2]; rfl
  unfold f_X5_show f_X6_show
  rw [isShelf_X3, isShelf_X6, hX, hM]
  simp only [Option.bind_some]
  by_cases c1 : 0 ≤ a1 ∧ a1 ≤ 7
  · obtain ⟨t, ht, rfl⟩ := i32_nat (n := 7) c1.1 c1.2 (by decide)
    have ht8 : t < 8 := by omega
    have hput : ∀ x, (x = -1 ∨ ∃ p, p < n ∧ x = nI (10 + p)) → ∀ n2, N 89 = nI n2 → n2 ≤ 8 → RSh (upd Ks t x) (upd Z t 0) (upd hh t x) z E e n2 := by
      intro x hx n2 hn2 hn8
      have : n2 = n := nI_inj (by omega) (by omega) (hn2.symm.trans q7)
      subst this
      exact (hsh n2 hn2 hn8).put hx
    rw [if_pos c1, if_neg one_ne0, if_neg one_ne0]
    unfold f_X5_show_b34 f_X6_show_b27 f_X6_show_b45 f_X3_holdNothing f_X3_holdOne
    simp only [if_pos (ix8 ht8).1, (ix8 ht8).2, Option.bind_some]
    by_cases c2 : a2 = -1
    · rw [if_pos c2, if_pos c2, if_pos c2, if_pos c2]
      exact ⟨_, _, rfl, rfl, rfl, hr, hput _ (Or.inl rfl)⟩
    · rw [if_neg c2, if_neg c2, if_neg c2, if_neg c2]
      rcases isOne_both (ct := cm) q3 q6 q7 a2 with ⟨j, hj, rfl, i1, i2⟩ | ⟨i1, i2⟩
      · rw [i1, i2]
        simp only [Option.bind_some, if_neg one_ne0]
        exact ⟨_, _, rfl, rfl, rfl, hr, hput _ (Or.inr ⟨j, hj, nI_add 10 j⟩)⟩
      · rw [i1, i2]
        simp only [Option.bind_some, if_true]
        exact ⟨_, _, rfl, rfl, rfl, e3, hsh⟩
  · rw [if_neg c1, if_pos rfl, if_pos rfl]
    exact ⟨_, _, rfl, rfl, rfl, e3, hsh⟩
theorem updL_eq {f : Nat → Int64} {k : Nat} {x : Int64} : vp_updL f k x k = x := if_pos rfl
theorem updL_ne {f : Nat → Int64} {k j : Nat} {x : Int64} (h : j ≠ k) : vp_updL f k x j = f j := if_neg h
theorem holdRowL {Ks Z : Nat → Int32} {s m : Nat} (hs : s < 8) (hm : m ≤ 40) : ∀ (j a : Nat) (E : Nat → Int64), j ≤ m → j < a → ∃ E', f_X3_holdRow_b17 a Ks E Z (nI s) (nI m) (nI (m - j)) = some (Ks, E', Z) ∧ (∀ i, m - j ≤ i → i < m → E' (40 * s + i) = 0) ∧ (∀ i, ¬ (40 * s + (m - j) ≤ i ∧ i < 40 * s + m) → E' i = E i) := by
  intro j
  induction j with
  | zero =>
    intro a E _ ha
    obtain ⟨k, rfl⟩ : ∃ k, a = k + 1 := ⟨a - 1, by omega⟩
    rw [f_X3_holdRow_b17, if_pos ((nI_leI (by omega) (by omega)).mpr (by omega))]
    exact ⟨E, rfl, fun i h1 h2 => by omega, fun _ _ => rfl⟩
  | succ j ih =>
    intro a E hj ha
    obtain ⟨k, rfl⟩ : ∃ k, a = k + 1 := ⟨a - 1, by omega⟩
    have e : nI (m - (j + 1)) + (1 : Int32) = nI (m - j) := by rw [nI_1]; congr 1; omega
    rw [f_X3_holdRow_b17, if_neg (fun z => by have := (nI_leI (by omega) (by omega)).mp z; omega), if_pos (ix40 hs (by omega)).1, (ix40 hs (by omega)).2.1, e]
    obtain ⟨E', g1, g2, g3⟩ := ih k (vp_updL E (40 * s + (m - (j + 1))) 0) (by omega) (by omega)
    refine ⟨E', g1, fun i h1 h2 => ?_, fun i hi => ?_⟩
    · by_cases c : m - j ≤ i
      · exact g2 i c h2
      · rw [g3 _ (by omega), show i = m - (j + 1) by omega, updL_eq]
    · rw [g3 _ (by omega), updL_ne (by omega)]
theorem rowM {ct hh z mr : Nat → Int32} {s : Nat} (hs : s < 8) : ∀ (j a : Nat) (E : Nat → Int64), j ≤ 40 → j < a → ∃ E', f_X6_row_b55 ct a E hh mr z (nI s) (nI (40 - j)) = some (1, E', hh, mr, z) ∧ (∀ i, 40 - j ≤ i → i < 40 → E' (40 * s + i) = 0) ∧ (∀ i, ¬ (40 * s + (40 - j) ≤ i ∧ i < 40 * s + 40) → E' i = E i) := by
  intro j
  induction j with
  | zero =>
    intro a E _ ha
    obtain ⟨k, rfl⟩ : ∃ k, a = k + 1 := ⟨a - 1, by omega⟩
    rw [f_X6_row_b55, if_pos (show (40 : Int32) ≤ nI (40 - 0) by decide)]
    exact ⟨E, rfl, fun i h1 h2 => by omega, fun _ _ => rfl⟩
  | succ j ih =>
    intro a E hj ha
    obtain ⟨k, rfl⟩ : ∃ k, a = k + 1 := ⟨a - 1, by omega⟩
    have e : nI (40 - (j + 1)) + (1 : Int32) = nI (40 - j) := by rw [nI_1]; congr 1; omega
    have hno : ¬ (40 : Int32) ≤ nI (40 - (j + 1)) := fun z => by have := (nI_leI (a := 40) (by omega) (by omega)).mp z; omega
    rw [f_X6_row_b55, if_neg hno, if_pos (ix40 hs (by omega)).2.2.1, (ix40 hs (by omega)).2.2.2, e]
    obtain ⟨E', g1, g2, g3⟩ := ih k (vp_updL E (40 * s + (40 - (j + 1))) 0) (by omega) (by omega)
    refine ⟨E', g1, fun i h1 h2 => ?_, fun i hi => ?_⟩
    · by_cases c : 40 - j ≤ i
      · exact g2 i c h2
      · rw [g3 _ (by omega), show i = 40 - (j + 1) by omega, updL_eq]
    · rw [g3 _ (by omega), updL_ne (by omega)]
theorem case_row {cx cm Ks Z hh z xr mr : Nat → Int32} {E e : Nat → Int64} (hr : RRef xr mr) {n : Nat} (h : RSh Ks Z hh z E e n) (a1 a2 a3 : Int32) : ∃ u v, f_X5_row a1 a2 a3 cx xr Ks E Z = some u ∧ f_X6_row a1 a2 a3 cm e hh mr z = some v ∧ u.1 = v.1 ∧ RRef u.2.1 v.2.2.2.1 ∧ RSh u.2.2.1 u.2.2.2.2 v.2.2.1 v.2.2.2.2 u.2.2.2.1 v.2.1 n := by
  obtain ⟨g1, g2, e1, e2, e3⟩ := refuse_both (cx := cx) (cm := cm) (code := -2) (Or.inl rfl) hr
  have hX : f_X5_row_b30 cx xr Ks E Z = some (-2, g1, Ks, E, Z) := by unfold f_X5_row_b30; rw [e1]; rfl
  have hM : f_X6_row_b31 cm e hh mr z = some (-2, e, hh, g2, z) := by unfold f_X6_row_b31; rw [e2]; rfl
  unfold f_X5_row f_X6_row
  rw [isShelf_X3, isShelf_X6, isWithin_eq, isWithin_eq, show f_X6_isIn a2.toInt64 0 4 = some (if 0 ≤ a2 ∧ a2 ≤ 4 then 1 else 0) from isIn_eq a2 0 4, show f_X6_isIn a3.toInt64 0 40 = some (if 0 ≤ a3 ∧ a3 ≤ 40 then 1 else 0) from isIn_eq a3 0 40, hX, hM]
  simp only [Option.bind_some]
  by_cases c1 : 0 ≤ a1 ∧ a1 ≤ 7
  · rw [if_pos c1, if_neg one_ne0, if_neg one_ne0]
    by_cases c2 : 0 ≤ a2 ∧ a2 ≤ 4
    · rw [if_pos c2, if_neg one_ne0, if_neg one_ne0]
      by_cases c3 : 0 ≤ a3 ∧ a3 ≤ 40
      · rw [if_pos c3, if_neg one_ne0, if_neg one_ne0]
        obtain ⟨s, hs, rfl⟩ := i32_nat (n := 7) c1.1 c1.2 (by decide)
        obtain ⟨so, hso, rfl⟩ := i32_nat (n := 4) c2.1 c2.2 (by decide)
        obtain ⟨m, hm, rfl⟩ := i32_nat (n := 40) c3.1 c3.2 (by decide)
        have hs8 : s < 8 := by omega
        obtain ⟨k, hk⟩ := FU_s
        unfold f_X3_holdRow
        simp only [if_pos (ix8 hs8).1, (ix8 hs8).2]
        obtain ⟨E', b1, b2, b3⟩ := holdRowL (Ks := upd Ks s (nI so)) (Z := upd Z s (nI m)) hs8 hm m FU E (Nat.le_refl _) (by omega)
        obtain ⟨e', d1, d2, d3⟩ := rowM (ct := cm) (hh := upd hh s (nI so)) (mr := mr) (z := upd z s (nI m)) hs8 40 FU e (Nat.le_refl _) (by omega)
        rw [Nat.sub_self] at b1 d1
        rw [show (0 : Int32) = nI 0 from rfl, b1, d1]
        refine ⟨_, _, rfl, rfl, rfl, hr, fun t ht => ?_⟩
        dsimp only
        by_cases q : t = s
        · subst q
          rw [upd_eq, upd_eq, upd_eq, upd_eq]
          exact ⟨rfl, Or.inr (Or.inr ⟨so, m, hso, hm, rfl, rfl, rfl, fun i hi => by rw [b2 i (by omega) hi, d2 i (by omega) (by omega)]⟩)⟩
        · rw [upd_ne q, upd_ne q, upd_ne q, upd_ne q]
          obtain ⟨h1, h2⟩ := h t ht
          refine ⟨h1, h2.imp id (fun h2 => h2.imp id ?_)⟩
          rintro ⟨so2, m2, r1, r2, r3, r4, r5, r6⟩
          exact ⟨so2, m2, r1, r2, r3, r4, r5, fun i hi => by rw [b3 _ (by omega), d3 _ (by omega), r6 i hi]⟩
      · rw [if_neg c3, if_pos rfl, if_pos rfl]
        exact ⟨_, _, rfl, rfl, rfl, e3, h⟩
    · rw [if_neg c2, if_pos rfl, if_pos rfl]
      exact ⟨_, _, rfl, rfl, rfl, e3, h⟩
  · rw [if_neg c1, if_pos rfl, if_pos rfl]
    exact ⟨_, _, rfl, rfl, rfl, e3, h⟩
theorem RSh.elem {Ks Z hh z : Nat → Int32} {E e : Nat → Int64} {n k : Nat} {x : Int64} (h : RSh Ks Z hh z E e n) : RSh Ks Z hh z (vp_updL E k x) (vp_updL e k x) n := fun t ht => by
  obtain ⟨h1, h2⟩ := h t ht
  refine ⟨h1, h2.imp id (fun h2 => h2.imp id ?_)⟩
  rintro ⟨so2, m2, r1, r2, r3, r4, r5, r6⟩
  refine ⟨so2, m2, r1, r2, r3, r4, r5, fun i hi => ?_⟩
  by_cases q : 40 * t + i = k
  · rw [q, updL_eq, updL_eq]
  · rw [updL_ne q, updL_ne q]; exact r6 i hi
theorem case_set {cx cm Ks Z hh z xr mr : Nat → Int32} {E e : Nat → Int64} (hr : RRef xr mr) {n : Nat} (hn : n ≤ 8) (h : RSh Ks Z hh z E e n) (a1 a2 : Int32) (a3 : Int64) : ∃ u v, f_X5_set a1 a2 a3 cx xr Ks E Z = some u ∧ f_X6_set a1 a2 a3 cm e hh mr z = some v ∧ u.1 = v.1 ∧ RRef u.2.1 v.2.2 ∧ RSh Ks Z hh z u.2.2 v.2.1 n := by
  obtain ⟨g1, g2, e1, e2, e3⟩ := refuse_both (cx := cx) (cm := cm) (code := -2) (Or.inl rfl) hr
  obtain ⟨g5, g6, e5, e6, e7⟩ := refuse_both (cx := cx) (cm := cm) (code := -3) (Or.inr (Or.inl rfl)) hr
  obtain ⟨g8, g9, e8, e9, e10⟩ := refuse_both (cx := cx) (cm := cm) (code := -4) (Or.inr (Or.inr (Or.inl rfl))) hr
  unfold f_X5_set f_X6_set
  rw [isShelf_X3, isShelf_X6, e1, e2]
  simp only [Option.bind_some]
  by_cases c1 : 0 ≤ a1 ∧ a1 ≤ 7
  · obtain ⟨s, hs, rfl⟩ := i32_nat (n := 7) c1.1 c1.2 (by decide)
    have hs8 : s < 8 := by omega
    obtain ⟨hK, hc⟩ := h s hs8
    have hnum := shelf_num (h := hh) (s := s) hn
    rw [if_pos c1, if_neg one_ne0, if_neg one_ne0, rowFault_eq hs8 hs8, rowIn_eq hs8, sizeOf_eq hs8]
    simp only [Option.bind_some, rfv, hK, or_self]
    rcases hc with q | ⟨p, hp, q⟩ | ⟨so, m, h1, h2, h3, h4, h5, h6⟩
    · have w := hnum.1 q
      rw [if_neg w, if_pos q, if_neg w, if_pos q]
      rw [if_neg (show ¬ (-4 : Int32) = 0 by decide), if_neg (show ¬ (0 : Int32) ≤ -4 by decide), e8, e9]
      exact ⟨_, _, rfl, rfl, rfl, e10, h⟩
    · have w := hnum.2.1 p hp q
      rw [if_pos w.1, if_pos w.1, if_neg (show ¬ (-3 : Int32) = 0 by decide), if_neg (show ¬ (0 : Int32) ≤ -3 by decide), e5, e6]
      exact ⟨_, _, rfl, rfl, rfl, e7, h⟩
    · have w := hnum.2.2 so h1 h3
      rw [if_neg w.1, if_neg w.2, if_neg w.1, if_neg w.2, if_pos rfl, if_pos (show (0 : Int32) ≤ 1 by decide)]
      simp only [if_pos (ix8 hs8).1, (ix8 hs8).2, h3, h4, h5]
      rw [isWithin_eq, show f_X6_isIn a2.toInt64 0 (nI m - 1).toInt64 = some (if 0 ≤ a2 ∧ a2 ≤ nI m - 1 then 1 else 0) from isIn_eq a2 0 _]
      simp only [Option.bind_some]
      by_cases c2 : 0 ≤ a2 ∧ a2 ≤ nI m - 1
      · obtain ⟨j, hj, rfl⟩ := i32_lt (by omega) c2.1 c2.2
        have hx := ix40 (s := s) (i := j) hs8 (by omega)
        rw [if_pos c2, if_neg one_ne0, if_neg one_ne0]
        unfold f_X3_store f_X3_asSort f_X6_set_b133
        simp only [if_pos (ix8 hs8).1, (ix8 hs8).2, hK, h3, hx.2.1, hx.2.2.2, if_pos hx.1, if_pos hx.2.2.1]
        rcases (show so = 0 ∨ so = 1 ∨ so = 2 ∨ so = 3 ∨ so = 4 by omega) with rfl | rfl | rfl | rfl | rfl
        · simp only [if_pos (show nI 0 = (0 : Int32) by decide), Option.bind_some]
          exact ⟨_, _, rfl, rfl, rfl, hr, h.elem⟩
        · simp only [if_neg (show ¬ nI 1 = (0 : Int32) by decide), if_pos (show nI 1 = (1 : Int32) by decide), Option.bind_some]
          exact ⟨_, _, rfl, rfl, rfl, hr, h.elem⟩
        · simp only [if_neg (show ¬ nI 2 = (0 : Int32) by decide), if_neg (show ¬ nI 2 = (1 : Int32) by decide), if_pos (show nI 2 = (2 : Int32) by decide), Option.bind_some]
          exact ⟨_, _, rfl, rfl, rfl, hr, h.elem⟩
        · simp only [if_neg (show ¬ nI 3 = (0 : Int32) by decide), if_neg (show ¬ nI 3 = (1 : Int32) by decide), if_neg (show ¬ nI 3 = (2 : Int32) by decide), if_pos (show nI 3 = (3 : Int32) by decide), Option.bind_some]
          exact ⟨_, _, rfl, rfl, rfl, hr, h.elem⟩
        · simp only [if_neg (show ¬ nI 4 = (0 : Int32) by decide), if_neg (show ¬ nI 4 = (1 : Int32) by decide), if_neg (show ¬ nI 4 = (2 : Int32) by decide), if_neg (show ¬ nI 4 = (3 : Int32) by decide), if_pos (show nI 4 = (4 : Int32) by decide), Option.bind_some]
          by_cases c3 : lg_cmp a3 0 = 0
          · simp only [if_pos c3, Option.bind_some]
            exact ⟨_, _, rfl, rfl, rfl, hr, h.elem⟩
          · simp only [if_neg c3, Option.bind_some]
            exact ⟨_, _, rfl, rfl, rfl, hr, h.elem⟩
      · rw [if_neg c2, if_pos rfl, if_pos rfl]
        exact ⟨_, _, rfl, rfl, rfl, e3, h⟩
  · rw [if_neg c1, if_pos rfl, if_pos rfl]
    exact ⟨_, _, rfl, rfl, rfl, e3, h⟩
