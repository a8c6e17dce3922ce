-- ===== cases: side, isFor, put, isPond, pond, person, seed, feed, wipe =====
theorem isFaces_X5 (x : Int32) : f_X5_isFaces x = some (if 0 ≤ x ∧ x ≤ 3 then 1 else 0) := by
  unfold f_X5_isFaces
  rw [isWithin_eq]
  simp only [Option.bind_some]
  rw [if_pos (w01 _)]
theorem isKind_X5 (x : Int32) : f_X5_isKind x = some (if 0 ≤ x ∧ x ≤ 5 then 1 else 0) := by
  unfold f_X5_isKind
  rw [isWithin_eq]
  simp only [Option.bind_some]
  rw [if_pos (w01 _)]
theorem one_ne0 : ¬ (1 : Int32) = 0 := by decide
theorem ix8 {j : Nat} (h : j < 8) : inb (nI j) 8 ∧ (nI j).toNatClampNeg = j := ⟨inb_nI h (by decide), nI_cl (by omega)⟩
theorem ixN {p q : Nat} (hp : p < 8) (hq : q < 5) : (5 : Int32) * nI p + nI q = nI (5 * p + q) ∧ inb (nI (5 * p + q)) 97 ∧ (nI (5 * p + q)).toNatClampNeg = 5 * p + q := by
  refine ⟨?_, inb_nI (by omega) (by decide), nI_cl (by omega)⟩
  show nI 5 * nI p + nI q = _
  rw [pk_mul, nI_add]
theorem IRe.upd1 {K Wt C F G N : Nat → Int32} {p : Nat} {x : Int32} (h : IRe K Wt C F G N) (hp : p < 8) : IRe K Wt C F (upd G p x) (upd N (5 * p + 4) x) := fun q hq => by
  obtain ⟨a, b, c, d, e⟩ := h q hq
  refine ⟨?_, ?_, ?_, ?_, ?_⟩
  · rw [upd_ne (by omega)]; exact a
  · rw [upd_ne (by omega)]; exact b
  · rw [upd_ne (by omega)]; exact c
  · rw [upd_ne (by omega)]; exact d
  · by_cases z : q = p
    · rw [z, upd_eq, upd_eq]
    · rw [upd_ne (by omega), upd_ne z]; exact e
theorem IRe.upd2 {K Wt C F G N : Nat → Int32} {p : Nat} {x y : Int32} (h : IRe K Wt C F G N) (hp : p < 8) : IRe K Wt (upd C p x) (upd F p y) G (upd (upd N (5 * p + 2) x) (5 * p + 3) y) := fun q hq => by
  obtain ⟨a, b, c, d, e⟩ := h q hq
  refine ⟨?_, ?_, ?_, ?_, ?_⟩
  · rw [upd_ne (by omega), upd_ne (by omega)]; exact a
  · rw [upd_ne (by omega), upd_ne (by omega)]; exact b
  · by_cases z : q = p
    · rw [z, upd_ne (by omega), upd_eq, upd_eq]
    · rw [upd_ne (by omega), upd_ne (by omega), upd_ne z]; exact c
  · by_cases z : q = p
    · rw [z, upd_eq, upd_eq]
    · rw [upd_ne (by omega), upd_ne (by omega), upd_ne z]; exact d
  · rw [upd_ne (by omega), upd_ne (by omega)]; exact e
theorem case_side {cx cm f P K Wt C F G N xr mr : Nat → Int32} (h : IRel f P K Wt C F G N) (hr : RRef xr mr) (a1 : Int32) : ∃ u v, f_X5_side a1 cx f xr = some u ∧ f_X6_side a1 cm N mr = some v ∧ u.1 = v.1 ∧ IRel u.2.1 P K Wt C F G v.2.1 ∧ RRef u.2.2 v.2.2 := by
  obtain ⟨g1, g2, e1, e2, e3⟩ := refuse_both (cx := cx) (cm := cm) (code := -2) (Or.inl rfl) hr
  have h0 := h
  obtain ⟨s, n, ⟨q1, q2, q3, q4, q5, q6, q7, q8, q9, q10, q11, q12, q13⟩, he, hv, hc⟩ := h
  have hmax : (if f 0 < (3 : Int32) then (3 : Int32) else f 0) = nI s := by
    rw [q4, if_neg (fun z => by have := (nI_ltI (b := 3) (by omega) (by omega)).mp z; omega)]
  unfold f_X5_side f_X6_side f_X0_maySide
  rw [isWithin_eq, show f_X6_isIn a1.toInt64 (N 90).toInt64 7 = some (if N 90 ≤ a1 ∧ a1 ≤ 7 then 1 else 0) from isIn_eq a1 (N 90) 7, hmax, q5, e1, e2]
  simp only [Option.bind_some]
  rw [if_pos (w01 _)]
  simp only [Option.bind_some]
  by_cases c1 : nI s ≤ a1 ∧ a1 ≤ 7
  · rw [if_pos c1, if_neg one_ne0, if_neg one_ne0]
    obtain ⟨t, ht, hta⟩ := i32_nat (n := 7) (Int32.le_trans (nI_pos' (by omega)) c1.1) c1.2 (by decide)
    have hst : s ≤ t := (nI_leI (by omega) (by omega)).mp (by rw [← hta]; exact c1.1)
    refine ⟨_, _, rfl, rfl, q4, ⟨t, n, ⟨by omega, ht, q3, ?_, ?_, ?_, ?_, ⟨?_, q8.2⟩, ⟨?_, q9.2⟩, ?_, ?_, ?_, ?_⟩, he.congr (fun j hj => upd_ne (by omega)), ?_, ?_⟩, hr⟩
    · exact hta
    · exact hta
    · exact q6
    · exact q7
    · exact q8.1
    · exact q9.1
    · exact q10
    · exact q11
    · exact q12
    · exact q13
    · intro p hp
      obtain ⟨a, b, ⟨c, c2, c3⟩, d⟩ := hv p hp
      exact ⟨a, b, ⟨c, ⟨by have := c2.1; omega, by have := c2.2; omega⟩, c3⟩, d⟩
    · intro k hk h7
      obtain ⟨a, b, c⟩ := hc k hk h7
      refine ⟨(upd_ne (by unfold pt; omega)).trans a, b, fun z => c (fun w => z ⟨by have := w.1; omega, by have := w.2; omega⟩)⟩
  · rw [if_neg c1, if_pos rfl, if_pos rfl]
    exact ⟨_, _, rfl, rfl, rfl, h0, e3⟩
theorem case_isFor {cx cm f P K Wt C F G N xr mr : Nat → Int32} (h : IRel f P K Wt C F G N) (hr : RRef xr mr) (a1 a2 : Int32) : ∃ u v, f_X5_isFor a1 a2 cx f G xr = some u ∧ f_X6_isFor_ a1 a2 cm N mr = some v ∧ u.1 = v.1 ∧ IRel f P K Wt C F u.2.1 v.2.1 ∧ RRef u.2.2 v.2.2 := by
  obtain ⟨g1, g2, e1, e2, e3⟩ := refuse_both (cx := cx) (cm := cm) (code := -2) (Or.inl rfl) hr
  have h0 := h
  obtain ⟨s, n, hs, he, hv, hc⟩ := h
  have hs0 := hs
  obtain ⟨q1, q2, q3, q4, q5, q6, q7, q8, q9, q10, q11, q12, q13⟩ := hs
  have hX : f_X5_isFor_b20 cx f G xr = some (-2, G, g1) := by unfold f_X5_isFor_b20; rw [e1]; rfl
  have hM : f_X6_isFor__b18 cm N mr = some (-2, N, g2) := by unfold f_X6_isFor__b18; rw [e2]; rfl
  unfold f_X5_isFor f_X6_isFor_
  rw [isWithin_eq, show f_X6_isIn a2.toInt64 0 1 = some (if 0 ≤ a2 ∧ a2 ≤ 1 then 1 else 0) from isIn_eq a2 0 1, hX, hM]
  rcases isOne_both (ct := cm) q3 q6 q7 a1 with ⟨j, hj, rfl, i1, i2⟩ | ⟨i1, i2⟩
  · rw [i1, i2]
    simp only [Option.bind_some, if_neg one_ne0]
    by_cases c2 : 0 ≤ a2 ∧ a2 ≤ 1
    · have hj8 : j < 8 := by omega
      rw [if_pos c2, if_neg one_ne0, if_neg one_ne0, (mkind hj8).2.2.2.2]
      simp only [Option.bind_some, if_pos (ix8 hj8).1, (ix8 hj8).2, show (5 : Int32) * nI j + 4 = nI (5 * j + 4) from (ixN hj8 (show 4 < 5 by decide)).1, if_pos (ixN hj8 (show 4 < 5 by decide)).2.1, (ixN hj8 (show 4 < 5 by decide)).2.2]
      have hb : isB a2 := by
        obtain ⟨v, hv1, hv2⟩ := i32_nat (n := 1) c2.1 c2.2 (by decide)
        rw [hv2]
        rcases (show v = 0 ∨ v = 1 by omega) with rfl | rfl
        · exact Or.inl rfl
        · exact Or.inr rfl
      refine ⟨_, _, rfl, rfl, (he j hj8).2.2.2.2.symm, ⟨s, n, hs0.congr (fun i hi => upd_ne (by omega)), he.upd1 hj8, ?_, hc.congr (fun i h1 h2 => upd_ne (by omega))⟩, hr⟩
      intro p hp
      obtain ⟨a, b, c, d, g⟩ := hv p hp
      refine ⟨a, b, c, d, ?_⟩
      dsimp only
      by_cases z : p = j
      · rw [z, upd_eq]; exact hb
      · rw [upd_ne z]; exact g
    · rw [if_neg c2, if_pos rfl, if_pos rfl]
      exact ⟨_, _, rfl, rfl, rfl, h0, e3⟩
  · rw [i1, i2]
    simp only [Option.bind_some, if_true]
    exact ⟨_, _, rfl, rfl, rfl, h0, e3⟩
theorem case_put {cx cm f P K Wt C F G N xr mr : Nat → Int32} (h : IRel f P K Wt C F G N) (hr : RRef xr mr) (a1 a2 a3 : Int32) : ∃ u v, f_X5_put a1 a2 a3 cx f C F P xr = some u ∧ f_X6_put a1 a2 a3 cm N mr = some v ∧ u.1 = v.1 ∧ IRel f P K Wt u.2.1 u.2.2.1 G v.2.1 ∧ RRef u.2.2.2 v.2.2 := by
  obtain ⟨g1, g2, e1, e2, e3⟩ := refuse_both (cx := cx) (cm := cm) (code := -2) (Or.inl rfl) hr
  obtain ⟨g5, g6, e5, e6, e7⟩ := refuse_both (cx := cx) (cm := cm) (code := -5) (Or.inr (Or.inr (Or.inr (Or.inl rfl)))) hr
  have h0 := h
  obtain ⟨s, n, hs, he, hv, hc⟩ := h
  have hs0 := hs
  obtain ⟨q1, q2, q3, q4, q5, q6, q7, q8, q9, q10, q11, q12, q13⟩ := hs
  have hX : f_X5_put_b29 cx f P C F xr = some (-2, C, F, g1) := by unfold f_X5_put_b29; rw [e1]; rfl
  have hM : f_X6_put_b28 cm N mr = some (-2, N, g2) := by unfold f_X6_put_b28; rw [e2]; rfl
  unfold f_X5_put f_X6_put
  rw [isFaces_X5, show f_X6_isIn a3.toInt64 0 3 = some (if 0 ≤ a3 ∧ a3 ≤ 3 then 1 else 0) from isIn_eq a3 0 3, hX, hM, e5, e6]
  rcases isOne_both (ct := cm) q3 q6 q7 a1 with ⟨j, hj, rfl, i1, i2⟩ | ⟨i1, i2⟩
  · rw [i1, i2]
    simp only [Option.bind_some, if_neg one_ne0]
    rcases isCell_both (t := cm) q2 q4 q5 a2 with ⟨k, hk70, hk, rfl, k1, k2⟩ | ⟨k1, k2⟩
    · rw [k1, k2, hasPond_X0 q2 q4 hk, hasPond_X6 q2 hk, (hc.ok q2 hk).1]
      simp only [Option.bind_some, if_neg one_ne0]
      by_cases c2 : 0 ≤ a3 ∧ a3 ≤ 3
      · have hj8 : j < 8 := by omega
        rw [if_pos c2, if_neg one_ne0, if_neg one_ne0, (mkind hj8).2.2.1]
        simp only [Option.bind_some, if_pos (ix8 hj8).1, (ix8 hj8).2, show (5 : Int32) * nI j + 2 = nI (5 * j + 2) from (ixN hj8 (show 2 < 5 by decide)).1, if_pos (ixN hj8 (show 2 < 5 by decide)).2.1, (ixN hj8 (show 2 < 5 by decide)).2.2, show (5 : Int32) * nI j + 3 = nI (5 * j + 3) from (ixN hj8 (show 3 < 5 by decide)).1, if_pos (ixN hj8 (show 3 < 5 by decide)).2.1, (ixN hj8 (show 3 < 5 by decide)).2.2]
        rcases (hc.ok q2 hk).2 with qp | qp
        · rw [qp]
          simp only [if_true, if_neg (show ¬ (0 : Int32) = 1 by decide)]
          refine ⟨_, _, rfl, rfl, (he j hj8).2.2.1.symm, ⟨s, n, hs0.congr (fun i hi => (upd_ne (by omega)).trans (upd_ne (by omega))), he.upd2 hj8, ?_, hc.congr (fun i h1 h2 => (upd_ne (by omega)).trans (upd_ne (by omega)))⟩, hr⟩
          intro p hp
          obtain ⟨a, b, c, d, g⟩ := hv p hp
          refine ⟨a, b, ?_, ?_, g⟩ <;> dsimp only
          · by_cases z : p = j
            · rw [z, upd_eq]; exact ⟨k, hk, rfl⟩
            · rw [upd_ne z]; exact c
          · by_cases z : p = j
            · rw [z, upd_eq]
              obtain ⟨v, hv1, hv2⟩ := i32_nat (n := 3) c2.1 c2.2 (by decide)
              exact ⟨v, by omega, hv2⟩
            · rw [upd_ne z]; exact d
        · rw [qp]
          simp only [if_neg one_ne0, if_true]
          exact ⟨_, _, rfl, rfl, rfl, h0, e7⟩
      · rw [if_neg c2, if_pos rfl, if_pos rfl]
        exact ⟨_, _, rfl, rfl, rfl, h0, e3⟩
    · rw [k1, k2]
      simp only [Option.bind_some, if_true]
      exact ⟨_, _, rfl, rfl, rfl, h0, e3⟩
  · rw [i1, i2]
    simp only [Option.bind_some, if_true]
    exact ⟨_, _, rfl, rfl, rfl, h0, e3⟩
theorem case_isPond {cx cm f P K Wt C F G N xr mr : Nat → Int32} (h : IRel f P K Wt C F G N) (hr : RRef xr mr) (a1 : Int32) : ∃ u v, f_X5_isPond a1 cx f P xr = some u ∧ f_X6_isPond a1 cm N mr = some v ∧ u.1 = v.1 ∧ RRef u.2 v.2 := by
  obtain ⟨g1, g2, e1, e2, e3⟩ := refuse_both (cx := cx) (cm := cm) (code := -2) (Or.inl rfl) hr
  obtain ⟨s, n, hs, he, hv, hc⟩ := h
  obtain ⟨q1, q2, q3, q4, q5, q6, q7, q8, q9, q10, q11, q12, q13⟩ := hs
  unfold f_X5_isPond f_X6_isPond
  rw [e1, e2]
  rcases isCell_both (t := cm) q2 q4 q5 a1 with ⟨k, hk70, hk, rfl, k1, k2⟩ | ⟨k1, k2⟩
  · have hk1 := hk.1
    have hk2 := hk.2
    rw [k1, k2, hasPond_X0 q2 q4 hk, pondAt_eq (by omega)]
    simp only [Option.bind_some, if_neg one_ne0, asNumber_eq, if_pos (inb_nI (show pt k < 97 by unfold pt; omega) (by decide)), nI_cl (show pt k < 2147483648 by unfold pt; omega), (hc.ok q2 hk).1]
    refine ⟨_, _, rfl, rfl, ?_, hr⟩
    rcases (hc.ok q2 hk).2 with qp | qp <;> simp only [qp] <;> decide
  · rw [k1, k2]
    simp only [Option.bind_some, if_true]
    exact ⟨_, _, rfl, rfl, rfl, e3⟩
theorem case_seed {cx cm f P K Wt C F G N : Nat → Int32} (h : IRel f P K Wt C F G N) (a1 : Int32) : ∃ u v, f_X5_seed a1 cx f = some u ∧ f_X6_seed a1 cm N = some v ∧ u.1 = v.1 ∧ IRel u.2 P K Wt C F G v.2 := by
  obtain ⟨s, n, ⟨q1, q2, q3, q4, q5, q6, q7, q8, q9, ⟨d, q10, q14, q15⟩, q11, q12, q13⟩, he, hv, hc⟩ := h
  refine ⟨_, _, rfl, rfl, q13.symm, ⟨s, n, ⟨q1, q2, q3, q4, q5, q6, q7, q8, q9, ⟨d, q10, q14, q15⟩, q11, q12, rfl⟩, he.congr (fun j hj => upd_ne (by omega)), hv, hc.congr (fun j h1 h2 => upd_ne (by omega))⟩⟩
/-- the tape: the reader's cell and bytes, the model's cell and tape -/
noncomputable def RTape (rd by_ cm tp : Nat → Int32) : Prop := ∃ z : Nat, z ≤ 250 ∧ rd 2 = nI z ∧ cm 6 = nI z ∧ ∀ i, i < z → by_ i = tp i ∧ ∃ v : Nat, v ≤ 255 ∧ tp i = nI v
theorem case_wipe {cx cm rd by_ tp : Nat → Int32} (h : RTape rd by_ cm tp) : ∃ u v, f_X5_wipe cx rd = some u ∧ f_X6_wipe cm = some v ∧ u.1 = v.1 ∧ RTape u.2 by_ v.2 tp ∧ (∀ j, j ≠ 6 → v.2 j = cm j) := by
  obtain ⟨z, h1, h2, h3, h4⟩ := h
  refine ⟨_, _, rfl, rfl, h2.trans h3.symm, ⟨0, by omega, by dsimp only; exact upd_eq, by dsimp only; exact upd_eq, fun i hi => by omega⟩, fun j hj => upd_ne hj⟩
theorem case_feed {cx cm rd by_ tp xr mr : Nat → Int32} (h : RTape rd by_ cm tp) (hr : RRef xr mr) (a1 : Int32) : ∃ u v, f_X5_feed a1 cx rd by_ xr = some u ∧ f_X6_feed a1 cm mr tp = some v ∧ u.1 = v.1 ∧ RTape u.2.1 u.2.2.1 v.2.1 v.2.2.2 ∧ RRef u.2.2.2 v.2.2.1 ∧ (∀ j, j ≠ 6 → v.2.1 j = cm j) := by
  obtain ⟨g1, g2, e1, e2, e3⟩ := refuse_both (cx := cx) (cm := cm) (code := -2) (Or.inl rfl) hr
  obtain ⟨g5, g6, e5, e6, e7⟩ := refuse_both (cx := cx) (cm := cm) (code := -6) (Or.inr (Or.inr (Or.inr (Or.inr rfl)))) hr
  have h0 := h
  obtain ⟨z, h1, h2, h3, h4⟩ := h
  unfold f_X5_feed f_X6_feed f_X1_append f_X1_isFull
  rw [isWithin_eq, show f_X6_isIn a1.toInt64 0 255 = some (if 0 ≤ a1 ∧ a1 ≤ 255 then 1 else 0) from isIn_eq a1 0 255, e1, e2, e5, e6, h2, h3]
  simp only [Option.bind_some]
  by_cases c1 : 0 ≤ a1 ∧ a1 ≤ 255
  · rw [if_pos c1, if_neg one_ne0, if_neg one_ne0]
    by_cases c2 : z = 250
    · subst c2
      rw [if_neg (show ¬ nI 250 < (250 : Int32) by decide), if_pos (show nI 250 = (250 : Int32) from rfl)]
      simp only [Option.bind_some, if_neg one_ne0]
      exact ⟨_, _, rfl, rfl, rfl, h0, e7, fun _ _ => rfl⟩
    · have c3 : nI z < (250 : Int32) := (nI_ltI (b := 250) (by omega) (by omega)).mpr (by omega)
      have c4 : ¬ nI z = (250 : Int32) := fun w => c2 (nI_inj (b := 250) (by omega) (by decide) w)
      rw [if_pos c3, if_neg c4, if_pos (inb_nI (show z < 250 by omega) (by decide))]
      simp only [Option.bind_some, if_true, if_pos (inb_nI (show z < 250 by omega) (by decide)), f_X1_append_b27, nI_cl (show z < 2147483648 by omega)]
      refine ⟨_, _, rfl, rfl, by rw [upd_eq, upd_eq], ⟨z + 1, by omega, ?_, ?_, fun i hi => ?_⟩, hr, fun j hj => upd_ne hj⟩
      · rw [upd_eq]; exact nI_1 z
      · rw [upd_eq]; exact nI_1 z
      · dsimp only
        by_cases c5 : i = z
        · rw [c5, upd_eq, upd_eq]
          obtain ⟨v, hv1, hv2⟩ := i32_nat (n := 255) c1.1 c1.2 (by decide)
          exact ⟨rfl, v, hv1, hv2⟩
        · rw [upd_ne c5, upd_ne c5]; exact h4 i (by omega)
  · rw [if_neg c1, if_pos rfl, if_pos rfl]
    exact ⟨_, _, rfl, rfl, rfl, h0, e3, fun _ _ => rfl⟩
