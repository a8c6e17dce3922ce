-- ===== island: numbers, cells =====
noncomputable def AFT (z i : Nat) (ct rd' ct' : Nat → Int32) : Prop := ∃ e, PR z e rd' ct' ∧ i ≤ e ∧ (∃ ta, ta ≤ z ∧ rd' 5 = nI ta ∧ ct' 8 = nI ta) ∧ (∀ j, j ≠ 7 → j ≠ 8 → j ≠ 9 → ct' j = ct j)
theorem AFT.mk1 {z i e ta : Nat} {ct rd' ct' : Nat → Int32} (hp : PR z e rd' ct') (h : i ≤ e) (h2 : ta ≤ e) (h5 : rd' 5 = nI ta) (h8 : ct' 8 = nI ta) (hf : ∀ j, j ≠ 7 → j ≠ 8 → j ≠ 9 → ct' j = ct j) : AFT z i ct rd' ct' := ⟨e, hp, h, ⟨ta, Nat.le_trans h2 hp.2.2.2.2, h5, h8⟩, hf⟩
theorem AFT.tr {z i e : Nat} {ct ct1 rd2 ct2 : Nat → Int32} (h : i ≤ e) (hf : ∀ j, j ≠ 7 → j ≠ 8 → j ≠ 9 → ct1 j = ct j) (h2 : AFT z e ct1 rd2 ct2) : AFT z i ct rd2 ct2 := by
  obtain ⟨e2, a, b, c, d⟩ := h2
  exact ⟨e2, a, by omega, c, fun j h7 h8 h9 => (d j h7 h8 h9).trans (hf j h7 h8 h9)⟩
theorem num_gen {by_ tp rd ct : Nat → Int32} {z i : Nat} (hz : z ≤ 250) (hb : ∀ i, i < z → by_ i = tp i) (hp : PR z i rd ct) : ∃ rd' ct' ta e k, f_X1_nextToken rd by_ = some rd' ∧ (∀ l1 l2, f_X1_readNumber l1 l2 rd by_ = some (if k = 2 ∧ (l1 ≤ rd' 6 ∧ rd' 6 ≤ l2) then 1 else 0, rd')) ∧ (∀ l1 l2, f_X6_number l1 l2 ct tp = some (if (k = 2 ∧ e - ta ≤ 2) ∧ (l1 ≤ rd' 6 ∧ rd' 6 ≤ l2) then rd' 6 else -1, ct')) ∧ TOK z ta e k tp rd' ct' ∧ i ≤ ta ∧ (∀ j, j ≠ 7 → j ≠ 8 → j ≠ 9 → ct' j = ct j) := by
  obtain ⟨rd', ct', ta, e, k, t1, t2, t3, t4, t5⟩ := token_both hz hb hp
  refine ⟨rd', ct', ta, e, k, t1, ?_, ?_, t3, t4, t5⟩
  · obtain ⟨⟨p1, p2, p3, p4, p5⟩, r5, m8, r4, m9, k4, te, k1, kw, kn⟩ := t3
    intro l1 l2
    unfold f_X1_readNumber
    rw [t1, ob, r4]
    by_cases c : k = 2
    · rw [if_pos (by rw [c]; rfl), isWithin_eq, ob]
      by_cases c2 : l1 ≤ rd' 6 ∧ rd' 6 ≤ l2
      · rw [if_pos c2, if_neg one_ne0, if_pos ⟨c, c2⟩]
      · rw [if_neg c2, if_pos rfl, if_neg (fun w => c2 w.2)]
    · rw [if_neg (show ¬ nI k = (2 : Int32) from fun w => c (nI_inj (b := 2) (by omega) (by omega) w)), if_neg (fun w => c w.1)]
  · obtain ⟨⟨p1, p2, p3, p4, p5⟩, r5, m8, r4, m9, k4, te, k1, kw, kn⟩ := t3
    intro l1 l2
    unfold f_X6_number
    rw [t2, ob, m9]
    by_cases c : k = 2
    · have he := k1 (by omega)
      rw [if_pos (by rw [c]; rfl), p4, m8, pk_sub te]
      by_cases c2 : e - ta ≤ 2
      · have hv := kn c
        rw [if_pos c2] at hv
        rw [if_pos (show nI (e - ta) ≤ (2 : Int32) from (nI_leI (b := 2) (by omega) (by omega)).mpr c2), numM (by omega) p4 he c2, hv]
        by_cases c3 : l1 ≤ nvl tp ta e ∧ nvl tp ta e ≤ l2
        · rw [if_pos c3, if_pos ⟨⟨c, c2⟩, c3⟩]
        · rw [if_neg c3, if_neg (fun w => c3 w.2)]
      · rw [if_neg (show ¬ nI (e - ta) ≤ (2 : Int32) from fun w => c2 ((nI_leI (b := 2) (by omega) (by omega)).mp w)), if_neg (fun w => c2 w.1.2)]
    · rw [if_neg (show ¬ nI k = (2 : Int32) from fun w => c (nI_inj (b := 2) (by omega) (by omega) w)), if_neg (fun w => c w.1.1)]
theorem big_100 {e ta : Nat} {tp : Nat → Int32} {x : Int32} (h : x = if e - ta ≤ 2 then nvl tp ta e else 100) (hx : x ≤ 99) : e - ta ≤ 2 := by
  by_cases c : e - ta ≤ 2
  · exact c
  · rw [if_neg c] at h
    rw [h] at hx
    exact absurd hx (by decide)
theorem num_both {by_ tp rd ct : Nat → Int32} {z i : Nat} {lo hi : Int32} (hz : z ≤ 250) (hb : ∀ i, i < z → by_ i = tp i) (hp : PR z i rd ct) (hlo : 0 ≤ lo) (hhi : hi ≤ 99) : ∃ rd' ct' r v, f_X1_readNumber lo hi rd by_ = some (r, rd') ∧ f_X6_number lo hi ct tp = some (v, ct') ∧ AFT z i ct rd' ct' ∧ ((r = 0 ∧ v = -1) ∨ (r = 1 ∧ ∃ x : Nat, x < 100 ∧ v = nI x ∧ rd' 6 = nI x ∧ lo ≤ nI x ∧ nI x ≤ hi)) := by
  obtain ⟨rd', ct', ta, e, k, t1, t2, t3, t4, t5, t6⟩ := num_gen hz hb hp
  obtain ⟨pp, r5, m8, r4, m9, k4, te, k1, kw, kn⟩ := t4
  have ha : AFT z i ct rd' ct' := AFT.mk1 pp (by omega) te r5 m8 t6
  refine ⟨rd', ct', _, _, t2 lo hi, t3 lo hi, ha, ?_⟩
  by_cases c : k = 2 ∧ (lo ≤ rd' 6 ∧ rd' 6 ≤ hi)
  · right
    have c2 := big_100 (kn c.1) (Int32.le_trans c.2.2 hhi)
    obtain ⟨x, hx, hx2⟩ := i32_nat (n := 99) (Int32.le_trans hlo c.2.1) (Int32.le_trans c.2.2 hhi) (by decide)
    rw [if_pos c, if_pos ⟨⟨c.1, c2⟩, c.2⟩]
    exact ⟨rfl, x, by omega, hx2, hx2, by rw [← hx2]; exact c.2.1, by rw [← hx2]; exact c.2.2⟩
  · left
    rw [if_neg c, if_neg (fun w => c ⟨w.1.1, w.2⟩)]
    exact ⟨rfl, rfl⟩
theorem cell_both {by_ tp rd ct f N : Nat → Int32} {z i s : Nat} (hz : z ≤ 250) (hb : ∀ i, i < z → by_ i = tp i) (hp : PR z i rd ct) (hs : s ≤ 7) (h0 : f 0 = nI s) (n0 : N 90 = nI s) : ∃ rd' ct' r v, f_X1_readCell rd by_ f = some (r, rd') ∧ f_X6_cellNumber ct N tp = some (v, ct') ∧ AFT z i ct rd' ct' ∧ ((r = 0 ∧ v = -1) ∨ (r = 1 ∧ ∃ c : Nat, c < 70 ∧ okc s c ∧ v = nI c ∧ rd' 6 = nI c)) := by
  obtain ⟨rd', ct', ta, e, k, t1, t2, t3, t4, t5, t6⟩ := num_gen hz hb hp
  obtain ⟨pp, r5, m8, r4, m9, k4, te, k1, kw, kn⟩ := t4
  have ha : AFT z i ct rd' ct' := AFT.mk1 pp (by omega) te r5 m8 t6
  unfold f_X1_readCell f_X6_cellNumber
  rw [t1, ob, t3 0 99, ob, r4]
  by_cases c : k = 2
  · rw [if_pos (show nI k = 2 by rw [c]; rfl)]
    rcases isCell_both (t := ct') hs h0 n0 (rd' 6) with ⟨q, hq70, hq, hqe, i1, i2⟩ | ⟨i1, i2⟩
    · have hin : (0 : Int32) ≤ rd' 6 ∧ rd' 6 ≤ 99 := by
        rw [hqe]; exact ⟨nI_pos' (by omega), (nI_leI (b := 99) (by omega) (by omega)).mpr (by omega)⟩
      have c2 := big_100 (kn c) hin.2
      rw [if_pos (show (k = 2 ∧ e - ta ≤ 2) ∧ ((0 : Int32) ≤ rd' 6 ∧ rd' 6 ≤ 99) from ⟨⟨c, c2⟩, hin⟩)]
      dsimp only
      rw [if_neg (show ¬ rd' 6 = -1 by rw [hqe]; exact nI_ne1 (by omega)), i1, ob, if_neg one_ne0, i2, ob, if_neg one_ne0]
      exact ⟨rd', ct', 1, rd' 6, rfl, rfl, ha, Or.inr ⟨rfl, q, hq70, hq, hqe, hqe⟩⟩
    · rw [i1, ob, if_pos rfl]
      refine ⟨rd', ct', 0, -1, rfl, ?_, ha, Or.inl ⟨rfl, rfl⟩⟩
      by_cases c3 : (k = 2 ∧ e - ta ≤ 2) ∧ ((0 : Int32) ≤ rd' 6 ∧ rd' 6 ≤ 99)
      · rw [if_pos c3]
        dsimp only
        have hne : ¬ rd' 6 = -1 := fun w => by
          have := c3.2.1
          rw [w] at this
          exact absurd this (by decide)
        rw [if_neg hne, i2, ob, if_pos rfl]
      · rw [if_neg c3]
        dsimp only
        rw [if_pos rfl]
  · rw [if_neg (show ¬ nI k = (2 : Int32) from fun w => c (nI_inj (b := 2) (by omega) (by omega) w)), if_neg (show ¬ ((k = 2 ∧ e - ta ≤ 2) ∧ ((0 : Int32) ≤ rd' 6 ∧ rd' 6 ≤ 99)) from fun w => c w.1.1)]
    dsimp only
    rw [if_pos rfl]
    exact ⟨rd', ct', 0, -1, rfl, rfl, ha, Or.inl ⟨rfl, rfl⟩⟩
