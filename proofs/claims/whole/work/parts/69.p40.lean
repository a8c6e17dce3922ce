-- ===== meet, waits: both loads =====
theorem load_ok {ct hh z tl : Nat → Int32} {e : Nat → Int64} {q m m2 so : Nat} (hq : q < 8) (hm : m ≤ 40) (hso : so ≤ 4) (hm2 : m2 ≤ 40) (h1 : hh q = nI so) (h2 : z q = nI m2) (hle : m ≤ m2) : ∃ tl', f_X6_load (nI q) (nI m) ct e hh z tl = some (if bad e (40 * q) m m = none then 1 else -5, tl') ∧ (bad e (40 * q) m m = none → ∀ i, i < m → isSg (e (40 * q + i)) ∧ tl' i = (e (40 * q + i)).toInt32) := by
  have g1 : ¬ (10 : Int32) ≤ hh q := by rw [h1]; exact fun z => by have := (nI_leI (a := 10) (by omega) (by omega)).mp z; omega
  have g2 : ¬ hh q = -1 := by rw [h1]; exact nI_ne1 (by omega)
  obtain ⟨k, hk⟩ := FU_s
  obtain ⟨tl', l1, l2⟩ := loadL (ct := ct) (h := hh) (z := z) (e := e) hq hm m FU tl (Nat.le_refl _) (by omega)
  rw [Nat.sub_self] at l1 l2
  refine ⟨tl', ?_, fun hb i hi => ⟨bad_none m (Nat.le_refl _) hb i (by omega) hi, by rw [l2 hb i, if_pos ⟨by omega, hi⟩]⟩⟩
  unfold f_X6_load
  rw [rowIn_eq hq, ob, if_neg g1, if_neg g2, if_pos (by decide), if_pos (ix8 hq).1, (ix8 hq).2, h2, if_pos ((nI_leI (by omega) (by omega)).mpr hle)]
  exact l1
theorem copyFirst {ct hh z N tl : Nat → Int32} {e : Nat → Int64} {m : Nat} {l4 l5 : Int32} (hm : m ≤ 40) : ∀ (j a : Nat) (fi : Nat → Int32), j ≤ m → j < a → ∃ fi', f_X6_loadBoth_b152 ct e hh N z a fi tl (nI m) l4 l5 1 (nI (m - j)) = f_X6_loadBoth_b184 ct e hh N z fi' tl l4 l5 1 ∧ (∀ i, m - j ≤ i → i < m → fi' i = tl i) ∧ (∀ i, i < m - j → fi' i = fi i) := by
  intro j
  induction j with
  | zero =>
    intro a fi _ ha
    obtain ⟨k, rfl⟩ : ∃ k, a = k + 1 := ⟨a - 1, by omega⟩
    rw [f_X6_loadBoth_b152, Nat.sub_zero, if_pos (Int32.le_refl _)]
    exact ⟨fi, rfl, fun i h1 h2 => by omega, fun i _ => rfl⟩
  | succ j ih =>
    intro a fi hj ha
    obtain ⟨k, rfl⟩ : ∃ k, a = k + 1 := ⟨a - 1, by omega⟩
    have e9 : nI (m - (j + 1)) + (1 : Int32) = nI (m - j) := by rw [nI_1]; congr 1; omega
    have hin := inb_nI (show m - (j + 1) < 40 by omega) (show 40 ≤ 2147483648 by decide)
    rw [f_X6_loadBoth_b152, if_neg (fun z => by have := (nI_leI (by omega) (by omega)).mp z; omega), if_pos rfl, if_pos hin, if_pos hin, nI_cl (by omega), e9]
    obtain ⟨fi', r1, r2, r3⟩ := ih k (upd fi (m - (j + 1)) (tl (m - (j + 1)))) (by omega) (by omega)
    refine ⟨fi', r1, fun i h1 h2 => ?_, fun i h1 => ?_⟩
    · by_cases c : i = m - (j + 1)
      · rw [c, r3 _ (by omega), upd_eq]
      · exact r2 i (by omega) h2
    · rw [r3 i (by omega), upd_ne (by omega)]
theorem isTold_eq (x y : Int32) (ct : Nat → Int32) : f_X5_isTold x y ct = some (if 0 ≤ x ∧ x ≤ 7 then (if 0 ≤ y ∧ y ≤ 40 then 1 else 0) else 0) := by
  unfold f_X5_isTold
  rw [isShelf_X3, isWithin_eq]
  simp only [ob]
  by_cases c1 : 0 ≤ x ∧ x ≤ 7
  · rw [if_pos c1, if_pos c1, if_neg one_ne0]
    by_cases c2 : 0 ≤ y ∧ y ≤ 40
    · rw [if_pos c2, if_neg one_ne0]
    · rw [if_neg c2, if_pos rfl]
  · rw [if_neg c1, if_neg c1, if_pos rfl]
theorem pair_both {f N ct cx : Nat → Int32} {n : Nat} (hn : n ≤ 8) (h1 : f 7 = nI n) (h2 : N 89 = nI n) (a b : Int32) : (∃ p r, p < n ∧ r < n ∧ p ≠ r ∧ a = nI p ∧ b = nI r ∧ f_X5_arePair a b cx f = some 1 ∧ f_X6_isPerson a ct N = some 1 ∧ f_X6_isPerson b ct N = some 1) ∨ (f_X5_arePair a b cx f = some 0 ∧ ((f_X6_isPerson a ct N = some 0) ∨ (f_X6_isPerson a ct N = some 1 ∧ f_X6_isPerson b ct N = some 0) ∨ (f_X6_isPerson a ct N = some 1 ∧ f_X6_isPerson b ct N = some 1 ∧ a = b))) := by
  unfold f_X5_arePair
  rcases isOne_both (ct := ct) hn h1 h2 a with ⟨p, hp, rfl, i1, i2⟩ | ⟨i1, i2⟩
  · rw [i1, i2, ob, if_neg one_ne0]
    rcases isOne_both (ct := ct) hn h1 h2 b with ⟨r, hr, rfl, j1, j2⟩ | ⟨j1, j2⟩
    · rw [j1, j2, ob, if_neg one_ne0]
      by_cases c : p = r
      · right
        rw [if_pos (by rw [c])]
        exact ⟨rfl, Or.inr (Or.inr ⟨rfl, rfl, by rw [c]⟩)⟩
      · left
        rw [if_neg (fun z => c (nI_inj (by omega) (by omega) z))]
        exact ⟨p, r, hp, hr, c, rfl, rfl, rfl, rfl, rfl⟩
    · right
      rw [j1, j2, ob, if_pos rfl]
      exact ⟨rfl, Or.inr (Or.inl ⟨rfl, rfl⟩)⟩
  · right
    rw [i1, i2, ob, if_pos rfl]
    exact ⟨rfl, Or.inl rfl⟩
theorem both_load {cx ct f P K Wt C F G N Ks Z hh z fi tl : Nat → Int32} {E e : Nat → Int64} {s n : Nat} (h : IRn s n f P K Wt C F G N) (hR : RSh Ks Z hh z E e n) (a1 a2 a3 a4 a5 a6 : Int32) :
    (∃ code fi' tl', isCode code ∧ f_X5_meetingFault a1 a2 a3 a4 a5 a6 cx f Ks E Z = some code ∧ f_X6_loadBoth a1 a2 a3 a4 a5 a6 ct e fi hh N z tl = some (code, fi', tl')) ∨
    (∃ q m q2 m2 p p2 fi' tl', q < 8 ∧ q2 < 8 ∧ m ≤ 40 ∧ m2 ≤ 40 ∧ p < n ∧ p2 < n ∧ p ≠ p2 ∧ a1 = nI q ∧ a2 = nI m ∧ a3 = nI p ∧ a4 = nI q2 ∧ a5 = nI m2 ∧ a6 = nI p2 ∧ f_X5_meetingFault a1 a2 a3 a4 a5 a6 cx f Ks E Z = some 0 ∧ f_X6_loadBoth a1 a2 a3 a4 a5 a6 ct e fi hh N z tl = some (1, fi', tl') ∧ (∀ i, i < m → isSg (E (40 * q + i)) ∧ fi' i = (E (40 * q + i)).toInt32) ∧ (∀ i, i < m2 → isSg (E (40 * q2 + i)) ∧ tl' i = (E (40 * q2 + i)).toInt32)) := by
  obtain ⟨w1, w2, w3, w4, w5, w6, w7, w8⟩ := h.1
  unfold f_X5_meetingFault f_X6_loadBoth
  rw [isTold_eq, isTold_eq, isShelf_X6, isShelf_X6, show f_X6_isIn a2.toInt64 0 40 = some (if 0 ≤ a2 ∧ a2 ≤ 40 then 1 else 0) from isIn_eq a2 0 40, show f_X6_isIn a5.toInt64 0 40 = some (if 0 ≤ a5 ∧ a5 ≤ 40 then 1 else 0) from isIn_eq a5 0 40]
  simp only [ob]
  have no : ∀ {x y : Option Int32} {v : Option (Int32 × (Nat → Int32) × (Nat → Int32))}, x = some (-2) → v = some (-2, fi, tl) → ∃ code fi' tl', isCode code ∧ x = some code ∧ v = some (code, fi', tl') := fun hx hv => ⟨-2, fi, tl, Or.inl rfl, hx, hv⟩
  by_cases c1 : 0 ≤ a1 ∧ a1 ≤ 7
  · by_cases c2 : 0 ≤ a2 ∧ a2 ≤ 40
    · by_cases c4 : 0 ≤ a4 ∧ a4 ≤ 7
      · by_cases c5 : 0 ≤ a5 ∧ a5 ≤ 40
        · simp only [if_pos c1, if_pos c2, if_pos c4, if_pos c5, if_neg one_ne0]
          rcases pair_both (cx := cx) (ct := ct) w3 w6 w7 a3 a6 with ⟨p, r, hp, hr, hpr, rfl, rfl, i1, i2, i3⟩ | ⟨i1, i2⟩
          · rw [i1, i2, i3]
            have hpr2 : ¬ nI p = nI r := fun z => hpr (nI_inj (by omega) (by omega) z)
            simp only [ob, if_neg one_ne0, if_neg hpr2]
            obtain ⟨q, hq7, rfl⟩ := i32_nat (n := 7) c1.1 c1.2 (by decide)
            obtain ⟨m, hm, rfl⟩ := i32_nat (n := 40) c2.1 c2.2 (by decide)
            obtain ⟨q2, hq27, rfl⟩ := i32_nat (n := 7) c4.1 c4.2 (by decide)
            obtain ⟨m2, hm2, rfl⟩ := i32_nat (n := 40) c5.1 c5.2 (by decide)
            have hq : q < 8 := by omega
            have hq2 : q2 < 8 := by omega
            rw [tellingsFault_eq hq hq2 hm hm2]
            simp only [ob, if_pos (ix8 hq).1, (ix8 hq).2, if_pos (ix8 hq2).1, (ix8 hq2).2]
            obtain ⟨hK, hc⟩ := hR q hq
            obtain ⟨hK2, hc2⟩ := hR q2 hq2
            have hnum := shelf_num (h := hh) (s := q) w3
            have hnum2 := shelf_num (h := hh) (s := q2) w3
            unfold rfv
            rw [hK, hK2]
            by_cases t1 : 10 ≤ hh q
            · left
              rw [if_pos t1]
              exact ⟨-3, fi, tl, by simp [isCode], by simp [t1], rfl⟩
            · by_cases t2 : 10 ≤ hh q2
              · left
                rw [if_neg t1, if_neg (Int32.not_lt.mpr t2)]
                exact ⟨-3, fi, tl, by simp [isCode], by simp [t2], rfl⟩
              · rw [if_neg t1, if_pos (Int32.not_le.mp t2)]
                by_cases t3 : hh q = -1
                · left
                  rw [if_pos t3]
                  exact ⟨-4, fi, tl, by simp [isCode], by simp [t1, t2, t3], rfl⟩
                · by_cases t4 : hh q2 = -1
                  · left
                    rw [if_neg t3, if_pos t4]
                    exact ⟨-4, fi, tl, by simp [isCode], by simp [t1, t2, t4], rfl⟩
                  · rw [if_neg t3, if_neg t4]
                    have hrf : ∀ (A B : Int32), (if (if 10 ≤ hh q ∨ 10 ≤ hh q2 then (-3 : Int32) else if hh q = -1 ∨ hh q2 = -1 then -4 else 0) = 0 then A else B) = A := fun A B => by
                      rw [if_pos]
                      rw [if_neg (not_or.mpr ⟨t1, t2⟩), if_neg (not_or.mpr ⟨t3, t4⟩)]
                    rw [hrf]
                    rcases hc with x | ⟨pp, hpp, x⟩ | ⟨so, mm, y1, y2, y3, y4, y5, y6⟩
                    · exact absurd x t3
                    · exact absurd (hnum.2.1 pp hpp x).1 t1
                    · rcases hc2 with x | ⟨pp, hpp, x⟩ | ⟨so2, mm2, z1, z2, z3, z4, z5, z6⟩
                      · exact absurd x t4
                      · exact absurd (hnum2.2.1 pp hpp x).1 t2
                      · rw [y4, z4, y5, z5]
                        by_cases s1 : nI mm < nI m
                        · left
                          rw [if_pos s1, if_pos (Or.inl s1)]
                          exact ⟨-2, fi, tl, by simp [isCode], rfl, rfl⟩
                        · by_cases s2 : nI mm2 < nI m2
                          · left
                            rw [if_neg s1, if_neg (Int32.not_le.mpr s2), if_pos (Or.inr s2)]
                            exact ⟨-2, fi, tl, by simp [isCode], rfl, rfl⟩
                          · rw [if_neg s1, if_pos (Int32.not_lt.mp s2), if_neg (not_or.mpr ⟨s1, s2⟩)]
                            have u1 : m ≤ mm := (nI_leI (by omega) (by omega)).mp (Int32.not_lt.mp s1)
                            have u2 : m2 ≤ mm2 := (nI_leI (by omega) (by omega)).mp (Int32.not_lt.mp s2)
                            obtain ⟨tl1, v1, v2⟩ := load_ok (ct := ct) (tl := tl) (e := e) hq hm y1 y2 y3 y5 u1
                            have b1 : bad E (40 * q) m m = bad e (40 * q) m m := bad_congr (fun i hi => y6 i (by omega)) m (Nat.le_refl _)
                            have b2 : bad E (40 * q2) m2 m2 = bad e (40 * q2) m2 m2 := bad_congr (fun i hi => z6 i (by omega)) m2 (Nat.le_refl _)
                            rw [v1, b1, b2]
                            simp only [ob]
                            obtain ⟨kk, hk⟩ := FU_s
                            by_cases s3 : bad e (40 * q) m m = none
                            · rw [if_pos s3]
                              obtain ⟨fi', x1, x2, x3⟩ := copyFirst (ct := ct) (hh := hh) (z := z) (N := N) (tl := tl1) (e := e) (l4 := nI q2) (l5 := nI m2) hm m FU fi (Nat.le_refl _) (by omega)
                              rw [Nat.sub_self] at x1 x2
                              obtain ⟨tl2, v3, v4⟩ := load_ok (ct := ct) (tl := tl1) (e := e) hq2 hm2 z1 z2 z3 z5 u2
                              rw [show f_X6_loadBoth_b152 ct e hh N z FU fi tl1 (nI m) (nI q2) (nI m2) 1 0 = _ from x1]
                              unfold f_X6_loadBoth_b184
                              rw [if_pos rfl, v3, ob]
                              by_cases s4 : bad e (40 * q2) m2 m2 = none
                              · right
                                rw [if_pos s4, if_pos ⟨s3, s4⟩]
                                refine ⟨q, m, q2, m2, p, r, fi', tl2, hq, hq2, hm, hm2, hp, hr, hpr, rfl, rfl, rfl, rfl, rfl, rfl, rfl, rfl, fun i hi => ?_, fun i hi => ?_⟩
                                · rw [x2 i (by omega) hi, y6 i (by omega)]; exact v2 s3 i hi
                                · rw [z6 i (by omega)]; exact v4 s4 i hi
                              · left
                                rw [if_neg s4, if_neg (fun w => s4 w.2)]
                                exact ⟨-5, fi', tl2, by simp [isCode], rfl, rfl⟩
                            · left
                              rw [if_neg s3, if_neg (fun w => s3 w.1)]
                              rw [hk, show kk + 1101 = (kk + 1100) + 1 from rfl, f_X6_loadBoth_b152]
                              unfold f_X6_loadBoth_b184
                              refine ⟨-5, fi, tl1, by simp [isCode], rfl, ?_⟩
                              by_cases s5 : nI m ≤ 0
                              · rw [if_pos s5, if_neg (by decide)]
                              · rw [if_neg s5, if_neg (by decide), if_neg (by decide)]
          · left
            rw [i1]
            refine no (y := none) (by simp only [ob, if_true]) ?_
            rcases i2 with j | ⟨j, j2⟩ | ⟨j, j2, j3⟩
            · rw [j]; simp only [ob, if_true]
            · rw [j, j2]; simp only [ob, if_true, if_neg one_ne0]
            · rw [j, j2]; simp only [ob, if_neg one_ne0, if_pos j3]
        · left
          simp only [if_pos c1, if_pos c2, if_pos c4, if_neg c5, if_neg one_ne0, if_true]
          exact ⟨-2, fi, tl, by simp [isCode], rfl, rfl⟩
      · left
        simp only [if_pos c1, if_pos c2, if_neg c4, if_neg one_ne0, if_true]
        exact ⟨-2, fi, tl, by simp [isCode], rfl, rfl⟩
    · left
      simp only [if_pos c1, if_neg c2, if_neg one_ne0, if_true]
      refine ⟨-2, fi, tl, by simp [isCode], rfl, ?_⟩
      by_cases c4 : 0 ≤ a4 ∧ a4 ≤ 7
      · simp only [if_pos c4, if_neg one_ne0]
      · simp only [if_neg c4, if_true]
  · left
    simp only [if_neg c1, if_true]
    exact ⟨-2, fi, tl, by simp [isCode], rfl, rfl⟩
