-- ===== safe: the case =====
theorem signOf_eq {L r q : Nat} (hL : L ≤ 6) (hr : r < p3 L) (hq : q < L) : f_X2_signOf (nI (off L + r)) (nI L - 1 - nI q) = some (dg L r q) := by
  obtain ⟨k, hk⟩ := FU_s
  have a := signOfL L FU r q 0 hL hr hq (by omega) (by omega)
  rw [show nI L - 1 = nI (L - 1) from pk_sub (show 1 ≤ L by omega), pk_sub (show q ≤ L - 1 by omega)]
  rw [Nat.zero_add] at a
  exact a
theorem begin_10 {w f C F K G w1 : Nat → Int32} {n p : Nat} (hn : n ≤ 8) (h7 : f 7 = nI n) (hp : p < n) (h : f_X4_begin (nI p) w f C F K G = some w1) : w1 10 = 0 := by
  have i1 : f_X0_isOne (nI p) f = some 1 := by
    unfold f_X0_isOne
    rw [isWithin_eq, ob, if_pos (show (0 : Int32) ≤ nI p ∧ nI p ≤ 7 from ⟨nI_pos' (by omega), (nI_leI (b := 7) (by omega) (by omega)).mpr (by omega)⟩), if_neg one_ne0, h7, if_neg (fun z => by have := (nI_leI (by omega) (by omega)).mp z; omega)]
  have h8 : p < 8 := by omega
  unfold f_X4_begin at h
  rw [i1, ob, if_neg one_ne0, if_pos (ix8 h8).1, if_pos (ix8 h8).1, if_pos (ix8 h8).1, if_pos (ix8 h8).1] at h
  cases h
  exact upd_eq
theorem refF {cx cm xr mr : Nat → Int32} (ct : Nat → Int32) {code : Int32} (hc : isCode code) (hr : RRef xr mr) : ∃ u v, f_X5_refuse code cx xr = some (code, u) ∧ (∀ ct, f_X6_refuse code ct mr = some (code, v)) ∧ RRef u v := by
  obtain ⟨u, v, h1, h2, h3⟩ := refuse_both (cx := cx) (cm := cm) hc hr
  exact ⟨u, v, h1, fun _ => h2, h3⟩
theorem gi_zero {w : Nat → Int32} {kd : Nat} {left pl : Int32} {x0 : WS} (hw : WXs w kd left pl x0 (nI 0)) (hB : isB (w 10)) : GI w kd left pl x0 (off 0) := ⟨fun _ => ⟨hw, hB⟩, hw.1, hw.2.1, hw.2.2.1, 0, Nat.le_refl _, hw.2.2.2.2.2.1⟩
theorem sti_zero {st : Nat → Int32} {T : Nat → Nat → WS} : STI st T (off 0) := fun L r _ _ h => absurd h (Nat.not_lt_zero _)
theorem case_safe {cx cm f P K Wt C F G N w w2 st1 st2 xr mr tl wBy wCell wFaces wFell wSign wTurns : Nat → Int32} (h : IRel f P K Wt C F G N) (hr : RRef xr mr) (a1 a2 a3 a4 : Int32) :
    ∃ u v, f_X5_safe a1 a2 a3 a4 cx f C F K G P w xr st1 st2 w2 = some u ∧ f_X6_safe a1 a2 a3 a4 cm N mr tl wBy wCell wFaces wFell wSign wTurns = some v ∧ u.1 = v.1 ∧ RRef u.2.2.1 v.2.2.2.1 ∧ v.2.2.1 = N ∧ (∀ j, j ≠ 17 → v.2.1 j = cm j) := by
  obtain ⟨g1, g2, e1, e2, e3⟩ := refF (cx := cx) (cm := cm) cm (code := -2) (Or.inl rfl) hr
  obtain ⟨g3, g4, e4, e5, e6⟩ := refF (cx := cx) (cm := cm) cm (code := -5) (Or.inr (Or.inr (Or.inr (Or.inl rfl)))) hr
  obtain ⟨s, n, hn⟩ := h
  obtain ⟨q1, q2, q3, q4, q5, q6, q7, ⟨q8, q8b⟩, q9⟩ := hn.1
  unfold f_X5_safe f_X6_safe f_X5_safe_b37 f_X6_safe_b32
  rw [isWithin_eq, show f_X6_isIn a3.toInt64 0 1 = some (if 0 ≤ a3 ∧ a3 ≤ 1 then 1 else 0) from isIn_eq a3 0 1, e1, e2]
  simp only [ob]
  rcases isOne_both (ct := cm) q3 q6 q7 a1 with ⟨p, hp, rfl, i1, i2⟩ | ⟨i1, i2⟩
  · rw [i1, i2]
    simp only [ob, if_neg one_ne0]
    rcases isCell_both (t := cm) q2 q4 q5 a2 with ⟨cn, hcn, hcok, rfl, k1, k2⟩ | ⟨k1, k2⟩
    · rw [k1, k2]
      simp only [ob, if_neg one_ne0]
      by_cases c3 : 0 ≤ a3 ∧ a3 ≤ 1
      · rw [if_pos c3, if_neg one_ne0, if_neg one_ne0]
        by_cases c4 : -1 ≤ a4
        · rw [if_pos c4, if_pos c4]
          have main : ∀ (la lb : Int32), isB la → isB lb → ((a3 = 0 ∧ la = 0 ∧ lb = 1) ∨ (a3 = 1 ∧ la = f 1 ∧ lb = f 1)) → ∃ u v, f_X5_safe_b76 cx f C F K G P w xr st1 st2 w2 (nI p) (nI cn) a4 la lb = some u ∧ f_X6_safe_b45 FU cm N mr tl wBy wCell wFaces wFell wSign wTurns (nI p) (nI cn) a3 a4 1 0 = some v ∧ u.1 = v.1 ∧ RRef u.2.2.1 v.2.2.2.1 ∧ v.2.2.1 = N ∧ (∀ j, j ≠ 17 → v.2.1 j = cm j) := by
            intro la lb hla hlb hc
            obtain ⟨kk, hk⟩ := FU_s
            obtain ⟨w1, kd, c, fc, a, b, d, g, t1, t2, t3, t4, t5, t6, t7, t8, t9, t10, t11, t12⟩ := begin_both (ct := cm) (w := w) (wBy := wBy) (wCell := wCell) (wFaces := wFaces) (wFell := wFell) (wSign := wSign) (wTurns := wTurns) hn hp 0 (by decide)
            obtain ⟨v1, kd2, c2, fc2, b1, b2, b3, b4, b5, b6, b7⟩ := begin_eq (w := w2) q3 q6 hn.2.2.1 hp
            have hc1 := t8.1.1
            have hc2 := t8.1.2
            have hd1 := b4.1.1
            have hd2 := b4.1.2
            have hf1 : fc < 4 := t8.2
            have hf2 : fc2 < 4 := b4.2
            have z1 : kd2 = kd := nI_inj (by omega) (by omega) (b5.symm.trans t9)
            have z2 : c2 = c := nI_inj (show c2 < 2147483648 from by have : (x0S c2 fc2).1 = c2 := rfl; omega) (show c < 2147483648 from by have : (x0S c fc).1 = c := rfl; omega) (b6.symm.trans t10)
            have z3 : fc2 = fc := nI_inj (by omega) (by omega) (b7.symm.trans t11)
            subst z1
            subst z2
            subst z3
            have B1 : isB (upd w1 2 la 10) := by
              rw [upd_ne (by decide), begin_10 q3 q6 hp t1]; exact Or.inl rfl
            have B2 : isB (upd v1 2 lb 10) := by
              rw [upd_ne (by decide), begin_10 q3 q6 hp b1]; exact Or.inl rfl
            unfold f_X5_safe_b76 f_X2_find f_X5_safe_b112
            rw [t1, ob, b1, ob]
            have hfuel : FU - 1 - 1093 + 1 + (1093 - off 0) = FU := by
              have o0 : off 0 = 0 := rfl
              omega
            rcases safeOut (cm := cm) (mr := mr) (a4 := a4) hn hp t7 t9 t10 t11 t8 hcn hla hlb hc 7 0 (FU - 1 - 1093) FU (upd w1 2 la) (upd v1 2 lb) st1 st2 cm tl wBy wCell wFaces wFell wSign wTurns rfl (by omega) (gi_zero (WX_left t5) B1) (gi_zero (WX_left b2) B2) sti_zero sti_zero (fun _ _ => rfl) with ⟨L0, r0, u1, u2, u3, u4, ct', tl', x1, x2, x3, x4, x5, x6, f1, f2, f3, f4, f5, f6⟩ | ⟨u1, u2, u3, u4, ct', tl', x1, x2, x3, x4, x5, x6, f3, f4, f6⟩
            · rw [hfuel] at f3
              have h7 := off_7 f1
              rw [show f_X2_find_b36 f C F K G P FU (upd w1 2 la) st1 (upd v1 2 lb) st2 (nI cn) 0 = _ from f3, show f_X6_safe_b45 FU cm N mr tl wBy wCell wFaces wFell wSign wTurns (nI p) (nI cn) a3 a4 1 0 = _ from f4]
              simp only [ob]
              rw [if_neg (nI_ne1 (by omega)), signsTo_eq f1 f2]
              unfold f_X6_safe_b113
              simp only [ob]
              by_cases d1 : a4 = -1
              · rw [if_pos d1, if_pos d1]
                exact ⟨_, _, rfl, rfl, rfl, hr, rfl, f6⟩
              · rw [if_neg d1, if_neg d1]
                by_cases d2 : nI L0 ≤ a4
                · rw [if_pos d2, if_pos d2, e4, e5]
                  exact ⟨_, _, rfl, rfl, rfl, e6, rfl, f6⟩
                · have d3 : 0 ≤ a4 := by
                    rw [Int32.le_iff_toInt_le] at c4 ⊢
                    have q0 : (0 : Int32).toInt = 0 := by decide
                    have q1 : (-1 : Int32).toInt = -1 := by decide
                    have q2 : a4.toInt ≠ -1 := fun w => d1 (i32_eq (w.trans q1.symm))
                    omega
                  obtain ⟨q, hq, hq2⟩ := i32_nat (n := L0) d3 (Int32.le_of_lt (Int32.not_le.mp d2)) (by omega)
                  have hq3 : q < L0 := by
                    rw [hq2] at d2
                    rcases Nat.lt_or_ge q L0 with w | w
                    · exact w
                    · exact absurd ((nI_leI (by omega) (by omega)).mpr w) d2
                  rw [if_neg d2, if_neg d2, hq2, signOf_eq f1 f2 hq3, ob, if_pos (inb_nI (show q < 40 by omega) (by decide)), nI_cl (by omega), f5 q hq3]
                  exact ⟨_, _, rfl, rfl, rfl, hr, rfl, f6⟩
            · rw [hfuel] at f3
              rw [show f_X2_find_b36 f C F K G P FU (upd w1 2 la) st1 (upd v1 2 lb) st2 (nI cn) 0 = _ from f3, show f_X6_safe_b45 FU cm N mr tl wBy wCell wFaces wFell wSign wTurns (nI p) (nI cn) a3 a4 1 0 = _ from f4]
              simp only [ob]
              rw [if_pos trivial, e4, e5]
              by_cases d1 : a4 = -1
              · rw [if_pos d1, if_pos d1]
                exact ⟨_, _, rfl, rfl, rfl, hr, rfl, f6⟩
              · rw [if_neg d1, if_neg d1, if_pos c4]
                exact ⟨_, _, rfl, rfl, rfl, e6, rfl, f6⟩
          unfold f_X5_safe_b59
          by_cases d3 : a3 = 0
          · rw [if_pos d3, if_pos d3]
            exact main 0 1 (Or.inl rfl) (Or.inr rfl) (Or.inl ⟨d3, rfl, rfl⟩)
          · rw [if_neg d3, if_neg d3]
            have d4 : a3 = 1 := by
              obtain ⟨i, hi, hia⟩ := i32_nat (n := 1) c3.1 c3.2 (by decide)
              rcases (show i = 0 ∨ i = 1 by omega) with z | z
              · exact absurd (by rw [hia, z]; rfl) d3
              · rw [hia, z]; rfl
            exact main (f 1) (f 1) q8b q8b (Or.inr ⟨d4, rfl, rfl⟩)
        · rw [if_neg c4, if_neg c4]
          exact ⟨_, _, rfl, rfl, rfl, e3, rfl, fun _ _ => rfl⟩
      · rw [if_neg c3, if_pos rfl, if_pos rfl]
        exact ⟨_, _, rfl, rfl, rfl, e3, rfl, fun _ _ => rfl⟩
    · rw [k1, k2]
      simp only [ob, if_true]
      exact ⟨_, _, rfl, rfl, rfl, e3, rfl, fun _ _ => rfl⟩
  · rw [i1, i2]
    simp only [ob, if_true]
    exact ⟨_, _, rfl, rfl, rfl, e3, rfl, fun _ _ => rfl⟩
