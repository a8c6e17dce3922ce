-- ===== says =====
noncomputable def QQ (ab hh N ct mr wBy wCell wFaces wFell wSign wTurns : Nat → Int32) (l l3 x : Int32) (d : Nat) : Prop := ∀ (a b i : Nat), d < a → d < b → i + d ≤ 5 → ∃ y : Int32, (y = -1 ∨ y = l) ∧ f_X5_isUnder_b4 a l x (nI i) = some (if y = -1 then 0 else 1) ∧ f_X6_says_b68 ab hh N b ct mr wBy wCell wFaces wFell wSign wTurns l l3 x = f_X6_says_b92 ab hh N ct mr wBy wCell wFaces wFell wSign wTurns l l3 y
theorem QQ_base {ab hh N ct mr wBy wCell wFaces wFell wSign wTurns : Nat → Int32} {l l3 : Int32} : QQ ab hh N ct mr wBy wCell wFaces wFell wSign wTurns l l3 (-1) 0 := by
  intro a b i ha hb hi
  obtain ⟨k, rfl⟩ : ∃ k, a = k + 1 := ⟨a - 1, by omega⟩
  obtain ⟨k2, rfl⟩ : ∃ k, b = k + 1 := ⟨b - 1, by omega⟩
  refine ⟨-1, Or.inl rfl, ?_, ?_⟩
  · rw [f_X5_isUnder_b4, if_neg (fun z => by have := (nI_leI (a := 6) (by omega) (by omega)).mp z; omega), isKind_X5, ob, if_neg (show ¬ ((0 : Int32) ≤ -1 ∧ (-1 : Int32) ≤ 5) by decide), if_pos rfl, if_pos rfl]
  · rw [f_X6_says_b68, if_pos rfl]
theorem QQ_step {ab hh N ct mr wBy wCell wFaces wFell wSign wTurns : Nat → Int32} {l l3 : Int32} {kd d : Nat} (hab : ∀ j, j < 6 → ab j = sABOVE j) (hk : kd < 6) (hl : ¬ l = -1) (h : QQ ab hh N ct mr wBy wCell wFaces wFell wSign wTurns l l3 (sABOVE kd) d) : QQ ab hh N ct mr wBy wCell wFaces wFell wSign wTurns l l3 (nI kd) (d + 1) := by
  intro a b i ha hb hi
  obtain ⟨k, rfl⟩ : ∃ k, a = k + 1 := ⟨a - 1, by omega⟩
  obtain ⟨k2, rfl⟩ : ∃ k, b = k + 1 := ⟨b - 1, by omega⟩
  have hin : (0 : Int32) ≤ nI kd ∧ nI kd ≤ 5 := ⟨nI_pos' (by omega), (nI_leI (b := 5) (by omega) (by omega)).mpr (by omega)⟩
  rw [f_X5_isUnder_b4, if_neg (fun z => by have := (nI_leI (a := 6) (by omega) (by omega)).mp z; omega), isKind_X5, ob, if_pos hin, if_neg one_ne0, f_X6_says_b68, if_neg (nI_ne1 (by omega))]
  by_cases c : nI kd = l
  · rw [if_pos c, if_pos c]
    exact ⟨nI kd, Or.inr c, by rw [if_neg (nI_ne1 (by omega))], rfl⟩
  · rw [if_neg c, if_neg c, if_pos (inb_nI hk (by decide)), if_pos (inb_nI hk (by decide)), nI_cl (by omega), hab kd hk, nI_1]
    exact h k k2 (i + 1) (by omega) (by omega) (by omega)
theorem QQ_all {ab hh N ct mr wBy wCell wFaces wFell wSign wTurns : Nat → Int32} {l l3 : Int32} (hab : ∀ j, j < 6 → ab j = sABOVE j) (hl : ¬ l = -1) {kd : Nat} (hk : kd ≤ 5) : ∃ d, d ≤ 3 ∧ QQ ab hh N ct mr wBy wCell wFaces wFell wSign wTurns l l3 (nI kd) d := by
  have b0 := QQ_step (hh := hh) (N := N) (ct := ct) (mr := mr) (wBy := wBy) (wCell := wCell) (wFaces := wFaces) (wFell := wFell) (wSign := wSign) (wTurns := wTurns) (l3 := l3) (kd := 0) (d := 0) hab (by decide) hl QQ_base
  have b1 := QQ_step (kd := 1) (d := 1) hab (by decide) hl b0
  have b2 := QQ_step (kd := 2) (d := 1) hab (by decide) hl b0
  have b5 := QQ_step (kd := 5) (d := 1) hab (by decide) hl b0
  have b3 := QQ_step (kd := 3) (d := 2) hab (by decide) hl b1
  have b4 := QQ_step (kd := 4) (d := 2) hab (by decide) hl b2
  rcases (show kd = 0 ∨ kd = 1 ∨ kd = 2 ∨ kd = 3 ∨ kd = 4 ∨ kd = 5 by omega) with rfl | rfl | rfl | rfl | rfl | rfl
  · exact ⟨1, by decide, b0⟩
  · exact ⟨2, by decide, b1⟩
  · exact ⟨2, by decide, b2⟩
  · exact ⟨3, by decide, b3⟩
  · exact ⟨3, by decide, b4⟩
  · exact ⟨2, by decide, b5⟩
theorem case_says {cx cm ab f P K Wt C F G N w xr mr Ks Z hh z wBy wCell wFaces wFell wSign wTurns : Nat → Int32} {E e : Nat → Int64} (hab : ∀ j, j < 6 → ab j = sABOVE j) (h : IRel f P K Wt C F G N) (hr : RRef xr mr) (hsh : ∀ n, N 89 = nI n → n ≤ 8 → RSh Ks Z hh z E e n) (a1 a2 : Int32) :
    ∃ u v, f_X5_says a1 a2 cx f C F K G P Wt w xr Ks = some u ∧ f_X6_says a1 a2 cm ab hh N mr wBy wCell wFaces wFell wSign wTurns = some v ∧ u.1 = v.1 ∧ RRef u.2.2 v.2.2.1 ∧ (∀ j, j ≠ 17 → v.2.1 j = cm j) := by
  obtain ⟨s, n, hn⟩ := h
  obtain ⟨q1, q2, q3, q4, q5, q6, q7, q8⟩ := hn.1
  obtain ⟨r1, r2, r3, r4, r5⟩ := refuse_both (cx := cx) (cm := cm) (code := -2) (Or.inl rfl) hr
  obtain ⟨t1, t2, t3, t4, t5⟩ := refuse_both (cx := cx) (cm := cm) (code := -3) (Or.inr (Or.inl rfl)) hr
  obtain ⟨y1, y2, y3, y4, y5⟩ := refuse_both (cx := cx) (cm := cm) (code := -4) (Or.inr (Or.inr (Or.inl rfl))) hr
  unfold f_X5_says f_X6_says f_X5_says_b18 f_X6_says_b19 f_X5_says_b80
  rw [isShelf_X3, isShelf_X6, isKind_X5, show f_X6_isIn a2.toInt64 0 5 = some (if 0 ≤ a2 ∧ a2 ≤ 5 then 1 else 0) from isIn_eq a2 0 5, r3, r4, t3, y3, y4]
  simp only [ob]
  by_cases c1 : 0 ≤ a1 ∧ a1 ≤ 7
  · obtain ⟨q, hq, rfl⟩ := i32_nat (n := 7) c1.1 c1.2 (by decide)
    have hq8 : q < 8 := by omega
    rw [if_pos c1, if_neg one_ne0, if_neg one_ne0]
    by_cases c2 : 0 ≤ a2 ∧ a2 ≤ 5
    · rw [if_pos c2, if_neg one_ne0, if_neg one_ne0, held_eq hq8]
      simp only [ob, if_pos (ix8 hq8).1, (ix8 hq8).2]
      obtain ⟨hK, hc⟩ := (hsh n q7 q3) q hq8
      obtain ⟨k, hk⟩ := FU_s
      rw [hK]
      have hl : ¬ a2 = -1 := fun z => absurd c2.1 (by rw [z]; decide)
      unfold f_X3_oneIn
      rw [holdsOne_eq hq8]
      simp only [ob, if_pos (ix8 hq8).1, (ix8 hq8).2, hK]
      rcases hc with z0 | ⟨p, hp, z0⟩ | ⟨so, m, z1, z2, z0, -⟩
      · rw [if_pos z0, if_pos z0]
        exact ⟨_, _, rfl, rfl, rfl, y5, fun _ _ => rfl⟩
      · have hne : ¬ hh q = -1 := by rw [z0]; exact nI_ne1 (by omega)
        have h10 : (10 : Int32) ≤ hh q := by rw [z0]; exact (nI_leI (a := 10) (by omega) (by omega)).mpr (by omega)
        have hp8 : p < 8 := by omega
        have hsub : hh q - 10 = nI p := by rw [z0]; exact (pk_sub (show 10 ≤ 10 + p by omega)).trans (by congr 1; omega)
        simp only [if_neg hne, if_pos h10, if_neg one_ne0, hsub, if_pos (show (0 : Int32) ≤ nI p from nI_pos' (by omega)), ob]
        have i1 : f_X0_isOne (nI p) f = some 1 := by
          unfold f_X0_isOne
          rw [isWithin_eq, ob, if_pos (show (0 : Int32) ≤ nI p ∧ nI p ≤ 7 from ⟨nI_pos' (by omega), (nI_leI (b := 7) (by omega) (by omega)).mpr (by omega)⟩), if_neg one_ne0, q6, if_neg (fun z => by have := (nI_leI (by omega) (by omega)).mp z; omega)]
        obtain ⟨w1, kd, c, fc, a, b, d, g, u1, u2, u3, u4, u5, u6, u7, u8, u9, u10, u11, u12⟩ := begin_both (ct := cm) (w := w) (wBy := wBy) (wCell := wCell) (wFaces := wFaces) (wFell := wFell) (wSign := wSign) (wTurns := wTurns) hn hp 0 (by decide)
        obtain ⟨d, hd, hQ⟩ := QQ_all (ab := ab) (hh := hh) (N := N) (ct := cm) (mr := mr) (wBy := wBy) (wCell := wCell) (wFaces := wFaces) (wFell := wFell) (wSign := wSign) (wTurns := wTurns) (l := a2) (l3 := nI p) hab hl u7
        obtain ⟨y, hy, v1, v2⟩ := hQ FU FU 0 (by omega) (by omega) (by omega)
        obtain ⟨e1, e2, e3, e4, e5⟩ := hn.2.1 p hp8
        rw [i1, (mkind hp8).1]
        simp only [ob, if_neg one_ne0, if_pos (ix8 hp8).1, (ix8 hp8).2, f_X6_says_b66, e1, u9]
        rw [v2]
        unfold f_X5_isUnder
        rw [show f_X5_isUnder_b4 FU a2 (nI kd) 0 = _ from v1, ob]
        unfold f_X6_says_b92
        rw [t4]
        by_cases c3 : y = -1
        · rw [if_pos c3, if_pos rfl, if_pos c3]
          exact ⟨_, _, rfl, rfl, rfl, t5, fun _ _ => rfl⟩
        · rw [if_neg c3, if_neg one_ne0, if_neg c3]
          by_cases c4 : a2 = 0
          · rw [if_pos c4, if_pos c4, (mkind hp8).2.1]
            exact ⟨_, _, rfl, rfl, e2.symm, hr, fun _ _ => rfl⟩
          · rw [if_neg c4, if_neg c4, u1, u2, u3]
            simp only [ob]
            rw [show f_X6_start 0 (nI c) (nI fc) cm wCell wFaces wFell wTurns = some (a, b, _, g) from u4]
            simp only [ob]
            obtain ⟨w', r, s1, s2, s3, s4, s5, s6, s7⟩ := step_both (ct := cm) (sign := 1) (k2 := nI 0) hn hp (show 0 < 2 by decide) u7 u9 (Or.inr (Or.inl rfl)) u8 (show (x0S c fc).2.2.1 < 2147483647 from (by decide : (0 : Nat) < 2147483647)) u5 u6 rfl
            rw [s1, show f_X6_step 0 (nI p) 1 0 cm N wBy a b _ wSign g = some r from s2]
            exact ⟨_, _, rfl, rfl, s3.2.2.2.2.1.trans s4.2.1.symm, hr, s7.1⟩
      · have hne : ¬ hh q = -1 := by rw [z0]; exact nI_ne1 (by omega)
        have h10 : ¬ (10 : Int32) ≤ hh q := by rw [z0]; exact fun z => by have := (nI_leI (a := 10) (by omega) (by omega)).mp z; omega
        have h11 : ¬ 0 ≤ hh q - 10 := by
          rw [z0]
          exact Int32.not_le.mpr (pk_sneg (b := 10) (by omega) (by omega))
        simp only [if_neg hne, if_neg h10, if_neg h11, if_true, ob]
        have i1 : f_X0_isOne (-1) f = some 0 := by
          unfold f_X0_isOne
          rw [isWithin_eq, ob, if_neg (show ¬ ((0 : Int32) ≤ -1 ∧ (-1 : Int32) ≤ 7) by decide), if_pos rfl]
        rw [i1]
        simp only [ob, if_true, f_X6_says_b66]
        obtain ⟨y, hy, v1, v2⟩ := QQ_base (ab := ab) (hh := hh) (N := N) (ct := cm) (mr := mr) (wBy := wBy) (wCell := wCell) (wFaces := wFaces) (wFell := wFell) (wSign := wSign) (wTurns := wTurns) (l := a2) (l3 := hh q - 10) FU FU 0 (by omega) (by omega) (by omega)
        rw [hk, show k + 1101 = (k + 1100) + 1 from rfl, f_X6_says_b68, if_pos rfl]
        unfold f_X6_says_b92
        rw [if_pos rfl, t4]
        exact ⟨_, _, rfl, rfl, rfl, t5, fun _ _ => rfl⟩
    · rw [if_neg c2, if_pos rfl, if_pos rfl]
      exact ⟨_, _, rfl, rfl, rfl, r5, fun _ _ => rfl⟩
  · rw [if_neg c1, if_pos rfl, if_pos rfl]
    exact ⟨_, _, rfl, rfl, rfl, r5, fun _ _ => rfl⟩
