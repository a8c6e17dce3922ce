-- ===== crowd =====
theorem last_i {n j i : Nat} (h1 : ¬ i < n - (j + 1)) (h2 : i < n - j) (h3 : j + 1 ≤ n) : i = n - (j + 1) := by omega
theorem crowdX {cx f C P K G xr Ks Z O w : Nat → Int32} {F : Nat → Int32} {E : Nat → Int64} {n : Nat} (hn : n ≤ 8) (h7 : f 7 = nI n) (g : Nat → Nat) (hg : ∀ i, i < n → g i < 67 ∧ O i = nI (g i)) (l3 : Int32) : ∀ (j a : Nat) (best cn : Nat), j ≤ n → j < a → best ≤ 70 → cn ≤ 8 → (j = n → best = 70 ∧ cn = 0) → (j < n → (∃ i, i < n ∧ best = g i) ∧ cn = cnt O (nI best) n n ∧ 1 ≤ cn) → (∀ i, i < n - j → cnt O (O i) n n < cn ∨ (cnt O (O i) n n = cn ∧ best ≤ g i)) →
    ∃ u best2 cn2, f_X5_crowd_b59 cx f C F K G P Ks E Z a w O xr l3 (nI best) (nI cn) (nI (n - j)) = some u ∧ u.1 = (if l3 = 0 then nI best2 else nI cn2) ∧ u.2.2.2 = xr ∧ (n = 0 → best2 = 70 ∧ cn2 = 0) ∧ (0 < n → (∃ i, i < n ∧ best2 = g i) ∧ cn2 = cnt O (nI best2) n n ∧ 1 ≤ cn2) ∧ (∀ i, i < n → cnt O (O i) n n < cn2 ∨ (cnt O (O i) n n = cn2 ∧ best2 ≤ g i)) := by
  intro j
  induction j with
  | zero =>
    intro a best cn _ ha _ _ h0 h1 h2
    obtain ⟨k, rfl⟩ : ∃ k, a = k + 1 := ⟨a - 1, by omega⟩
    have hyes : nI n ≤ nI (n - 0) := (nI_leI (by omega) (by omega)).mpr (by omega)
    rw [f_X5_crowd_b59, h7, if_pos hyes]
    by_cases c : l3 = 0
    · rw [if_pos c]
      exact ⟨_, best, cn, rfl, by rw [if_pos c], rfl, fun z => h0 z.symm, fun z => h1 z, fun i hi => h2 i (by omega)⟩
    · rw [if_neg c]
      exact ⟨_, best, cn, rfl, by rw [if_neg c], rfl, fun z => h0 z.symm, fun z => h1 z, fun i hi => h2 i (by omega)⟩
  | succ j ih =>
    intro a best cn hj ha hb70 hcn8 h0 h1 h2
    obtain ⟨k, rfl⟩ : ∃ k, a = k + 1 := ⟨a - 1, by omega⟩
    have hno : ¬ nI n ≤ nI (n - (j + 1)) := fun z => by have := (nI_leI (by omega) (by omega)).mp z; omega
    have e : nI (n - (j + 1)) + (1 : Int32) = nI (n - j) := by rw [nI_1]; congr 1; omega
    have h8 : n - (j + 1) < 8 := by omega
    obtain ⟨hg1, hg2⟩ := hg (n - (j + 1)) (by omega)
    have hself : 1 ≤ cnt O (O (n - (j + 1))) n n := by
      have key : ∀ j i, j ≤ n → n - j ≤ i → i < n → 1 ≤ cnt O (O i) n j := by
        intro j
        induction j with
        | zero => intro i _ _ _; omega
        | succ j ih =>
          intro i hj h1 h2
          unfold cnt
          by_cases y : i = n - (j + 1)
          · rw [y, if_pos rfl]; omega
          · have := ih i (by omega) (by omega) h2
            omega
      exact key n _ (Nat.le_refl _) (by omega) (by omega)
    have hle : cnt O (O (n - (j + 1))) n n ≤ n := cnt_le n
    rw [f_X5_crowd_b59, h7, if_neg hno]
    simp only [if_pos (ix8 h8).1, (ix8 h8).2, how_X (cx := cx) (O := O) hn h7, Option.bind_some, f_X5_crowd_b123, f_X5_crowd_b110, e]
    have take : (cn < cnt O (O (n - (j + 1))) n n ∨ (cn = cnt O (O (n - (j + 1))) n n ∧ g (n - (j + 1)) < best)) → ∃ u best2 cn2, f_X5_crowd_b59 cx f C F K G P Ks E Z k w O xr l3 (O (n - (j + 1))) (nI (cnt O (O (n - (j + 1))) n n)) (nI (n - j)) = some u ∧ u.1 = (if l3 = 0 then nI best2 else nI cn2) ∧ u.2.2.2 = xr ∧ (n = 0 → best2 = 70 ∧ cn2 = 0) ∧ (0 < n → (∃ i, i < n ∧ best2 = g i) ∧ cn2 = cnt O (nI best2) n n ∧ 1 ≤ cn2) ∧ (∀ i, i < n → cnt O (O i) n n < cn2 ∨ (cnt O (O i) n n = cn2 ∧ best2 ≤ g i)) := by
      intro hc
      rw [hg2]
      rw [hg2] at hself hle hc
      refine ih k (g (n - (j + 1))) (cnt O (nI (g (n - (j + 1)))) n n) (by omega) (by omega) (by omega) (by omega) (fun z => by omega) (fun z => ⟨⟨_, by omega, rfl⟩, rfl, hself⟩) (fun i hi => ?_)
      by_cases y : i < n - (j + 1)
      · rcases h2 i y with w | ⟨w1, w2⟩
        · left; omega
        · rcases hc with c | ⟨c1, c2⟩
          · left; omega
          · right; exact ⟨by omega, by omega⟩
      · have yi : i = n - (j + 1) := last_i y hi hj
        rw [yi, hg2]
        exact Or.inr ⟨rfl, Nat.le_refl _⟩
    have keep : j + 1 < n → (cnt O (O (n - (j + 1))) n n < cn ∨ (cnt O (O (n - (j + 1))) n n = cn ∧ best ≤ g (n - (j + 1)))) → ∃ u best2 cn2, f_X5_crowd_b59 cx f C F K G P Ks E Z k w O xr l3 (nI best) (nI cn) (nI (n - j)) = some u ∧ u.1 = (if l3 = 0 then nI best2 else nI cn2) ∧ u.2.2.2 = xr ∧ (n = 0 → best2 = 70 ∧ cn2 = 0) ∧ (0 < n → (∃ i, i < n ∧ best2 = g i) ∧ cn2 = cnt O (nI best2) n n ∧ 1 ≤ cn2) ∧ (∀ i, i < n → cnt O (O i) n n < cn2 ∨ (cnt O (O i) n n = cn2 ∧ best2 ≤ g i)) := by
      intro hjn hc
      refine ih k best cn (by omega) (by omega) hb70 hcn8 (fun z => by omega) (fun _ => h1 hjn) (fun i hi => ?_)
      by_cases y : i < n - (j + 1)
      · exact h2 i y
      · have yi : i = n - (j + 1) := last_i y hi hj
        rw [yi]; exact hc
    by_cases c1 : nI cn < nI (cnt O (O (n - (j + 1))) n n)
    · rw [if_pos c1]
      exact take (Or.inl ((nI_ltI (by omega) (by omega)).mp c1))
    · rw [if_neg c1]
      have d1 : cnt O (O (n - (j + 1))) n n ≤ cn := by
        by_cases y : cnt O (O (n - (j + 1))) n n ≤ cn
        · exact y
        · exact absurd ((nI_ltI (by omega) (by omega)).mpr (by omega)) c1
      have hjn : j + 1 < n := by
        by_cases y : j + 1 = n
        · have := (h0 y).2; omega
        · omega
      by_cases c2 : nI (cnt O (O (n - (j + 1))) n n) = nI cn
      · have d2 := nI_inj (by omega) (by omega) c2
        rw [if_pos c2]
        by_cases c3 : nI best ≤ O (n - (j + 1))
        · rw [if_pos c3]
          rw [hg2] at c3
          exact keep hjn (Or.inr ⟨d2, (nI_leI (by omega) (by omega)).mp c3⟩)
        · rw [if_neg c3]
          refine take (Or.inr ⟨d2.symm, ?_⟩)
          rw [hg2] at c3
          by_cases y : g (n - (j + 1)) < best
          · exact y
          · exact absurd ((nI_leI (by omega) (by omega)).mpr (by omega)) c3
      · rw [if_neg c2]
        refine keep hjn (Or.inl ?_)
        by_cases y : cnt O (O (n - (j + 1))) n n = cn
        · exact absurd (by rw [y]) c2
        · omega
theorem cnt_pos {O : Nat → Int32} {c : Int32} {n : Nat} : ∀ j, j ≤ n → 1 ≤ cnt O c n j → ∃ i, i < n ∧ O i = c := by
  intro j
  induction j with
  | zero => intro _ h; exact (Nat.not_succ_le_zero 0 h).elim
  | succ j ih =>
    intro hj h
    unfold cnt at h
    by_cases y : O (n - (j + 1)) = c
    · exact ⟨_, by omega, y⟩
    · rw [if_neg y, Nat.zero_add] at h
      exact ih (by omega) h
theorem crowdM {N mr hh z tl O ct wBy wCell wFaces wFell wSign wTurns : Nat → Int32} {e : Nat → Int64} {n : Nat} (hn : n ≤ 8) (h7 : N 89 = nI n) (l3 : Int32) : ∀ (j a best : Nat), j ≤ 66 → j < a → best < 67 - j → (∀ c, c < 67 - j → cnt O (nI c) n n ≤ cnt O (nI best) n n ∧ (c < best → cnt O (nI c) n n < cnt O (nI best) n n)) →
    ∃ v best2, f_X6_crowd_b55 e hh N z a ct O mr tl wBy wCell wFaces wFell wSign wTurns l3 (nI best) (nI (67 - j)) = some v ∧ v.1 = (if l3 = 0 then nI best2 else nI (cnt O (nI best2) n n)) ∧ v.2.2.2.1 = mr ∧ v.2.1 = ct ∧ best2 < 67 ∧ (∀ c, c < 67 → cnt O (nI c) n n ≤ cnt O (nI best2) n n ∧ (c < best2 → cnt O (nI c) n n < cnt O (nI best2) n n)) := by
  intro j
  induction j with
  | zero =>
    intro a best _ ha hb hc
    obtain ⟨k, rfl⟩ : ∃ k, a = k + 1 := ⟨a - 1, by omega⟩
    have hyes : (67 : Int32) ≤ nI (67 - 0) := by decide
    rw [f_X6_crowd_b55, if_pos hyes]
    by_cases c : l3 = 0
    · rw [if_pos c]
      exact ⟨_, best, rfl, by rw [if_pos c], rfl, rfl, hb, hc⟩
    · rw [if_neg c, how_M hn h7, Option.bind_some]
      exact ⟨_, best, rfl, by rw [if_neg c], rfl, rfl, hb, hc⟩
  | succ j ih =>
    intro a best hj ha hb hc
    obtain ⟨k, rfl⟩ : ∃ k, a = k + 1 := ⟨a - 1, by omega⟩
    have hno : ¬ (67 : Int32) ≤ nI (67 - (j + 1)) := fun z => by have := (nI_leI (a := 67) (by omega) (by omega)).mp z; omega
    have e1 : nI (67 - (j + 1)) + (1 : Int32) = nI (67 - j) := by rw [nI_1]; congr 1; omega
    have l1 := cnt_le (O := O) (c := nI (67 - (j + 1))) (n := n) n
    have l2 := cnt_le (O := O) (c := nI best) (n := n) n
    rw [f_X6_crowd_b55, if_neg hno, how_M hn h7, Option.bind_some, how_M hn h7, Option.bind_some]
    simp only [f_X6_crowd_b84, e1]
    by_cases y : nI (cnt O (nI (67 - (j + 1))) n n) ≤ nI (cnt O (nI best) n n)
    · rw [if_pos y]
      have y2 := (nI_leI (by omega) (by omega)).mp y
      refine ih k best (by omega) (by omega) (by omega) (fun c hcl => ?_)
      by_cases w : c < 67 - (j + 1)
      · exact hc c w
      · have wc : c = 67 - (j + 1) := last_i w hcl (by omega)
        rw [wc]
        exact ⟨y2, fun q => absurd q (by omega)⟩
    · rw [if_neg y]
      have y2 : cnt O (nI best) n n < cnt O (nI (67 - (j + 1))) n n := by
        by_cases w : cnt O (nI best) n n < cnt O (nI (67 - (j + 1))) n n
        · exact w
        · exact absurd ((nI_leI (by omega) (by omega)).mpr (by omega)) y
      refine ih k (67 - (j + 1)) (by omega) (by omega) (by omega) (fun c hcl => ?_)
      by_cases w : c < 67 - (j + 1)
      · have := (hc c w).1
        exact ⟨by omega, fun _ => by omega⟩
      · have wc : c = 67 - (j + 1) := last_i w hcl (by omega)
        rw [wc]
        exact ⟨Nat.le_refl _, fun q => absurd q (Nat.lt_irrefl _)⟩
theorem case_crowd {cx cm f P K Wt C F G N w xr mr Ks Z hh z tl wBy wCell wFaces wFell wSign wTurns O out : Nat → Int32} {E e : Nat → Int64} (h : IRel f P K Wt C F G N) (hr : RRef xr mr) (hsh : ∀ n, N 89 = nI n → n ≤ 8 → RSh Ks Z hh z E e n) (a1 a2 a3 : Int32) :
    ∃ u v, f_X5_crowd a1 a2 a3 cx f C F K G P w O xr Ks E Z = some u ∧ f_X6_crowd a1 a2 a3 cm e hh N out mr z tl wBy wCell wFaces wFell wSign wTurns = some v ∧ u.1 = v.1 ∧ RRef u.2.2.2 v.2.2.2.1 ∧ (∀ j, j ≠ 17 → v.2.1 j = cm j) := by
  obtain ⟨g1, g2, e1, e2, e3⟩ := refuse_both (cx := cx) (cm := cm) (code := -5) (Or.inr (Or.inr (Or.inr (Or.inl rfl)))) hr
  obtain ⟨s, n, hn⟩ := h
  obtain ⟨q1, q2, q3, q4, q5, q6, q7, q8⟩ := hn.1
  have hS := hsh n q7 q3
  unfold f_X5_crowd f_X6_crowd f_X6_crowd_b27 f_X6_crowd_b40
  rw [isWithin_eq, show f_X6_isIn a3.toInt64 0 1 = some (if 0 ≤ a3 ∧ a3 ≤ 1 then 1 else 0) from isIn_eq a3 0 1, Option.bind_some, Option.bind_some]
  rcases tell_both (ct := cx) (ct2 := cm) (tl := tl) hS q3 a1 a2 (if 0 ≤ a3 ∧ a3 ≤ 1 then 1 else 0) (w01 _) with ⟨code, tl', c1, c2, c3⟩ | ⟨q, m, tl', c1, c2, rfl, rfl, hwl, c3, c4, c5⟩
  · obtain ⟨u, v, r1, r2, r3, r4, r5⟩ := refT (cx := cx) (cm := cm) c1 hr
    rw [c2, c3, Option.bind_some, Option.bind_some]
    dsimp only
    rw [if_neg r4, if_pos (Int32.not_le.mp r5), if_neg r5, r1, r2, Option.bind_some, Option.bind_some]
    exact ⟨_, _, rfl, rfl, rfl, r3, fun _ _ => rfl⟩
  · obtain ⟨k, hk⟩ := FU_s
    rw [c3, c4, Option.bind_some, Option.bind_some]
    dsimp only
    rw [if_pos rfl, if_neg (show ¬ (1 : Int32) < 0 by decide), if_pos (show (0 : Int32) ≤ 1 by decide)]
    simp only [f_X6_many, q6, q7]
    rw [Option.bind_some]
    by_cases c0 : nI n = 0
    · rw [if_pos c0, if_pos c0, e1, e2, Option.bind_some, Option.bind_some]
      exact ⟨_, _, rfl, rfl, rfl, e3, fun _ _ => rfl⟩
    · rw [if_neg c0, if_neg c0]
      have hn0 : 0 < n := by
        by_cases y : n = 0
        · exact absurd (by rw [y]; rfl) c0
        · omega
      obtain ⟨u0, v0, b1, b2, b3, b4⟩ := come_both (cx := cx) (cm := cm) hn c1 c2 c5 w O out wBy wCell wFaces wFell wSign wTurns
      rw [b1, b2, Option.bind_some, Option.bind_some]
      have hO : ∀ i, i < n → v0.2.1 i = u0.2 i := fun i hi => ((b4 i hi).2).trans ((b4 i hi).1).symm
      have hg : ∀ i, i < n → (finS s P (f 1) (f 2) K C F G tl' m i).1 < 67 ∧ u0.2 i = nI (finS s P (f 1) (f 2) K C F G tl' m i).1 := by
        intro i hi
        obtain ⟨w1, w2, r, kd, t1, t2, t3, t4, t5, t6, t7⟩ := per_both (ct := cx) (cm := cm) (w := w) (wBy := wBy) (wCell := wCell) (wFaces := wFaces) (wFell := wFell) (wSign := wSign) (wTurns := wTurns) hn hi c1 c2 c5
        have z1 := t4.1.1
        have z2 := t4.1.2
        exact ⟨by omega, (b4 i hi).1⟩
      obtain ⟨u, bx, cx2, d1, d2, d3, d4, d5, d6⟩ := crowdX (cx := cx) (C := C) (P := P) (K := K) (G := G) (F := F) (xr := xr) (Ks := Ks) (Z := Z) (E := E) (w := u0.1) q3 q6 (fun i => (finS s P (f 1) (f 2) K C F G tl' m i).1) hg a3 n FU 70 0 (Nat.le_refl _) (by omega) (Nat.le_refl _) (Nat.zero_le _) (fun _ => ⟨rfl, rfl⟩) (fun z => absurd z (Nat.lt_irrefl _)) (fun i hi => by omega)
      obtain ⟨v, bm, m1, m2, m3, m4, m5, m6⟩ := crowdM (mr := mr) (hh := hh) (z := z) (tl := tl') (O := v0.2.1) (ct := v0.1) (wBy := v0.2.2.1) (wCell := v0.2.2.2.1) (wFaces := v0.2.2.2.2.1) (wFell := v0.2.2.2.2.2.1) (wSign := v0.2.2.2.2.2.2.1) (wTurns := v0.2.2.2.2.2.2.2) (e := e) q3 q7 a3 66 FU 0 (Nat.le_refl _) (by omega) (by decide) (fun c hc => by
        have : c = 0 := by omega
        rw [this]; exact ⟨Nat.le_refl _, fun q => absurd q (Nat.lt_irrefl _)⟩)
      rw [Nat.sub_self] at d1
      rw [show nI (67 - 66) = 1 from rfl] at m1
      refine ⟨u, v, d1, m1, ?_, by rw [d3, m3]; exact hr, fun j hj => by rw [m4]; exact b3 j hj⟩
      have hcnt : ∀ c, cnt v0.2.1 c n n = cnt u0.2 c n n := fun c => cnt_congr hO n (Nat.le_refl _)
      obtain ⟨⟨ix, hix, hbx⟩, hcx, hpos⟩ := d5 hn0
      have hb67 : bx < 67 := by rw [hbx]; exact (hg ix hix).1
      have h1 := (m6 bx hb67).1
      rw [hcnt, hcnt, ← hcx] at h1
      obtain ⟨im, him, hbm⟩ := cnt_pos n (Nat.le_refl _) (show 1 ≤ cnt u0.2 (nI bm) n n by omega)
      have hgm : (finS s P (f 1) (f 2) K C F G tl' m im).1 = bm := nI_inj (by have := (hg im him).1; omega) (by omega) ((hg im him).2.symm.trans hbm)
      have h2 := d6 im him
      rw [hbm] at h2
      have h2' : cnt u0.2 (nI bm) n n < cx2 ∨ (cnt u0.2 (nI bm) n n = cx2 ∧ bx ≤ bm) := by rw [← hgm] at h2 ⊢; exact h2
      have heq : cnt u0.2 (nI bm) n n = cx2 ∧ bx ≤ bm := by
        rcases h2' with w | w
        · omega
        · exact w
      have hb : bx = bm := by
        by_cases y : bx < bm
        · have h3 := (m6 bx hb67).2 y
          rw [hcnt, hcnt, ← hcx] at h3
          omega
        · omega
      rw [d2, m2, hcnt, heq.1, hb]
