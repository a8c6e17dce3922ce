-- ===== image, back =====
theorem become92 {p1 pC pF pK pG pP pW : Nat → Int32} : ∀ (j a : Nat) (t C F K G P W : Nat → Int32), j ≤ 8 → j < a → ∃ r, f_X0_become_b92 p1 pC pF pK pG pP pW a t C F K G P W (nI (8 - j)) = some r ∧ r.1 = t ∧ r.2.2.2.2.2.1 = P ∧ (∀ p, 8 - j ≤ p → p < 8 → r.2.1 p = pC p ∧ r.2.2.1 p = pF p ∧ r.2.2.2.1 p = pK p ∧ r.2.2.2.2.1 p = pG p ∧ r.2.2.2.2.2.2 p = pW p) ∧ (∀ p, p < 8 - j → r.2.1 p = C p ∧ r.2.2.1 p = F p ∧ r.2.2.2.1 p = K p ∧ r.2.2.2.2.1 p = G p ∧ r.2.2.2.2.2.2 p = W p) := by
  intro j
  induction j with
  | zero =>
    intro a t C F K G P W _ ha
    obtain ⟨k, rfl⟩ : ∃ k, a = k + 1 := ⟨a - 1, by omega⟩
    have h8 : (8 : Int32) ≤ nI (8 - 0) := by decide
    rw [f_X0_become_b92, if_pos h8]
    exact ⟨_, rfl, rfl, rfl, fun p h1 h2 => by omega, fun p _ => ⟨rfl, rfl, rfl, rfl, rfl⟩⟩
  | succ j ih =>
    intro a t C F K G P W hj ha
    obtain ⟨k, rfl⟩ : ∃ k, a = k + 1 := ⟨a - 1, by omega⟩
    have h8 : ¬ (8 : Int32) ≤ nI (8 - (j + 1)) := fun z => by have := (nI_leI (a := 8) (by omega) (by omega)).mp z; omega
    have hi : 8 - (j + 1) < 8 := by omega
    have e : nI (8 - (j + 1)) + (1 : Int32) = nI (8 - j) := by rw [nI_1]; congr 1; omega
    rw [f_X0_become_b92, if_neg h8]
    simp only [if_pos (ix8 hi).1, (ix8 hi).2, e]
    obtain ⟨r, g1, g2, g3, g4, g5⟩ := ih k t (upd C (8 - (j + 1)) (pC (8 - (j + 1)))) (upd F (8 - (j + 1)) (pF (8 - (j + 1)))) (upd K (8 - (j + 1)) (pK (8 - (j + 1)))) (upd G (8 - (j + 1)) (pG (8 - (j + 1)))) P (upd W (8 - (j + 1)) (pW (8 - (j + 1)))) (by omega) (by omega)
    refine ⟨r, g1, g2, g3, fun p h1 h2 => ?_, fun p h1 => ?_⟩
    · by_cases z : 8 - j ≤ p
      · exact g4 p z h2
      · have zp : p = 8 - (j + 1) := by omega
        obtain ⟨a1, a2, a3, a4, a5⟩ := g5 p (by omega)
        rw [a1, a2, a3, a4, a5, zp, upd_eq, upd_eq, upd_eq, upd_eq, upd_eq]
        exact ⟨rfl, rfl, rfl, rfl, rfl⟩
    · obtain ⟨a1, a2, a3, a4, a5⟩ := g5 p (by omega)
      rw [a1, a2, a3, a4, a5, upd_ne (by omega), upd_ne (by omega), upd_ne (by omega), upd_ne (by omega), upd_ne (by omega)]
      exact ⟨rfl, rfl, rfl, rfl, rfl⟩
theorem become66 {p1 pC pF pK pG pP pW : Nat → Int32} : ∀ (j a : Nat) (t C F K G P W : Nat → Int32), j ≤ 70 → j < a → ∃ P2, f_X0_become_b66 p1 pC pF pK pG pP pW a t C F K G P W (nI (70 - j)) = f_X0_become_b92 p1 pC pF pK pG pP pW FU t C F K G P2 W 0 ∧ (∀ p, 70 - j ≤ p → p < 70 → P2 p = vp_nar .boolean (pP p)) ∧ (∀ p, p < 70 - j → P2 p = P p) := by
  intro j
  induction j with
  | zero =>
    intro a t C F K G P W _ ha
    obtain ⟨k, rfl⟩ : ∃ k, a = k + 1 := ⟨a - 1, by omega⟩
    have h8 : (70 : Int32) ≤ nI (70 - 0) := by decide
    rw [f_X0_become_b66, if_pos h8]
    exact ⟨P, rfl, fun p h1 h2 => by omega, fun p _ => rfl⟩
  | succ j ih =>
    intro a t C F K G P W hj ha
    obtain ⟨k, rfl⟩ : ∃ k, a = k + 1 := ⟨a - 1, by omega⟩
    have h8 : ¬ (70 : Int32) ≤ nI (70 - (j + 1)) := fun z => by have := (nI_leI (a := 70) (by omega) (by omega)).mp z; omega
    have hi : inb (nI (70 - (j + 1))) 70 := inb_nI (by omega) (by decide)
    have e : nI (70 - (j + 1)) + (1 : Int32) = nI (70 - j) := by rw [nI_1]; congr 1; omega
    rw [f_X0_become_b66, if_neg h8]
    simp only [if_pos hi, nI_cl (show 70 - (j + 1) < 2147483648 by omega), e]
    obtain ⟨P2, g1, g2, g3⟩ := ih k t C F K G (upd P (70 - (j + 1)) (vp_nar .boolean (pP (70 - (j + 1))))) W (by omega) (by omega)
    refine ⟨P2, g1, fun p h1 h2 => ?_, fun p h1 => ?_⟩
    · by_cases z : 70 - j ≤ p
      · exact g2 p z h2
      · have zp : p = 70 - (j + 1) := by omega
        rw [g3 p (by omega), zp, upd_eq]
    · rw [g3 p (by omega), upd_ne (by omega)]
theorem IRel.copy {f P K W C F G N f2 P2 K2 W2 C2 F2 G2 N2 : Nat → Int32} (h : IRel f P K W C F G N) (hf : ∀ j, j < 8 → f2 j = f j) (hr : ∀ p, p < 8 → C2 p = C p ∧ F2 p = F p ∧ K2 p = K p ∧ G2 p = G p ∧ W2 p = W p) (hP : ∀ k, k < 70 → P2 k = vp_nar .boolean (P k)) (hN : ∀ j, j < 97 → N2 j = N j) : IRel f2 P2 K2 W2 C2 F2 G2 N2 := by
  obtain ⟨s, n, ⟨q1, q2, q3, q4, q5, q6, q7, q8, q9, ⟨d, q10, q14, q15⟩, q11, q12, q13⟩, he, hv, hc⟩ := h
  refine ⟨s, n, ⟨q1, q2, q3, ?_, ?_, ?_, ?_, ⟨?_, ?_⟩, ⟨?_, ?_⟩, ⟨d, q10, ?_, ?_⟩, ?_, ?_, ?_⟩, ?_, ?_, ?_⟩
  · rw [hf 0 (by decide)]; exact q4
  · rw [hN 90 (by decide)]; exact q5
  · rw [hf 7 (by decide)]; exact q6
  · rw [hN 89 (by decide)]; exact q7
  · rw [hN 91 (by decide), hf 1 (by decide)]; exact q8.1
  · rw [hf 1 (by decide)]; exact q8.2
  · rw [hN 92 (by decide), hf 2 (by decide)]; exact q9.1
  · rw [hf 2 (by decide)]; exact q9.2
  · rw [hf 3 (by decide)]; exact q14
  · rw [hN 93 (by decide)]; exact q15
  · rw [hN 94 (by decide), hf 4 (by decide)]; exact q11
  · rw [hN 95 (by decide), hf 5 (by decide)]; exact q12
  · rw [hN 96 (by decide), hf 6 (by decide)]; exact q13
  · intro p hp
    obtain ⟨a1, a2, a3, a4, a5⟩ := hr p hp
    rw [a1, a2, a3, a4, a5, hN _ (by omega), hN _ (by omega), hN _ (by omega), hN _ (by omega), hN _ (by omega)]
    exact he p hp
  · intro p hp
    obtain ⟨a1, a2, a3, a4, a5⟩ := hr p (by omega)
    rw [a1, a2, a3, a4, a5]
    exact hv p hp
  · intro k hk h7
    obtain ⟨a, b, c⟩ := hc k hk h7
    rw [hN _ (by unfold pt; omega), hP k hk, nar_B b]
    exact ⟨a, b, c⟩
theorem moveL {p0 : Nat → Int32} : ∀ (j a : Nat) (p1 : Nat → Int32), j ≤ 97 → j < a → ∃ r, f_X6_move_b2 p0 a p1 (nI (97 - j)) = some r ∧ (∀ p, 97 - j ≤ p → p < 97 → r p = p0 p) ∧ (∀ p, p < 97 - j → r p = p1 p) := by
  intro j
  induction j with
  | zero =>
    intro a p1 _ ha
    obtain ⟨k, rfl⟩ : ∃ k, a = k + 1 := ⟨a - 1, by omega⟩
    have h8 : (97 : Int32) ≤ nI (97 - 0) := by decide
    rw [f_X6_move_b2, if_pos h8]
    exact ⟨_, rfl, fun p h1 h2 => by omega, fun p _ => rfl⟩
  | succ j ih =>
    intro a p1 hj ha
    obtain ⟨k, rfl⟩ : ∃ k, a = k + 1 := ⟨a - 1, by omega⟩
    have h8 : ¬ (97 : Int32) ≤ nI (97 - (j + 1)) := fun z => by have := (nI_leI (a := 97) (by omega) (by omega)).mp z; omega
    have hi : inb (nI (97 - (j + 1))) 97 := inb_nI (by omega) (by decide)
    have e : nI (97 - (j + 1)) + (1 : Int32) = nI (97 - j) := by rw [nI_1]; congr 1; omega
    rw [f_X6_move_b2, if_neg h8]
    simp only [if_pos hi, nI_cl (show 97 - (j + 1) < 2147483648 by omega), e]
    obtain ⟨r, g1, g2, g3⟩ := ih k (upd p1 (97 - (j + 1)) (p0 (97 - (j + 1)))) (by omega) (by omega)
    refine ⟨r, g1, fun p h1 h2 => ?_, fun p h1 => ?_⟩
    · by_cases z : 97 - j ≤ p
      · exact g2 p z h2
      · have zp : p = 97 - (j + 1) := by omega
        rw [g3 p (by omega), zp, upd_eq]
    · rw [g3 p (by omega), upd_ne (by omega)]
theorem move_eq (p0 p1 : Nat → Int32) : ∃ r, f_X6_move p0 p1 = some r ∧ (∀ p, p < 97 → r p = p0 p) := by
  obtain ⟨k, hk⟩ := FU_s
  obtain ⟨r, g1, g2, g3⟩ := moveL (p0 := p0) 97 FU p1 (Nat.le_refl _) (by omega)
  rw [Nat.sub_self] at g1
  exact ⟨r, g1, fun p hp => g2 p (by omega) hp⟩
theorem become_eq (t C F K G P W p1 pC pF pK pG pP pW : Nat → Int32) : ∃ r, f_X0_become t C F K G P W p1 pC pF pK pG pP pW = some r ∧ (∀ j, j < 8 → r.1 j = p1 j) ∧ (∀ p, p < 8 → r.2.1 p = pC p ∧ r.2.2.1 p = pF p ∧ r.2.2.2.1 p = pK p ∧ r.2.2.2.2.1 p = pG p ∧ r.2.2.2.2.2.2 p = pW p) ∧ (∀ k, k < 70 → r.2.2.2.2.2.1 k = vp_nar .boolean (pP k)) := by
  obtain ⟨k, hk⟩ := FU_s
  unfold f_X0_become
  obtain ⟨P2, b1, b2, b3⟩ := become66 (p1 := p1) (pC := pC) (pF := pF) (pK := pK) (pG := pG) (pP := pP) (pW := pW) 70 FU (upd (upd (upd (upd (upd (upd (upd (upd t 0 (p1 0)) 1 (p1 1)) 2 (p1 2)) 3 (p1 3)) 4 (p1 4)) 5 (p1 5)) 6 (p1 6)) 7 (p1 7)) C F K G P W (Nat.le_refl _) (by omega)
  obtain ⟨r, g1, g2, g3, g4, g5⟩ := become92 (p1 := p1) (pC := pC) (pF := pF) (pK := pK) (pG := pG) (pP := pP) (pW := pW) 8 FU (upd (upd (upd (upd (upd (upd (upd (upd t 0 (p1 0)) 1 (p1 1)) 2 (p1 2)) 3 (p1 3)) 4 (p1 4)) 5 (p1 5)) 6 (p1 6)) 7 (p1 7)) C F K G P2 W (Nat.le_refl _) (by omega)
  rw [Nat.sub_self] at b1 g1
  refine ⟨r, b1.trans g1, fun j hj => ?_, fun p hp => g4 p (by omega) hp, fun k hk => ?_⟩
  · rw [g2]
    rcases (show j = 0 ∨ j = 1 ∨ j = 2 ∨ j = 3 ∨ j = 4 ∨ j = 5 ∨ j = 6 ∨ j = 7 by omega) with rfl | rfl | rfl | rfl | rfl | rfl | rfl | rfl <;> simp [upd]
  · rw [g3]; exact b2 k (by omega) hk
theorem case_image {cx cm f P K W C F G N kf kP kK kW kC kF kG kN : Nat → Int32} (h : IRel f P K W C F G N) : ∃ u v, f_X5_image cx kf kC kF kK kG kP kW f C F K G P W = some u ∧ f_X6_image cm kN N = some v ∧ u.1 = v.1 ∧ IRel u.2.2.1 u.2.2.2.2.2.2.2.1 u.2.2.2.2.2.1 u.2.2.2.2.2.2.2.2 u.2.2.2.1 u.2.2.2.2.1 u.2.2.2.2.2.2.1 v.2.2 ∧ u.2.1 = upd cx 10 1 ∧ v.2.1 = upd cm 4 1 := by
  obtain ⟨r, b1, b2, b3, b4⟩ := become_eq kf kC kF kK kG kP kW f C F K G P W
  obtain ⟨r2, m1, m2⟩ := move_eq N kN
  unfold f_X5_image f_X6_image
  rw [b1, m1]
  exact ⟨_, _, rfl, rfl, rfl, h.copy b2 b3 b4 m2, rfl, rfl⟩
noncomputable abbrev RSh1 (K Z h z : Nat → Int32) (E e : Nat → Int64) (n s : Nat) : Prop := K s = h s ∧ (h s = -1 ∨ (∃ p, p < n ∧ h s = nI (10 + p)) ∨ (∃ so m : Nat, so ≤ 4 ∧ m ≤ 40 ∧ h s = nI so ∧ Z s = nI m ∧ z s = nI m ∧ ∀ i, i < m → E (40 * s + i) = e (40 * s + i)))
theorem neg1_lt {k : Nat} (h : k < 2147483648) : (-1 : Int32) < nI k := by
  rw [Int32.lt_iff_toInt_lt, nI_toI h]
  have : (-1 : Int32).toInt = -1 := by decide
  omega
theorem dropL {cm kN N mr z : Nat → Int32} {E e : Nat → Int64} {n n2 : Nat} (hn : n ≤ 8) (hn2 : n2 ≤ 8) (h7 : N 89 = nI n2) : ∀ (j a b : Nat) (K Z h : Nat → Int32), j ≤ 8 → j < a → j < b → (∀ s, s < 8 - j → RSh1 K Z h z E e n2 s) → (∀ s, 8 - j ≤ s → s < 8 → RSh1 K Z h z E e n s) → ∃ u v, f_X3_dropOnesFrom_b2 a K Z (nI n2) (nI (8 - j)) = some u ∧ f_X6_back_b27 cm kN b h N mr (nI (8 - j)) = some v ∧ v.1 = 1 ∧ v.2.2.1 = N ∧ v.2.2.2 = mr ∧ RSh u.1 u.2 v.2.1 z E e n2 := by
  intro j
  induction j with
  | zero =>
    intro a b K Z h _ ha hb h1 h2
    obtain ⟨k, rfl⟩ : ∃ k, a = k + 1 := ⟨a - 1, by omega⟩
    obtain ⟨k2, rfl⟩ : ∃ k, b = k + 1 := ⟨b - 1, by omega⟩
    have h8 : (8 : Int32) ≤ nI (8 - 0) := by decide
    rw [f_X3_dropOnesFrom_b2, f_X6_back_b27, if_pos h8, if_pos h8]
    exact ⟨_, _, rfl, rfl, rfl, rfl, rfl, fun s hs => h1 s (by omega)⟩
  | succ j ih =>
    intro a b K Z h hj ha hb h1 h2
    obtain ⟨k, rfl⟩ : ∃ k, a = k + 1 := ⟨a - 1, by omega⟩
    obtain ⟨k2, rfl⟩ : ∃ k, b = k + 1 := ⟨b - 1, by omega⟩
    have h8 : ¬ (8 : Int32) ≤ nI (8 - (j + 1)) := fun z => by have := (nI_leI (a := 8) (by omega) (by omega)).mp z; omega
    have hi : 8 - (j + 1) < 8 := by omega
    have e1 : nI (8 - (j + 1)) + (1 : Int32) = nI (8 - j) := by rw [nI_1]; congr 1; omega
    obtain ⟨hK, hc⟩ := h2 (8 - (j + 1)) (by omega) (by omega)
    have hself : upd h (8 - (j + 1)) (h (8 - (j + 1))) = h := by
      funext i
      by_cases y : i = 8 - (j + 1)
      · rw [y, upd_eq]
      · rw [upd_ne y]
    rw [f_X3_dropOnesFrom_b2, f_X6_back_b27, if_neg h8, if_neg h8]
    unfold f_X3_oneIn
    rw [holdsOne_eq hi]
    simp only [if_pos (ix8 hi).1, (ix8 hi).2, f_X6_many, Option.bind_some, h7, f_X3_dropOnesFrom_b22, f_X6_back_b64, f_X3_holdNothing, e1, hK, hself, show (10 : Int32) + nI n2 = nI (10 + n2) from nI_add 10 n2]
    have keep : (h (8 - (j + 1)) = -1 ∨ (∃ p, p < n2 ∧ h (8 - (j + 1)) = nI (10 + p)) ∨ (∃ so m : Nat, so ≤ 4 ∧ m ≤ 40 ∧ h (8 - (j + 1)) = nI so ∧ Z (8 - (j + 1)) = nI m ∧ z (8 - (j + 1)) = nI m ∧ ∀ i, i < m → E (40 * (8 - (j + 1)) + i) = e (40 * (8 - (j + 1)) + i))) → ∃ u v, f_X3_dropOnesFrom_b2 k K Z (nI n2) (nI (8 - j)) = some u ∧ f_X6_back_b27 cm kN k2 h N mr (nI (8 - j)) = some v ∧ v.1 = 1 ∧ v.2.2.1 = N ∧ v.2.2.2 = mr ∧ RSh u.1 u.2 v.2.1 z E e n2 := by
      intro hk
      refine ih k k2 K Z h (by omega) (by omega) (by omega) (fun s hs => ?_) (fun s hs hs8 => h2 s (by omega) hs8)
      by_cases y : s < 8 - (j + 1)
      · exact h1 s y
      · have ys : s = 8 - (j + 1) := by omega
        rw [ys]; exact ⟨hK, hk⟩
    rcases hc with q | ⟨p, hp, q⟩ | ⟨so, m, r1, r2, r3, r4, r5, r6⟩
    · rw [q]
      rw [if_neg (show ¬ (10 : Int32) ≤ -1 by decide)]
      simp only [if_true, Option.bind_some]
      have c1 : (-1 : Int32) < nI n2 := neg1_lt (by omega)
      have c2 : (-1 : Int32) < nI (10 + n2) := neg1_lt (by omega)
      rw [if_pos c1, if_pos c2]
      exact keep (Or.inl q)
    · rw [q]
      have c0 : (10 : Int32) ≤ nI (10 + p) := (nI_leI (a := 10) (by omega) (by omega)).mpr (by omega)
      have c3 : nI (10 + p) - (10 : Int32) = nI p := by
        apply i32_eq
        rw [show (10 : Int32) = nI 10 from rfl, pk_sub_toInt (by omega) (by decide), nI_toI (by omega)]
        omega
      rw [if_pos c0]
      simp only [if_neg one_ne0, Option.bind_some, c3]
      by_cases y : p < n2
      · rw [if_pos ((nI_ltI (by omega) (by omega)).mpr y), if_pos ((nI_ltI (by omega) (by omega)).mpr (show 10 + p < 10 + n2 by omega))]
        exact keep (Or.inr (Or.inl ⟨p, y, q⟩))
      · rw [if_neg (fun w => y ((nI_ltI (by omega) (by omega)).mp w)), if_neg (fun w => y (by have := (nI_ltI (by omega) (by omega)).mp w; omega))]
        refine ih k k2 (upd K (8 - (j + 1)) (-1)) (upd Z (8 - (j + 1)) 0) (upd h (8 - (j + 1)) (-1)) (by omega) (by omega) (by omega) (fun s hs => ?_) (fun s hs hs8 => ?_)
        · by_cases y2 : s < 8 - (j + 1)
          · unfold RSh1
            rw [upd_ne (by omega), upd_ne (by omega), upd_ne (by omega)]
            exact h1 s y2
          · have ys : s = 8 - (j + 1) := by omega
            rw [ys]
            unfold RSh1
            rw [upd_eq, upd_eq]
            exact ⟨rfl, Or.inl rfl⟩
        · unfold RSh1
          rw [upd_ne (by omega), upd_ne (by omega), upd_ne (by omega)]
          exact h2 s (by omega) hs8
    · rw [r3]
      have c0 : ¬ (10 : Int32) ≤ nI so := fun w => by have := (nI_leI (a := 10) (by omega) (by omega)).mp w; omega
      rw [if_neg c0]
      simp only [if_true, Option.bind_some]
      have c1 : (-1 : Int32) < nI n2 := neg1_lt (by omega)
      rw [if_pos c1, if_pos ((nI_ltI (by omega) (by omega)).mpr (show so < 10 + n2 by omega))]
      exact keep (Or.inr (Or.inr ⟨so, m, r1, r2, r3, r4, r5, r6⟩))
theorem case_back {cx cm f P K W C F G N kf kP kK kW kC kF kG kN xr mr Ks Z hh z : Nat → Int32} {E e : Nat → Int64} {n : Nat} (hn : n ≤ 8) (hsh : RSh Ks Z hh z E e n) (h : IRel f P K W C F G N) (hr : RRef xr mr) (hb : isB (cx 10)) (hbm : cm 4 = cx 10) (hk : cx 10 = 1 → IRel kf kP kK kW kC kF kG kN) :
    ∃ u v, f_X5_back cx kf kC kF kK kG kP kW f C F K G P W xr Ks Z = some u ∧ f_X6_back cm hh kN N mr = some v ∧ u.1 = v.1 ∧ IRel u.2.1 u.2.2.2.2.2.2.1 u.2.2.2.2.1 u.2.2.2.2.2.2.2.1 u.2.2.1 u.2.2.2.1 u.2.2.2.2.2.1 v.2.2.1 ∧ RRef u.2.2.2.2.2.2.2.2.1 v.2.2.2 ∧ (∃ n2, n2 ≤ 8 ∧ RSh u.2.2.2.2.2.2.2.2.2.1 u.2.2.2.2.2.2.2.2.2.2 v.2.1 z E e n2 ∧ (v.2.2.1 89 = nI n2 ∨ (v.2.2.1 = N ∧ n2 = n))) := by
  obtain ⟨g1, g2, e1, e2, e3⟩ := refuse_both (cx := cx) (cm := cm) (code := -5) (Or.inr (Or.inr (Or.inr (Or.inl rfl)))) hr
  unfold f_X5_back f_X6_back
  rw [hbm]
  by_cases c0 : cx 10 = 0
  · rw [if_pos c0, if_pos c0, e1, e2]
    exact ⟨_, _, rfl, rfl, rfl, h, e3, n, hn, hsh, Or.inr ⟨rfl, rfl⟩⟩
  · rw [if_neg c0, if_neg c0]
    have hk1 := hk (hb.resolve_left c0)
    obtain ⟨s2, n2, hn2⟩ := id hk1
    obtain ⟨r, b1, b2, b3, b4⟩ := become_eq f C F K G P W kf kC kF kK kG kP kW
    obtain ⟨r2, m1, m2⟩ := move_eq kN N
    obtain ⟨k, hk⟩ := FU_s
    have hN7 : r2 89 = nI n2 := (m2 89 (by decide)).trans hn2.1.2.2.2.2.2.2.1
    have hf7 : r.1 7 = nI n2 := (b2 7 (by decide)).trans hn2.1.2.2.2.2.2.1
    rw [b1, m1, Option.bind_some, Option.bind_some, hf7]
    obtain ⟨u, v, d1, d2, d3, d4, d5, d6⟩ := dropL (cm := cm) (kN := kN) (mr := mr) (z := z) (E := E) (e := e) hn hn2.1.2.2.1 hN7 8 FU FU Ks Z hh (Nat.le_refl _) (by omega) (by omega) (fun s hs => by omega) (fun s _ hs => hsh s hs)
    rw [Nat.sub_self] at d1 d2
    unfold f_X3_dropOnesFrom
    rw [show (0 : Int32) = nI 0 from rfl, d1, d2, Option.bind_some]
    refine ⟨_, _, rfl, rfl, d3.symm, ?_, ?_, n2, hn2.1.2.2.1, d6, Or.inl ?_⟩
    · rw [d4]; exact hk1.copy b2 b3 b4 m2
    · rw [d5]; exact hr
    · rw [d4]; exact hN7
