-- ===== one more of the people =====
noncomputable def addN (N : Nat → Int32) (n : Nat) (a1 a2 a3 a4 : Int32) : Nat → Int32 := upd (upd (upd (upd (upd (upd N (5 * n) a1) (5 * n + 1) a2) (5 * n + 2) a3) (5 * n + 3) a4) (5 * n + 4) 0) 89 (nI (n + 1))
theorem addN_far {N : Nat → Int32} {n j : Nat} {a1 a2 a3 a4 : Int32} (hn : n < 8) (h : 40 ≤ j) (h2 : j ≠ 89) : addN N n a1 a2 a3 a4 j = N j := by
  unfold addN
  rw [upd_ne h2, upd_ne (by omega), upd_ne (by omega), upd_ne (by omega), upd_ne (by omega), upd_ne (by omega)]
theorem addN_IRe {K Wt C F G N : Nat → Int32} {n : Nat} {a1 a2 a3 a4 : Int32} (h : IRe K Wt C F G N) (hn : n < 8) : IRe (upd K n a1) (upd Wt n a2) (upd C n a3) (upd F n a4) (upd G n 0) (addN N n a1 a2 a3 a4) := fun p hp => by
  obtain ⟨b1, b2, b3, b4, b5⟩ := h p hp
  unfold addN
  by_cases z : p = n
  · subst z
    refine ⟨?_, ?_, ?_, ?_, ?_⟩
    · rw [upd_ne (by omega), upd_ne (by omega), upd_ne (by omega), upd_ne (by omega), upd_ne (by omega), upd_eq, upd_eq]
    · rw [upd_ne (by omega), upd_ne (by omega), upd_ne (by omega), upd_ne (by omega), upd_eq, upd_eq]
    · rw [upd_ne (by omega), upd_ne (by omega), upd_ne (by omega), upd_eq, upd_eq]
    · rw [upd_ne (by omega), upd_ne (by omega), upd_eq, upd_eq]
    · rw [upd_ne (by omega), upd_eq, upd_eq]
  · refine ⟨?_, ?_, ?_, ?_, ?_⟩
    · rw [upd_ne (by omega), upd_ne (by omega), upd_ne (by omega), upd_ne (by omega), upd_ne (by omega), upd_ne (by omega), upd_ne z]; exact b1
    · rw [upd_ne (by omega), upd_ne (by omega), upd_ne (by omega), upd_ne (by omega), upd_ne (by omega), upd_ne (by omega), upd_ne z]; exact b2
    · rw [upd_ne (by omega), upd_ne (by omega), upd_ne (by omega), upd_ne (by omega), upd_ne (by omega), upd_ne (by omega), upd_ne z]; exact b3
    · rw [upd_ne (by omega), upd_ne (by omega), upd_ne (by omega), upd_ne (by omega), upd_ne (by omega), upd_ne (by omega), upd_ne z]; exact b4
    · rw [upd_ne (by omega), upd_ne (by omega), upd_ne (by omega), upd_ne (by omega), upd_ne (by omega), upd_ne (by omega), upd_ne z]; exact b5
theorem add_both {ct f P K Wt C F G N : Nat → Int32} {s n : Nat} (h : IRn s n f P K Wt C F G N) (hn : n < 8) {ka wa ca fa : Nat} (h1 : ka ≤ 5) (h2 : wa ≤ 9) (h3 : okc s ca) (h4 : fa < 4) :
    f_X0_add (nI ka) (nI wa) (nI ca) (nI fa) f C F K G Wt = some (nI n, upd f 7 (nI (n + 1)), upd C n (nI ca), upd F n (nI fa), upd K n (nI ka), upd G n 0, upd Wt n (nI wa)) ∧ f_X6_add (nI ka) (nI wa) (nI ca) (nI fa) ct N = some (nI n, addN N n (nI ka) (nI wa) (nI ca) (nI fa)) ∧ IRn s (n + 1) (upd f 7 (nI (n + 1))) P (upd K n (nI ka)) (upd Wt n (nI wa)) (upd C n (nI ca)) (upd F n (nI fa)) (upd G n 0) (addN N n (nI ka) (nI wa) (nI ca) (nI fa)) := by
  obtain ⟨hs, he, hv, hc⟩ := h
  obtain ⟨q1, q2, q3, q4, q5, q6, q7, q8, q9, ⟨d, q10, q14, q15⟩, q11, q12, q13⟩ := hs
  refine ⟨?_, ?_, ⟨q1, q2, by omega, ?_, ?_, ?_, ?_, ⟨?_, ?_⟩, ⟨?_, ?_⟩, ⟨d, q10, ?_, ?_⟩, ?_, ?_, ?_⟩, addN_IRe he hn, ?_, ?_⟩
  · unfold f_X0_add f_X0_isFull
    have c8 : nI n < (8 : Int32) := (nI_ltI (b := 8) (by omega) (by omega)).mpr hn
    rw [q6, if_pos c8]
    simp only [Option.bind_some, if_true, if_pos (ix8 hn).1, (ix8 hn).2]
    rw [show nI n + (1 : Int32) = nI (n + 1) from nI_1 n]
  · unfold f_X6_add
    have e0 : (5 : Int32) * nI n = nI (5 * n) := pk_mul 5 n
    have e1 : ∀ q : Nat, nI (5 * n) + nI q = nI (5 * n + q) := fun q => nI_add _ _
    have i0 : inb (nI (5 * n)) 97 := inb_nI (by omega) (by decide)
    rw [q7, e0, show nI (5 * n) + (1 : Int32) = nI (5 * n + 1) from e1 1, show nI (5 * n) + (2 : Int32) = nI (5 * n + 2) from e1 2, show nI (5 * n) + (3 : Int32) = nI (5 * n + 3) from e1 3, show nI (5 * n) + (4 : Int32) = nI (5 * n + 4) from e1 4, if_pos i0, if_pos (ixN hn (show 1 < 5 by decide)).2.1, if_pos (ixN hn (show 2 < 5 by decide)).2.1, if_pos (ixN hn (show 3 < 5 by decide)).2.1, if_pos (ixN hn (show 4 < 5 by decide)).2.1, (ixN hn (show 1 < 5 by decide)).2.2, (ixN hn (show 2 < 5 by decide)).2.2, (ixN hn (show 3 < 5 by decide)).2.2, (ixN hn (show 4 < 5 by decide)).2.2, nI_cl (by omega)]
    rw [upd_ne (show 89 ≠ 5 * n + 4 by omega), upd_ne (show 89 ≠ 5 * n + 3 by omega), upd_ne (show 89 ≠ 5 * n + 2 by omega), upd_ne (show 89 ≠ 5 * n + 1 by omega), upd_ne (show 89 ≠ 5 * n by omega), q7, show nI n + (1 : Int32) = nI (n + 1) from nI_1 n]
    rfl
  · rw [upd_ne (by decide)]; exact q4
  · rw [addN_far hn (by decide) (by decide)]; exact q5
  · exact upd_eq
  · exact upd_eq
  · rw [addN_far hn (by decide) (by decide), upd_ne (by decide)]; exact q8.1
  · rw [upd_ne (by decide)]; exact q8.2
  · rw [addN_far hn (by decide) (by decide), upd_ne (by decide)]; exact q9.1
  · rw [upd_ne (by decide)]; exact q9.2
  · rw [upd_ne (by decide)]; exact q14
  · rw [addN_far hn (by decide) (by decide)]; exact q15
  · rw [addN_far hn (by decide) (by decide), upd_ne (by decide)]; exact q11
  · rw [addN_far hn (by decide) (by decide), upd_ne (by decide)]; exact q12
  · rw [addN_far hn (by decide) (by decide), upd_ne (by decide)]; exact q13
  · intro p hp
    by_cases z : p = n
    · rw [z, upd_eq, upd_eq, upd_eq, upd_eq, upd_eq]
      exact ⟨⟨ka, h1, rfl⟩, ⟨wa, h2, rfl⟩, ⟨ca, h3, rfl⟩, ⟨fa, h4, rfl⟩, Or.inl rfl⟩
    · rw [upd_ne z, upd_ne z, upd_ne z, upd_ne z, upd_ne z]
      exact hv p (by omega)
  · exact hc.congr (fun j g1 g2 => addN_far hn g1 (by omega))
theorem case_person {cx cm f P K Wt C F G N xr mr : Nat → Int32} (h : IRel f P K Wt C F G N) (hr : RRef xr mr) (a1 a2 a3 a4 : Int32) : ∃ u v, f_X5_person a1 a2 a3 a4 cx f C F K G P Wt xr = some u ∧ f_X6_person a1 a2 a3 a4 cm N mr = some v ∧ u.1 = v.1 ∧ IRel u.2.1 P u.2.2.2.2.1 u.2.2.2.2.2.2.1 u.2.2.1 u.2.2.2.1 u.2.2.2.2.2.1 v.2.1 ∧ RRef u.2.2.2.2.2.2.2 v.2.2 ∧ (∀ z, z ≤ 8 → N 89 = nI z → ∃ z2, z2 ≤ 8 ∧ z ≤ z2 ∧ v.2.1 89 = nI z2) := by
  obtain ⟨g1, g2, e1, e2, e3⟩ := refuse_both (cx := cx) (cm := cm) (code := -2) (Or.inl rfl) hr
  obtain ⟨g5, g6, e5, e6, e7⟩ := refuse_both (cx := cx) (cm := cm) (code := -5) (Or.inr (Or.inr (Or.inr (Or.inl rfl)))) hr
  obtain ⟨g8, g9, e8, e9, e10⟩ := refuse_both (cx := cx) (cm := cm) (code := -6) (Or.inr (Or.inr (Or.inr (Or.inr rfl)))) hr
  have h0 := h
  obtain ⟨s, n, hn⟩ := h
  have hn0 := hn
  obtain ⟨hs, he, hv, hc⟩ := hn
  obtain ⟨q1, q2, q3, q4, q5, q6, q7, q8, q9, q10, q11, q12, q13⟩ := hs
  have hX : f_X5_person_b36 cx P f C F K G Wt xr = some (-2, f, C, F, K, G, Wt, g1) := by unfold f_X5_person_b36; rw [e1]; rfl
  have hM : f_X6_person_b45 cm N mr = some (-2, N, g2) := by unfold f_X6_person_b45; rw [e2]; rfl
  have same : ∀ z, z ≤ 8 → N 89 = nI z → ∃ z2, z2 ≤ 8 ∧ z ≤ z2 ∧ N 89 = nI z2 := fun z hz hz2 => ⟨z, hz, Nat.le_refl _, hz2⟩
  unfold f_X5_person f_X6_person
  rw [isKind_X5, isWithin_eq, isFaces_X5, show f_X6_isIn a1.toInt64 0 5 = some (if 0 ≤ a1 ∧ a1 ≤ 5 then 1 else 0) from isIn_eq a1 0 5, show f_X6_isIn a2.toInt64 0 9 = some (if 0 ≤ a2 ∧ a2 ≤ 9 then 1 else 0) from isIn_eq a2 0 9, show f_X6_isIn a4.toInt64 0 3 = some (if 0 ≤ a4 ∧ a4 ≤ 3 then 1 else 0) from isIn_eq a4 0 3, hX, hM, e5, e6, e8, e9]
  simp only [Option.bind_some]
  by_cases c1 : 0 ≤ a1 ∧ a1 ≤ 5
  · rw [if_pos c1, if_neg one_ne0, if_neg one_ne0]
    by_cases c2 : 0 ≤ a2 ∧ a2 ≤ 9
    · rw [if_pos c2, if_neg one_ne0, if_neg one_ne0]
      rcases isCell_both (t := cm) q2 q4 q5 a3 with ⟨k, hk70, hk, rfl, k1, k2⟩ | ⟨k1, k2⟩
      · rw [k1, k2]
        simp only [Option.bind_some, if_neg one_ne0]
        by_cases c4 : 0 ≤ a4 ∧ a4 ≤ 3
        · rw [if_pos c4, if_neg one_ne0, if_neg one_ne0, hasPond_X0 q2 q4 hk, hasPond_X6 q2 hk, (hc.ok q2 hk).1]
          simp only [Option.bind_some, f_X0_isFull, f_X6_many, q6, q7]
          rcases (hc.ok q2 hk).2 with qp | qp
          · rw [qp]
            simp only [if_true, if_neg (show ¬ (0 : Int32) = 1 by decide)]
            by_cases c5 : n = 8
            · subst c5
              rw [if_neg (show ¬ nI 8 < (8 : Int32) by decide), if_pos (show nI 8 = (8 : Int32) from rfl)]
              simp only [Option.bind_some, if_neg one_ne0]
              exact ⟨_, _, rfl, rfl, rfl, h0, e10, fun z hz hz2 => same z hz (q7.trans hz2)⟩
            · obtain ⟨ka, hka, rfl⟩ := i32_nat (n := 5) c1.1 c1.2 (by decide)
              obtain ⟨wa, hwa, rfl⟩ := i32_nat (n := 9) c2.1 c2.2 (by decide)
              obtain ⟨fa, hfa, rfl⟩ := i32_nat (n := 3) c4.1 c4.2 (by decide)
              obtain ⟨m1, m2, m3⟩ := add_both (ct := cm) hn0 (show n < 8 by omega) hka hwa hk (show fa < 4 by omega)
              have c8 : nI n < (8 : Int32) := (nI_ltI (b := 8) (by omega) (by omega)).mpr (show n < 8 by omega)
              have c9 : ¬ nI n = (8 : Int32) := fun w => c5 (nI_inj (b := 8) (by omega) (by decide) w)
              rw [if_pos c8, if_neg c9, m1, m2]
              simp only [Option.bind_some, if_true]
              refine ⟨_, _, rfl, rfl, rfl, ⟨s, n + 1, m3⟩, hr, fun z hz hz2 => ⟨n + 1, by omega, ?_, by dsimp only; unfold addN; exact upd_eq⟩⟩
              have : z = n := nI_inj (by omega) (by omega) (by first | exact hz2.symm.trans q7 | exact hz2.symm)
              omega
          · rw [qp]
            simp only [if_neg one_ne0, if_true]
            exact ⟨_, _, rfl, rfl, rfl, h0, e7, fun z hz hz2 => same z hz (q7.trans hz2)⟩
        · rw [if_neg c4, if_pos rfl, if_pos rfl]
          exact ⟨_, _, rfl, rfl, rfl, h0, e3, same⟩
      · rw [k1, k2]
        simp only [Option.bind_some, if_true]
        exact ⟨_, _, rfl, rfl, rfl, h0, e3, same⟩
    · rw [if_neg c2, if_pos rfl, if_pos rfl]
      exact ⟨_, _, rfl, rfl, rfl, h0, e3, same⟩
  · rw [if_neg c1, if_pos rfl, if_pos rfl]
    exact ⟨_, _, rfl, rfl, rfl, h0, e3, same⟩
