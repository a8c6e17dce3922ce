-- ===== crowd =====
theorem crowdX {cx f C P K G xr Ks Z O w : Nat → Int32} {F : Nat → Int32} {E : Nat → Int64} {n : Nat} (hn : n ≤ 8) (h7 : f 7 = nI n) (g : Nat → Nat) (hg : ∀ i, i < n → g i < 67 ∧ O i = nI (g i)) (l3 : Int32) : ∀ (j a : Nat) (best cn : Nat), j ≤ n → j < a → best ≤ 70 → cn ≤ 8 → (j = n → best = 70 ∧ cn = 0) → (j < n → (∃ i, i < n ∧ best = g i) ∧ cn = cnt O (nI best) n n ∧ 1 ≤ cn) → (∀ i, i < n - j → cnt O (O i) n n < cn ∨ (cnt O (O i) n n = cn ∧ best ≤ g i)) →
    ∃ u best2 cn2, f_X5_crowd_b59 cx f C F K G P Ks E Z a w O xr l3 (nI best) (nI cn) (nI (n - j)) = some u ∧ u.1 = (if l3 = 0 then nI best2 else nI cn2) ∧ u.2.2.2 = xr ∧ (n = 0 → best2 = 70 ∧ cn2 = 0) ∧ (0 < n → (∃ i, i < n ∧ best2 = g i) ∧ cn2 = cnt O (nI best2) n n ∧ 1 ≤ cn2) ∧ (∀ i, i < n → cnt O (O i) n n < cn2 ∨ (cnt O (O i) n n = cn2 ∧ best2 ≤ g i)) := by
  intro j
  induction j with
  | zero =>
    intro a best cn _ ha _ _ h0 h1 h2
    obtain ⟨k, rfl⟩ : ∃ k, a = k + 1 := ⟨a - 1, by omega⟩
    have hyes : nI n ≤ nI (n - 0) := (nI_leI (by omega) (by omega)).mpr (by omega)
    rw [f_X5_crowd_b59, h7, if_pos hyes]
    by_cases c : l3 = 0
    · rw [if_pos c]
      exact ⟨_, best, cn, rfl, by rw [if_pos c], rfl, fun z => h0 z.symm, fun z => h1 z, fun i hi => h2 i (by omega)⟩
    · rw [if_neg c]
      exact ⟨_, best, cn, rfl, by rw [if_neg c], rfl, fun z => h0 z.symm, fun z => h1 z, fun i hi => h2 i (by omega)⟩
  | succ j ih =>
    intro a best cn hj ha hb70 hcn8 h0 h1 h2
    obtain ⟨k, rfl⟩ : ∃ k, a = k + 1 := ⟨a - 1, by omega⟩
    have hno : ¬ nI n ≤ nI (n - (j + 1)) := fun z => by have := (nI_leI (by omega) (by omega)).mp z; omega
    have e : nI (n - (j + 1)) + (1 : Int32) = nI (n - j) := by rw [nI_1]; congr 1; omega
    have h8 : n - (j + 1) < 8 := by omega
    obtain ⟨hg1, hg2⟩ := hg (n - (j + 1)) (by omega)
    have hself : 1 ≤ cnt O (O (n - (j + 1))) n n := by
      have key : ∀ j i, j ≤ n → n - j ≤ i → i < n → 1 ≤ cnt O (O i) n j := by
        intro j
        induction j with
        | zero => intro i _ _ _; omega
        | succ j ih =>
          intro i hj h1 h2
          unfold cnt
          by_cases y : i = n - (j + 1)
          · rw [y, if_pos rfl]; omega
          · have := ih i (by omega) (by omega) h2
            omega
      exact key n _ (Nat.le_refl _) (by omega) (by omega)
    have hle : cnt O (O (n - (j + 1))) n n ≤ n := cnt_le n
    rw [f_X5_crowd_b59, h7, if_neg hno]
    simp only [if_pos (ix8 h8).1, (ix8 h8).2, how_X (cx := cx) (O := O) hn h7, Option.bind_some, f_X5_crowd_b123, f_X5_crowd_b110, e]
    have take : (cn < cnt O (O (n - (j + 1))) n n ∨ (cn = cnt O (O (n - (j + 1))) n n ∧ g (n - (j + 1)) < best)) → ∃ u best2 cn2, f_X5_crowd_b59 cx f C F K G P Ks E Z k w O xr l3 (O (n - (j + 1))) (nI (cnt O (O (n - (j + 1))) n n)) (nI (n - j)) = some u ∧ u.1 = (if l3 = 0 then nI best2 else nI cn2) ∧ u.2.2.2 = xr ∧ (n = 0 → best2 = 70 ∧ cn2 = 0) ∧ (0 < n → (∃ i, i < n ∧ best2 = g i) ∧ cn2 = cnt O (nI best2) n n ∧ 1 ≤ cn2) ∧ (∀ i, i < n → cnt O (O i) n n < cn2 ∨ (cnt O (O i) n n = cn2 ∧ best2 ≤ g i)) := by
      intro hc
      rw [hg2]
      rw [hg2] at hself hle hc
      refine ih k (g (n - (j + 1))) (cnt O (nI (g (n - (j + 1)))) n n) (by omega) (by omega) (by omega) (by omega) (fun z => by omega) (fun z => ⟨⟨_, by omega, rfl⟩, rfl, hself⟩) (fun i hi => ?_)
      by_cases y : i < n - (j + 1)
      · rcases h2 i y with w | ⟨w1, w2⟩
        · left; omega
        · rcases hc with c | ⟨c1, c2⟩
          · left; omega
          · right; exact ⟨by omega, by omega⟩
      · have yi : i = n - (j + 1) := by omega
        rw [yi, hg2]
        exact Or.inr ⟨rfl, Nat.le_refl _⟩
    have keep : j + 1 < n → (cnt O (O (n - (j + 1))) n n < cn ∨ (cnt O (O (n - (j + 1))) n n = cn ∧ best ≤ g (n - (j + 1)))) → ∃ u best2 cn2, f_X5_crowd_b59 cx f C F K G P Ks E Z k w O xr l3 (nI best) (nI cn) (nI (n - j)) = some u ∧ u.1 = (if l3 = 0 then nI best2 else nI cn2) ∧ u.2.2.2 = xr ∧ (n = 0 → best2 = 70 ∧ cn2 = 0) ∧ (0 < n → (∃ i, i < n ∧ best2 = g i) ∧ cn2 = cnt O (nI best2) n n ∧ 1 ≤ cn2) ∧ (∀ i, i < n → cnt O (O i) n n < cn2 ∨ (cnt O (O i) n n = cn2 ∧ best2 ≤ g i)) := by
      intro hjn hc
      refine ih k best cn (by omega) (by omega) hb70 hcn8 (fun z => by omega) (fun _ => h1 hjn) (fun i hi => ?_)
      by_cases y : i < n - (j + 1)
      · exact h2 i y
      · have yi : i = n - (j + 1) := by omega
        rw [yi]; exact hc
    by_cases c1 : nI cn < nI (cnt O (O (n - (j + 1))) n n)
    · rw [if_pos c1]
      exact take (Or.inl ((nI_ltI (by omega) (by omega)).mp c1))
    · rw [if_neg c1]
      have d1 : cnt O (O (n - (j + 1))) n n ≤ cn := by
        by_cases y : cnt O (O (n - (j + 1))) n n ≤ cn
        · exact y
        · exact absurd ((nI_ltI (by omega) (by omega)).mpr (by omega)) c1
      have hjn : j + 1 < n := by
        by_cases y : j + 1 = n
        · have := (h0 y).2; omega
        · omega
      by_cases c2 : nI (cnt O (O (n - (j + 1))) n n) = nI cn
      · have d2 := nI_inj (by omega) (by omega) c2
        rw [if_pos c2]
        by_cases c3 : nI best ≤ O (n - (j + 1))
        · rw [if_pos c3]
          rw [hg2] at c3
          exact keep hjn (Or.inr ⟨d2, (nI_leI (by omega) (by omega)).mp c3⟩)
        · rw [if_neg c3]
          refine take (Or.inr ⟨d2.symm, ?_⟩)
          rw [hg2] at c3
          by_cases y : g (n - (j + 1)) < best
          · exact y
          · exact absurd ((nI_leI (by omega) (by omega)).mpr (by omega)) c3
      · rw [if_neg c2]
        refine keep hjn (Or.inl ?_)
        by_cases y : cnt O (O (n - (j + 1))) n n = cn
        · exact absurd (by rw [y]) c2
        · omega
