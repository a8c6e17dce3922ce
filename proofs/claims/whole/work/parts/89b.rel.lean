-- ===== the relation at every turn of the law's loop
noncomputable def Rel : RelT := fun (x : Nat → Int32) (kf : Nat → Int32) (kC : Nat → Int32) (kF : Nat → Int32) (kK : Nat → Int32) (kG : Nat → Int32) (kP : Nat → Int32) (kW : Nat → Int32) (f : Nat → Int32) (C : Nat → Int32) (F : Nat → Int32) (K : Nat → Int32) (G : Nat → Int32) (P : Nat → Int32) (Wt : Nat → Int32) (one : Nat → Int32) (outs : Nat → Int32) (rd : Nat → Int32) (by_ : Nat → Int32) (xr : Nat → Int32) (isR : Nat → Int32) (st1 : Nat → Int32) (st2 : Nat → Int32) (Ks : Nat → Int32) (E : Nat → Int64) (Z : Nat → Int32) (tf : Nat → Int32) (tC : Nat → Int32) (tF : Nat → Int32) (tK : Nat → Int32) (tG : Nat → Int32) (tP : Nat → Int32) (tW : Nat → Int32) (two : Nat → Int32) (cm : Nat → Int32) (ab : Nat → Int32) (e : Nat → Int64) (fi : Nat → Int32) (hh : Nat → Int32) (kN : Nat → Int32) (mind : Nat → Int32) (mv : Nat → Int64) (N : Nat → Int32) (out : Nat → Int32) (mr : Nat → Int32) (z : Nat → Int32) (tp : Nat → Int32) (tl : Nat → Int32) (wBy : Nat → Int32) (wCell : Nat → Int32) (wFaces : Nat → Int32) (wFell : Nat → Int32) (wSign : Nat → Int32) (wTurns : Nat → Int32) (words : Nat → Int32) => IRel f P K Wt C F G N ∧ (∀ n, N 89 = nI n → n ≤ 8 → RSh Ks Z hh z E e n) ∧ RRef xr mr ∧ RTape rd by_ cm tp ∧ (isB (x 10) ∧ cm 4 = x 10 ∧ (x 10 = 1 → IRel kf kP kK kW kC kF kG kN)) ∧ (∀ j, j < 6 → ab j = sABOVE j) ∧ WT words
theorem IRel.f7 {f P K Wt C F G N : Nat → Int32} (h : IRel f P K Wt C F G N) : N 89 = f 7 := by
  obtain ⟨s, n, hn⟩ := h
  exact hn.n7.trans hn.1.2.2.2.2.2.1.symm
theorem RTape.cmc {rd by_ cm cm2 tp : Nat → Int32} (h : RTape rd by_ cm tp) (h6 : cm2 6 = cm 6) : RTape rd by_ cm2 tp := by
  obtain ⟨z, a, b, c, d⟩ := h
  exact ⟨z, a, b, h6.trans c, d⟩
theorem rel_n {f P K Wt C F G N Ks Z hh z : Nat → Int32} {E e : Nat → Int64} (h : IRel f P K Wt C F G N) (hS : ∀ n, N 89 = nI n → n ≤ 8 → RSh Ks Z hh z E e n) : ∃ n, n ≤ 8 ∧ N 89 = nI n ∧ RSh Ks Z hh z E e n := by
  obtain ⟨s, n, hn⟩ := h
  exact ⟨n, hn.1.2.2.1, hn.n7, hS n hn.n7 hn.1.2.2.1⟩
theorem sh_all {N Ks Z hh z : Nat → Int32} {E e : Nat → Int64} {n : Nat} (h : N 89 = nI n) (hn : n ≤ 8) (hs : RSh Ks Z hh z E e n) : ∀ n, N 89 = nI n → n ≤ 8 → RSh Ks Z hh z E e n := fun m hm h8 => by
  have : m = n := nI_inj (by omega) (by omega) (hm.symm.trans h)
  rw [this]
  exact hs
theorem sh_eq {N N2 Ks Z hh z : Nat → Int32} {E e : Nat → Int64} (hS : ∀ n, N 89 = nI n → n ≤ 8 → RSh Ks Z hh z E e n) (q : N2 89 = N 89) : ∀ n, N2 89 = nI n → n ≤ 8 → RSh Ks Z hh z E e n := fun m hm h8 => hS m (q.symm.trans hm) h8
theorem RSh.grow {Ks Z hh z : Nat → Int32} {E e : Nat → Int64} {n n2 : Nat} (h : RSh Ks Z hh z E e n) (hn : n ≤ n2) : RSh Ks Z hh z E e n2 := fun s hs => by
  obtain ⟨a, b⟩ := h s hs
  refine ⟨a, ?_⟩
  rcases b with b | ⟨p, hp, b⟩ | b
  · exact Or.inl b
  · exact Or.inr (Or.inl ⟨p, by omega, b⟩)
  · exact Or.inr (Or.inr b)
theorem sh_grow {N N2 Ks Z hh z : Nat → Int32} {E e : Nat → Int64} {n : Nat} (h : N 89 = nI n) (hn : n ≤ 8) (hS : ∀ n, N 89 = nI n → n ≤ 8 → RSh Ks Z hh z E e n) (q : ∀ z, z ≤ 8 → N 89 = nI z → ∃ z2, z2 ≤ 8 ∧ z ≤ z2 ∧ N2 89 = nI z2) : ∀ n, N2 89 = nI n → n ≤ 8 → RSh Ks Z hh z E e n := by
  obtain ⟨z2, a, b, c⟩ := q n hn h
  exact sh_all c a ((hS n h hn).grow b)
theorem back_n {N N2 : Nat → Int32} {n n2 : Nat} (h : N 89 = nI n) (q : N2 89 = nI n2 ∨ (N2 = N ∧ n2 = n)) : N2 89 = nI n2 := by
  rcases q with q | ⟨q, q2⟩
  · exact q
  · rw [q, q2]; exact h
theorem seed7 {a1 : Int32} {x f : Nat → Int32} {u : Int32 × (Nat → Int32)} (h : f_X5_seed a1 x f = some u) : u.2 7 = f 7 := by
  unfold f_X5_seed at h
  cases h
  dsimp only; exact upd_ne (k := 6) (j := 7) (by decide)
theorem side7 {a1 : Int32} {x f xr : Nat → Int32} {u : Int32 × (Nat → Int32) × (Nat → Int32)} (h : f_X5_side a1 x f xr = some u) : u.2.1 7 = f 7 := by
  unfold f_X5_side at h
  cases h1 : f_X0_maySide a1 f with
  | none => rw [h1] at h; cases h
  | some v =>
    rw [h1, ob] at h
    by_cases c : v = 0
    · rw [if_pos c] at h
      cases h2 : f_X5_refuse (-2) x xr with
      | none => rw [h2] at h; cases h
      | some w => rw [h2, ob] at h; cases h; rfl
    · rw [if_neg c] at h
      cases h
      dsimp only; exact upd_ne (k := 0) (j := 7) (by decide)
theorem tell7 {a1 a2 : Int32} {x f xr : Nat → Int32} {u : Int32 × (Nat → Int32) × (Nat → Int32)} (h : f_X5_tell a1 a2 x f xr = some u) : u.2.1 7 = f 7 := by
  have h28 : ∀ u, f_X5_tell_b28 x f xr = some u → u.2.1 7 = f 7 := fun u h => by
    unfold f_X5_tell_b28 at h
    cases h2 : f_X5_refuse (-2) x xr with
    | none => rw [h2] at h; cases h
    | some w => rw [h2, ob] at h; cases h; rfl
  have h22 : ∀ s0 u, f_X5_tell_b22 x f xr a1 a2 s0 0 a2 = some u → u.2.1 7 = f 7 := fun s0 u h => by
    unfold f_X5_tell_b22 at h
    rw [isWithin_eq, ob] at h
    by_cases c : (if 0 ≤ a2 ∧ a2 ≤ s0 then (1 : Int32) else 0) = 0
    · rw [if_pos c] at h
      exact h28 _ h
    · rw [if_neg c] at h
      by_cases c0 : a1 = 0
      · rw [if_pos c0] at h; cases h; dsimp only; exact upd_ne (k := 1) (j := 7) (by decide)
      · rw [if_neg c0] at h
        by_cases c1 : a1 = 1
        · rw [if_pos c1] at h; cases h; dsimp only; exact upd_ne (k := 2) (j := 7) (by decide)
        · rw [if_neg c1] at h; cases h; dsimp only; exact upd_ne (k := 3) (j := 7) (by decide)
  unfold f_X5_tell at h
  rw [isWithin_eq, ob] at h
  by_cases c : (if 0 ≤ a1 ∧ a1 ≤ 2 then (1 : Int32) else 0) = 0
  · rw [if_pos c] at h
    exact h28 _ h
  · rw [if_neg c] at h
    by_cases c2 : a1 = 2
    · rw [if_pos c2] at h; exact h22 _ _ h
    · rw [if_neg c2] at h; exact h22 _ _ h
