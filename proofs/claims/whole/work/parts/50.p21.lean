-- ===== ponds =====
theorem ponds_skip {cx f P K C F G w xr Ks Z : Nat → Int32} {E : Nat → Int64} (k : Nat) (hk : k < 70) (hd : f_X0_isDry (nI k) f P = some 0) (l1 l2 l3 acc : Int32) (a : Nat) : f_X5_ponds_b34 cx f C F K G P Ks E Z (a + 1) w xr l1 l2 l3 acc (nI k) = f_X5_ponds_b34 cx f C F K G P Ks E Z a w xr l1 l2 l3 acc (nI (k + 1)) := by
  have h70 : ¬ (70 : Int32) ≤ nI k := fun z => by have := (nI_leI (a := 70) (by omega) (by omega)).mp z; omega
  rw [f_X5_ponds_b34, if_neg h70, hd]
  simp only [Option.bind_some, if_true, f_X5_ponds_b95]
  rw [show nI k + (1 : Int32) = nI (k + 1) from nI_1 k]
theorem ponds_stop {cx f P K C F G w xr Ks Z : Nat → Int32} {E : Nat → Int64} (l1 l2 l3 acc : Int32) (a : Nat) : f_X5_ponds_b34 cx f C F K G P Ks E Z (a + 1) w xr l1 l2 l3 acc (nI 70) = some (acc, w, xr) := by
  have h70 : (70 : Int32) ≤ nI 70 := by decide
  rw [f_X5_ponds_b34, if_pos h70]
theorem ponds_end {cx f P K C F G w xr Ks Z : Nat → Int32} {E : Nat → Int64} {s : Nat} (hs : s ≤ 7) (h0 : f 0 = nI s) (l1 l2 l3 acc : Int32) (a : Nat) (ha : 4 ≤ a) : f_X5_ponds_b34 cx f C F K G P Ks E Z a w xr l1 l2 l3 acc (nI 67) = some (acc, w, xr) := by
  have hno : ∀ k, k < 70 → 67 ≤ k → f_X0_isDry (nI k) f P = some 0 := by
    intro k hk h67
    apply isDry_no
    rcases isCell_both (N := fun _ => nI s) (t := f) hs h0 rfl (nI k) with ⟨k', hk', hok, he, i1, i2⟩ | ⟨i1, i2⟩
    · have := nI_inj (by omega) (by omega) he
      have h1 := hok.2
      omega
    · exact i1
  obtain ⟨b, rfl⟩ : ∃ b, a = b + 1 + 1 + 1 + 1 := ⟨a - 4, by omega⟩
  exact (ponds_skip 67 (by omega) (hno 67 (by omega) (by omega)) l1 l2 l3 acc _).trans ((ponds_skip 68 (by omega) (hno 68 (by omega) (by omega)) l1 l2 l3 acc _).trans ((ponds_skip 69 (by omega) (hno 69 (by omega) (by omega)) l1 l2 l3 acc _).trans (ponds_stop l1 l2 l3 acc b)))
