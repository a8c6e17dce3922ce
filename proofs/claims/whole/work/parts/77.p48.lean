-- ===== island: tokens =====
noncomputable def nvl (b : Nat → Int32) (ta e : Nat) : Int32 := if e = ta + 1 then (10 : Int32) * 0 + b ta - 48 else (10 : Int32) * ((10 : Int32) * 0 + b ta - 48) + b (ta + 1) - 48
noncomputable def srt (b : Nat → Int32) (z i : Nat) : Nat := if i < z then (if 97 ≤ b i ∧ b i ≤ 122 then 1 else if 48 ≤ b i ∧ b i ≤ 57 then 2 else if b i = 59 then 3 else 4) else 0
theorem sortAt_eq {ct tp : Nat → Int32} {z i : Nat} (hz : z ≤ 250) (h6 : ct 6 = nI z) (hi : i < 2147483648) : f_X6_sortAt (nI i) ct tp = some (nI (srt tp z i)) := by
  unfold f_X6_sortAt srt
  rw [h6]
  by_cases c : i < z
  · have hin := inb_nI (show i < 250 by omega) (show 250 ≤ 2147483648 by decide)
    rw [if_pos ((nI_ltI hi (by omega)).mpr c), if_pos c]
    simp only [if_pos hin, nI_cl hi]
    rw [show f_X6_isIn (tp i).toInt64 97 122 = some (if 97 ≤ tp i ∧ tp i ≤ 122 then 1 else 0) from isIn_eq _ 97 122, show f_X6_isIn (tp i).toInt64 48 57 = some (if 48 ≤ tp i ∧ tp i ≤ 57 then 1 else 0) from isIn_eq _ 48 57]
    simp only [ob]
    by_cases c1 : 97 ≤ tp i ∧ tp i ≤ 122
    · rw [if_pos c1, if_neg one_ne0, if_pos c1]; rfl
    · rw [if_neg c1, if_pos rfl, if_neg c1]
      by_cases c2 : 48 ≤ tp i ∧ tp i ≤ 57
      · rw [if_pos c2, if_neg one_ne0, if_pos c2]; rfl
      · rw [if_neg c2, if_pos rfl, if_neg c2]
        by_cases c3 : tp i = 59
        · rw [if_pos c3, if_pos c3]; rfl
        · rw [if_neg c3, if_neg c3]; rfl
  · rw [if_neg (fun w => c ((nI_ltI hi (by omega)).mp w)), if_neg c]; rfl
/-- both have come to the same place -/
noncomputable def PR (z at_ : Nat) (rd ct : Nat → Int32) : Prop := rd 2 = nI z ∧ ct 6 = nI z ∧ rd 3 = nI at_ ∧ ct 7 = nI at_ ∧ at_ ≤ z
theorem passC {by_ tp : Nat → Int32} {z k : Nat} {lo hi : Int32} (hz : z ≤ 250) (hb : ∀ i, i < z → by_ i = tp i) (hk : ∀ i, i < z → (srt tp z i = k ↔ lo ≤ tp i ∧ tp i ≤ hi)) : ∀ (j a i : Nat) (rd : Nat → Int32), z - i = j → j < a → i ≤ z → rd 2 = nI z → rd 3 = nI i → ∃ rd' e, f_X1_passAll_b0 by_ a rd lo hi = some rd' ∧ i ≤ e ∧ e ≤ z ∧ rd' 3 = nI e ∧ (∀ q, i ≤ q → q < e → srt tp z q = k) ∧ (e < z → ¬ srt tp z e = k) ∧ (∀ j, j ≠ 3 → rd' j = rd j) := by
  intro j
  induction j with
  | zero =>
    intro a i rd hj ha hi2 h2 h3
    obtain ⟨k2, rfl⟩ : ∃ k, a = k + 1 := ⟨a - 1, by omega⟩
    rw [f_X1_passAll_b0, h2, h3, if_pos ((nI_leI (by omega) (by omega)).mpr (by omega))]
    exact ⟨rd, i, rfl, Nat.le_refl _, hi2, h3, fun q h1 h2 => by omega, fun h => by omega, fun _ _ => rfl⟩
  | succ j ih =>
    intro a i rd hj ha hi2 h2 h3
    obtain ⟨k2, rfl⟩ : ∃ k, a = k + 1 := ⟨a - 1, by omega⟩
    have hin := inb_nI (show i < 250 by omega) (show 250 ≤ 2147483648 by decide)
    rw [f_X1_passAll_b0, h2, h3, if_neg (fun w => by have := (nI_leI (by omega) (by omega)).mp w; omega), if_pos hin, if_pos hin, nI_cl (by omega), hb i (by omega), nI_1]
    have hkk := hk i (by omega)
    by_cases c1 : tp i < lo
    · rw [if_pos c1]
      exact ⟨rd, i, rfl, Nat.le_refl _, hi2, h3, fun q h1 h2 => by omega, fun _ w => absurd (hkk.mp w).1 (Int32.not_le.mpr c1), fun _ _ => rfl⟩
    · rw [if_neg c1]
      by_cases c2 : hi < tp i
      · rw [if_pos c2]
        exact ⟨rd, i, rfl, Nat.le_refl _, hi2, h3, fun q h1 h2 => by omega, fun _ w => absurd (hkk.mp w).2 (Int32.not_le.mpr c2), fun _ _ => rfl⟩
      · rw [if_neg c2]
        obtain ⟨rd', e, r1, r2, r3, r4, r5, r6, r7⟩ := ih k2 (i + 1) (upd rd 3 (nI (i + 1))) (by omega) (by omega) (by omega) ((upd_ne (by decide)).trans h2) upd_eq
        refine ⟨rd', e, r1, by omega, r3, r4, fun q h1 h2 => ?_, r6, fun j hj => (r7 j hj).trans (upd_ne hj)⟩
        by_cases w : q = i
        · rw [w]; exact hkk.mpr ⟨Int32.not_lt.mp c1, Int32.not_lt.mp c2⟩
        · exact r5 q (by omega) h2
theorem passM {tp : Nat → Int32} {z k : Nat} (hz : z ≤ 250) (hk3 : k < 3) (hk0 : 1 ≤ k) {e : Nat} (hez : e ≤ z) (hlast : e < z → ¬ srt tp z e = k) : ∀ (j a i : Nat) (ct : Nat → Int32), e - i = j → j < a → i ≤ e → ct 6 = nI z → ct 7 = nI i → ct 9 = nI k → (∀ q, i ≤ q → q < e → srt tp z q = k) → ∃ ct', f_X6_next_b75 tp a ct = some ct' ∧ ct' 7 = nI e ∧ (∀ j, j ≠ 7 → ct' j = ct j) := by
  intro j
  induction j with
  | zero =>
    intro a i ct hj ha hi h6 h7 h9 hq
    obtain ⟨k2, rfl⟩ : ∃ k, a = k + 1 := ⟨a - 1, by omega⟩
    have hie : i = e := by omega
    subst hie
    rw [f_X6_next_b75, h9, if_neg (fun w => by have := (nI_leI (a := 3) (by omega) (by omega)).mp w; omega), h7, sortAt_eq hz h6 (by omega), ob, if_neg]
    · exact ⟨ct, rfl, h7, fun _ _ => rfl⟩
    · intro w
      have := nI_inj (by unfold srt; split <;> (try split) <;> (try split) <;> (try split) <;> omega) (by omega) w
      by_cases c : i < z
      · exact hlast c this
      · unfold srt at this
        rw [if_neg c] at this
        omega
  | succ j ih =>
    intro a i ct hj ha hi h6 h7 h9 hq
    obtain ⟨k2, rfl⟩ : ∃ k, a = k + 1 := ⟨a - 1, by omega⟩
    rw [f_X6_next_b75, h9, if_neg (fun w => by have := (nI_leI (a := 3) (by omega) (by omega)).mp w; omega), h7, sortAt_eq hz h6 (by omega), ob, hq i (Nat.le_refl _) (by omega), if_pos rfl, nI_1]
    obtain ⟨ct', r1, r2, r3⟩ := ih k2 (i + 1) (upd ct 7 (nI (i + 1))) (by omega) (by omega) (by omega) ((upd_ne (by decide)).trans h6) upd_eq ((upd_ne (by decide)).trans h9) (fun q h1 h2 => hq q (by omega) h2)
    exact ⟨ct', r1, r2, fun j hj => (r3 j hj).trans (upd_ne hj)⟩
theorem numC {rd by_ : Nat → Int32} {ta e : Nat} (he : e ≤ 250) (h3 : rd 3 = nI e) (h5 : rd 5 = nI ta) (h : ta + 1 ≤ e) : f_X1_numberPassed rd by_ = some (if e - ta ≤ 2 then nvl by_ ta e else 100) := by
  unfold f_X1_numberPassed
  rw [h3, h5, pk_sub (show ta ≤ e by omega)]
  by_cases c : e - ta ≤ 2
  · rw [if_pos (show nI (e - ta) ≤ (2 : Int32) from (nI_leI (b := 2) (by omega) (by omega)).mpr c), if_pos c]
    obtain ⟨k, hk⟩ := FU_s
    have i0 := inb_nI (show ta < 250 by omega) (show 250 ≤ 2147483648 by decide)
    rw [hk, show k + 1101 = k + 1098 + 1 + 1 + 1 from rfl, f_X1_numberPassed_b23, h3, if_neg (fun w => by have := (nI_leI (by omega) (by omega)).mp w; omega), if_pos i0, nI_cl (by omega), nI_1, f_X1_numberPassed_b23, h3]
    unfold nvl
    by_cases c1 : e = ta + 1
    · rw [if_pos ((nI_leI (by omega) (by omega)).mpr (by omega)), if_pos c1]
    · have i1 := inb_nI (show ta + 1 < 250 by omega) (show 250 ≤ 2147483648 by decide)
      rw [if_neg (fun w => by have := (nI_leI (by omega) (by omega)).mp w; omega), if_pos i1, nI_cl (by omega), nI_1, f_X1_numberPassed_b23, h3, if_pos ((nI_leI (by omega) (by omega)).mpr (by omega)), if_neg c1]
  · rw [if_neg (show ¬ nI (e - ta) ≤ (2 : Int32) from fun w => c ((nI_leI (b := 2) (by omega) (by omega)).mp w)), if_neg c]
theorem numM {ct tp : Nat → Int32} {ta e : Nat} {lo hi : Int32} (he : e ≤ 250) (h7 : ct 7 = nI e) (h : ta + 1 ≤ e) (h2 : e - ta ≤ 2) : f_X6_number_b35 tp FU ct lo hi 0 (nI ta) = some (if lo ≤ nvl tp ta e ∧ nvl tp ta e ≤ hi then nvl tp ta e else -1, ct) := by
  obtain ⟨k, hk⟩ := FU_s
  have i0 := inb_nI (show ta < 250 by omega) (show 250 ≤ 2147483648 by decide)
  have fin : ∀ v, ((f_X6_isIn v.toInt64 lo.toInt64 hi.toInt64).bind fun v1 => if v1 = 0 then some ((-1 : Int32), ct) else some (v, ct)) = some (if lo ≤ v ∧ v ≤ hi then v else -1, ct) := by
    intro v
    rw [isIn_eq, ob]
    by_cases c : lo ≤ v ∧ v ≤ hi
    · rw [if_pos c, if_neg one_ne0, if_pos c]
    · rw [if_neg c, if_pos rfl, if_neg c]
  rw [hk, show k + 1101 = k + 1098 + 1 + 1 + 1 from rfl, f_X6_number_b35, h7, if_neg (fun w => by have := (nI_leI (by omega) (by omega)).mp w; omega), if_pos i0, nI_cl (by omega), nI_1, f_X6_number_b35, h7]
  unfold nvl
  by_cases c1 : e = ta + 1
  · rw [if_pos ((nI_leI (by omega) (by omega)).mpr (by omega)), if_pos c1]
    exact fin _
  · have i1 := inb_nI (show ta + 1 < 250 by omega) (show 250 ≤ 2147483648 by decide)
    rw [if_neg (fun w => by have := (nI_leI (by omega) (by omega)).mp w; omega), if_pos i1, nI_cl (by omega), nI_1, f_X6_number_b35, h7, if_pos ((nI_leI (by omega) (by omega)).mpr (by omega)), if_neg c1]
    exact fin _
