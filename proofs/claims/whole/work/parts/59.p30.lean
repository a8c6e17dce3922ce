-- ===== copy =====
theorem sub_toI {m : Nat} {j : Nat} (hm : m ≤ 40) (hj : j < 2147483648) : (nI m - nI j).toInt = (m : Int) - j := by
  rw [Int32.toInt_sub, nI_toI (by omega), nI_toI hj]
  rw [Int.bmod_eq_of_le (by omega) (by omega)]
theorem mv1L {ct hh z mr : Nat → Int32} {e : Nat → Int64} {s t a b n : Nat} (hs : s < 8) (ha : a + n ≤ 40) : ∀ (j k : Nat) (mv : Nat → Int64), j ≤ n → j < k → ∃ mv2, f_X6_copy_b160 ct hh z k e mv mr (nI s) (nI t) (nI a) (nI b) (nI n) (nI (n - j)) = f_X6_copy_b197 ct hh z FU e mv2 mr (nI t) (nI b) (nI n) 0 ∧ (∀ i, n - j ≤ i → i < n → mv2 i = e (40 * s + a + i)) ∧ (∀ i, i < n - j → mv2 i = mv i) := by
  intro j
  induction j with
  | zero =>
    intro k mv _ hk
    obtain ⟨k2, rfl⟩ : ∃ k2, k = k2 + 1 := ⟨k - 1, by omega⟩
    rw [f_X6_copy_b160, if_pos ((nI_leI (by omega) (by omega)).mpr (by omega))]
    exact ⟨mv, rfl, fun i h1 h2 => by omega, fun i _ => rfl⟩
  | succ j ih =>
    intro k mv hj hk
    obtain ⟨k2, rfl⟩ : ∃ k2, k = k2 + 1 := ⟨k - 1, by omega⟩
    have e1 : nI (n - (j + 1)) + (1 : Int32) = nI (n - j) := by rw [nI_1]; congr 1; omega
    have e2 : (40 : Int32) * nI s + nI a + nI (n - (j + 1)) = nI (40 * s + a + (n - (j + 1))) := by
      rw [show (40 : Int32) * nI s = nI (40 * s) from pk_mul 40 s, nI_add, nI_add]
    rw [f_X6_copy_b160, if_neg (fun z => by have := (nI_leI (by omega) (by omega)).mp z; omega), e2, if_pos (inb_nI (by omega) (by decide)), if_pos (inb_nI (by omega) (by decide)), nI_cl (by omega), nI_cl (by omega), e1]
    obtain ⟨mv2, g1, g2, g3⟩ := ih k2 (vp_updL mv (n - (j + 1)) (e (40 * s + a + (n - (j + 1))))) (by omega) (by omega)
    refine ⟨mv2, g1, fun i h1 h2 => ?_, fun i hi => ?_⟩
    · by_cases c : n - j ≤ i
      · exact g2 i c h2
      · have ci : i = n - (j + 1) := by omega
        rw [g3 i (by omega), ci, updL_eq]
    · rw [g3 i (by omega), updL_ne (by omega)]
theorem mv2L {ct hh z mr : Nat → Int32} {mv : Nat → Int64} {t b n : Nat} (ht : t < 8) (hb : b + n ≤ 40) : ∀ (j k : Nat) (e : Nat → Int64), j ≤ n → j < k → ∃ e2, f_X6_copy_b197 ct hh z k e mv mr (nI t) (nI b) (nI n) (nI (n - j)) = some (nI n, e2, mv, mr) ∧ (∀ i, n - j ≤ i → i < n → e2 (40 * t + b + i) = mv i) ∧ (∀ i, ¬ (40 * t + b + (n - j) ≤ i ∧ i < 40 * t + b + n) → e2 i = e i) := by
  intro j
  induction j with
  | zero =>
    intro k e _ hk
    obtain ⟨k2, rfl⟩ : ∃ k2, k = k2 + 1 := ⟨k - 1, by omega⟩
    rw [f_X6_copy_b197, if_pos ((nI_leI (by omega) (by omega)).mpr (by omega))]
    exact ⟨e, rfl, fun i h1 h2 => by omega, fun i _ => rfl⟩
  | succ j ih =>
    intro k e hj hk
    obtain ⟨k2, rfl⟩ : ∃ k2, k = k2 + 1 := ⟨k - 1, by omega⟩
    have e1 : nI (n - (j + 1)) + (1 : Int32) = nI (n - j) := by rw [nI_1]; congr 1; omega
    have e2 : (40 : Int32) * nI t + nI b + nI (n - (j + 1)) = nI (40 * t + b + (n - (j + 1))) := by
      rw [show (40 : Int32) * nI t = nI (40 * t) from pk_mul 40 t, nI_add, nI_add]
    rw [f_X6_copy_b197, if_neg (fun z => by have := (nI_leI (by omega) (by omega)).mp z; omega), e2, if_pos (inb_nI (by omega) (by decide)), if_pos (inb_nI (by omega) (by decide)), nI_cl (by omega), nI_cl (by omega), e1]
    obtain ⟨e3, g1, g2, g3⟩ := ih k2 (vp_updL e (40 * t + b + (n - (j + 1))) (mv (n - (j + 1)))) (by omega) (by omega)
    refine ⟨e3, g1, fun i h1 h2 => ?_, fun i hi => ?_⟩
    · by_cases c : n - j ≤ i
      · exact g2 i c h2
      · have ci : i = n - (j + 1) := by omega
        rw [g3 _ (by omega), ci, updL_eq]
    · rw [g3 i (by omega), updL_ne (by omega)]
theorem move_both {ct hh z mr Ks Z : Nat → Int32} {E e mv : Nat → Int64} {s t a b n m1 N : Nat} (h : RSh Ks Z hh z E e N) (hs : s < 8) (ht : t < 8) (h1 : hh s = nI m1 ∨ True) (ha : a + n ≤ 40) (hb : b + n ≤ 40) (heq : ∀ i, i < n → E (40 * s + a + i) = e (40 * s + a + i)) : ∃ E2 e2 mv2, f_X3_move (nI s) (nI t) (nI a) (nI b) (nI n) E = some E2 ∧ f_X6_copy_b160 ct hh z FU e mv mr (nI s) (nI t) (nI a) (nI b) (nI n) 0 = some (nI n, e2, mv2, mr) ∧ RSh Ks Z hh z E2 e2 N := by
  obtain ⟨k, hk⟩ := FU_s
  obtain ⟨mv2, g1, g2, g3⟩ := mv1L (ct := ct) (hh := hh) (z := z) (mr := mr) (e := e) (t := t) (b := b) hs ha n FU mv (Nat.le_refl _) (by omega)
  obtain ⟨e2, d1, d2, d3⟩ := mv2L (ct := ct) (hh := hh) (z := z) (mr := mr) (mv := mv2) ht hb n FU e (Nat.le_refl _) (by omega)
  rw [Nat.sub_self] at g1 d1
  have i1 : nI s * (40 : Int32) + nI a = nI (40 * s + a) := by
    show nI s * nI 40 + nI a = _
    rw [pk_mul, nI_add, Nat.mul_comm]
  have i2 : nI t * (40 : Int32) + nI b = nI (40 * t + b) := by
    show nI t * nI 40 + nI b = _
    rw [pk_mul, nI_add, Nat.mul_comm]
  refine ⟨va_cpy E E (40 * s + a) (40 * t + b) n, e2, mv2, ?_, g1.trans d1, fun u hu => ?_⟩
  · unfold f_X3_move
    rw [i1, i2, nI_cl (by omega), nI_cl (by omega), nI_cl (by omega), if_pos ⟨nI_pos' (by omega), nI_pos' (by omega), nI_pos' (by omega), by omega, by omega⟩]
  · obtain ⟨r1, r2⟩ := h u hu
    refine ⟨r1, r2.imp id (fun r2 => r2.imp id ?_)⟩
    rintro ⟨so2, m3, w1, w2, w3, w4, w5, w6⟩
    refine ⟨so2, m3, w1, w2, w3, w4, w5, fun i hi => ?_⟩
    unfold va_cpy
    by_cases c : 40 * t + b ≤ 40 * u + i ∧ 40 * u + i < 40 * t + b + n
    · rw [if_pos c]
      have c2 : 40 * u + i = 40 * t + b + (40 * u + i - (40 * t + b)) := by omega
      rw [c2, d2 _ (by omega) (by omega), g2 _ (by omega) (by omega), ← c2]
      exact heq _ (by omega)
    · rw [if_neg c, d3 _ (by omega)]
      exact w6 i hi
