-- ===== pond, person =====
noncomputable def smb (C : Nat → Int32) (c : Int32) (n : Nat) : Nat → Bool
  | 0 => false
  | j + 1 => decide (C (n - (j + 1)) = c) || smb C c n j
theorem somebodyX {f C : Nat → Int32} {n : Nat} (hn : n ≤ 8) (h : f 7 = nI n) (c : Int32) : ∀ (j m : Nat), j ≤ n → j < m → f_X0_hasSomebody_b2 f C m c (nI (n - j)) = some (if smb C c n j = true then 1 else 0) := by
  intro j
  induction j with
  | zero =>
    intro m _ hm
    obtain ⟨k, rfl⟩ : ∃ k, m = k + 1 := ⟨m - 1, by omega⟩
    rw [f_X0_hasSomebody_b2, h, if_pos ((nI_leI (by omega) (by omega)).mpr (by omega))]
    rfl
  | succ j ih =>
    intro m hj hm
    obtain ⟨k, rfl⟩ : ∃ k, m = k + 1 := ⟨m - 1, by omega⟩
    rw [f_X0_hasSomebody_b2, h, if_neg (fun z => by have := (nI_leI (by omega) (by omega)).mp z; omega), if_pos (inb_nI (by omega) (by decide)), nI_cl (by omega)]
    have e : nI (n - (j + 1)) + (1 : Int32) = nI (n - j) := by rw [nI_1]; congr 1; omega
    by_cases q : C (n - (j + 1)) = c
    · rw [if_pos q]
      simp [smb, q]
    · rw [if_neg q, e, ih k (by omega) (by omega)]
      simp [smb, q]
theorem somebodyM {ct N C : Nat → Int32} {n : Nat} (hn : n ≤ 8) (h : N 89 = nI n) (hC : ∀ p, p < 8 → N (5 * p + 2) = C p) (c : Int32) : ∀ (j m : Nat) (b : Bool), j ≤ n → j < m → f_X6_isSomebody_b4 ct N m c (if b = true then 1 else 0) (nI (n - j)) = some (if (b || smb C c n j) = true then 1 else 0) := by
  intro j
  induction j with
  | zero =>
    intro m b _ hm
    obtain ⟨k, rfl⟩ : ∃ k, m = k + 1 := ⟨m - 1, by omega⟩
    rw [f_X6_isSomebody_b4]
    simp only [f_X6_many, Option.bind_some, h]
    rw [if_pos ((nI_leI (by omega) (by omega)).mpr (by omega)), if_pos (by cases b <;> simp [isB])]
    cases b <;> rfl
  | succ j ih =>
    intro m b hj hm
    obtain ⟨k, rfl⟩ : ∃ k, m = k + 1 := ⟨m - 1, by omega⟩
    rw [f_X6_isSomebody_b4]
    simp only [f_X6_many, Option.bind_some, h]
    rw [if_neg (fun z => by have := (nI_leI (by omega) (by omega)).mp z; omega), (mkind (show n - (j + 1) < 8 by omega)).2.2.1, hC _ (by omega)]
    have e : nI (n - (j + 1)) + (1 : Int32) = nI (n - j) := by rw [nI_1]; congr 1; omega
    have iT := ih k true (by omega) (by omega)
    have iF := ih k false (by omega) (by omega)
    rw [if_pos rfl] at iT
    rw [if_neg (by decide)] at iF
    simp only [Option.bind_some, f_X6_isSomebody_b25, f_X6_isSomebody_b30, e, iT, iF]
    cases b with
    | true => rw [if_neg (show ¬ ((if true = true then (1 : Int32) else 0) = 0) by decide)]; simp
    | false =>
      rw [if_pos (show ((if false = true then (1 : Int32) else 0) = 0) by decide)]
      by_cases q : C (n - (j + 1)) = c
      · rw [if_pos q]; simp [smb, q]
      · rw [if_neg q]; simp [smb, q]
theorem somebody_both {f C N ct : Nat → Int32} {n : Nat} (hn : n ≤ 8) (h1 : f 7 = nI n) (h2 : N 89 = nI n) (hC : ∀ p, p < 8 → N (5 * p + 2) = C p) (c : Int32) : f_X0_hasSomebody c f C = some (if smb C c n n = true then 1 else 0) ∧ f_X6_isSomebody c ct N = some (if smb C c n n = true then 1 else 0) := by
  obtain ⟨k, hk⟩ := FU_s
  have a := somebodyX (C := C) hn h1 c n FU (Nat.le_refl _) (by omega)
  have b := somebodyM (ct := ct) hn h2 hC c n FU false (Nat.le_refl _) (by omega)
  rw [Nat.sub_self] at a b
  exact ⟨a, b⟩
theorem IRc.upd {s k : Nat} {P N : Nat → Int32} {x : Int32} (h : IRc s P N) (hk : okc s k) (hs : s ≤ 7) (hx : isB x) : IRc s (upd P k x) (upd N (pt k) x) := fun i hi h7 => by
  have hk1 := hk.1
  have hk2 := hk.2
  obtain ⟨a, b, c⟩ := h i hi h7
  by_cases z : i = k
  · rw [z, upd_eq, upd_eq]
    exact ⟨rfl, hx, fun w => absurd hk w⟩
  · rw [upd_ne z, upd_ne (by unfold pt; omega)]
    exact ⟨a, b, c⟩
theorem nar_B {x : Int32} (h : isB x) : vp_nar .boolean x = x := by rcases h with rfl | rfl <;> decide
theorem case_pond {cx cm f P K Wt C F G N xr mr : Nat → Int32} (h : IRel f P K Wt C F G N) (hr : RRef xr mr) (a1 a2 : Int32) (hb : isB a2) : ∃ u v, f_X5_pond a1 a2 cx f C P xr = some u ∧ f_X6_pond a1 a2 cm N mr = some v ∧ u.1 = v.1 ∧ IRel f u.2.1 K Wt C F G v.2.1 ∧ RRef u.2.2 v.2.2 := by
  obtain ⟨g1, g2, e1, e2, e3⟩ := refuse_both (cx := cx) (cm := cm) (code := -2) (Or.inl rfl) hr
  obtain ⟨g5, g6, e5, e6, e7⟩ := refuse_both (cx := cx) (cm := cm) (code := -5) (Or.inr (Or.inr (Or.inr (Or.inl rfl)))) hr
  have h0 := h
  obtain ⟨s, n, hs, he, hv, hc⟩ := h
  have hs0 := hs
  obtain ⟨q1, q2, q3, q4, q5, q6, q7, q8, q9, q10, q11, q12, q13⟩ := hs
  obtain ⟨s1, s2⟩ := somebody_both (ct := cm) (C := C) q3 q6 q7 (fun p hp => (he p hp).2.2.1) a1
  unfold f_X5_pond f_X6_pond
  rw [s1, s2, e1, e2, e5, e6]
  rcases isCell_both (t := cm) q2 q4 q5 a1 with ⟨k, hk70, hk, rfl, k1, k2⟩ | ⟨k1, k2⟩
  · have hk1 := hk.1
    have hk2 := hk.2
    have main : ∃ u v, f_X5_pond_b40 cx f C P xr (nI k) a2 = some u ∧ f_X6_pond_b34 cm N mr (nI k) a2 = some v ∧ u.1 = v.1 ∧ IRel f u.2.1 K Wt C F G v.2.1 ∧ RRef u.2.2 v.2.2 := by
      unfold f_X5_pond_b40 f_X6_pond_b34
      rw [hasPond_X0 q2 q4 hk, pondAt_eq (by omega)]
      have hp97 := inb_nI (show pt k < 97 by unfold pt; omega) (show 97 ≤ 2147483648 by decide)
      have hpcl := nI_cl (show pt k < 2147483648 by unfold pt; omega)
      simp only [Option.bind_some, asNumber_eq, if_pos hp97, hpcl, if_pos (inb_nI (show k < 70 from hk70) (by decide)), nI_cl (show k < 2147483648 by omega), nar_B hb, f_X6_pond_b61, (hc.ok q2 hk).1]
      have hval : (if (if P k = 0 then (0 : Int32) else 1) = 0 then (0 : Int32) else 1) = P k := by
        rcases (hc.ok q2 hk).2 with qp | qp <;> rw [qp] <;> decide
      rw [hval]
      rcases hb with rfl | rfl
      · rw [if_pos rfl]
        exact ⟨_, _, rfl, rfl, rfl, ⟨s, n, hs0.congr (fun i hi => upd_ne (by unfold pt; omega)), he.congr (fun i hi => upd_ne (by unfold pt; omega)), hv, hc.upd hk q2 (Or.inl rfl)⟩, hr⟩
      · rw [if_neg one_ne0]
        exact ⟨_, _, rfl, rfl, rfl, ⟨s, n, hs0.congr (fun i hi => upd_ne (by unfold pt; omega)), he.congr (fun i hi => upd_ne (by unfold pt; omega)), hv, hc.upd hk q2 (Or.inr rfl)⟩, hr⟩
    rw [k1, k2]
    simp only [Option.bind_some, if_neg one_ne0]
    by_cases z : a2 = 0
    · rw [if_pos z, if_pos z]; exact main
    · rw [if_neg z, if_neg z]
      by_cases w : smb C (nI k) n n = true
      · rw [if_pos w]
        simp only [if_neg one_ne0]
        exact ⟨_, _, rfl, rfl, rfl, h0, e7⟩
      · rw [if_neg w]
        simp only [if_true]
        exact main
  · rw [k1, k2]
    simp only [Option.bind_some, if_true]
    exact ⟨_, _, rfl, rfl, rfl, h0, e3⟩
