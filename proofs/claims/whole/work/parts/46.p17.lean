-- ===== bloc, open, lefts, shore =====
noncomputable def wgt (G Wt : Nat → Int32) (c : Int32) (n : Nat) : Nat → Nat
  | 0 => 0
  | j + 1 => (if G (n - (j + 1)) = c then (Wt (n - (j + 1))).toNatClampNeg else 0) + wgt G Wt c n j
theorem wgt_le {s n : Nat} {K Wt C F G : Nat → Int32} {c : Int32} (hv : IRv s n K Wt C F G) : ∀ j, j ≤ n → wgt G Wt c n j ≤ 9 * j := by
  intro j
  induction j with
  | zero => intro _; exact Nat.le_refl _
  | succ j ih =>
    intro hj
    obtain ⟨a, ha, hw⟩ := (hv (n - (j + 1)) (by omega)).2.1
    have h1 : (Wt (n - (j + 1))).toNatClampNeg ≤ 9 := by rw [hw, nI_cl (by omega)]; exact ha
    have h2 := ih (by omega)
    unfold wgt
    by_cases z : G (n - (j + 1)) = c
    · rw [if_pos z]; omega
    · rw [if_neg z]; omega
theorem weighM {s n : Nat} {ct f P K Wt C F G N : Nat → Int32} (h : IRn s n f P K Wt C F G N) (c : Int32) : ∀ (j a acc : Nat), j ≤ n → j < a → acc + 9 * j < 1000 → f_X6_weigh_b4 ct N a c (nI acc) (nI (n - j)) = some (nI (acc + wgt G Wt c n j)) := by
  obtain ⟨hs, he, hv, hc⟩ := h
  obtain ⟨q1, q2, q3, q4, q5, q6, q7, q8⟩ := hs
  intro j
  induction j with
  | zero =>
    intro a acc _ ha _
    obtain ⟨k, rfl⟩ : ∃ k, a = k + 1 := ⟨a - 1, by omega⟩
    rw [f_X6_weigh_b4]
    simp only [f_X6_many, Option.bind_some, q7]
    rw [if_pos ((nI_leI (by omega) (by omega)).mpr (by omega))]
    rfl
  | succ j ih =>
    intro a acc hj ha hacc
    obtain ⟨k, rfl⟩ : ∃ k, a = k + 1 := ⟨a - 1, by omega⟩
    have h8 : n - (j + 1) < 8 := by omega
    have e : nI (n - (j + 1)) + (1 : Int32) = nI (n - j) := by rw [nI_1]; congr 1; omega
    obtain ⟨e1, e2, e3, e4, e5⟩ := he (n - (j + 1)) h8
    obtain ⟨w, hw1, hw2⟩ := (hv (n - (j + 1)) (by omega)).2.1
    rw [f_X6_weigh_b4]
    simp only [f_X6_many, Option.bind_some, q7]
    rw [if_neg (fun z => by have := (nI_leI (by omega) (by omega)).mp z; omega), (mkind h8).2.2.2.2, (mkind h8).2.1]
    simp only [Option.bind_some, f_X6_weigh_b31, e, e2, e5, hw2]
    unfold wgt
    by_cases z : G (n - (j + 1)) = c
    · rw [if_pos z, if_pos z, nI_add, ih k _ (by omega) (by omega) (by omega), hw2, nI_cl (by omega), Nat.add_assoc]
    · rw [if_neg z, if_neg z, show nI acc + (0 : Int32) = nI acc from nI_add acc 0, ih k _ (by omega) (by omega) (by omega), Nat.zero_add]
theorem weigh_eq {s n : Nat} {ct f P K Wt C F G N : Nat → Int32} (h : IRn s n f P K Wt C F G N) (c : Int32) : f_X6_weigh c ct N = some (nI (wgt G Wt c n n)) := by
  obtain ⟨k, hk⟩ := FU_s
  have hn := h.1.2.2.1
  have a := weighM (ct := ct) h c n FU 0 (Nat.le_refl _) (by omega) (by omega)
  rw [Nat.sub_self, Nat.zero_add] at a
  exact a
theorem blocX {s n : Nat} {cx f P K Wt C F G N xr : Nat → Int32} (h : IRn s n f P K Wt C F G N) (c : Int32) : ∀ (j a acc : Nat), j ≤ n → j < a → acc + 9 * j < 1000 → f_X5_bloc_b20 cx f G Wt a xr c (nI acc) (nI (n - j)) = some (nI (acc + wgt G Wt c n j), xr) := by
  obtain ⟨hs, he, hv, hc⟩ := h
  obtain ⟨q1, q2, q3, q4, q5, q6, q7, q8⟩ := hs
  intro j
  induction j with
  | zero =>
    intro a acc _ ha _
    obtain ⟨k, rfl⟩ : ∃ k, a = k + 1 := ⟨a - 1, by omega⟩
    rw [f_X5_bloc_b20, q6, if_pos ((nI_leI (by omega) (by omega)).mpr (by omega))]
    rfl
  | succ j ih =>
    intro a acc hj ha hacc
    obtain ⟨k, rfl⟩ : ∃ k, a = k + 1 := ⟨a - 1, by omega⟩
    have h8 : n - (j + 1) < 8 := by omega
    have e : nI (n - (j + 1)) + (1 : Int32) = nI (n - j) := by rw [nI_1]; congr 1; omega
    obtain ⟨w, hw1, hw2⟩ := (hv (n - (j + 1)) (by omega)).2.1
    rw [f_X5_bloc_b20, q6, if_neg (fun z => by have := (nI_leI (by omega) (by omega)).mp z; omega)]
    simp only [if_pos (ix8 h8).1, (ix8 h8).2, f_X5_bloc_b56, e, hw2]
    unfold wgt
    by_cases z : G (n - (j + 1)) = c
    · rw [if_pos z, if_pos z, nI_add, ih k _ (by omega) (by omega) (by omega), hw2, nI_cl (by omega), Nat.add_assoc]
    · rw [if_neg z, if_neg z, ih k _ (by omega) (by omega) (by omega), Nat.zero_add]
theorem case_bloc {cx cm f P K Wt C F G N xr mr : Nat → Int32} (h : IRel f P K Wt C F G N) (hr : RRef xr mr) (a1 : Int32) : ∃ u v, f_X5_bloc a1 cx f G Wt xr = some u ∧ f_X6_bloc a1 cm N mr = some v ∧ u.1 = v.1 ∧ RRef u.2 v.2 := by
  obtain ⟨g1, g2, e1, e2, e3⟩ := refuse_both (cx := cx) (cm := cm) (code := -2) (Or.inl rfl) hr
  obtain ⟨s, n, hn⟩ := h
  obtain ⟨k, hk⟩ := FU_s
  have hn8 := hn.1.2.2.1
  unfold f_X5_bloc f_X6_bloc
  rw [isWithin_eq, show f_X6_isIn a1.toInt64 0 1 = some (if 0 ≤ a1 ∧ a1 ≤ 1 then 1 else 0) from isIn_eq a1 0 1, e1, e2, weigh_eq hn]
  simp only [Option.bind_some]
  by_cases c1 : 0 ≤ a1 ∧ a1 ≤ 1
  · rw [if_pos c1, if_neg one_ne0, if_neg one_ne0]
    have b := blocX (cx := cx) (xr := xr) hn a1 n FU 0 (Nat.le_refl _) (by omega) (by omega)
    rw [Nat.sub_self, Nat.zero_add] at b
    exact ⟨_, _, b, rfl, rfl, hr⟩
  · rw [if_neg c1, if_pos rfl, if_pos rfl]
    exact ⟨_, _, rfl, rfl, rfl, e3⟩
/-- how far it is to the edge -/
noncomputable def dst (s k f : Nat) : Nat := if f = 0 then k / 10 else if f = 1 then s - 1 - k % 10 else if f = 2 then s - 1 - k / 10 else k % 10
theorem dst_nxt {s k f k' : Nat} (hs : s ≤ 7) (hk : okc s k) (h : nxt s k f = some k') : dst s k' f + 1 ≤ dst s k f := by
  have h1 := hk.1
  have h2 := hk.2
  unfold nxt at h
  unfold dst
  by_cases f0 : f = 0
  · simp only [if_pos f0] at h ⊢
    by_cases q : k / 10 = 0
    · rw [if_pos q] at h; cases h
    · rw [if_neg q] at h; cases h; omega
  · simp only [if_neg f0] at h ⊢
    by_cases f1 : f = 1
    · simp only [if_pos f1] at h ⊢
      by_cases q : k % 10 + 1 < s
      · rw [if_pos q] at h; cases h; omega
      · rw [if_neg q] at h; cases h
    · simp only [if_neg f1] at h ⊢
      by_cases f2 : f = 2
      · simp only [if_pos f2] at h ⊢
        by_cases q : k / 10 + 1 < s
        · rw [if_pos q] at h; cases h; omega
        · rw [if_neg q] at h; cases h
      · simp only [if_neg f2] at h ⊢
        by_cases q : k % 10 = 0
        · rw [if_pos q] at h; cases h
        · rw [if_neg q] at h; cases h; omega
theorem dst_le {s k f : Nat} (hs : s ≤ 7) (hk : okc s k) : dst s k f ≤ 6 := by
  have h1 := hk.1
  have h2 := hk.2
  unfold dst
  by_cases f0 : f = 0
  · rw [if_pos f0]; omega
  · rw [if_neg f0]
    by_cases f1 : f = 1
    · rw [if_pos f1]; omega
    · rw [if_neg f1]
      by_cases f2 : f = 2
      · rw [if_pos f2]; omega
      · rw [if_neg f2]; omega
theorem openL {cx cm f P N xr mr : Nat → Int32} {s fd : Nat} (hs : s ≤ 7) (h0 : f 0 = nI s) (n0 : N 90 = nI s) (hp : ∀ k, okc s k → N (pt k) = P k ∧ isB (P k)) (hf : fd < 4) : ∀ (j a b t : Nat) (x : Option Nat), t + j ≤ 6 → j < a → j < b → (∀ k, x = some k → okc s k ∧ dst s k fd < j) → ∃ r : Int32, f_X5_open_b38 cx f P a xr (nI fd) (enc x) (nI t) = some (r, xr) ∧ f_X6_open_b37 cm N b mr (nI fd) (nI t) (enc x) = some (r, mr) := by
  intro j
  induction j with
  | zero =>
    intro a b t x ht ha hb hx
    obtain ⟨k, rfl⟩ : ∃ k, a = k + 1 := ⟨a - 1, by omega⟩
    obtain ⟨k2, rfl⟩ : ∃ k, b = k + 1 := ⟨b - 1, by omega⟩
    cases x with
    | some k => have := (hx k rfl).2; omega
    | none =>
      have hno : ¬ (7 : Int32) ≤ nI t := fun z => by have := (nI_leI (a := 7) (by omega) (by omega)).mp z; omega
      rw [f_X5_open_b38, f_X6_open_b37, if_neg hno]
      rw [if_pos (show enc none = -1 from rfl), if_pos (show enc none = -1 from rfl)]
      exact ⟨_, rfl, rfl⟩
  | succ j ih =>
    intro a b t x ht ha hb hx
    obtain ⟨k, rfl⟩ : ∃ k, a = k + 1 := ⟨a - 1, by omega⟩
    obtain ⟨k2, rfl⟩ : ∃ k, b = k + 1 := ⟨b - 1, by omega⟩
    have hno : ¬ (7 : Int32) ≤ nI t := fun z => by have := (nI_leI (a := 7) (by omega) (by omega)).mp z; omega
    rw [f_X5_open_b38, f_X6_open_b37, if_neg hno]
    cases x with
    | none =>
      rw [if_pos (show enc none = -1 from rfl), if_pos (show enc none = -1 from rfl)]
      exact ⟨_, rfl, rfl⟩
    | some c =>
      obtain ⟨hc, hd⟩ := hx c rfl
      have hc1 := hc.1
      have hne : ¬ enc (some c) = -1 := nI_ne1 (by omega)
      rw [if_neg hne, if_neg hne, show enc (some c) = nI c from rfl, hasPond_X0 hs h0 hc, hasPond_X6 hs hc, (hp c hc).1]
      simp only [Option.bind_some]
      have e : nI t + (1 : Int32) = nI (t + 1) := nI_1 t
      rcases (hp c hc).2 with q | q
      · rw [q]
        simp only [if_true, if_neg (show ¬ (0 : Int32) = 1 by decide)]
        rw [ahead_eq hs h0 hc hf, beside_eq hs n0 hc hf]
        simp only [Option.bind_some, e]
        exact ih k k2 (t + 1) (nxt s c fd) (by omega) (by omega) (by omega) (fun k' hk' => ⟨nxt_ok hs hc hk', by have := dst_nxt hs hc hk'; omega⟩)
      · rw [q]
        simp only [if_true, if_neg one_ne0]
        exact ⟨_, rfl, rfl⟩
theorem case_open {cx cm f P K Wt C F G N xr mr : Nat → Int32} (h : IRel f P K Wt C F G N) (hr : RRef xr mr) (a1 a2 : Int32) : ∃ u v, f_X5_open a1 a2 cx f P xr = some u ∧ f_X6_open a1 a2 cm N mr = some v ∧ u.1 = v.1 ∧ RRef u.2 v.2 := by
  obtain ⟨g1, g2, e1, e2, e3⟩ := refuse_both (cx := cx) (cm := cm) (code := -2) (Or.inl rfl) hr
  obtain ⟨s, n, hs, he, hv, hc⟩ := h
  obtain ⟨q1, q2, q3, q4, q5, q6, q7, q8⟩ := hs
  have hX : f_X5_open_b18 cx f P xr = some (-2, g1) := by unfold f_X5_open_b18; rw [e1]; rfl
  have hM : f_X6_open_b20 cm N mr = some (-2, g2) := by unfold f_X6_open_b20; rw [e2]; rfl
  unfold f_X5_open f_X6_open
  rw [isFaces_X5, show f_X6_isIn a2.toInt64 0 3 = some (if 0 ≤ a2 ∧ a2 ≤ 3 then 1 else 0) from isIn_eq a2 0 3, hX, hM]
  rcases isCell_both (t := cm) q2 q4 q5 a1 with ⟨k, hk70, hk, rfl, k1, k2⟩ | ⟨k1, k2⟩
  · rw [k1, k2]
    simp only [Option.bind_some, if_neg one_ne0]
    by_cases c2 : 0 ≤ a2 ∧ a2 ≤ 3
    · obtain ⟨fd, hf, rfl⟩ := i32_nat (n := 3) c2.1 c2.2 (by decide)
      obtain ⟨m, hm⟩ := FU_s
      rw [if_pos c2, if_neg one_ne0, if_neg one_ne0, ahead_eq q2 q4 hk (by omega), beside_eq q2 q5 hk (by omega)]
      simp only [Option.bind_some]
      obtain ⟨r, r1, r2⟩ := openL (cx := cx) (cm := cm) (xr := xr) (mr := mr) q2 q4 q5 (fun k hk => hc.ok q2 hk) (show fd < 4 by omega) 6 FU FU 0 (nxt s k fd) (by omega) (by omega) (by omega) (fun k' hk' => ⟨nxt_ok q2 hk hk', by have := dst_nxt q2 hk hk'; have := dst_le (f := fd) q2 hk; omega⟩)
      rw [show (0 : Int32) = nI 0 from rfl, r1, r2]
      exact ⟨_, _, rfl, rfl, rfl, hr⟩
    · rw [if_neg c2, if_pos rfl, if_pos rfl]
      exact ⟨_, _, rfl, rfl, rfl, e3⟩
  · rw [k1, k2]
    simp only [Option.bind_some, if_true]
    exact ⟨_, _, rfl, rfl, rfl, e3⟩
theorem isDry_no {o P : Nat → Int32} {c : Int32} (h : f_X0_isCell c o = some 0) : f_X0_isDry c o P = some 0 := by
  unfold f_X0_isDry
  rw [h]; rfl
theorem shore_end {cx f P : Nat → Int32} {s : Nat} (hs : s ≤ 7) (h0 : f 0 = nI s) (acc : Int32) (a : Nat) (ha : 4 ≤ a) : f_X5_shore_b4 cx f P a acc (nI 67) = some acc := by
  have hno : ∀ k, k < 70 → 67 ≤ k → f_X0_isDry (nI k) f P = some 0 := by
    intro k hk h67
    apply isDry_no
    rcases isCell_both (N := fun _ => nI s) (t := f) hs h0 rfl (nI k) with ⟨k', hk', hok, he, i1, i2⟩ | ⟨i1, i2⟩
    · have := nI_inj (by omega) (by omega) he
      have h1 := hok.2
      omega
    · exact i1
  obtain ⟨b, rfl⟩ : ∃ b, a = b + 4 := ⟨a - 4, by omega⟩
  rw [f_X5_shore_b4, if_neg (by decide), hno 67 (by decide) (by decide)]
  simp only [Option.bind_some, if_true, f_X5_shore_b35]
  rw [show nI 67 + (1 : Int32) = nI 68 from by decide, f_X5_shore_b4, if_neg (by decide), hno 68 (by decide) (by decide)]
  simp only [Option.bind_some, if_true, f_X5_shore_b35]
  rw [show nI 68 + (1 : Int32) = nI 69 from by decide, f_X5_shore_b4, if_neg (by decide), hno 69 (by decide) (by decide)]
  simp only [Option.bind_some, if_true, f_X5_shore_b35]
  rw [show nI 69 + (1 : Int32) = nI 70 from by decide, f_X5_shore_b4, if_pos (by decide)]
theorem shoreL {cx cm f P N : Nat → Int32} {s : Nat} (hs : s ≤ 7) (h0 : f 0 = nI s) (n0 : N 90 = nI s) (hp : ∀ k, okc s k → N (pt k) = P k ∧ isB (P k)) : ∀ (j a b : Nat) (acc : Int32), j ≤ 67 → j + 4 < a → j < b → ∃ r : Int32, f_X5_shore_b4 cx f P a acc (nI (67 - j)) = some r ∧ f_X6_shore_b4 cm N b acc (nI (67 - j)) = some r := by
  intro j
  induction j with
  | zero =>
    intro a b acc _ ha hb
    obtain ⟨k2, rfl⟩ : ∃ k, b = k + 1 := ⟨b - 1, by omega⟩
    refine ⟨acc, shore_end hs h0 acc a (by omega), ?_⟩
    rw [f_X6_shore_b4, if_pos (by decide)]
  | succ j ih =>
    intro a b acc hj ha hb
    obtain ⟨k, rfl⟩ : ∃ k, a = k + 1 := ⟨a - 1, by omega⟩
    obtain ⟨k2, rfl⟩ : ∃ k, b = k + 1 := ⟨b - 1, by omega⟩
    have h70 : ¬ (70 : Int32) ≤ nI (67 - (j + 1)) := fun z => by have := (nI_leI (a := 70) (by omega) (by omega)).mp z; omega
    have h67 : ¬ (67 : Int32) ≤ nI (67 - (j + 1)) := fun z => by have := (nI_leI (a := 67) (by omega) (by omega)).mp z; omega
    have e : nI (67 - (j + 1)) + (1 : Int32) = nI (67 - j) := by rw [nI_1]; congr 1; omega
    rw [f_X5_shore_b4, f_X6_shore_b4, if_neg h70, if_neg h67]
    simp only [f_X5_shore_b35, f_X6_shore_b39, f_X6_shore_b40, e, show ∀ x : Int32, x + 0 = x from fun x => Int32.add_zero x]
    rcases isCell_both (t := cm) hs h0 n0 (nI (67 - (j + 1))) with ⟨c, hc70, hc, hce, i1, i2⟩ | ⟨i1, i2⟩
    · rw [i2, hce, isDry_X0 hs h0 hc, hasPond_X6 hs hc, (hp c hc).1, beside_X0 hs h0 hc, shore_X6 hs n0 hp hc]
      simp only [Option.bind_some, if_neg one_ne0]
      rcases (hp c hc).2 with q | q
      · rw [q]
        simp only [if_true, if_neg (show ¬ (0 : Int32) = 1 by decide), if_neg one_ne0]
        by_cases y : pbf s P c 4 = true
        · rw [if_pos y]
          simp only [if_neg one_ne0]
          exact ih k k2 _ (by omega) (by omega) (by omega)
        · rw [if_neg y]
          simp only [if_true]
          exact ih k k2 _ (by omega) (by omega) (by omega)
      · rw [q]
        simp only [if_true, if_neg one_ne0]
        exact ih k k2 _ (by omega) (by omega) (by omega)
    · rw [i2, isDry_no i1]
      simp only [Option.bind_some, if_true]
      exact ih k k2 _ (by omega) (by omega) (by omega)
theorem case_shore {cx cm f P K Wt C F G N : Nat → Int32} (h : IRel f P K Wt C F G N) : ∃ u v, f_X5_shore cx f P = some u ∧ f_X6_shore cm N = some v ∧ u = v := by
  obtain ⟨s, n, hs, he, hv, hc⟩ := h
  obtain ⟨q1, q2, q3, q4, q5, q6, q7, q8⟩ := hs
  obtain ⟨m, hm⟩ := FU_s
  obtain ⟨r, r1, r2⟩ := shoreL (cx := cx) (cm := cm) q2 q4 q5 (fun k hk => hc.ok q2 hk) 67 FU FU 0 (Nat.le_refl _) (by omega) (by omega)
  exact ⟨r, r, r1, r2, rfl⟩
