-- ===== the island: cells, ponds, who is there =====
noncomputable abbrev pt (k : Nat) : Nat := 40 + 7 * (k / 10) + k % 10
noncomputable def nxt (s k f : Nat) : Option Nat := if f = 0 then (if k / 10 = 0 then none else some (k - 10)) else if f = 1 then (if k % 10 + 1 < s then some (k + 1) else none) else if f = 2 then (if k / 10 + 1 < s then some (k + 10) else none) else (if k % 10 = 0 then none else some (k - 1))
noncomputable def enc (x : Option Nat) : Int32 := match x with | none => -1 | some k => nI k
noncomputable abbrev okc (s k : Nat) : Prop := k / 10 < s ∧ k % 10 < s
theorem nxt_ok {s k f k' : Nat} (hs : s ≤ 7) (hk : okc s k) (h : nxt s k f = some k') : okc s k' := by
  unfold nxt at h
  unfold okc at hk ⊢
  by_cases h0 : f = 0
  · rw [if_pos h0] at h
    by_cases q : k / 10 = 0
    · rw [if_pos q] at h; cases h
    · rw [if_neg q] at h; cases h; omega
  · rw [if_neg h0] at h
    by_cases h1 : f = 1
    · rw [if_pos h1] at h
      by_cases q : k % 10 + 1 < s
      · rw [if_pos q] at h; cases h
        omega
      · rw [if_neg q] at h; cases h
    · rw [if_neg h1] at h
      by_cases h2 : f = 2
      · rw [if_pos h2] at h
        by_cases q : k / 10 + 1 < s
        · rw [if_pos q] at h; cases h; omega
        · rw [if_neg q] at h; cases h
      · rw [if_neg h2] at h
        by_cases q : k % 10 = 0
        · rw [if_pos q] at h; cases h
        · rw [if_neg q] at h; cases h; omega
noncomputable def aheadB (s k f : Nat) : Bool := decide (s ≤ k / 10) || (decide (s ≤ k % 10) || (decide (f_X0_cellAhead (nI k) (nI f) (fun _ => nI s) = some (enc (nxt s k f))) && decide (f_X6_beside (nI k) (nI f) (fun _ => 0) (fun _ => nI s) = some (enc (nxt s k f)))))
set_option maxRecDepth 100000 in
theorem aheadB_all : ((List.range 8).all fun s => (List.range 70).all fun k => (List.range 4).all fun f => aheadB s k f) = true := by decide +kernel
theorem ahead_fin (s : Nat) (hs : s < 8) (k : Nat) (hk : k < 70) (h1 : k / 10 < s) (h2 : k % 10 < s) (f : Nat) (hf : f < 4) : f_X0_cellAhead (nI k) (nI f) (fun _ => nI s) = some (enc (nxt s k f)) ∧ f_X6_beside (nI k) (nI f) (fun _ => 0) (fun _ => nI s) = some (enc (nxt s k f)) := by
  have a := List.all_eq_true.mp aheadB_all s (List.mem_range.mpr hs)
  have b := List.all_eq_true.mp a k (List.mem_range.mpr hk)
  have c := List.all_eq_true.mp b f (List.mem_range.mpr hf)
  simp only [aheadB, Bool.or_eq_true, Bool.and_eq_true, decide_eq_true_eq] at c
  rcases c with c | c | c
  · omega
  · omega
  · exact c
theorem ahead_o (a b : Int32) (o : Nat → Int32) : f_X0_cellAhead a b o = f_X0_cellAhead a b (fun _ => o 0) := rfl
theorem beside_o (a b : Int32) (t N : Nat → Int32) : f_X6_beside a b t N = f_X6_beside a b (fun _ => 0) (fun _ => N 90) := rfl
theorem ahead_eq {s k f : Nat} {o : Nat → Int32} (hs : s ≤ 7) (ho : o 0 = nI s) (hk : okc s k) (hf : f < 4) : f_X0_cellAhead (nI k) (nI f) o = some (enc (nxt s k f)) := by
  rw [ahead_o, ho]
  exact (ahead_fin s (by omega) k (by have := hk.1; omega) hk.1 hk.2 f hf).1
theorem beside_eq {s k f : Nat} {t N : Nat → Int32} (hs : s ≤ 7) (ho : N 90 = nI s) (hk : okc s k) (hf : f < 4) : f_X6_beside (nI k) (nI f) t N = some (enc (nxt s k f)) := by
  rw [beside_o, ho]
  exact (ahead_fin s (by omega) k (by have := hk.1; omega) hk.1 hk.2 f hf).2
theorem nI_ne1 {k : Nat} (h : k < 2147483648) : ¬ nI k = (-1 : Int32) := by
  intro q
  have h2 : (nI k).toInt = (-1 : Int32).toInt := by rw [q]
  rw [nI_toI h] at h2
  have h3 : ((-1 : Int32)).toInt = -1 := by decide
  omega
theorem ahead_some {s k f k' : Nat} {o : Nat → Int32} (hs : s ≤ 7) (ho : o 0 = nI s) (hk : okc s k) (hf : f < 4) (h : nxt s k f = some k') : f_X0_cellAhead (nI k) (nI f) o = some (nI k') := by rw [ahead_eq hs ho hk hf, h]; rfl
theorem ahead_none {s k f : Nat} {o : Nat → Int32} (hs : s ≤ 7) (ho : o 0 = nI s) (hk : okc s k) (hf : f < 4) (h : nxt s k f = none) : f_X0_cellAhead (nI k) (nI f) o = some (-1) := by rw [ahead_eq hs ho hk hf, h]; rfl
theorem beside_some {s k f k' : Nat} {t N : Nat → Int32} (hs : s ≤ 7) (ho : N 90 = nI s) (hk : okc s k) (hf : f < 4) (h : nxt s k f = some k') : f_X6_beside (nI k) (nI f) t N = some (nI k') := by rw [beside_eq hs ho hk hf, h]; rfl
theorem beside_none {s k f : Nat} {t N : Nat → Int32} (hs : s ≤ 7) (ho : N 90 = nI s) (hk : okc s k) (hf : f < 4) (h : nxt s k f = none) : f_X6_beside (nI k) (nI f) t N = some (-1) := by rw [beside_eq hs ho hk hf, h]; rfl
theorem div10 {k : Nat} (h : k < 2147483648) : nI k / (10 : Int32) = nI (k / 10) := pk_div h (by decide) (by decide)
theorem rem10 {k : Nat} (h : k < 2147483648) : nI k - nI k / (10 : Int32) * (10 : Int32) = nI (k % 10) := pk_rem h (by decide) (by decide)
theorem isCell_both {o N t : Nat → Int32} {s : Nat} (hs : s ≤ 7) (h1 : o 0 = nI s) (h2 : N 90 = nI s) (c : Int32) : (∃ k, k < 70 ∧ okc s k ∧ c = nI k ∧ f_X0_isCell c o = some 1 ∧ f_X6_isCell c t N = some 1) ∨ (f_X0_isCell c o = some 0 ∧ f_X6_isCell c t N = some 0) := by
  unfold f_X0_isCell f_X6_isCell
  by_cases h0 : c < 0
  · right
    rw [if_pos h0, if_pos h0]
    exact ⟨rfl, rfl⟩
  · obtain ⟨k, hk, rfl⟩ := nI_of h0
    rw [if_neg h0, if_neg h0, h1, h2, rem10 hk, div10 hk]
    have c1 : (nI s ≤ nI (k / 10)) ↔ s ≤ k / 10 := nI_leI (by omega) (by omega)
    have c2 : (nI s ≤ nI (k % 10)) ↔ s ≤ k % 10 := nI_leI (by omega) (by omega)
    have c3 : ((70 : Int32) ≤ nI k) ↔ 70 ≤ k := nI_leI (a := 70) (by omega) (by omega)
    by_cases q1 : s ≤ k / 10
    · right
      rw [if_pos (c1.mpr q1)]
      by_cases q3 : 70 ≤ k
      · rw [if_pos (c3.mpr q3)]; exact ⟨rfl, rfl⟩
      · rw [if_neg (fun q => q3 (c3.mp q))]; exact ⟨rfl, rfl⟩
    · have q3 : ¬ 70 ≤ k := by omega
      rw [if_neg (fun q => q3 (c3.mp q)), if_neg (fun q => q1 (c1.mp q))]
      by_cases q2 : s ≤ k % 10
      · right
        rw [if_pos (c2.mpr q2)]; exact ⟨rfl, rfl⟩
      · left
        rw [if_neg (fun q => q2 (c2.mp q))]
        exact ⟨k, by omega, ⟨by omega, by omega⟩, rfl, rfl, rfl⟩
theorem isCell_ok {o : Nat → Int32} {s k : Nat} (hs : s ≤ 7) (h1 : o 0 = nI s) (hk : okc s k) : f_X0_isCell (nI k) o = some 1 := by
  have hk1 := hk.1
  have hk2 := hk.2
  unfold f_X0_isCell
  rw [if_neg (nI_pos (by omega)), h1, rem10 (by omega), div10 (by omega), if_neg (fun q => by have := (nI_leI (a := 70) (b := k) (by omega) (by omega)).mp q; omega), if_neg (fun q => by have := (nI_leI (a := s) (b := k / 10) (by omega) (by omega)).mp q; omega), if_neg (fun q => by have := (nI_leI (a := s) (b := k % 10) (by omega) (by omega)).mp q; omega)]
theorem hasPond_X0 {o P : Nat → Int32} {s k : Nat} (hs : s ≤ 7) (h1 : o 0 = nI s) (hk : okc s k) : f_X0_hasPond (nI k) o P = some (if P k = 0 then 0 else 1) := by
  have hk1 := hk.1
  unfold f_X0_hasPond
  rw [isCell_ok hs h1 hk]
  simp only [Option.bind_some]
  rw [if_neg (by decide), if_pos (inb_nI (by omega) (by decide)), nI_cl (by omega)]
  by_cases q : P k = 0
  · rw [if_pos q, if_pos q]
  · rw [if_neg q, if_neg q]
theorem isDry_X0 {o P : Nat → Int32} {s k : Nat} (hs : s ≤ 7) (h1 : o 0 = nI s) (hk : okc s k) : f_X0_isDry (nI k) o P = some (if P k = 0 then 1 else 0) := by
  have hk1 := hk.1
  unfold f_X0_isDry
  rw [isCell_ok hs h1 hk]
  simp only [Option.bind_some]
  rw [if_neg (by decide), if_pos (inb_nI (by omega) (by decide)), nI_cl (by omega)]
  by_cases q : P k = 0
  · rw [if_pos q, if_pos q]
  · rw [if_neg q, if_neg q]
theorem pondAt_eq {k : Nat} (h : k < 100) : f_X6_pondAt (nI k) = some (nI (pt k)) := by
  unfold f_X6_pondAt
  rw [rem10 (by omega), div10 (by omega)]
  show some ((nI 40 + nI 7 * nI (k / 10)) + nI (k % 10)) = _
  rw [pk_mul, nI_add, nI_add]
theorem hasPond_X6 {t N : Nat → Int32} {s k : Nat} (hs : s ≤ 7) (hk : okc s k) : f_X6_hasPond (nI k) t N = some (if N (pt k) = 1 then 1 else 0) := by
  have hk1 := hk.1
  have hk2 := hk.2
  unfold f_X6_hasPond
  rw [pondAt_eq (by omega)]
  simp only [Option.bind_some]
  rw [if_pos (inb_nI (by unfold pt; omega) (by decide)), nI_cl (by unfold pt; omega)]
  by_cases q : N (pt k) = 1
  · rw [if_pos q, if_pos q]
  · rw [if_neg q, if_neg q]
theorem FU_s : ∃ m, FU = m + 1101 := ⟨98899, rfl⟩
/-- somewhere from direction f on there is a pond beside -/
noncomputable def pbf (s : Nat) (P : Nat → Int32) (k : Nat) : Nat → Bool
  | 0 => false
  | j + 1 => (match nxt s k (3 - j) with | none => false | some k' => decide (P k' ≠ 0)) || pbf s P k j
theorem besideL_X0 {o P : Nat → Int32} {s k : Nat} (hs : s ≤ 7) (h1 : o 0 = nI s) (hk : okc s k) : ∀ (j n : Nat), j ≤ 4 → j < n → f_X0_hasPondBeside_b2 o P n (nI k) (nI (4 - j)) = some (if pbf s P k j = true then 1 else 0) := by
  intro j
  induction j with
  | zero =>
    intro n _ hn
    obtain ⟨m, rfl⟩ : ∃ m, n = m + 1 := ⟨n - 1, by omega⟩
    rw [f_X0_hasPondBeside_b2, if_pos (by decide)]
    rfl
  | succ j ih =>
    intro n hj hn
    obtain ⟨m, rfl⟩ : ∃ m, n = m + 1 := ⟨n - 1, by omega⟩
    rw [f_X0_hasPondBeside_b2, if_neg (fun q => by have := (nI_leI (a := 4) (b := 4 - (j + 1)) (by omega) (by omega)).mp q; omega)]
    have e : nI (4 - (j + 1)) + (1 : Int32) = nI (4 - j) := by rw [nI_1]; congr 1; omega
    have e3 : 4 - (j + 1) = 3 - j := by omega
    have hi := ih m (by omega) (by omega)
    rw [e3]
    rw [e3] at e
    cases hx : nxt s k (3 - j) with
    | none =>
      rw [ahead_none hs h1 hk (by omega) hx]
      simp only [Option.bind_some, if_true]
      unfold f_X0_hasPondBeside_b30
      rw [e, hi]
      simp only [pbf, hx, Bool.false_or]
    | some k' =>
      have hk' := nxt_ok hs hk hx
      have hk1 := hk'.1
      rw [ahead_some hs h1 hk (by omega) hx]
      simp only [Option.bind_some]
      rw [if_neg (nI_ne1 (by omega)), if_pos (inb_nI (by omega) (by decide)), nI_cl (by omega)]
      by_cases q : P k' = 0
      · rw [if_pos q]
        unfold f_X0_hasPondBeside_b30
        rw [e, hi]
        simp only [pbf, hx, q, ne_eq, not_true_eq_false, decide_false, Bool.false_or]
      · rw [if_neg q]
        simp only [pbf, hx, ne_eq, q, not_false_eq_true, decide_true, Bool.true_or, if_true]
theorem beside_X0 {o P : Nat → Int32} {s k : Nat} (hs : s ≤ 7) (h1 : o 0 = nI s) (hk : okc s k) : f_X0_hasPondBeside (nI k) o P = some (if pbf s P k 4 = true then 1 else 0) := by
  obtain ⟨m, hm⟩ := FU_s
  unfold f_X0_hasPondBeside
  exact besideL_X0 hs h1 hk 4 FU (by omega) (by omega)
/-- the model's: is (0 or 1) so far, then from direction f on -/
theorem shoreL_X6 {t N P : Nat → Int32} {s k : Nat} (hs : s ≤ 7) (h1 : N 90 = nI s) (hp : ∀ k, okc s k → N (pt k) = P k ∧ isB (P k)) (hk : okc s k) : ∀ (j n : Nat) (b : Bool), j ≤ 4 → j < n → f_X6_isShore_b4 t N n (nI k) (if b = true then 1 else 0) (nI (4 - j)) = some (if (b || pbf s P k j) = true then 1 else 0) := by
  intro j
  induction j with
  | zero =>
    intro n b _ hn
    obtain ⟨m, rfl⟩ : ∃ m, n = m + 1 := ⟨n - 1, by omega⟩
    rw [f_X6_isShore_b4, if_pos (by decide), if_pos (by cases b <;> simp [isB])]
    cases b <;> rfl
  | succ j ih =>
    intro n b hj hn
    obtain ⟨m, rfl⟩ : ∃ m, n = m + 1 := ⟨n - 1, by omega⟩
    rw [f_X6_isShore_b4, if_neg (fun q => by have := (nI_leI (a := 4) (b := 4 - (j + 1)) (by omega) (by omega)).mp q; omega)]
    have e : nI (4 - (j + 1)) + (1 : Int32) = nI (4 - j) := by rw [nI_1]; congr 1; omega
    have e3 : 4 - (j + 1) = 3 - j := by omega
    have hi := fun b => ih m b (by omega) (by omega)
    have hT : ∀ x, f_X6_isShore_b36 t N (f_X6_isShore_b4 t N m) (nI k) x = f_X6_isShore_b4 t N m (nI k) 1 (x + 1) := fun x => rfl
    have hF : ∀ x, f_X6_isShore_b40 t N (f_X6_isShore_b4 t N m) (nI k) x = f_X6_isShore_b4 t N m (nI k) 0 (x + 1) := fun x => rfl
    have iT := hi true
    have iF := hi false
    rw [if_pos rfl] at iT
    rw [if_neg (by decide)] at iF
    have h10 : ¬ ((if true = true then (1 : Int32) else 0) = 0) := by decide
    have h00 : ((if false = true then (1 : Int32) else 0) = 0) := by decide
    rw [e3]
    rw [e3] at e
    cases hx : nxt s k (3 - j) with
    | none =>
      rw [beside_none hs h1 hk (by omega) hx]
      simp only [Option.bind_some, if_true]
      rw [hT, hF, e, iT, iF]
      cases b with
      | true => rw [if_neg h10]; simp only [Bool.true_or]
      | false => rw [if_pos h00]; simp only [Bool.false_or, pbf, hx]
    | some k' =>
      have hk' := nxt_ok hs hk hx
      have hk1 := hk'.1
      rw [beside_some hs h1 hk (by omega) hx]
      simp only [Option.bind_some]
      rw [if_neg (nI_ne1 (by omega)), hT, hF, e, iT, iF, hasPond_X6 hs hk', (hp k' hk').1]
      simp only [Option.bind_some]
      cases b with
      | true => rw [if_neg h10]; simp only [Bool.true_or]
      | false =>
        rw [if_pos h00]
        simp only [Bool.false_or, pbf, hx]
        rcases (hp k' hk').2 with q | q
        · rw [q]; simp
        · rw [q]; simp
theorem shore_X6 {t N P : Nat → Int32} {s k : Nat} (hs : s ≤ 7) (h1 : N 90 = nI s) (hp : ∀ k, okc s k → N (pt k) = P k ∧ isB (P k)) (hk : okc s k) : f_X6_isShore (nI k) t N = some (if pbf s P k 4 = true then 1 else 0) := by
  obtain ⟨m, hm⟩ := FU_s
  unfold f_X6_isShore
  exact shoreL_X6 hs h1 hp hk 4 FU false (by omega) (by omega)
