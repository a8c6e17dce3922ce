-- ===== walk =====
theorem runD_ok {s : Nat} {P : Nat → Int32} {left old pl : Int32} {kd : Nat} {g : Nat → Int32} {b : Nat} (hs : s ≤ 7) : ∀ (j i : Nat) (x : WS), okw s x → okc s (runD s P left old pl kd g b i j x) := by
  intro j
  induction j with
  | zero => intro i x h; exact h.1
  | succ j ih =>
    intro i x h
    unfold runD
    by_cases q : (stepS s P left old pl kd x (g i) (nI (b + i))).2.2.2.2.2 = -1
    · rw [if_pos q]; exact ih _ _ (stepS_ok hs h)
    · rw [if_neg q]; exact h.1
theorem walk_stop {cx K G P Ks Z f C F w xr : Nat → Int32} {E : Nat → Int64} {p : Nat} {l1 l2 l5 : Int32} (hp : p < 8) (hw : w 7 ≠ -1) (a : Nat) : f_X5_walk_b39 cx K G P Ks E Z (a + 1) f C F w xr l1 l2 (nI p) l5 = some (w 4, f, upd C p (w 4), upd F p (w 5), w, xr) := by
  have hb : f_X5_walk_b119 cx K G P Ks E Z f C F w xr (nI p) = some (w 4, f, upd C p (w 4), upd F p (w 5), w, xr) := by
    unfold f_X5_walk_b119
    simp only [if_pos (ix8 hp).1, (ix8 hp).2]
  rw [f_X5_walk_b39, hb, isFallen_eq, if_neg hw, Option.bind_some, if_neg one_ne0]
  by_cases y : l2 ≤ l5
  · rw [if_pos y]
  · rw [if_neg y]
theorem walkL {cx f P K Wt C F G N tl xr Ks Z : Nat → Int32} {E : Nat → Int64} {s n q m p kd : Nat} (h : IRn s n f P K Wt C F G N) (hp : p < n) (hkd : kd ≤ 5) (hq : q < 8) (hm : m ≤ 40) (htl : ∀ i, i < m → isSg (E (40 * q + i)) ∧ tl i = (E (40 * q + i)).toInt32) : ∀ (j a : Nat) (w : Nat → Int32) (x : WS), j ≤ m → j + 1 < a → okw s x → x.2.2.2.2.2 = -1 → WXs w kd (f 1) (G p) x (nI (m - j)) →
    ∃ u, f_X5_walk_b39 cx K G P Ks E Z a f C F w xr (nI q) (nI m) (nI p) (nI (m - j)) = some u ∧ u.2.2.2.2.2 = xr ∧ ((runS s P (f 1) (f 2) (G p) kd tl 0 (m - j) j x).2.2.2.2.2 = -1 → u.1 = nI (runS s P (f 1) (f 2) (G p) kd tl 0 (m - j) j x).1 ∧ u.2.1 = f ∧ u.2.2.1 = upd C p (nI (runS s P (f 1) (f 2) (G p) kd tl 0 (m - j) j x).1) ∧ u.2.2.2.1 = upd F p (nI (runS s P (f 1) (f 2) (G p) kd tl 0 (m - j) j x).2.1)) ∧ ((runS s P (f 1) (f 2) (G p) kd tl 0 (m - j) j x).2.2.2.2.2 ≠ -1 → u.1 = nI (runD s P (f 1) (f 2) (G p) kd tl 0 (m - j) j x) ∧ u.2.1 = upd f 5 (f 5 + 1) ∧ u.2.2.1 = upd C p (nI (runD s P (f 1) (f 2) (G p) kd tl 0 (m - j) j x)) ∧ u.2.2.2.1 = upd F p (nI (runS s P (f 1) (f 2) (G p) kd tl 0 (m - j) j x).2.1)) := by
  obtain ⟨hs, he, hv, hc⟩ := id h
  obtain ⟨q1, q2, q3, q4, q5, q6, q7, q8, q9, q10⟩ := hs
  have hp8 : p < 8 := by omega
  intro j
  induction j with
  | zero =>
    intro a w x _ ha hok hx hw
    obtain ⟨k, rfl⟩ : ∃ k, a = k + 1 := ⟨a - 1, by omega⟩
    have hyes : nI m ≤ nI (m - 0) := (nI_leI (by omega) (by omega)).mpr (by omega)
    rw [f_X5_walk_b39, if_pos hyes]
    unfold f_X5_walk_b119
    simp only [if_pos (ix8 hp8).1, (ix8 hp8).2]
    refine ⟨_, rfl, rfl, fun _ => ⟨hw.2.2.2.1, rfl, ?_, ?_⟩, fun z => absurd hx z⟩
    · dsimp only; rw [hw.2.2.2.1]; rfl
    · dsimp only; rw [hw.2.2.2.2.1]; rfl
  | succ j ih =>
    intro a w x hj ha hok hx hw
    obtain ⟨k, rfl⟩ : ∃ k, a = k + 1 := ⟨a - 1, by omega⟩
    have hno : ¬ nI m ≤ nI (m - (j + 1)) := fun z => by have := (nI_leI (by omega) (by omega)).mp z; omega
    have h40 : m - (j + 1) < 40 := by omega
    have e : nI (m - (j + 1)) + (1 : Int32) = nI (m - j) := by rw [nI_1]; congr 1; omega
    obtain ⟨y1, y2⟩ := htl (m - (j + 1)) (by omega)
    obtain ⟨w', a1, a2⟩ := X4_step_eq (P := P) (sign := tl (m - (j + 1))) q2 q4 rfl hkd (by rw [y2]; exact isSg_of y1) hok hw
    have h5 : m - (j + 1) + 1 = m - j := by omega
    have h6 : 0 + (m - (j + 1)) = m - (j + 1) := by omega
    have hrun : runS s P (f 1) (f 2) (G p) kd tl 0 (m - (j + 1)) (j + 1) x = runS s P (f 1) (f 2) (G p) kd tl 0 (m - j) j (stepS s P (f 1) (f 2) (G p) kd x (tl (m - (j + 1))) (nI (m - (j + 1)))) := by
      show runS s P (f 1) (f 2) (G p) kd tl 0 (m - (j + 1) + 1) j (stepS s P (f 1) (f 2) (G p) kd x (tl (m - (j + 1))) (nI (0 + (m - (j + 1))))) = _
      rw [h5, h6]
    have hrd : runD s P (f 1) (f 2) (G p) kd tl 0 (m - (j + 1)) (j + 1) x = if (stepS s P (f 1) (f 2) (G p) kd x (tl (m - (j + 1))) (nI (m - (j + 1)))).2.2.2.2.2 = -1 then runD s P (f 1) (f 2) (G p) kd tl 0 (m - j) j (stepS s P (f 1) (f 2) (G p) kd x (tl (m - (j + 1))) (nI (m - (j + 1)))) else x.1 := by
      show (if (stepS s P (f 1) (f 2) (G p) kd x (tl (m - (j + 1))) (nI (0 + (m - (j + 1))))).2.2.2.2.2 = -1 then runD s P (f 1) (f 2) (G p) kd tl 0 (m - (j + 1) + 1) j (stepS s P (f 1) (f 2) (G p) kd x (tl (m - (j + 1))) (nI (0 + (m - (j + 1))))) else x.1) = _
      rw [h5, h6]
    have hw7 : w 7 = -1 := hw.2.2.2.2.2.2.1.trans hx
    rw [hrun, hrd]
    rw [f_X5_walk_b39, if_neg hno, isFallen_eq, if_pos hw7, Option.bind_some, if_pos rfl, signAt_eq hq h40, ← y2, Option.bind_some, a1, Option.bind_some, isFallen_eq, Option.bind_some]
    unfold f_X5_walk_b113
    rw [a2.2.2.2.2.2.2.1, e]
    rw [e] at a2
    by_cases c : (stepS s P (f 1) (f 2) (G p) kd x (tl (m - (j + 1))) (nI (m - (j + 1)))).2.2.2.2.2 = -1
    · rw [if_pos c, if_pos rfl, if_pos c]
      exact ih k w' _ (by omega) (by omega) (stepS_ok q2 hok) c a2
    · rw [if_neg c, if_neg one_ne0, if_neg c]
      obtain ⟨k2, rfl⟩ : ∃ k2, k = k2 + 1 := ⟨k - 1, by omega⟩
      have hf7 : (upd w' 4 (w 4)) 7 ≠ -1 := by
        rw [upd_ne (by decide), a2.2.2.2.2.2.2.1]; exact c
      rw [walk_stop hp8 hf7, runS_fell c]
      refine ⟨_, rfl, rfl, fun z => absurd z c, fun _ => ⟨?_, rfl, ?_, ?_⟩⟩
      · dsimp only; rw [upd_eq]; exact hw.2.2.2.1
      · dsimp only; rw [upd_eq, hw.2.2.2.1]
      · dsimp only; rw [upd_ne (by decide), a2.2.2.2.2.1]
theorem walk_rel {f f2 P K Wt C F G N : Nat → Int32} {s n p c fc : Nat} (h : IRn s n f P K Wt C F G N) (hp : p < n) (hc : okc s c) (hf : fc < 4) (hf2 : ∀ j, j ≠ 5 → f2 j = f j) : IRel f2 P K Wt (upd C p (nI c)) (upd F p (nI fc)) G (upd (upd (upd N (5 * p + 2) (nI c)) (5 * p + 3) (nI fc)) 95 (f2 5)) := by
  obtain ⟨hs, he, hv, hcc⟩ := h
  obtain ⟨q1, q2, q3, q4, q5, q6, q7, q8, q9, ⟨d, q10, q14, q15⟩, q11, q12, q13⟩ := hs
  have far : ∀ j, 40 ≤ j → j ≠ 95 → upd (upd (upd N (5 * p + 2) (nI c)) (5 * p + 3) (nI fc)) 95 (f2 5) j = N j := fun j h1 h2 => by
    rw [upd_ne h2, upd_ne (by omega), upd_ne (by omega)]
  refine ⟨s, n, ⟨q1, q2, q3, ?_, ?_, ?_, ?_, ⟨?_, ?_⟩, ⟨?_, ?_⟩, ⟨d, q10, ?_, ?_⟩, ?_, ?_, ?_⟩, ?_, ?_, ?_⟩
  · rw [hf2 0 (by decide)]; exact q4
  · rw [far 90 (by decide) (by decide)]; exact q5
  · rw [hf2 7 (by decide)]; exact q6
  · rw [far 89 (by decide) (by decide)]; exact q7
  · rw [far 91 (by decide) (by decide), hf2 1 (by decide)]; exact q8.1
  · rw [hf2 1 (by decide)]; exact q8.2
  · rw [far 92 (by decide) (by decide), hf2 2 (by decide)]; exact q9.1
  · rw [hf2 2 (by decide)]; exact q9.2
  · rw [hf2 3 (by decide)]; exact q14
  · rw [far 93 (by decide) (by decide)]; exact q15
  · rw [far 94 (by decide) (by decide), hf2 4 (by decide)]; exact q11
  · exact upd_eq
  · rw [far 96 (by decide) (by decide), hf2 6 (by decide)]; exact q13
  · exact (he.upd2 (p := p) (x := nI c) (y := nI fc) (by omega)).congr (fun j hj => upd_ne (by omega))
  · intro i hi
    obtain ⟨a, b, c', d', g⟩ := hv i hi
    refine ⟨a, b, ?_, ?_, g⟩
    · by_cases z : i = p
      · rw [z, upd_eq]; exact ⟨c, hc, rfl⟩
      · rw [upd_ne z]; exact c'
    · by_cases z : i = p
      · rw [z, upd_eq]; exact ⟨fc, hf, rfl⟩
      · rw [upd_ne z]; exact d'
  · exact hcc.congr (fun j h1 h2 => far j h1 (by omega))
