-- ===== a whole telling, by both =====
noncomputable def runS (s : Nat) (P : Nat → Int32) (left old pl : Int32) (kd : Nat) (g : Nat → Int32) (b : Nat) : Nat → Nat → WS → WS
  | _, 0, x => x
  | i, j + 1, x => runS s P left old pl kd g b (i + 1) j (stepS s P left old pl kd x (g i) (nI (b + i)))
/-- the cell ahead of the sign by which one falls in -/
noncomputable def runD (s : Nat) (P : Nat → Int32) (left old pl : Int32) (kd : Nat) (g : Nat → Int32) (b : Nat) : Nat → Nat → WS → Nat
  | _, 0, x => x.1
  | i, j + 1, x => if (stepS s P left old pl kd x (g i) (nI (b + i))).2.2.2.2.2 = -1 then runD s P left old pl kd g b (i + 1) j (stepS s P left old pl kd x (g i) (nI (b + i))) else x.1
noncomputable abbrev is4 (x : Int32) : Prop := x = 0 ∨ x = 1 ∨ x = 2 ∨ x = 3
theorem runS_ok {s : Nat} {P : Nat → Int32} {left old pl : Int32} {kd : Nat} {g : Nat → Int32} {b : Nat} (hs : s ≤ 7) : ∀ (j i : Nat) (x : WS), okw s x → okw s (runS s P left old pl kd g b i j x) := by
  intro j
  induction j with
  | zero => intro i x h; exact h
  | succ j ih => intro i x h; exact ih _ _ (stepS_ok hs h)
theorem stepS_t {s : Nat} {P : Nat → Int32} {left old pl : Int32} {kd : Nat} {x : WS} {sign k : Int32} : (stepS s P left old pl kd x sign k).2.2.1 ≤ x.2.2.1 + 1 := by
  unfold stepS
  by_cases q : x.2.2.2.2.2 = -1
  · rw [if_pos q]
    by_cases q0 : sign = 0
    · rw [if_pos q0]
      cases hx : nxt s x.1 x.2.1 with
      | none => exact Nat.le_succ _
      | some c' => exact Nat.le_succ _
    · rw [if_neg q0]
      by_cases q3 : sign = 3
      · rw [if_pos q3]; exact Nat.le_succ _
      · rw [if_neg q3]; exact Nat.le_refl _
  · rw [if_neg q]; exact Nat.le_succ _
theorem stepS_fell {s : Nat} {P : Nat → Int32} {left old pl : Int32} {kd : Nat} {x : WS} {sign k : Int32} (h : x.2.2.2.2.2 ≠ -1) : stepS s P left old pl kd x sign k = x := by
  unfold stepS
  rw [if_neg h]
theorem runS_fell {s : Nat} {P : Nat → Int32} {left old pl : Int32} {kd : Nat} {g : Nat → Int32} {b : Nat} {x : WS} (h : x.2.2.2.2.2 ≠ -1) : ∀ (j i : Nat), runS s P left old pl kd g b i j x = x := by
  intro j
  induction j with
  | zero => intro i; rfl
  | succ j ih =>
    intro i
    show runS s P left old pl kd g b (i + 1) j (stepS s P left old pl kd x (g i) (nI (b + i))) = x
    rw [stepS_fell h]
    exact ih _
theorem followL {ct o P : Nat → Int32} {E : Nat → Int64} {s kd q m b : Nat} {left old pl : Int32} (hs : s ≤ 7) (h0 : o 0 = nI s) (h2 : o 2 = old) (hkd : kd ≤ 5) (hq : q < 8) (hm : m ≤ 40) (hsg : ∀ i, i < m → isSg (E (40 * q + i))) : ∀ (j n : Nat) (w : Nat → Int32) (x : WS), j ≤ m → j < n → okw s x → WXs w kd left pl x (nI (b + (m - j))) → ∃ w', f_X5_follow_b3 ct E o P n w (nI q) (nI m) (nI (m - j)) = some w' ∧ WXs w' kd left pl (runS s P left old pl kd (fun i => (E (40 * q + i)).toInt32) b (m - j) j x) (nI (b + m)) := by
  intro j
  induction j with
  | zero =>
    intro n w x _ hn _ hw
    obtain ⟨k, rfl⟩ : ∃ k, n = k + 1 := ⟨n - 1, by omega⟩
    rw [f_X5_follow_b3, if_pos ((nI_leI (by omega) (by omega)).mpr (by omega))]
    exact ⟨w, rfl, hw⟩
  | succ j ih =>
    intro n w x hj hn hok hw
    obtain ⟨k, rfl⟩ : ∃ k, n = k + 1 := ⟨n - 1, by omega⟩
    rw [f_X5_follow_b3, if_neg (fun z => by have := (nI_leI (by omega) (by omega)).mp z; omega), signAt_eq hq (by omega)]
    simp only [Option.bind_some]
    obtain ⟨w', e1, e2⟩ := X4_step_eq (P := P) hs h0 h2 hkd (isSg_of (hsg (m - (j + 1)) (by omega))) hok hw
    rw [e1]
    simp only [Option.bind_some]
    have e : nI (m - (j + 1)) + (1 : Int32) = nI (m - j) := by rw [nI_1]; congr 1; omega
    have e4 : nI (b + (m - (j + 1))) + (1 : Int32) = nI (b + (m - j)) := by rw [nI_1]; congr 1; omega
    rw [e]
    rw [e4] at e2
    obtain ⟨w2, g1, g2⟩ := ih k w' _ (by omega) (by omega) (stepS_ok hs hok) e2
    refine ⟨w2, g1, ?_⟩
    have e5 : m - (j + 1) + 1 = m - j := by omega
    show WXs w2 kd left pl (runS s P left old pl kd _ b (m - (j + 1) + 1) j _) _
    rw [e5]
    exact g2
theorem keepM.trans {ct wBy wCell wFaces wFell wSign wTurns : Nat → Int32} {i : Nat} {r r2 : R7} (h : keepM ct wBy wCell wFaces wFell wSign wTurns i r) (h2 : keepM r.1 r.2.1 r.2.2.1 r.2.2.2.1 r.2.2.2.2.1 r.2.2.2.2.2.1 r.2.2.2.2.2.2 i r2) : keepM ct wBy wCell wFaces wFell wSign wTurns i r2 := by
  refine ⟨fun j hj => (h2.1 j hj).trans (h.1 j hj), fun j hj => ?_⟩
  obtain ⟨a1, a2, a3, a4, a5, a6⟩ := h.2 j hj
  obtain ⟨b1, b2, b3, b4, b5, b6⟩ := h2.2 j hj
  exact ⟨b1.trans a1, b2.trans a2, b3.trans a3, b4.trans a4, b5.trans a5, b6.trans a6⟩
theorem goL {N P tl : Nat → Int32} {s p kd m : Nat} {left old pl : Int32} (hs : s ≤ 7) (h0 : N 90 = nI s) (hl : N 91 = left) (ho : N 92 = old) (hp : ∀ k, okc s k → N (pt k) = P k ∧ isB (P k)) (hpp : p < 8) (hkd : kd ≤ 5) (hk : N (5 * p) = nI kd) (hpl : N (5 * p + 4) = pl) (hm : m ≤ 40) (hsg : ∀ i, i < m → is4 (tl i)) : ∀ (j n : Nat) (ct wBy wCell wFaces wFell wSign wTurns : Nat → Int32) (x : WS), j ≤ m → j < n → okw s x → x.2.2.1 + j < 2147483647 → WMs wCell wFaces wTurns wSign wBy wFell 0 x →
    ∃ r : R7, f_X6_go_b17 N tl n ct wBy wCell wFaces wFell wSign wTurns (nI p) (nI m) (nI (m - j)) = some r ∧ keepM ct wBy wCell wFaces wFell wSign wTurns 0 r ∧ WMs r.2.2.1 r.2.2.2.1 r.2.2.2.2.2.2 r.2.2.2.2.2.1 r.2.1 r.2.2.2.2.1 0 (runS s P left old pl kd tl 0 (m - j) j x) ∧ (x.2.2.2.2.2 ≠ -1 → r.1 = ct) ∧ ((runS s P left old pl kd tl 0 (m - j) j x).2.2.2.2.2 ≠ -1 → x.2.2.2.2.2 = -1 → r.1 17 = nI (runD s P left old pl kd tl 0 (m - j) j x)) := by
  intro j
  induction j with
  | zero =>
    intro n ct wBy wCell wFaces wFell wSign wTurns x _ hn _ _ hw
    obtain ⟨k, rfl⟩ : ∃ k, n = k + 1 := ⟨n - 1, by omega⟩
    rw [f_X6_go_b17, if_pos ((nI_leI (by omega) (by omega)).mpr (by omega))]
    exact ⟨_, rfl, ⟨fun _ _ => rfl, fun _ _ => ⟨rfl, rfl, rfl, rfl, rfl, rfl⟩⟩, hw, fun _ => rfl, fun a b => absurd b a⟩
  | succ j ih =>
    intro n ct wBy wCell wFaces wFell wSign wTurns x hj hn hok ht hw
    obtain ⟨k, rfl⟩ : ∃ k, n = k + 1 := ⟨n - 1, by omega⟩
    rw [f_X6_go_b17, if_neg (fun z => by have := (nI_leI (by omega) (by omega)).mp z; omega), if_pos (inb_nI (by omega) (by decide)), nI_cl (by omega)]
    obtain ⟨r, e1, e2, e3, e4, e5⟩ := X6_step_eq (ct := ct) (k := nI (m - (j + 1))) hs h0 hl ho hp (show 0 < 2 by decide) hpp hkd hk hpl (hsg (m - (j + 1)) (by omega)) hok (by omega) hw
    rw [show (0 : Int32) = nI 0 from rfl, e1]
    simp only [Option.bind_some]
    have e : nI (m - (j + 1)) + (1 : Int32) = nI (m - j) := by rw [nI_1]; congr 1; omega
    rw [e]
    have hst := stepS_t (s := s) (P := P) (left := left) (old := old) (pl := pl) (kd := kd) (x := x) (sign := tl (m - (j + 1))) (k := nI (m - (j + 1)))
    obtain ⟨r2, g1, g2, g3, g4, g5⟩ := ih k r.1 r.2.1 r.2.2.1 r.2.2.2.1 r.2.2.2.2.1 r.2.2.2.2.2.1 r.2.2.2.2.2.2 _ (by omega) (by omega) (stepS_ok hs hok) (by omega) e3
    have h5 : m - (j + 1) + 1 = m - j := by omega
    have h6 : 0 + (m - (j + 1)) = m - (j + 1) := by omega
    have hrun : runS s P left old pl kd tl 0 (m - (j + 1)) (j + 1) x = runS s P left old pl kd tl 0 (m - j) j (stepS s P left old pl kd x (tl (m - (j + 1))) (nI (m - (j + 1)))) := by
      show runS s P left old pl kd tl 0 (m - (j + 1) + 1) j (stepS s P left old pl kd x (tl (m - (j + 1))) (nI (0 + (m - (j + 1))))) = _
      rw [h5, h6]
    rw [hrun]
    refine ⟨r2, g1, e2.trans g2, g3, fun h => ?_, fun h1 h2 => ?_⟩
    · have hx := stepS_fell (s := s) (P := P) (left := left) (old := old) (pl := pl) (kd := kd) (sign := tl (m - (j + 1))) (k := nI (m - (j + 1))) h
      rw [hx] at g4
      exact (g4 h).trans (e4 h)
    · show r2.1 17 = nI (if (stepS s P left old pl kd x (tl (m - (j + 1))) (nI (0 + (m - (j + 1))))).2.2.2.2.2 = -1 then runD s P left old pl kd tl 0 (m - (j + 1) + 1) j (stepS s P left old pl kd x (tl (m - (j + 1))) (nI (0 + (m - (j + 1))))) else x.1)
      rw [h5, h6]
      by_cases q : (stepS s P left old pl kd x (tl (m - (j + 1))) (nI (m - (j + 1)))).2.2.2.2.2 = -1
      · rw [if_pos q]
        exact g5 h1 q
      · rw [if_neg q, g4 q]
        exact e5 q h2
theorem runS_congr {s : Nat} {P : Nat → Int32} {left old pl : Int32} {kd : Nat} {g g2 : Nat → Int32} {b : Nat} : ∀ (j i : Nat) (x : WS), (∀ q, i ≤ q → q < i + j → g q = g2 q) → runS s P left old pl kd g b i j x = runS s P left old pl kd g2 b i j x := by
  intro j
  induction j with
  | zero => intro i x _; rfl
  | succ j ih =>
    intro i x h
    show runS s P left old pl kd g b (i + 1) j (stepS s P left old pl kd x (g i) (nI (b + i))) = runS s P left old pl kd g2 b (i + 1) j (stepS s P left old pl kd x (g2 i) (nI (b + i)))
    rw [h i (by omega) (by omega)]
    exact ih _ _ (fun q h1 h2 => h q (by omega) (by omega))
noncomputable abbrev x0S (c f : Nat) : WS := (c, f, 0, 0, 0, -1)
theorem start_eq {ct wCell wFaces wTurns wSign wBy wFell : Nat → Int32} {i c f : Nat} (hi : i < 2) : ∃ a b d e, f_X6_start (nI i) (nI c) (nI f) ct wCell wFaces wFell wTurns = some (a, b, d, e) ∧ WMs a b e wSign wBy d i (x0S c f) ∧ (∀ j, j ≠ i → a j = wCell j ∧ b j = wFaces j ∧ d j = wFell j ∧ e j = wTurns j) := by
  have hin : inb (nI i) 2 := inb_nI hi (by decide)
  have hcl : (nI i).toNatClampNeg = i := nI_cl (by omega)
  unfold f_X6_start
  simp only [if_pos hin, hcl]
  refine ⟨_, _, _, _, rfl, ⟨by simp [upd], by simp [upd], by simp [upd]; rfl, by simp [upd], fun h => absurd rfl h⟩, fun j hj => ⟨by simp [upd, hj], by simp [upd, hj], by simp [upd, hj], by simp [upd, hj]⟩⟩
