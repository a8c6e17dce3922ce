-- ===== one who goes by a telling =====
noncomputable def goesS (s : Nat) (P : Nat → Int32) (left old pl : Int32) (kd c t : Nat) (sg b sign : Int32) : Int32 :=
  if kd = 0 then left else if kd = 1 then old else if kd = 2 then (if t % 2 = 0 then left else 1 - left) else if kd = 3 then pl
  else if kd = 4 then (if pbf s P c 4 = true then 1 - left else left) else (if t = 0 then left else if sg = sign then 1 - b else b)
noncomputable def turnQ (sign b : Int32) : Nat := if sign = 1 then (if b = 1 then 1 else 3) else (if b = 1 then 3 else 1)
/-- the class's walker: slots of its cell; c, f, t turns, sg and b of the last turn, fl where he fell, k signs told -/
noncomputable def WX (w : Nat → Int32) (kd : Nat) (left pl : Int32) (c f t : Nat) (sg b fl : Int32) (k : Int32) : Prop :=
  w 1 = nI kd ∧ w 2 = left ∧ w 3 = pl ∧ w 4 = nI c ∧ w 5 = nI f ∧ w 6 = k ∧ w 7 = fl ∧ w 8 = (if t % 2 = 0 then 0 else 1) ∧ (t = 0 → w 9 = 0) ∧ (t ≠ 0 → w 9 = sg ∧ w 10 = b ∧ (sg = 1 ∨ sg = 2))
theorem X4_goesBy_eq {w o P : Nat → Int32} {s kd c f t : Nat} {left old pl sg b fl k sign : Int32} (hs : s ≤ 7) (h0 : o 0 = nI s) (h2 : o 2 = old) (hkd : kd ≤ 5) (hc : okc s c) (hw : WX w kd left pl c f t sg b fl k) : f_X4_goesBy sign w o P = some (goesS s P left old pl kd c t sg b sign) := by
  obtain ⟨w1, w2, w3, w4, w5, w6, w7, w8, w9, w10⟩ := hw
  unfold f_X4_goesBy f_X4_dances
  rw [w1]
  rcases (show kd = 0 ∨ kd = 1 ∨ kd = 2 ∨ kd = 3 ∨ kd = 4 ∨ kd = 5 by omega) with rfl | rfl | rfl | rfl | rfl | rfl
  · rw [if_neg (by decide), if_neg (by decide), if_neg (by decide), if_neg (by decide), if_neg (by decide), w2]; rfl
  · rw [if_pos (by decide), h2]; rfl
  · rw [if_neg (by decide), if_pos (by decide), w8, w2]
    by_cases q : t % 2 = 0
    · rw [if_pos q, if_pos rfl]
      simp only [goesS, q, if_true]; rfl
    · rw [if_neg q, if_neg (by decide)]
      simp only [goesS, q, if_false]; rfl
  · rw [if_neg (by decide), if_neg (by decide), if_pos (by decide), w3]; rfl
  · rw [if_neg (by decide), if_neg (by decide), if_neg (by decide), if_pos (by decide), w4, beside_X0 hs h0 hc, w2]
    simp only [Option.bind_some]
    by_cases q : pbf s P c 4 = true
    · rw [if_pos q, if_neg (by decide)]
      simp only [goesS, q, if_true]; rfl
    · rw [if_neg q, if_pos rfl]
      simp only [goesS, q, if_false]; rfl
  · rw [if_neg (by decide), if_neg (by decide), if_neg (by decide), if_neg (by decide), if_pos (by decide)]
    by_cases q : t = 0
    · rw [w9 q, if_pos rfl, w2]
      simp only [goesS, q, if_true]; rfl
    · obtain ⟨e9, e10, e11⟩ := w10 q
      rw [e9, e10, if_neg (by rcases e11 with e | e <;> rw [e] <;> decide)]
      by_cases q2 : sg = sign
      · rw [if_pos q2]
        simp only [goesS, q, q2, if_true, if_false]; rfl
      · rw [if_neg q2]
        simp only [goesS, q, q2, if_false]; rfl
set_option maxRecDepth 100000 in
theorem and3_fin : ∀ f, f < 4 → ((nI f + (1 : Int32)) &&& (3 : Int32)) = nI ((f + 1) % 4) ∧ ((nI f + (3 : Int32)) &&& (3 : Int32)) = nI ((f + 3) % 4) := by decide +kernel
set_option maxRecDepth 100000 in
theorem rem4_fin : ∀ f, f < 4 → ((nI f + (1 : Int32)) - (nI f + (1 : Int32)) / (4 : Int32) * (4 : Int32)) = nI ((f + 1) % 4) ∧ ((nI f + (3 : Int32)) - (nI f + (3 : Int32)) / (4 : Int32) * (4 : Int32)) = nI ((f + 3) % 4) := by decide +kernel
theorem X4_goRound_eq {w : Nat → Int32} {kd c f t : Nat} {left pl sg b fl k sign b2 : Int32} (hf : f < 4) (hsign : sign = 1 ∨ sign = 2) (hw : WX w kd left pl c f t sg b fl k) : ∃ w', f_X4_goRound sign b2 w = some w' ∧ WX w' kd left pl c ((f + turnQ sign b2) % 4) (t + 1) sign b2 fl k := by
  obtain ⟨w1, w2, w3, w4, w5, w6, w7, w8, w9, w10⟩ := hw
  have hodd : ∀ (x : Int32) (w' : Nat → Int32), x = (if (t + 1) % 2 = 0 then 0 else 1) → w' = upd (upd (upd (upd w 5 (nI ((f + turnQ sign b2) % 4))) 8 x) 9 sign) 10 b2 → WX w' kd left pl c ((f + turnQ sign b2) % 4) (t + 1) sign b2 fl k := by
    intro x w' hx hw'
    subst hw'
    refine ⟨?_, ?_, ?_, ?_, ?_, ?_, ?_, ?_, ?_, ?_⟩ <;> simp [upd, w1, w2, w3, w4, w5, w6, w7, hx, hsign]
  have hb62 : ∀ z : Int32, z = nI ((f + turnQ sign b2) % 4) → ∃ w', (if ((upd w 5 z) 8) = 0 then (f_X4_goRound_b62 (upd w 5 z) sign b2 (1 : Int32)) else (f_X4_goRound_b62 (upd w 5 z) sign b2 (0 : Int32))) = some w' ∧ WX w' kd left pl c ((f + turnQ sign b2) % 4) (t + 1) sign b2 fl k := by
    intro z hz
    subst hz
    have e8 : (upd w 5 (nI ((f + turnQ sign b2) % 4))) 8 = (if t % 2 = 0 then 0 else 1) := by simp [upd, w8]
    rw [e8]
    unfold f_X4_goRound_b62
    by_cases q : t % 2 = 0
    · rw [if_pos q, if_pos rfl, if_pos (Or.inr rfl)]
      exact ⟨_, rfl, hodd 1 _ (by rw [if_neg (by omega)]) rfl⟩
    · rw [if_neg q, if_neg (by decide), if_pos (Or.inl rfl)]
      exact ⟨_, rfl, hodd 0 _ (by rw [if_pos (by omega)]) rfl⟩
  unfold f_X4_goRound
  rcases hsign with rfl | rfl
  · rw [if_pos rfl]
    unfold f_X4_goRound_b10
    by_cases q : b2 = 1
    · rw [if_pos q]
      unfold f_X4_goRound_b20
      rw [if_pos rfl]
      unfold f_X4_goRound_b28
      rw [if_neg (by decide)]
      unfold f_X4_goRound_b43
      exact hb62 _ (by rw [w5, (and3_fin f hf).1]; simp [turnQ, q])
    · rw [if_neg q]
      unfold f_X4_goRound_b20
      rw [if_neg (by decide)]
      unfold f_X4_goRound_b28
      rw [if_pos rfl]
      unfold f_X4_goRound_b43
      exact hb62 _ (by rw [w5, (and3_fin f hf).2]; simp [turnQ, q])
  · rw [if_neg (by decide)]
    unfold f_X4_goRound_b10
    by_cases q : b2 = 1
    · rw [if_pos q]
      unfold f_X4_goRound_b20
      rw [if_neg (by decide)]
      unfold f_X4_goRound_b28
      rw [if_pos rfl]
      unfold f_X4_goRound_b43
      exact hb62 _ (by rw [w5, (and3_fin f hf).2]; simp [turnQ, q])
    · rw [if_neg q]
      unfold f_X4_goRound_b20
      rw [if_pos rfl]
      unfold f_X4_goRound_b28
      rw [if_neg (by decide)]
      unfold f_X4_goRound_b43
      exact hb62 _ (by rw [w5, (and3_fin f hf).1]; simp [turnQ, q])
/-- a walker's state: cell, faces, turns, the last turn's sign and by what, where he fell -/
noncomputable abbrev WS : Type := Nat × Nat × Nat × Int32 × Int32 × Int32
noncomputable def stepS (s : Nat) (P : Nat → Int32) (left old pl : Int32) (kd : Nat) (w : WS) (sign k : Int32) : WS :=
  if w.2.2.2.2.2 = -1 then
    (if sign = 0 then (match nxt s w.1 w.2.1 with
        | none => w
        | some c' => (c', w.2.1, w.2.2.1, w.2.2.2.1, w.2.2.2.2.1, if P c' = 0 then -1 else k))
      else if sign = 3 then w
      else (w.1, (w.2.1 + turnQ sign (goesS s P left old pl kd w.1 w.2.2.1 w.2.2.2.1 w.2.2.2.2.1 sign)) % 4, w.2.2.1 + 1, sign, goesS s P left old pl kd w.1 w.2.2.1 w.2.2.2.1 w.2.2.2.2.1 sign, w.2.2.2.2.2))
  else w
noncomputable abbrev WXs (w : Nat → Int32) (kd : Nat) (left pl : Int32) (x : WS) (k : Int32) : Prop := WX w kd left pl x.1 x.2.1 x.2.2.1 x.2.2.2.1 x.2.2.2.2.1 x.2.2.2.2.2 k
noncomputable abbrev okw (s : Nat) (x : WS) : Prop := okc s x.1 ∧ x.2.1 < 4
theorem stepS_ok {s : Nat} {P : Nat → Int32} {left old pl : Int32} {kd : Nat} {x : WS} {sign k : Int32} (hs : s ≤ 7) (h : okw s x) : okw s (stepS s P left old pl kd x sign k) := by
  unfold stepS
  by_cases q : x.2.2.2.2.2 = -1
  · rw [if_pos q]
    by_cases q0 : sign = 0
    · rw [if_pos q0]
      cases hx : nxt s x.1 x.2.1 with
      | none => exact h
      | some c' => exact ⟨nxt_ok hs h.1 hx, h.2⟩
    · rw [if_neg q0]
      by_cases q3 : sign = 3
      · rw [if_pos q3]; exact h
      · rw [if_neg q3]; exact ⟨h.1, Nat.mod_lt _ (by decide)⟩
  · rw [if_neg q]; exact h
theorem X4_step_eq {w o P : Nat → Int32} {s kd : Nat} {left old pl k sign : Int32} {x : WS} (hs : s ≤ 7) (h0 : o 0 = nI s) (h2 : o 2 = old) (hkd : kd ≤ 5) (hsg : sign = 0 ∨ sign = 1 ∨ sign = 2 ∨ sign = 3) (hok : okw s x) (hw : WXs w kd left pl x k) : ∃ w', f_X4_step sign w o P = some w' ∧ WXs w' kd left pl (stepS s P left old pl kd x sign k) (k + 1) := by
  have told : ∀ (w : Nat → Int32) (y : WS), WXs w kd left pl y k → ∃ w', f_X4_step_b38 o P w = some w' ∧ WXs w' kd left pl y (k + 1) := by
    intro w y hw
    obtain ⟨w1, w2, w3, w4, w5, w6, w7, w8, w9, w10⟩ := hw
    exact ⟨_, rfl, by refine ⟨?_, ?_, ?_, ?_, ?_, ?_, ?_, ?_, ?_, ?_⟩ <;> simp [upd, w1, w2, w3, w4, w5, w6, w7, w8] <;> assumption⟩
  have hw0 := hw
  obtain ⟨w1, w2, w3, w4, w5, w6, w7, w8, w9, w10⟩ := hw
  unfold f_X4_step f_X4_isFallen
  by_cases q : x.2.2.2.2.2 = -1
  · rw [w7, if_pos q]
    simp only [Option.bind_some, if_true]
    rcases hsg with rfl | rfl | rfl | rfl
    · rw [if_pos rfl]
      unfold f_X4_goOn
      rw [w4, w5]
      cases hx : nxt s x.1 x.2.1 with
      | none =>
        rw [ahead_none hs h0 hok.1 hok.2 hx]
        simp only [Option.bind_some, if_true]
        have e : stepS s P left old pl kd x 0 k = x := by simp [stepS, q, hx]
        rw [e]
        exact told w x hw0
      | some c' =>
        have hc' := nxt_ok hs hok.1 hx
        rw [ahead_some hs h0 hok.1 hok.2 hx]
        simp only [Option.bind_some]
        have hc1 := hc'.1
        rw [if_neg (nI_ne1 (by omega)), hasPond_X0 hs h0 hc']
        simp only [Option.bind_some]
        have e : stepS s P left old pl kd x 0 k = (c', x.2.1, x.2.2.1, x.2.2.2.1, x.2.2.2.2.1, if P c' = 0 then -1 else k) := by simp [stepS, q, hx]
        rw [e]
        by_cases qp : P c' = 0
        · rw [if_pos qp, if_pos qp]
          refine told (upd w 4 (nI c')) _ ?_
          refine ⟨?_, ?_, ?_, ?_, ?_, ?_, ?_, ?_, ?_, ?_⟩ <;> simp [upd, w1, w2, w3, w5, w6, w8, w7, q] <;> assumption
        · rw [if_neg qp, if_neg qp]
          refine told (upd (upd w 4 (nI c')) 7 ((upd w 4 (nI c')) 6)) _ ?_
          refine ⟨?_, ?_, ?_, ?_, ?_, ?_, ?_, ?_, ?_, ?_⟩ <;> simp [upd, w1, w2, w3, w5, w6, w8] <;> assumption
    · rw [if_neg (by decide), if_pos rfl]
      unfold f_X4_step_b28
      rw [X4_goesBy_eq hs h0 h2 hkd hok.1 hw0]
      obtain ⟨w', e1, e2⟩ := X4_goRound_eq (b2 := goesS s P left old pl kd x.1 x.2.2.1 x.2.2.2.1 x.2.2.2.2.1 1) hok.2 (Or.inl rfl) hw0
      simp only [Option.bind_some]
      rw [e1]
      simp only [Option.bind_some]
      have e : stepS s P left old pl kd x 1 k = (x.1, (x.2.1 + turnQ 1 (goesS s P left old pl kd x.1 x.2.2.1 x.2.2.2.1 x.2.2.2.2.1 1)) % 4, x.2.2.1 + 1, 1, goesS s P left old pl kd x.1 x.2.2.1 x.2.2.2.1 x.2.2.2.2.1 1, x.2.2.2.2.2) := by simp [stepS, q]
      rw [e]
      exact told w' _ e2
    · rw [if_neg (by decide), if_neg (by decide), if_pos rfl]
      unfold f_X4_step_b28
      rw [X4_goesBy_eq hs h0 h2 hkd hok.1 hw0]
      obtain ⟨w', e1, e2⟩ := X4_goRound_eq (b2 := goesS s P left old pl kd x.1 x.2.2.1 x.2.2.2.1 x.2.2.2.2.1 2) hok.2 (Or.inr rfl) hw0
      simp only [Option.bind_some]
      rw [e1]
      simp only [Option.bind_some]
      have e : stepS s P left old pl kd x 2 k = (x.1, (x.2.1 + turnQ 2 (goesS s P left old pl kd x.1 x.2.2.1 x.2.2.2.1 x.2.2.2.2.1 2)) % 4, x.2.2.1 + 1, 2, goesS s P left old pl kd x.1 x.2.2.1 x.2.2.2.1 x.2.2.2.2.1 2, x.2.2.2.2.2) := by simp [stepS, q]
      rw [e]
      exact told w' _ e2
    · rw [if_neg (by decide), if_neg (by decide), if_neg (by decide)]
      have e : stepS s P left old pl kd x 3 k = x := by simp [stepS, q]
      rw [e]
      exact told w x hw0
  · rw [w7, if_neg q]
    simp only [Option.bind_some]
    rw [if_neg (by decide)]
    have e : stepS s P left old pl kd x sign k = x := by simp [stepS, q]
    rw [e]
    exact told w x hw0
