-- ===== safe: the search by both =====
noncomputable abbrev resB (x : WS) (cl : Int32) : Prop := nI x.1 = cl ∧ x.2.2.2.2.2 = -1
theorem cellOf_res {v : Int32} {s cn : Nat} {x : WS} (hs : s ≤ 7) (hcn : cn < 2147483648) (h : SVr v x) (hok : okw s x) : ∃ y, f_X4_cellOf v = some y ∧ (y = nI cn ↔ resB x (nI cn)) := by
  refine ⟨_, cellOf_eq hs h hok, ?_⟩
  by_cases q : x.2.2.2.2.2 = -1
  · rw [if_pos q]; exact ⟨fun z => ⟨z, q⟩, fun z => z.1⟩
  · rw [if_neg q]; exact ⟨fun z => absurd z.symm (nI_ne1 hcn), fun z => absurd z.2 q⟩
noncomputable abbrev K45 : Type := (Nat → Int32) → (Nat → Int32) → (Nat → Int32) → (Nat → Int32) → (Nat → Int32) → (Nat → Int32) → (Nat → Int32) → (Nat → Int32) → (Nat → Int32) → (Nat → Int32) → Int32 → Int32 → Int32 → Int32 → Int32 → Int32 → Option (Int32 × (Nat → Int32) × (Nat → Int32) × (Nat → Int32) × (Nat → Int32) × (Nat → Int32) × (Nat → Int32) × (Nat → Int32) × (Nat → Int32) × (Nat → Int32) × (Nat → Int32))
theorem safeIn {cm f P K Wt C F G N mr : Nat → Int32} {s n p kd c0 f0 cn L : Nat} {la lb a3 a4 : Int32} (h : IRn s n f P K Wt C F G N) (hp : p < n) (hkd : kd ≤ 5) (hK : K p = nI kd) (hC : C p = nI c0) (hF : F p = nI f0) (hok : okw s (x0S c0 f0)) (hcn : cn < 70) (hla : isB la) (hlb : isB lb) (hc : (a3 = 0 ∧ la = 0 ∧ lb = 1) ∨ (a3 = 1 ∧ la = f 1 ∧ lb = f 1)) (hL : L ≤ 6) (k45 : K45) : ∀ (j a b : Nat) (w1 w2 st1 st2 ct tl wBy wCell wFaces wFell wSign wTurns : Nat → Int32), j ≤ p3 L → j < b → GI w1 kd la (G p) (x0S c0 f0) (off L + (p3 L - j)) → GI w2 kd lb (G p) (x0S c0 f0) (off L + (p3 L - j)) → STI st1 (tre s P la (f 2) (G p) kd (x0S c0 f0)) (off L + (p3 L - j)) → STI st2 (tre s P lb (f 2) (G p) kd (x0S c0 f0)) (off L + (p3 L - j)) → (∀ i, i ≠ 17 → ct i = cm i) →
    (∃ (r0 : Nat) (u1 u2 u3 u4 ct' tl' b1 b2 b3 b4 b5 b6 : Nat → Int32), r0 < p3 L ∧ f_X2_find_b36 f C F K G P (a + j) w1 st1 w2 st2 (nI cn) (nI (off L + (p3 L - j))) = some (nI (off L + r0), u1, u2, u3, u4) ∧ f_X6_safe_b55 k45 b ct N mr tl wBy wCell wFaces wFell wSign wTurns (nI p) (nI cn) a3 a4 (nI (p3 L)) (nI L) (nI (p3 L - j)) = f_X6_safe_b113 ct' N mr tl' b1 b2 b3 b4 b5 b6 a4 (nI L) ∧ (∀ q, q < L → tl' q = dg L r0 q) ∧ (∀ i, i ≠ 17 → ct' i = cm i)) ∨
    (∃ (u1 u2 u3 u4 ct' tl' b1 b2 b3 b4 b5 b6 : Nat → Int32), f_X2_find_b36 f C F K G P (a + j) w1 st1 w2 st2 (nI cn) (nI (off L + (p3 L - j))) = f_X2_find_b36 f C F K G P a u1 u2 u3 u4 (nI cn) (nI (off (L + 1))) ∧ f_X6_safe_b55 k45 b ct N mr tl wBy wCell wFaces wFell wSign wTurns (nI p) (nI cn) a3 a4 (nI (p3 L)) (nI L) (nI (p3 L - j)) = k45 ct' N mr tl' b1 b2 b3 b4 b5 b6 (nI p) (nI cn) a3 a4 (nI (p3 (L + 1))) (nI (L + 1)) ∧ GI u1 kd la (G p) (x0S c0 f0) (off (L + 1)) ∧ GI u3 kd lb (G p) (x0S c0 f0) (off (L + 1)) ∧ STI u2 (tre s P la (f 2) (G p) kd (x0S c0 f0)) (off (L + 1)) ∧ STI u4 (tre s P lb (f 2) (G p) kd (x0S c0 f0)) (off (L + 1)) ∧ (∀ i, i ≠ 17 → ct' i = cm i)) := by
  obtain ⟨q1, q2, q3, q4, q5, q6, q7, ⟨q8, q8b⟩, q9⟩ := h.1
  have hg : isB (G p) := (h.2.2.1 p hp).2.2.2.2
  have h7 := off_7 hL
  intro j
  induction j with
  | zero =>
    intro a b w1 w2 st1 st2 ct tl wBy wCell wFaces wFell wSign wTurns _ hb hw1 hw2 hs1 hs2 hct
    obtain ⟨k, rfl⟩ : ∃ k, b = k + 1 := ⟨b - 1, by omega⟩
    right
    rw [Nat.sub_zero] at hw1 hw2 hs1 hs2 ⊢
    rw [← off_p3] at hw1 hw2 hs1 hs2 ⊢
    refine ⟨w1, st1, w2, st2, ct, tl, wBy, wCell, wFaces, wFell, wSign, wTurns, rfl, ?_, hw1, hw2, hs1, hs2, hct⟩
    have e3 : nI (p3 L) * (3 : Int32) = nI (p3 (L + 1)) := by
      rw [show (3 : Int32) = nI 3 from rfl, pk_mul]
      congr 1
      exact Nat.mul_comm _ _
    rw [f_X6_safe_b55, if_pos (Int32.le_refl _), e3, nI_1]
  | succ j ih =>
    intro a b w1 w2 st1 st2 ct tl wBy wCell wFaces wFell wSign wTurns hj hb hw1 hw2 hs1 hs2 hct
    obtain ⟨k, rfl⟩ : ∃ k, b = k + 1 := ⟨b - 1, by omega⟩
    obtain ⟨r, hr⟩ : ∃ r, r = p3 L - (j + 1) := ⟨_, rfl⟩
    have hr1 : p3 L - j = r + 1 := by omega
    have hrL : r < p3 L := by omega
    rw [← hr] at hw1 hw2 hs1 hs2 ⊢
    rw [hr1] at ih
    obtain ⟨w1', v1, g1, g2, g3, g4⟩ := grow_eq h hkd hla hg hok (fun z => absurd rfl z) hL hrL hw1 hs1
    obtain ⟨w2', v2, g5, g6, g7, g8⟩ := grow_eq h hkd hlb hg hok (fun z => absurd rfl z) hL hrL hw2 hs2
    have t1 := tre_ok (P := P) (left := la) (old := f 2) (pl := G p) (kd := kd) q2 hok L r
    have t2 := tre_ok (P := P) (left := lb) (old := f 2) (pl := G p) (kd := kd) q2 hok L r
    obtain ⟨y1, c1, c2⟩ := cellOf_res (cn := cn) q2 (by omega) g4 t1
    obtain ⟨y2, c3, c4⟩ := cellOf_res (cn := cn) q2 (by omega) g8 t2
    have hi : off L + r < 1093 := by omega
    have e1 : nI (off L + r) + (1 : Int32) = nI (off L + (r + 1)) := by rw [nI_1]; rfl
    have e2 : nI r + (1 : Int32) = nI (r + 1) := nI_1 r
    obtain ⟨tl', s1, s2⟩ := spell_eq (ct := ct) (tl := tl) hL (show r < 2147483648 by omega)
    obtain ⟨R, b1, b2⟩ := brings_eq (ct := ct) (cl := nI cn) (lf := N 91) (wBy := wBy) (wCell := wCell) (wFaces := wFaces) (wFell := wFell) (wSign := wSign) (wTurns := wTurns) h hp hkd hK hC hF hok hL s2
    obtain ⟨R2, b3, b4⟩ := brings_eq (ct := R.1) (cl := nI cn) (lf := 1 - N 91) (wBy := R.2.1) (wCell := R.2.2.1) (wFaces := R.2.2.2.1) (wFell := R.2.2.2.2.1) (wSign := R.2.2.2.2.2.1) (wTurns := R.2.2.2.2.2.2) h hp hkd hK hC hF hok hL s2
    have hct1 : ∀ i, i ≠ 17 → R.1 i = cm i := fun i hi => (b2 i hi).trans (hct i hi)
    have hct2 : ∀ i, i ≠ 17 → R2.1 i = cm i := fun i hi => (b4 i hi).trans (hct1 i hi)
    have hX : f_X2_find_b36 f C F K G P (a + (j + 1)) w1 st1 w2 st2 (nI cn) (nI (off L + r)) = if resB (tre s P la (f 2) (G p) kd (x0S c0 f0) L r) (nI cn) ∧ resB (tre s P lb (f 2) (G p) kd (x0S c0 f0) L r) (nI cn) then some (nI (off L + r), w1', upd st1 (off L + r) v1, w2', upd st2 (off L + r) v2) else f_X2_find_b36 f C F K G P (a + j) w1' (upd st1 (off L + r) v1) w2' (upd st2 (off L + r) v2) (nI cn) (nI (off L + (r + 1))) := by
      rw [show a + (j + 1) = (a + j) + 1 from rfl, f_X2_find_b36, if_neg (fun z => by have := (nI_leI (a := 1093) (by omega) (by omega)).mp z; omega), g1, ob, g5, ob]
      simp only [if_pos (inb_nI hi (show 1093 ≤ 2147483648 by decide)), nI_cl (show off L + r < 2147483648 by omega), upd_eq, c1, c3, ob, f_X2_find_b103, e1]
      by_cases d1 : y1 = nI cn
      · rw [if_pos d1]
        by_cases d2 : y2 = nI cn
        · rw [if_pos d2, if_pos ⟨c2.mp d1, c4.mp d2⟩]
        · rw [if_neg d2, if_neg (fun z => d2 (c4.mpr z.2))]
      · rw [if_neg d1, if_neg (fun z => d1 (c2.mpr z.1))]
    have hM : f_X6_safe_b55 k45 (k + 1) ct N mr tl wBy wCell wFaces wFell wSign wTurns (nI p) (nI cn) a3 a4 (nI (p3 L)) (nI L) (nI r) = if resB (tre s P la (f 2) (G p) kd (x0S c0 f0) L r) (nI cn) ∧ resB (tre s P lb (f 2) (G p) kd (x0S c0 f0) L r) (nI cn) then (if a3 = 1 then f_X6_safe_b113 R.1 N mr tl' R.2.1 R.2.2.1 R.2.2.2.1 R.2.2.2.2.1 R.2.2.2.2.2.1 R.2.2.2.2.2.2 a4 (nI L) else f_X6_safe_b113 R2.1 N mr tl' R2.2.1 R2.2.2.1 R2.2.2.2.1 R2.2.2.2.2.1 R2.2.2.2.2.2.1 R2.2.2.2.2.2.2 a4 (nI L)) else (if resB (tre s P (N 91) (f 2) (G p) kd (x0S c0 f0) L r) (nI cn) then f_X6_safe_b55 k45 k R2.1 N mr tl' R2.2.1 R2.2.2.1 R2.2.2.2.1 R2.2.2.2.2.1 R2.2.2.2.2.2.1 R2.2.2.2.2.2.2 (nI p) (nI cn) a3 a4 (nI (p3 L)) (nI L) (nI (r + 1)) else f_X6_safe_b55 k45 k R.1 N mr tl' R.2.1 R.2.2.1 R.2.2.2.1 R.2.2.2.2.1 R.2.2.2.2.2.1 R.2.2.2.2.2.2 (nI p) (nI cn) a3 a4 (nI (p3 L)) (nI L) (nI (r + 1))) := by
      rw [f_X6_safe_b55, if_neg (fun z => by have := (nI_leI (by omega) (by omega)).mp z; omega), s1, ob, b1, ob]
      dsimp only
      rw [b3, ob]
      simp only [f_X6_safe_b148, e2]
      by_cases d0 : resB (tre s P (N 91) (f 2) (G p) kd (x0S c0 f0) L r) (nI cn)
      · rw [if_pos d0, if_neg one_ne0, if_pos d0]
        rcases hc with ⟨z1, z2, z3⟩ | ⟨z1, z2, z3⟩
        · rw [if_neg (show ¬ a3 = 1 by rw [z1]; decide), if_neg (show ¬ a3 = 1 by rw [z1]; decide)]
          have hiff : resB (tre s P (1 - N 91) (f 2) (G p) kd (x0S c0 f0) L r) (nI cn) ↔ (resB (tre s P la (f 2) (G p) kd (x0S c0 f0) L r) (nI cn) ∧ resB (tre s P lb (f 2) (G p) kd (x0S c0 f0) L r) (nI cn)) := by
            rw [q8] at d0 ⊢
            rw [z2, z3]
            rcases q8b with y | y
            · rw [y] at d0 ⊢
              exact ⟨fun w => ⟨d0, w⟩, fun w => w.2⟩
            · rw [y] at d0 ⊢
              exact ⟨fun w => ⟨w, d0⟩, fun w => w.1⟩
          by_cases d1 : resB (tre s P (1 - N 91) (f 2) (G p) kd (x0S c0 f0) L r) (nI cn)
          · rw [if_pos d1, if_neg one_ne0, if_pos (hiff.mp d1)]
          · rw [if_neg d1, if_pos rfl, if_neg (fun w => d1 (hiff.mpr w))]
        · rw [if_pos z1, if_pos z1, if_pos]
          rw [z2, z3, ← q8]
          exact ⟨d0, d0⟩
      · rw [if_neg d0, if_pos rfl, if_neg d0, if_neg]
        intro w
        apply d0
        rw [q8]
        rcases hc with ⟨z1, z2, z3⟩ | ⟨z1, z2, z3⟩
        · rw [z2, z3] at w
          rcases q8b with y | y
          · rw [y]; exact w.1
          · rw [y]; exact w.2
        · rw [z2] at w; exact w.1
    rw [hX, hM]
    by_cases d : resB (tre s P la (f 2) (G p) kd (x0S c0 f0) L r) (nI cn) ∧ resB (tre s P lb (f 2) (G p) kd (x0S c0 f0) L r) (nI cn)
    · left
      rw [if_pos d, if_pos d]
      by_cases z : a3 = 1
      · rw [if_pos z]
        exact ⟨r, _, _, _, _, _, _, _, _, _, _, _, _, hrL, rfl, rfl, s2, hct1⟩
      · rw [if_neg z]
        exact ⟨r, _, _, _, _, _, _, _, _, _, _, _, _, hrL, rfl, rfl, s2, hct2⟩
    · rw [if_neg d, if_neg d]
      by_cases d0 : resB (tre s P (N 91) (f 2) (G p) kd (x0S c0 f0) L r) (nI cn)
      · rw [if_pos d0]
        exact ih a k w1' w2' _ _ _ _ _ _ _ _ _ _ (by omega) (by omega) g2 g6 g3 g7 hct2
      · rw [if_neg d0]
        exact ih a k w1' w2' _ _ _ _ _ _ _ _ _ _ (by omega) (by omega) g2 g6 g3 g7 hct1
theorem safeOut {cm f P K Wt C F G N mr : Nat → Int32} {s n p kd c0 f0 cn : Nat} {la lb a3 a4 : Int32} (h : IRn s n f P K Wt C F G N) (hp : p < n) (hkd : kd ≤ 5) (hK : K p = nI kd) (hC : C p = nI c0) (hF : F p = nI f0) (hok : okw s (x0S c0 f0)) (hcn : cn < 70) (hla : isB la) (hlb : isB lb) (hc : (a3 = 0 ∧ la = 0 ∧ lb = 1) ∨ (a3 = 1 ∧ la = f 1 ∧ lb = f 1)) : ∀ (d L a b : Nat) (w1 w2 st1 st2 ct tl wBy wCell wFaces wFell wSign wTurns : Nat → Int32), L + d = 7 → d < b → GI w1 kd la (G p) (x0S c0 f0) (off L) → GI w2 kd lb (G p) (x0S c0 f0) (off L) → STI st1 (tre s P la (f 2) (G p) kd (x0S c0 f0)) (off L) → STI st2 (tre s P lb (f 2) (G p) kd (x0S c0 f0)) (off L) → (∀ i, i ≠ 17 → ct i = cm i) →
    (∃ (L0 r0 : Nat) (u1 u2 u3 u4 ct' tl' b1 b2 b3 b4 b5 b6 : Nat → Int32), L0 ≤ 6 ∧ r0 < p3 L0 ∧ f_X2_find_b36 f C F K G P (a + 1 + (1093 - off L)) w1 st1 w2 st2 (nI cn) (nI (off L)) = some (nI (off L0 + r0), u1, u2, u3, u4) ∧ f_X6_safe_b45 b ct N mr tl wBy wCell wFaces wFell wSign wTurns (nI p) (nI cn) a3 a4 (nI (p3 L)) (nI L) = f_X6_safe_b113 ct' N mr tl' b1 b2 b3 b4 b5 b6 a4 (nI L0) ∧ (∀ q, q < L0 → tl' q = dg L0 r0 q) ∧ (∀ i, i ≠ 17 → ct' i = cm i)) ∨
    (∃ (u1 u2 u3 u4 ct' tl' b1 b2 b3 b4 b5 b6 : Nat → Int32), f_X2_find_b36 f C F K G P (a + 1 + (1093 - off L)) w1 st1 w2 st2 (nI cn) (nI (off L)) = some (-1, u1, u2, u3, u4) ∧ f_X6_safe_b45 b ct N mr tl wBy wCell wFaces wFell wSign wTurns (nI p) (nI cn) a3 a4 (nI (p3 L)) (nI L) = (if a4 = -1 then some (-1, ct', N, mr, tl', b1, b2, b3, b4, b5, b6) else ((f_X6_refuse (-5) ct' mr).bind fun v1 => some (v1.1, ct', N, v1.2, tl', b1, b2, b3, b4, b5, b6))) ∧ (∀ i, i ≠ 17 → ct' i = cm i)) := by
  intro d
  induction d with
  | zero =>
    intro L a b w1 w2 st1 st2 ct tl wBy wCell wFaces wFell wSign wTurns hL hb hw1 hw2 hs1 hs2 hct
    obtain ⟨k, rfl⟩ : ∃ k, b = k + 1 := ⟨b - 1, by omega⟩
    have hL7 : L = 7 := by omega
    subst hL7
    right
    rw [show off 7 = 1093 from rfl, show a + 1 + (1093 - 1093) = a + 1 from rfl, f_X2_find_b36, if_pos (by decide), f_X6_safe_b45, if_pos (by decide)]
    exact ⟨w1, st1, w2, st2, ct, tl, wBy, wCell, wFaces, wFell, wSign, wTurns, rfl, rfl, hct⟩
  | succ d ih =>
    intro L a b w1 w2 st1 st2 ct tl wBy wCell wFaces wFell wSign wTurns hL hb hw1 hw2 hs1 hs2 hct
    obtain ⟨k, rfl⟩ : ∃ k, b = k + 1 := ⟨b - 1, by omega⟩
    obtain ⟨kk, hk⟩ := FU_s
    have hL6 : L ≤ 6 := by omega
    have h7 := off_7 hL6
    have h8 := off_p3 L
    have h9 := p3_pos L
    have ef : a + 1 + (1093 - off L) = (a + 1 + (1093 - off (L + 1))) + p3 L := by omega
    rw [ef, f_X6_safe_b45, if_neg (fun z => by have := (nI_ltI (a := 6) (by omega) (by omega)).mp z; omega)]
    have hz : off L + (p3 L - p3 L) = off L := by omega
    rcases safeIn (cm := cm) (mr := mr) (a4 := a4) h hp hkd hK hC hF hok hcn hla hlb hc hL6 (f_X6_safe_b45 k) (p3 L) (a + 1 + (1093 - off (L + 1))) FU w1 w2 st1 st2 ct tl wBy wCell wFaces wFell wSign wTurns (Nat.le_refl _) (by omega) (by rw [hz]; exact hw1) (by rw [hz]; exact hw2) (by rw [hz]; exact hs1) (by rw [hz]; exact hs2) hct with ⟨r0, u1, u2, u3, u4, ct', tl', b1, b2, b3, b4, b5, b6, i1, i2, i3, i4, i5⟩ | ⟨u1, u2, u3, u4, ct', tl', b1, b2, b3, b4, b5, b6, i1, i2, i3, i4, i5, i6, i7⟩
    · left
      rw [hz] at i2
      rw [Nat.sub_self] at i3
      exact ⟨L, r0, u1, u2, u3, u4, ct', tl', b1, b2, b3, b4, b5, b6, hL6, i1, i2, i3, i4, i5⟩
    · rw [hz] at i1
      rw [Nat.sub_self] at i2
      rw [i1, show f_X6_safe_b55 (f_X6_safe_b45 k) FU ct N mr tl wBy wCell wFaces wFell wSign wTurns (nI p) (nI cn) a3 a4 (nI (p3 L)) (nI L) 0 = _ from i2]
      exact ih (L + 1) a k u1 u3 u2 u4 ct' tl' b1 b2 b3 b4 b5 b6 (by omega) (by omega) i3 i4 i5 i6 i7
theorem nodes_eq : ∀ L, L ≤ 6 → sNODES L = nI (off (L + 1)) := by
  intro L hL
  rcases (show L = 0 ∨ L = 1 ∨ L = 2 ∨ L = 3 ∨ L = 4 ∨ L = 5 ∨ L = 6 by omega) with rfl | rfl | rfl | rfl | rfl | rfl | rfl <;> decide
theorem signsToL {L r : Nat} (hL : L ≤ 6) (hr : r < p3 L) : ∀ (j a : Nat), j ≤ L → j < a → f_X2_signsTo_b2 a (nI (off L + r)) (nI (L - j)) = some (nI L) := by
  have h7 := off_7 hL
  intro j
  induction j with
  | zero =>
    intro a _ ha
    obtain ⟨k, rfl⟩ : ∃ k, a = k + 1 := ⟨a - 1, by omega⟩
    rw [f_X2_signsTo_b2, Nat.sub_zero]
    by_cases c : (6 : Int32) ≤ nI L
    · rw [if_pos c]
    · rw [if_neg c, if_pos (inb_nI (show L < 7 by omega) (by decide)), nI_cl (by omega), nodes_eq L hL, if_pos]
      have h8 := off_p3 L
      exact (nI_ltI (by omega) (by omega)).mpr (by omega)
  | succ j ih =>
    intro a hj ha
    obtain ⟨k, rfl⟩ : ∃ k, a = k + 1 := ⟨a - 1, by omega⟩
    have h8 := off_mono (show L - (j + 1) + 1 ≤ L by omega)
    have e : nI (L - (j + 1)) + (1 : Int32) = nI (L - j) := by rw [nI_1]; congr 1; omega
    rw [f_X2_signsTo_b2, if_neg (fun z => by have := (nI_leI (a := 6) (by omega) (by omega)).mp z; omega), if_pos (inb_nI (show L - (j + 1) < 7 by omega) (by decide)), nI_cl (by omega), nodes_eq _ (by omega), if_neg (fun z => by have := (nI_ltI (by omega) (by omega)).mp z; omega), e]
    exact ih k (by omega) (by omega)
theorem signsTo_eq {L r : Nat} (hL : L ≤ 6) (hr : r < p3 L) : f_X2_signsTo (nI (off L + r)) = some (nI L) := by
  obtain ⟨k, hk⟩ := FU_s
  have a := signsToL hL hr L FU (Nat.le_refl _) (by omega)
  rw [Nat.sub_self] at a
  exact a
theorem signOfL : ∀ (L a r q l4 : Nat), L ≤ 6 → r < p3 L → q < L → L < a → l4 + L ≤ 100 → f_X2_signOf_b5 a (nI (l4 + (L - 1 - q))) (nI (off L + r)) (nI l4) = some (dg L r q) := by
  intro L
  induction L with
  | zero => intro a r q l4 _ _ hq; omega
  | succ L ih =>
    intro a r q l4 hL hr hq ha hl
    obtain ⟨k, rfl⟩ : ∃ k, a = k + 1 := ⟨a - 1, by omega⟩
    have h7 := off_7 hL
    obtain ⟨e1, e2, e3⟩ := par_eq (L := L) (r := r)
    have d1 : nI (off (L + 1) + r) - 1 = nI (off (L + 1) + r - 1) := pk_sub e3
    have d2 : nI (off (L + 1) + r - 1) / (3 : Int32) = nI (off L + r / 3) := by
      rw [← e1]; exact pk_div (d := 3) (by omega) (by decide) (by decide)
    have d3 : nI (off (L + 1) + r - 1) - nI (off L + r / 3) * (3 : Int32) = nI (r % 3) := by
      rw [← d2, ← e2]; exact pk_rem (d := 3) (by omega) (by decide) (by decide)
    have hpos : ¬ nI (off (L + 1) + r) ≤ 0 := nI_nle (by omega) (by omega)
    rw [f_X2_signOf_b5]
    unfold dg
    by_cases c : q = L
    · rw [if_pos ((nI_leI (by omega) (by omega)).mpr (by omega)), if_pos c]
      unfold f_X2_signOf_b27
      rw [if_neg hpos, d1, d2, d3]
    · rw [if_neg (fun z => by have := (nI_leI (by omega) (by omega)).mp z; omega), if_neg hpos, d1, d2, nI_1, if_neg c]
      have h9 := ih k (r / 3) q (l4 + 1) (by omega) (p3_div hr) (by omega) (by omega) (by omega)
      rw [show l4 + 1 + (L - 1 - q) = l4 + (L + 1 - 1 - q) by omega] at h9
      exact h9
