-- ===== ponds =====
theorem case_ponds {cx cm f P K Wt C F G N w xr mr Ks Z hh z tl wBy wCell wFaces wFell wSign wTurns : Nat → Int32} {E e : Nat → Int64} (h : IRel f P K Wt C F G N) (hr : RRef xr mr) (hsh : ∀ n, N 89 = nI n → n ≤ 8 → RSh Ks Z hh z E e n) (a1 a2 a3 : Int32) :
    ∃ u v, f_X5_ponds a1 a2 a3 cx f C F K G P w xr Ks E Z = some u ∧ f_X6_ponds a1 a2 a3 cm e hh N mr z tl wBy wCell wFaces wFell wSign wTurns = some v ∧ u.1 = v.1 ∧ RRef u.2.2 v.2.2.2.1 ∧ v.2.2.1 = N ∧ (∀ j, j ≠ 17 → v.2.1 j = cm j) := by
  obtain ⟨s, n, hn⟩ := h
  obtain ⟨q1, q2, q3, q4, q5, q6, q7, q8⟩ := hn.1
  have hS := hsh n q7 q3
  have key : ∀ wl : Int32, isB wl → (wl = 1 → ∃ p, p < n ∧ a3 = nI p) → f_X0_isOne a3 f = some wl → f_X6_isPerson a3 cm N = some wl → ∃ u v, f_X5_ponds a1 a2 a3 cx f C F K G P w xr Ks E Z = some u ∧ f_X6_ponds a1 a2 a3 cm e hh N mr z tl wBy wCell wFaces wFell wSign wTurns = some v ∧ u.1 = v.1 ∧ RRef u.2.2 v.2.2.2.1 ∧ v.2.2.1 = N ∧ (∀ j, j ≠ 17 → v.2.1 j = cm j) := by
    intro wl hwl hper i1 i2
    unfold f_X5_ponds f_X6_ponds
    rw [i1, i2]
    simp only [Option.bind_some]
    rcases tell_both (ct := cx) (ct2 := cm) (tl := tl) hS q3 a1 a2 wl hwl with ⟨code, tl', c1, c2, c3⟩ | ⟨q, m, tl', c1, c2, rfl, rfl, rfl, c3, c4, c5⟩
    · obtain ⟨u, v, r1, r2, r3, r4, r5⟩ := refT (cx := cx) (cm := cm) c1 hr
      rw [c2, c3]
      simp only [Option.bind_some]
      rw [if_neg r4, if_neg r5, r1, r2]
      exact ⟨_, _, rfl, rfl, rfl, r3, rfl, fun _ _ => rfl⟩
    · obtain ⟨p, hp, rfl⟩ := hper rfl
      obtain ⟨k, hk⟩ := FU_s
      rw [c3, c4]
      simp only [Option.bind_some, if_true]
      rw [if_pos (show (0 : Int32) ≤ 1 by decide), (mkind (show p < 8 by omega)).2.2.1, Option.bind_some]
      obtain ⟨u, v, g1, g2, g3, g4, g5, g6, g7⟩ := pondsRun (cx := cx) (cm := cm) (xr := xr) (mr := mr) (Ks := Ks) (Z := Z) (hh := hh) (z := z) (e := e) hn hp c1 c2 c5 FU (by omega) w wBy wCell wFaces wFell wSign wTurns
      exact ⟨u, v, g1, g2, g3, by rw [g4, g5]; exact hr, g6, g7⟩
  rcases isOne_both (ct := cm) q3 q6 q7 a3 with ⟨j, hj, hja, i1, i2⟩ | ⟨i1, i2⟩
  · exact key 1 (Or.inr rfl) (fun _ => ⟨j, hj, hja⟩) i1 i2
  · exact key 0 (Or.inl rfl) (fun z => absurd z (by decide)) i1 i2
