-- ===== walk, the case =====
theorem case_walk {cx cm f P K Wt C F G N w xr mr Ks Z hh z tl wBy wCell wFaces wFell wSign wTurns : Nat → Int32} {E e : Nat → Int64} (h : IRel f P K Wt C F G N) (hr : RRef xr mr) (hsh : ∀ n, N 89 = nI n → n ≤ 8 → RSh Ks Z hh z E e n) (a1 a2 a3 : Int32) :
    ∃ u v, f_X5_walk a1 a2 a3 cx f C F K G P w xr Ks E Z = some u ∧ f_X6_walk a1 a2 a3 cm e hh N mr z tl wBy wCell wFaces wFell wSign wTurns = some v ∧ u.1 = v.1 ∧ IRel u.2.1 P K Wt u.2.2.1 u.2.2.2.1 G v.2.2.1 ∧ RRef u.2.2.2.2.2 v.2.2.2.1 ∧ v.2.2.1 89 = N 89 ∧ (∀ j, j ≠ 17 → v.2.1 j = cm j) := by
  have h0 := h
  obtain ⟨s, n, hn⟩ := h
  obtain ⟨q1, q2, q3, q4, q5, q6, q7, q8⟩ := hn.1
  have hS := hsh n q7 q3
  have key : ∀ wl : Int32, isB wl → (wl = 1 → ∃ p, p < n ∧ a3 = nI p) → f_X0_isOne a3 f = some wl → f_X6_isPerson a3 cm N = some wl → ∃ u v, f_X5_walk a1 a2 a3 cx f C F K G P w xr Ks E Z = some u ∧ f_X6_walk a1 a2 a3 cm e hh N mr z tl wBy wCell wFaces wFell wSign wTurns = some v ∧ u.1 = v.1 ∧ IRel u.2.1 P K Wt u.2.2.1 u.2.2.2.1 G v.2.2.1 ∧ RRef u.2.2.2.2.2 v.2.2.2.1 ∧ v.2.2.1 89 = N 89 ∧ (∀ j, j ≠ 17 → v.2.1 j = cm j) := by
    intro wl hwl hper i1 i2
    unfold f_X5_walk f_X6_walk
    rw [i1, i2, Option.bind_some, Option.bind_some]
    rcases tell_both (ct := cx) (ct2 := cm) (tl := tl) hS q3 a1 a2 wl hwl with ⟨code, tl', c1, c2, c3⟩ | ⟨q, m, tl', c1, c2, rfl, rfl, rfl, c3, c4, c5⟩
    · obtain ⟨u, v, r1, r2, r3, r4, r5⟩ := refT (cx := cx) (cm := cm) c1 hr
      rw [c2, c3, Option.bind_some, Option.bind_some]
      dsimp only
      rw [if_neg r4, if_neg r5, r1, r2, Option.bind_some, Option.bind_some]
      exact ⟨_, _, rfl, rfl, rfl, h0, r3, rfl, fun _ _ => rfl⟩
    · obtain ⟨p, hp, rfl⟩ := hper rfl
      obtain ⟨k, hk⟩ := FU_s
      obtain ⟨hs, he, hv, hc⟩ := id hn
      have hp8 : p < 8 := by omega
      obtain ⟨e1, e2, e3, e4, e5⟩ := he p hp8
      obtain ⟨w1, kd, c, fc, b1, b2, b3, b4, b5, b6, b7⟩ := begin_eq (w := w) q3 q6 hv hp
      obtain ⟨w2, r, x, t1, t2, t3, t4, t5, t6, t7, t8⟩ := tel_both (ct := cx) (cm := cm) (P := P) (wBy := wBy) (wCell := wCell) (wFaces := wFaces) (wFell := wFell) (wSign := wSign) (wTurns := wTurns) q2 q4 rfl b3 b4 b2 c1 c2 c5 q5 hs.2.2.2.2.2.2.2.1.1 hs.2.2.2.2.2.2.2.2.1.1 (fun k hk => hc.ok q2 hk) hp8 (e1.trans b5) (e3.trans b6) (e4.trans b7) e5
      obtain ⟨u, g1, g2, g3, g4⟩ := walkL (cx := cx) (xr := xr) (Ks := Ks) (Z := Z) hn hp b3 c1 c2 c5 m FU w1 (x0S c fc) (Nat.le_refl _) (by omega) b4 rfl (by rw [Nat.sub_self]; exact b2)
      rw [Nat.sub_self] at g1 g3 g4
      have hx2 := ixN (p := p) (q := 2) hp8 (by decide)
      have hx3 := ixN (p := p) (q := 3) hp8 (by decide)
      have hx21 : (5 : Int32) * nI p + 2 = nI (5 * p + 2) := hx2.1
      have hx31 : (5 : Int32) * nI p + 3 = nI (5 * p + 3) := hx3.1
      have h95 : inb (95 : Int32) 97 := by decide
      have h95c : (95 : Int32).toNatClampNeg = 95 := by decide
      have n95 : ∀ y1 y2 : Int32, upd (upd N (5 * p + 2) y1) (5 * p + 3) y2 95 = f 5 := fun y1 y2 => by
        rw [upd_ne (by omega), upd_ne (by omega)]
        exact hs.2.2.2.2.2.2.2.2.2.2.2.1
      rw [c3, c4, Option.bind_some, Option.bind_some]
      dsimp only
      rw [if_pos rfl, if_pos (show (0 : Int32) ≤ 1 by decide), b1, t2, Option.bind_some, Option.bind_some, show (0 : Int32) = nI 0 from rfl, g1]
      rw [t5.2.2.2.1]
      rw [← t7] at g3 g4
      have tail : ∀ (cc : Nat) (f2 : Nat → Int32) (dlt : Int32), (∀ j, j ≠ 5 → f2 j = f j) → f2 5 = f 5 + dlt → okc s cc → u.1 = nI cc → u.2.1 = f2 → u.2.2.1 = upd C p (nI cc) → u.2.2.2.1 = upd F p (nI x.2.1) → ∃ u_1 v, some u = some u_1 ∧ some (nI cc, r.1, upd (upd (upd N (5 * p + 2) (nI cc)) (5 * p + 3) (nI x.2.1)) 95 (f 5 + dlt), mr, tl', r.2.1, r.2.2.1, r.2.2.2.1, r.2.2.2.2.1, r.2.2.2.2.2.1, r.2.2.2.2.2.2) = some v ∧ u_1.1 = v.1 ∧ IRel u_1.2.1 P K Wt u_1.2.2.1 u_1.2.2.2.1 G v.2.2.1 ∧ RRef u_1.2.2.2.2.2 v.2.2.2.1 ∧ v.2.2.1 89 = N 89 ∧ (∀ j, j ≠ 17 → v.2.1 j = cm j) := by
        intro cc f2 dlt hf2 hf5 hcc z1 z2 z3 z4
        refine ⟨u, _, rfl, rfl, z1, ?_, ?_, ?_, t6⟩
        · rw [z2, z3, z4, ← hf5]
          exact walk_rel hn hp hcc t3.2 hf2
        · rw [g2]; exact hr
        · dsimp only
          rw [upd_ne (by decide), upd_ne (by omega), upd_ne (by omega)]
      have cellN : ∀ (y1 y2 y3 : Int32) (t : Nat → Int32), f_X6_cell (nI p) t (upd (upd (upd N (5 * p + 2) y1) (5 * p + 3) y2) 95 y3) = some y1 := fun y1 y2 y3 t => by
        rw [(mkind hp8).2.2.1, upd_ne (by omega), upd_ne (by omega), upd_eq]
      by_cases y : x.2.2.2.2.2 = -1
      · obtain ⟨z1, z2, z3, z4⟩ := g3 y
        rw [if_pos y]
        simp only [f_X6_walk_b46, f_X6_walk_b75, f_X6_walk_b110, if_pos (show nI 0 = (0 : Int32) from rfl), if_true, hx21, hx31, if_pos hx2.2.1, if_pos hx3.2.1, hx2.2.2, hx3.2.2, if_pos h95, h95c, t5.1, t5.2.1, n95, cellN]
        exact tail x.1 f (nI 0) (fun _ _ => rfl) (Int32.add_zero _).symm t3.1 z1 z2 z3 z4
      · obtain ⟨z1, z2, z3, z4⟩ := g4 y
        rw [if_neg y]
        simp only [f_X6_walk_b46, f_X6_walk_b75, f_X6_walk_b110, if_neg one_ne0, if_neg (show ¬ (1 : Int32) = nI 0 by decide), hx21, hx31, if_pos hx2.2.1, if_pos hx3.2.1, hx2.2.2, hx3.2.2, if_pos h95, h95c, t8 y, t5.2.1, n95, cellN]
        exact tail _ (upd f 5 (f 5 + 1)) 1 (fun j hj => upd_ne hj) upd_eq (runD_ok q2 m 0 _ b4) z1 z2 z3 z4
  rcases isOne_both (ct := cm) q3 q6 q7 a3 with ⟨j, hj, hja, i1, i2⟩ | ⟨i1, i2⟩
  · exact key 1 (Or.inr rfl) (fun _ => ⟨j, hj, hja⟩) i1 i2
  · exact key 0 (Or.inl rfl) (fun z => absurd z (by decide)) i1 i2
