-- ===== safe: growing the tree, the search =====
noncomputable def STI (st : Nat → Int32) (T : Nat → Nat → WS) (i : Nat) : Prop := ∀ L r, L ≤ 6 → r < p3 L → off L + r < i → SVr (st (off L + r)) (T L r)
noncomputable def GI (w : Nat → Int32) (kd : Nat) (left pl : Int32) (x0 : WS) (i : Nat) : Prop := (i = 0 → WXs w kd left pl x0 (nI 0) ∧ isB (w 10)) ∧ w 1 = nI kd ∧ w 2 = left ∧ w 3 = pl ∧ ∃ c, c ≤ i ∧ w 6 = nI c
theorem stepS_turn {s : Nat} {P : Nat → Int32} {left old pl : Int32} {kd : Nat} {x : WS} {sign k : Int32} (h : x.2.2.2.2.2 = -1) (h0 : ¬ sign = 0) (h3 : ¬ sign = 3) : (stepS s P left old pl kd x sign k).2.2.1 ≠ 0 := by
  unfold stepS
  rw [if_pos h, if_neg h0, if_neg h3]
  exact Nat.succ_ne_zero _
theorem sti_new {st : Nat → Int32} {T : Nat → Nat → WS} {L r : Nat} {v : Int32} (hr : r < p3 L) (h : STI st T (off L + r)) (hv : SVr v (T L r)) : STI (upd st (off L + r) v) T (off L + r + 1) := by
  intro M q hM hq hi
  by_cases c : off M + q = off L + r
  · obtain ⟨c1, c2⟩ := off_uniq hq hr c
    subst c1
    subst c2
    rw [upd_eq]
    exact hv
  · rw [upd_ne c]
    exact h M q hM hq (by omega)
theorem grow_eq {f P K Wt C F G N w st : Nat → Int32} {s n kd L r : Nat} {left pl : Int32} {x0 : WS} (h : IRn s n f P K Wt C F G N) (hkd : kd ≤ 5) (hlf : isB left) (hpl : isB pl) (hok : okw s x0) (hB : okB x0) (hL : L ≤ 6) (hr : r < p3 L) (hw : GI w kd left pl x0 (off L + r)) (hst : STI st (tre s P left (f 2) pl kd x0) (off L + r)) : ∃ w' v, f_X2_grow (nI (off L + r)) w f P st = some (w', upd st (off L + r) v) ∧ GI w' kd left pl x0 (off L + r + 1) ∧ STI (upd st (off L + r) v) (tre s P left (f 2) pl kd x0) (off L + r + 1) ∧ SVr v (tre s P left (f 2) pl kd x0 L r) := by
  obtain ⟨q1, q2, q3, q4, q5, q6, q7, q8, ⟨q9, q9b⟩, q10⟩ := h.1
  obtain ⟨g0, g1, g2, g3, κ, g4, g5⟩ := hw
  have h7 := off_7 hL
  cases L with
  | zero =>
    have hr0 : r = 0 := by
      have : p3 0 = 1 := rfl
      omega
    subst hr0
    obtain ⟨y1, y2⟩ := g0 rfl
    obtain ⟨v, v1, v2⟩ := state_eq q2 y1 hok y2
    refine ⟨w, v, ?_, ⟨fun z => absurd z (by omega), g1, g2, g3, κ, by omega, g5⟩, sti_new (L := 0) (r := 0) hr hst v2, v2⟩
    unfold f_X2_grow
    rw [if_pos (show nI (off 0 + 0) = 0 by decide), v1, ob]
    rfl
  | succ M =>
    obtain ⟨e1, e2, e3⟩ := par_eq (L := M) (r := r)
    have hrd := p3_div hr
    have hM7 := off_7 (show M ≤ 6 by omega)
    have hsv := hst M (r / 3) (by omega) hrd (by omega)
    have d1 : nI (off (M + 1) + r) - 1 = nI (off (M + 1) + r - 1) := pk_sub e3
    have d2 : nI (off (M + 1) + r - 1) / (3 : Int32) = nI (off M + r / 3) := by
      rw [← e1]; exact pk_div (d := 3) (by omega) (by decide) (by decide)
    have d3 : nI (off (M + 1) + r - 1) - nI (off M + r / 3) * (3 : Int32) = nI (r % 3) := by
      rw [← d2, ← e2]; exact pk_rem (d := 3) (by omega) (by decide) (by decide)
    have hne : ¬ nI (off (M + 1) + r) = 0 := fun z => by have := nI_inj (b := 0) (by omega) (by omega) z; omega
    have hTok := tre_ok (P := P) (left := left) (old := f 2) (pl := pl) (kd := kd) q2 hok M (r / 3)
    have hTB := tre_B (s := s) (P := P) (kd := kd) hlf q9b hpl hB M (r / 3)
    unfold f_X2_grow
    rw [if_neg hne, d1, d2, d3, if_pos (inb_nI (show off M + r / 3 < 1093 by omega) (by decide)), nI_cl (by omega)]
    by_cases hfl : (tre s P left (f 2) pl kd x0 M (r / 3)).2.2.2.2.2 = -1
    · have hv1 : ¬ st (off M + r / 3) = -1 := by
        rcases hsv with ⟨a, -⟩ | ⟨a, b, g, hb, hg, hv, -⟩
        · exact absurd hfl a
        · rw [hv]
          have h1 := hTok.1.1
          have h2 := hTok.1.2
          exact (st_fin (by omega) hTok.2 (by omega) hb hg).2.2.2.2.2.2
      obtain ⟨w1, r1, r2, r3⟩ := resume_eq q2 hsv hfl hTok g1 g2 g3 g5
      have h4 : nI (r % 3) = 0 ∨ nI (r % 3) = 1 ∨ nI (r % 3) = 2 ∨ nI (r % 3) = 3 := by
        rcases nI3 r with z | z | z
        · exact Or.inl z
        · exact Or.inr (Or.inl z)
        · exact Or.inr (Or.inr (Or.inl z))
      obtain ⟨w2, t1, t2⟩ := X4_step_eq (P := P) q2 q4 rfl hkd h4 hTok r2
      have hSok : okw s (stepS s P left (f 2) pl kd (tre s P left (f 2) pl kd x0 M (r / 3)) (nI (r % 3)) (nI κ)) := stepS_ok q2 hTok
      have hSB : okB (stepS s P left (f 2) pl kd (tre s P left (f 2) pl kd x0 M (r / 3)) (nI (r % 3)) (nI κ)) := stepS_B hlf q9b hpl hTB
      have h10 : isB (w2 10) := by
        by_cases z : nI (r % 3) = 0
        · rw [z] at t1
          rw [step_10 t1]
          exact r3
        · have z3 : ¬ nI (r % 3) = 3 := fun y => by have := nI_inj (b := 3) (by omega) (by omega) y; omega
          have ht := stepS_turn (s := s) (P := P) (left := left) (old := f 2) (pl := pl) (kd := kd) (k := nI κ) hfl z z3
          rw [(t2.2.2.2.2.2.2.2.2.2 ht).2.1]
          exact hSB ht
      obtain ⟨v, v1, v2⟩ := state_eq q2 t2 hSok h10
      have v3 : SVr v (tre s P left (f 2) pl kd x0 (M + 1) r) := v2.sim (stepS_sim (SimW.refl _) (nI_ne1 (by omega)) (by decide))
      rw [if_neg hv1, r1, ob, t1, ob, v1, ob, if_pos (inb_nI (show off (M + 1) + r < 1093 by omega) (by decide)), nI_cl (by omega)]
      exact ⟨w2, v, rfl, ⟨fun z => absurd z (by omega), t2.1, t2.2.1, t2.2.2.1, κ + 1, by omega, t2.2.2.2.2.2.1.trans (nI_1 κ)⟩, sti_new hr hst v3, v3⟩
    · have hv1 : st (off M + r / 3) = -1 := by
        rcases hsv with ⟨-, a⟩ | ⟨a, -⟩
        · exact a
        · exact absurd a hfl
      have v3 : SVr (-1) (tre s P left (f 2) pl kd x0 (M + 1) r) := by
        left
        show ¬ (stepS s P left (f 2) pl kd (tre s P left (f 2) pl kd x0 M (r / 3)) (nI (r % 3)) 0).2.2.2.2.2 = -1 ∧ _
        rw [stepS_fell hfl]
        exact ⟨hfl, rfl⟩
      rw [if_pos hv1, if_pos (inb_nI (show off (M + 1) + r < 1093 by omega) (by decide)), nI_cl (by omega)]
      exact ⟨w, -1, rfl, ⟨fun z => absurd z (by omega), g1, g2, g3, κ, by omega, g5⟩, sti_new hr hst v3, v3⟩
theorem go_tree {ct f P K Wt C F G N N2 tl wBy wCell wFaces wFell wSign wTurns : Nat → Int32} {s n p kd c0 f0 L r : Nat} {lf : Int32} (h : IRn s n f P K Wt C F G N) (hp : p < n) (hkd : kd ≤ 5) (hK : K p = nI kd) (hC : C p = nI c0) (hF : F p = nI f0) (hok : okw s (x0S c0 f0)) (hL : L ≤ 6) (htl : ∀ j, j < L → tl j = dg L r j) (hN : ∀ j, j ≠ 91 → N2 j = N j) (h91 : N2 91 = lf) :
    ∃ (R : R7) (x : WS), f_X6_go (nI p) (nI L) ct N2 tl wBy wCell wFaces wFell wSign wTurns = some R ∧ WMs R.2.2.1 R.2.2.2.1 R.2.2.2.2.2.2 R.2.2.2.2.2.1 R.2.1 R.2.2.2.2.1 0 x ∧ SimW x (tre s P lf (f 2) (G p) kd (x0S c0 f0) L r) ∧ (∀ j, j ≠ 17 → R.1 j = ct j) := by
  obtain ⟨q1, q2, q3, q4, q5, q6, q7, q8, q9, q10⟩ := h.1
  obtain ⟨e1, e2, e3, e4, e5⟩ := h.2.1 p (by omega)
  obtain ⟨k, hk⟩ := FU_s
  obtain ⟨a, b, d, g, s1, s2, s3⟩ := start_eq (ct := ct) (wCell := wCell) (wFaces := wFaces) (wTurns := wTurns) (wSign := wSign) (wBy := wBy) (wFell := wFell) (i := 0) (c := c0) (f := f0) (by decide)
  have hp8 : p < 8 := by omega
  have hpt : ∀ k, okc s k → N2 (pt k) = P k ∧ isB (P k) := fun k hk => by
    have h1 := hk.1
    have h2 := hk.2
    rw [hN (pt k) (by unfold pt; omega)]
    exact h.2.2.2.ok q2 hk
  obtain ⟨R, g1, g2, g3, g4, g5⟩ := goL (tl := tl) (P := P) q2 ((hN 90 (by decide)).trans q5) h91 ((hN 92 (by decide)).trans q9.1) hpt hp8 hkd ((hN _ (by omega)).trans (e1.trans hK)) ((hN _ (by omega)).trans e5) (show L ≤ 40 by omega) (fun i hi => by rw [htl i hi]; exact dg_is4 _ _ _) L FU ct wBy a b d wSign g (x0S c0 f0) (Nat.le_refl _) (by omega) hok (by show 0 + L < _; omega) s2
  rw [Nat.sub_self] at g1 g3
  refine ⟨R, _, ?_, g3, run_tree L r tl hL htl, g2.1⟩
  unfold f_X6_go
  rw [(mkind hp8).2.2.1, (mkind hp8).2.2.2.1, hN _ (by omega), hN _ (by omega), e3, e4, hC, hF]
  simp only [ob]
  rw [show (0 : Int32) = nI 0 from rfl, s1]
  simp only [ob]
  exact g1
theorem brings_eq {ct f P K Wt C F G N tl wBy wCell wFaces wFell wSign wTurns : Nat → Int32} {s n p kd c0 f0 L r : Nat} {lf cl : Int32} (h : IRn s n f P K Wt C F G N) (hp : p < n) (hkd : kd ≤ 5) (hK : K p = nI kd) (hC : C p = nI c0) (hF : F p = nI f0) (hok : okw s (x0S c0 f0)) (hL : L ≤ 6) (htl : ∀ j, j < L → tl j = dg L r j) :
    ∃ R : R7, f_X6_brings (nI p) (nI L) cl lf ct N tl wBy wCell wFaces wFell wSign wTurns = some ((if nI (tre s P lf (f 2) (G p) kd (x0S c0 f0) L r).1 = cl ∧ (tre s P lf (f 2) (G p) kd (x0S c0 f0) L r).2.2.2.2.2 = -1 then 1 else 0), R.1, N, R.2.1, R.2.2.1, R.2.2.2.1, R.2.2.2.2.1, R.2.2.2.2.2.1, R.2.2.2.2.2.2) ∧ (∀ j, j ≠ 17 → R.1 j = ct j) := by
  obtain ⟨R, x, g1, g2, g3, g4⟩ := go_tree (ct := ct) (wBy := wBy) (wCell := wCell) (wFaces := wFaces) (wFell := wFell) (wSign := wSign) (wTurns := wTurns) (N2 := upd N 91 lf) h hp hkd hK hC hF hok hL htl (fun j hj => upd_ne hj) upd_eq
  have e : upd (upd N 91 lf) 91 (N 91) = N := by
    funext i
    by_cases z : i = 91
    · rw [z, upd_eq]
    · rw [upd_ne z, upd_ne z]
  refine ⟨R, ?_, g4⟩
  unfold f_X6_brings
  rw [g1, ob, e, g2.1, g2.2.2.2.1, g3.1]
  by_cases c1 : nI (tre s P lf (f 2) (G p) kd (x0S c0 f0) L r).1 = cl
  · rw [if_pos c1]
    by_cases c2 : x.2.2.2.2.2 = -1
    · rw [if_pos c2, if_pos ⟨c1, g3.2.2.2.2.2.mp c2⟩]
    · rw [if_neg c2, if_neg (fun z => c2 (g3.2.2.2.2.2.mpr z.2))]
  · rw [if_neg c1, if_neg (fun z => c1 z.1)]
