-- ===== reach: the case =====
theorem reachOut {cm f P K Wt C F G N mr : Nat → Int32} {s n p kd c0 f0 nn : Nat} (h : IRn s n f P K Wt C F G N) (hp : p < n) (hkd : kd ≤ 5) (hK : K p = nI kd) (hC : C p = nI c0) (hF : F p = nI f0) (hok : okw s (x0S c0 f0)) (hnn : nn ≤ 6) : ∀ (d L a b : Nat) (w st rr ct tl wBy wCell wFaces wFell wSign wTurns : Nat → Int32) (m : Int64), L + d = nn + 1 → d < b → GI w kd (f 1) (G p) (x0S c0 f0) (off L) → STI st (tre s P (f 1) (f 2) (G p) kd (x0S c0 f0)) (off L) → RR s rr m → (∀ i, i ≠ 17 → ct i = cm i) →
    ∃ u v, f_X2_countReached_b55 f C F K G P (a + 1 + (off (nn + 1) - off L)) rr w st (nI (off (nn + 1))) (nI (cn49 (bset m) 49)) (nI (off L)) = some u ∧ f_X6_reach_b35 N b ct mr tl wBy wCell wFaces wFell wSign wTurns (nI p) (nI nn) m (nI (p3 L)) (nI L) = some v ∧ u.1 = v.1 ∧ v.2.2.1 = mr ∧ (∀ i, i ≠ 17 → v.2.1 i = cm i) := by
  intro d
  induction d with
  | zero =>
    intro L a b w st rr ct tl wBy wCell wFaces wFell wSign wTurns m hL hb hw hs hrr hct
    obtain ⟨k, rfl⟩ : ∃ k, b = k + 1 := ⟨b - 1, by omega⟩
    obtain ⟨kk, hk⟩ := FU_s
    have hL7 : L = nn + 1 := by omega
    subst hL7
    have hle := cn49_le (b := bset m) 49
    have cc := countL (N := N) (mr := mr) (tl := tl) (ct := ct) (wBy := wBy) (wCell := wCell) (wFaces := wFaces) (wFell := wFell) (wSign := wSign) (wTurns := wTurns) (m := m) 49 FU 0 (Nat.le_refl _) (by omega)
    rw [Nat.zero_add, Nat.sub_self] at cc
    rw [Nat.sub_self, Nat.add_zero, f_X2_countReached_b55, if_pos (Int32.le_refl _), f_X6_reach_b35, if_pos ((nI_ltI (by omega) (by omega)).mpr (by omega))]
    exact ⟨_, _, rfl, cc, rfl, rfl, hct⟩
  | succ d ih =>
    intro L a b w st rr ct tl wBy wCell wFaces wFell wSign wTurns m hL hb hw hs hrr hct
    obtain ⟨k, rfl⟩ : ∃ k, b = k + 1 := ⟨b - 1, by omega⟩
    obtain ⟨kk, hk⟩ := FU_s
    have hL6 : L ≤ 6 := by omega
    have h7 := off_7 hL6
    have h8 := off_p3 L
    have h9 := p3_pos L
    have hm1 := off_mono (show L + 1 ≤ nn + 1 by omega)
    have hn7 := off_7 hnn
    have hn8 := off_p3 nn
    have ef : a + 1 + (off (nn + 1) - off L) = (a + 1 + (off (nn + 1) - off (L + 1))) + p3 L := by omega
    have hz : off L + (p3 L - p3 L) = off L := by omega
    rw [ef, f_X6_reach_b35, if_neg (fun z => by have := (nI_ltI (by omega) (by omega)).mp z; omega)]
    obtain ⟨w', st', rr', ct', tl', b1, b2, b3, b4, b5, b6, m', i1, i2, i3, i4, i5, i6⟩ := reachIn (cm := cm) (mr := mr) (l2 := nI nn) (lim := off (nn + 1)) h hp hkd hK hC hF hok hL6 hm1 (by omega) (f_X6_reach_b35 N k) (p3 L) (a + 1 + (off (nn + 1) - off (L + 1))) FU w st rr ct tl wBy wCell wFaces wFell wSign wTurns m (Nat.le_refl _) (by omega) (by rw [hz]; exact hw) (by rw [hz]; exact hs) hrr hct
    rw [hz] at i1
    rw [Nat.sub_self] at i2
    rw [i1, show f_X6_reach_b44 N (f_X6_reach_b35 N k) FU ct mr tl wBy wCell wFaces wFell wSign wTurns (nI p) (nI nn) m (nI (p3 L)) (nI L) 0 = _ from i2]
    exact ih (L + 1) a k w' st' rr' ct' tl' b1 b2 b3 b4 b5 b6 m' (by omega) (by omega) i3 i4 i5 i6
theorem clearL {f C F K G P w st : Nat → Int32} {l1 l2 : Int32} : ∀ (j a : Nat) (rr : Nat → Int32), j ≤ 70 → ∃ rr', f_X2_countReached_b2 f C F K G P (a + 1 + j) rr w st l1 l2 (nI (70 - j)) = f_X2_countReached_b2 f C F K G P (a + 1) rr' w st l1 l2 (nI 70) ∧ (∀ c, 70 - j ≤ c → c < 70 → rr' c = 0) ∧ (∀ c, c < 70 - j → rr' c = rr c) := by
  intro j
  induction j with
  | zero => intro a rr _; exact ⟨rr, rfl, fun c h1 h2 => by omega, fun c _ => rfl⟩
  | succ j ih =>
    intro a rr hj
    have e : nI (70 - (j + 1)) + (1 : Int32) = nI (70 - j) := by rw [nI_1]; congr 1; omega
    rw [show a + 1 + (j + 1) = (a + 1 + j) + 1 from rfl, f_X2_countReached_b2, if_neg (fun z => by have := (nI_leI (a := 70) (by omega) (by omega)).mp z; omega), if_pos (inb_nI (show 70 - (j + 1) < 70 by omega) (by decide)), nI_cl (by omega), e, show vp_nar .boolean 0 = 0 from nar_B (Or.inl rfl)]
    obtain ⟨rr', r1, r2, r3⟩ := ih a (upd rr (70 - (j + 1)) 0) (by omega)
    refine ⟨rr', r1, fun c h1 h2 => ?_, fun c h1 => ?_⟩
    · by_cases z : c = 70 - (j + 1)
      · rw [z, r3 _ (by omega), upd_eq]
      · exact r2 c (by omega) h2
    · rw [r3 c (by omega), upd_ne (by omega)]
theorem case_reach {cx cm f P K Wt C F G N w rr st xr mr tl wBy wCell wFaces wFell wSign wTurns : Nat → Int32} (h : IRel f P K Wt C F G N) (hr : RRef xr mr) (a1 a2 : Int32) :
    ∃ u v, f_X5_reach a1 a2 cx f C F K G P w xr rr st = some u ∧ f_X6_reach a1 a2 cm N mr tl wBy wCell wFaces wFell wSign wTurns = some v ∧ u.1 = v.1 ∧ RRef u.2.2.1 v.2.2.1 ∧ (∀ j, j ≠ 17 → v.2.1 j = cm j) := by
  obtain ⟨g1, g2, e1, e2, e3⟩ := refF (cx := cx) (cm := cm) cm (code := -2) (Or.inl rfl) hr
  obtain ⟨s, n, hn⟩ := h
  obtain ⟨q1, q2, q3, q4, q5, q6, q7, ⟨q8, q8b⟩, q9⟩ := hn.1
  unfold f_X5_reach f_X6_reach f_X5_reach_b21 f_X6_reach_b20
  rw [isWithin_eq, show f_X6_isIn a2.toInt64 0 6 = some (if 0 ≤ a2 ∧ a2 ≤ 6 then 1 else 0) from isIn_eq a2 0 6, e1, e2]
  simp only [ob]
  rcases isOne_both (ct := cm) q3 q6 q7 a1 with ⟨p, hp, rfl, i1, i2⟩ | ⟨i1, i2⟩
  · rw [i1, i2]
    simp only [ob, if_neg one_ne0]
    by_cases c3 : 0 ≤ a2 ∧ a2 ≤ 6
    · rw [if_pos c3, if_neg one_ne0, if_neg one_ne0]
      obtain ⟨nn, hnn, rfl⟩ := i32_nat (n := 6) c3.1 c3.2 (by decide)
      obtain ⟨kk, hk⟩ := FU_s
      obtain ⟨w1, kd, c, fc, a, b, d, g, t1, t2, t3, t4, t5, t6, t7, t8, t9, t10, t11, t12⟩ := begin_both (ct := cm) (w := w) (wBy := wBy) (wCell := wCell) (wFaces := wFaces) (wFell := wFell) (wSign := wSign) (wTurns := wTurns) hn hp 0 (by decide)
      obtain ⟨rr', r1, r2, r3⟩ := clearL (f := f) (C := C) (F := F) (K := K) (G := G) (P := P) (w := w) (st := st) (l1 := nI p) (l2 := nI nn) 70 (FU - 71) rr (Nat.le_refl _)
      rw [show FU - 71 + 1 + 70 = FU by omega, Nat.sub_self] at r1
      have hRR : RR s rr' 0 := fun c hc => by
        have h1 := hc.1
        have h2 := hc.2
        rw [bset_0, r2 c (by omega) (by omega)]
        rfl
      have B1 : isB (w1 10) := by rw [begin_10 q3 q6 hp t1]; exact Or.inl rfl
      have hn7 := off_7 hnn
      have hn8 := off_p3 nn
      have o0 : off 0 = 0 := rfl
      obtain ⟨u, v, x1, x2, x3, x4, x5⟩ := reachOut (cm := cm) (mr := mr) (nn := nn) hn hp t7 t9 t10 t11 t8 hnn (nn + 1) 0 (FU - 1 - off (nn + 1)) FU w1 st rr' cm tl wBy wCell wFaces wFell wSign wTurns 0 (by omega) (by omega) (gi_zero t5 B1) sti_zero hRR (fun _ _ => rfl)
      rw [show FU - 1 - off (nn + 1) + 1 + (off (nn + 1) - off 0) = FU by omega] at x1
      have hc0 : cn49 (bset 0) 49 = 0 := by decide +kernel
      rw [hc0] at x1
      unfold f_X2_countReached
      rw [show f_X2_countReached_b2 f C F K G P FU rr w st (nI p) (nI nn) 0 = _ from r1, f_X2_countReached_b2, if_pos (show (70 : Int32) ≤ nI 70 by decide), t1, ob, isWithin_eq, if_pos (show (0 : Int32) ≤ nI nn ∧ nI nn ≤ 6 from c3), ob, if_neg one_ne0, if_pos (inb_nI (show nn < 7 by omega) (by decide)), nI_cl (by omega), nodes_eq nn hnn]
      unfold f_X2_countReached_b48
      rw [show f_X2_countReached_b55 f C F K G P FU rr' w1 st (nI (off (nn + 1))) 0 0 = _ from x1, ob]
      exact ⟨_, _, rfl, x2, x3, by rw [x4]; exact hr, x5⟩
    · rw [if_neg c3, if_pos rfl, if_pos rfl]
      exact ⟨_, _, rfl, rfl, rfl, e3, fun _ _ => rfl⟩
  · rw [i1, i2]
    simp only [ob, if_true]
    exact ⟨_, _, rfl, rfl, rfl, e3, fun _ _ => rfl⟩
