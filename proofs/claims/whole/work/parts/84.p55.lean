-- ===== island: the loop, the case =====
theorem neg20 {t : Nat} (h : t ≤ 250) : ¬ (0 : Int32) ≤ -20 - nI t := by
  intro w
  rw [Int32.le_iff_toInt_le] at w
  have e : (-20 - nI t : Int32) = -(nI (20 + t)) := by rw [← nI_add]; show (-(20 : Int32)) - nI t = -((20 : Int32) + nI t); grind
  have e2 : (-(nI (20 + t)) : Int32) = nI 0 - nI (20 + t) := by rw [nI_0]; grind
  rw [e, e2, pk_sub_toInt (by omega) (by omega)] at w
  have z : (0 : Int32).toInt = 0 := by decide
  omega
theorem islandL {by_ tp words mind rf cm : Nat → Int32} {z n0 : Nat} (hz : z ≤ 250) (hb : ∀ i, i < z → by_ i = tp i) (hW : WT words) : ∀ (j c a b i : Nat) (rd ct f C F K G P Wt N : Nat → Int32) (s n : Nat), c + j = 127 → 1 ≤ c → 2 * (c - 1) ≤ i → j < a → j + 1 < b → PR z i rd ct → IRn s n f P K Wt C F G N → n0 ≤ n → (∀ j, j ≠ 6 → j ≠ 7 → j ≠ 8 → j ≠ 9 → ct j = cm j) →
    ∃ (x : Int32) (rd' f' C' F' K' G' P' W' ct' N' : Nat → Int32), f_X1_readAll_b7 by_ a rd f C F K G P Wt (nI c) = some (x, rd', f', C', F', K', G', P', W') ∧ ct' 6 = 0 ∧ (∀ j, j ≠ 6 → j ≠ 7 → j ≠ 8 → j ≠ 9 → ct' j = cm j) ∧
    ((0 ≤ x ∧ ((f_X6_isStatement ct N tp words).bind fun v2 => f_X6_island_b23 tp words b v2.2.1 mind v2.2.2 rf (nI (c - 1)) v2.1) = some (x, ct', mind, N', rf) ∧ ∃ s' n', n0 ≤ n' ∧ IRn s' n' f' P' K' W' C' F' G' N') ∨
     (¬ 0 ≤ x ∧ ((f_X6_isStatement ct N tp words).bind fun v2 => f_X6_island_b23 tp words b v2.2.1 mind v2.2.2 rf (nI (c - 1)) v2.1) = ((f_X6_move mind N').bind fun v1 => (f_X6_refuse (-2) ct' rf).bind fun v2 => some (x, ct', mind, v1, v2.2)))) := by
  intro j
  induction j with
  | zero =>
    intro c a b i rd ct f C F K G P Wt N s n hc h1 h2 ha hb2 hp h hn hct
    have := hp.2.2.2.2
    omega
  | succ j ih =>
    intro c a b i rd ct f C F K G P Wt N s n hc h1 h2 ha hb2 hp h hn hct
    obtain ⟨k, rfl⟩ : ∃ k, a = k + 1 := ⟨a - 1, by omega⟩
    obtain ⟨k2, rfl⟩ : ∃ k, b = k + 1 + 1 := ⟨b - 2, by omega⟩
    have hiz := hp.2.2.2.2
    obtain ⟨r, rd1, f1, C1, F1, K1, G1, P1, W1, ct1, N1, a1, a2, a3, ⟨e, pe, le, lt, ⟨ta, tz, t5, t8⟩, fr⟩, a5⟩ := readStatement_both hz hb hW hp h
    have frm : ∀ j, j ≠ 6 → j ≠ 7 → j ≠ 8 → j ≠ 9 → ct1 j = cm j := fun j h6 h7 h8 h9 => (fr j h7 h8 h9).trans (hct j h6 h7 h8 h9)
    rw [f_X1_readAll_b7, if_neg (show ¬ (250 : Int32) < nI c from fun w => by have := (nI_ltI (a := 250) (by omega) (by omega)).mp w; omega), a1, ob, a2, ob]
    dsimp only
    unfold f_X1_readAll_b54
    have m6 : ∀ q : Nat → Int32, upd q 6 0 6 = 0 := fun q => upd_eq
    rcases a3 with rfl | rfl
    · rw [if_pos rfl, t5]
      refine ⟨_, rd1, f1, C1, F1, K1, G1, P1, W1, upd ct1 6 0, N1, rfl, upd_eq, fun j h6 h7 h8 h9 => (upd_ne h6).trans (frm j h6 h7 h8 h9), Or.inr ⟨neg20 (by omega), ?_⟩⟩
      rw [f_X6_island_b23, if_pos rfl, show upd ct1 6 0 8 = nI ta from (upd_ne (by decide)).trans t8]
    · obtain ⟨s', n', hn', h'⟩ := a5 rfl
      have hlt := lt rfl
      obtain ⟨rd2, ct2, tb, e2, k', u1, u2, u3, u4, u5⟩ := token_both hz hb pe
      obtain ⟨pp, r5, m8, r4, m9, k4, te, k1, kw, kn⟩ := id u3
      have frm2 : ∀ j, j ≠ 6 → j ≠ 7 → j ≠ 8 → j ≠ 9 → ct2 j = cm j := fun j h6 h7 h8 h9 => (u5 j h7 h8 h9).trans (frm j h6 h7 h8 h9)
      have hez := pp.2.2.2.2
      have ec : nI (c - 1) + (1 : Int32) = nI c := by rw [nI_1]; congr 1; omega
      rw [if_neg one_ne0, u1, ob, r4, f_X6_island_b23, if_neg one_ne0, u2, ob, m9, ec]
      by_cases q0 : k' = 0
      · have q0' : nI k' = 0 := by rw [q0]; rfl
        rw [if_pos q0', if_pos q0']
        exact ⟨nI c, rd2, f1, C1, F1, K1, G1, P1, W1, upd ct2 6 0, N1, rfl, upd_eq, fun j h6 h7 h8 h9 => (upd_ne h6).trans (frm2 j h6 h7 h8 h9), Or.inl ⟨nI_pos' (by omega), rfl, s', n', by omega, h'⟩⟩
      · have q0' : ¬ nI k' = 0 := fun w => q0 (nI_inj (b := 0) (by omega) (by omega) w)
        rw [if_neg q0', if_neg q0']
        by_cases q3 : k' = 3
        · have q3' : nI k' = 3 := by rw [q3]; rfl
          rw [if_pos q3', if_pos q3', nI_1]
          obtain ⟨x, rd', f', C', F', K', G', P', W', ct', N', v1, v2, v3, v4⟩ := ih (c + 1) k (k2 + 1) e2 rd2 ct2 f1 C1 F1 K1 G1 P1 W1 N1 s' n' (by omega) (by omega) (by have := k1 (by omega); omega) (by omega) (by omega) pp h' (by omega) frm2
          refine ⟨x, rd', f', C', F', K', G', P', W', ct', N', v1, v2, v3, ?_⟩
          have hcc : nI (c + 1 - 1) = nI c := by congr 1
          rw [hcc] at v4
          have key : ((f_X6_isStatement ct2 N1 tp words).bind fun v4 => if v4.1 = 0 then f_X6_island_b67 tp words (f_X6_island_b23 tp words (k2 + 1)) v4.2.1 mind v4.2.2 rf (nI c) else f_X6_island_b68 tp words (f_X6_island_b23 tp words (k2 + 1)) v4.2.1 mind v4.2.2 rf (nI c) 1) = ((f_X6_isStatement ct2 N1 tp words).bind fun v2 => f_X6_island_b23 tp words (k2 + 1) v2.2.1 mind v2.2.2 rf (nI c) v2.1) := by
            obtain ⟨r, rd3, f3, C3, F3, K3, G3, P3, W3, ct3, N3, b1, b2, b3, -⟩ := readStatement_both hz hb hW pp h'
            rw [b2, ob, ob]
            dsimp only
            unfold f_X6_island_b67 f_X6_island_b68
            rcases b3 with rfl | rfl
            · rw [if_pos rfl]
            · rw [if_neg one_ne0]
          rw [key]
          exact v4
        · have q3' : ¬ nI k' = 3 := fun w => q3 (nI_inj (b := 3) (by omega) (by omega) w)
          rw [if_neg q3', if_neg q3', r5]
          refine ⟨_, rd2, f1, C1, F1, K1, G1, P1, W1, upd ct2 6 0, N1, rfl, upd_eq, fun j h6 h7 h8 h9 => (upd_ne h6).trans (frm2 j h6 h7 h8 h9), Or.inr ⟨neg20 (by omega), ?_⟩⟩
          unfold f_X6_island_b67 f_X6_island_b68
          rw [f_X6_island_b23, if_pos rfl, show upd ct2 6 0 8 = nI tb from (upd_ne (by decide)).trans m8]
theorem IRn.congN {s n : Nat} {f P K Wt C F G N N2 : Nat → Int32} (h : IRn s n f P K Wt C F G N) (hN : ∀ j, j < 97 → N2 j = N j) : IRn s n f P K Wt C F G N2 := by
  obtain ⟨⟨q1, q2, q3, q4, q5, q6, q7, q8, q9, ⟨d, q10, q14, q15⟩, q11, q12, q13⟩, he, hv, hc⟩ := h
  refine ⟨⟨q1, q2, q3, q4, (hN 90 (by decide)).trans q5, q6, (hN 89 (by decide)).trans q7, ⟨(hN 91 (by decide)).trans q8.1, q8.2⟩, ⟨(hN 92 (by decide)).trans q9.1, q9.2⟩, ⟨d, q10, q14, (hN 93 (by decide)).trans q15⟩, (hN 94 (by decide)).trans q11, (hN 95 (by decide)).trans q12, (hN 96 (by decide)).trans q13⟩, he.congr (fun j hj => hN j (by omega)), hv, hc.congr (fun j h1 h2 => hN j (by omega))⟩
theorem case_island {cx cm f P K Wt C F G N rd by_ xr mr tp words mind tf tC tF tK tG tP tW : Nat → Int32} (h : IRel f P K Wt C F G N) (hr : RRef xr mr) (ht : RTape rd by_ cm tp) (hW : WT words) :
    ∃ u v, f_X5_island cx f C F K G P Wt rd by_ xr tf tC tF tK tG tP tW = some u ∧ f_X6_island cm mind N mr tp words = some v ∧ u.1 = v.1 ∧ IRel u.2.1 u.2.2.2.2.2.2.1 u.2.2.2.2.1 u.2.2.2.2.2.2.2.1 u.2.2.1 u.2.2.2.1 u.2.2.2.2.2.1 v.2.2.2.1 ∧ RTape u.2.2.2.2.2.2.2.2.1 by_ v.2.1 tp ∧ RRef u.2.2.2.2.2.2.2.2.2.1 v.2.2.2.2 ∧ (∀ n, N 89 = nI n → n ≤ 8 → ∃ n2, n2 ≤ 8 ∧ n ≤ n2 ∧ v.2.2.2.1 89 = nI n2) ∧ (∀ j, j ≠ 6 → j ≠ 7 → j ≠ 8 → j ≠ 9 → v.2.1 j = cm j) := by
  obtain ⟨g1, g2, e1, e2, e3⟩ := refF (cx := cx) (cm := cm) cm (code := -2) (Or.inl rfl) hr
  obtain ⟨z, hz, h2, h6, hbt⟩ := ht
  have hb : ∀ i, i < z → by_ i = tp i := fun i hi => (hbt i hi).1
  obtain ⟨kk, hk⟩ := FU_s
  obtain ⟨tb, b1, b2, b3, b4⟩ := become_eq tf tC tF tK tG tP tW f C F K G P Wt
  have hT : IRel tb.1 tb.2.2.2.2.2.1 tb.2.2.2.1 tb.2.2.2.2.2.2 tb.2.1 tb.2.2.1 tb.2.2.2.2.1 N := h.copy b2 b3 b4 (fun _ _ => rfl)
  obtain ⟨mv, c1, c2⟩ := move_eq N mind
  obtain ⟨s, n, hT⟩ := hT
  obtain ⟨s0, m0, hI⟩ := h
  have hnn : m0 = n := nI_inj (by have := hI.1.2.2.1; omega) (by have := hT.1.2.2.1; omega) (hI.n7.symm.trans hT.n7)
  have hp : PR z 0 (upd rd 3 0) (upd cm 7 0) := ⟨(upd_ne (by decide)).trans h2, (upd_ne (by decide)).trans h6, upd_eq, upd_eq, Nat.zero_le _⟩
  obtain ⟨x, rd', f', C', F', K', G', P', W', ct', N', v1, v2, v3, v4⟩ := islandL (mind := mv) (rf := mr) (cm := cm) (n0 := n) hz hb hW 126 1 FU FU 0 (upd rd 3 0) (upd cm 7 0) tb.1 tb.2.1 tb.2.2.1 tb.2.2.2.1 tb.2.2.2.2.1 tb.2.2.2.2.2.1 tb.2.2.2.2.2.2 N s n rfl (by decide) (by decide) (by omega) (by omega) hp hT (Nat.le_refl _) (fun j h6 h7 h8 h9 => upd_ne h7)
  have hX : f_X1_readAll rd by_ tb.1 tb.2.1 tb.2.2.1 tb.2.2.2.1 tb.2.2.2.2.1 tb.2.2.2.2.2.1 tb.2.2.2.2.2.2 = some (x, rd', f', C', F', K', G', P', W') := v1
  have hM : f_X6_island cm mind N mr tp words = ((f_X6_isStatement (upd cm 7 0) N tp words).bind fun v2 => f_X6_island_b23 tp words FU v2.2.1 mv v2.2.2 mr (nI (1 - 1)) v2.1) := by
    unfold f_X6_island
    rw [c1, ob]
    rfl
  have hcl : f_X1_clear rd' = some (rd' 2, upd rd' 2 0) := rfl
  have hRT : RTape (upd rd' 2 0) by_ ct' tp := ⟨0, by decide, upd_eq, v2, fun i hi => by omega⟩
  unfold f_X5_island
  rw [b1, ob, hX, ob]
  dsimp only
  rw [hcl, ob, hM]
  rcases v4 with ⟨w1, w2, s', n', hn', h'⟩ | ⟨w1, w2⟩
  · obtain ⟨nb, d1, d2, d3, d4⟩ := become_eq f C F K G P Wt f' C' F' K' G' P' W'
    rw [w2, if_pos w1, d1, ob]
    have hR : IRel f' P' K' W' C' F' G' N' := ⟨s', n', h'⟩
    exact ⟨_, _, rfl, rfl, rfl, hR.copy d2 d3 d4 (fun _ _ => rfl), hRT, hr, fun q hq hq8 => ⟨n', h'.1.2.2.1, by
      have : q = n := nI_inj (by omega) (by have := hT.1.2.2.1; omega) (hq.symm.trans hT.n7)
      omega, h'.n7⟩, v3⟩
  · obtain ⟨nb, d1, d2⟩ := move_eq mv N'
    rw [w2, if_neg w1, e1, d1, ob, ob, e2, ob]
    have hN2 : ∀ j, j < 97 → nb j = N j := fun j hj => (d2 j hj).trans (c2 j hj)
    exact ⟨_, _, rfl, rfl, rfl, ⟨s0, m0, hI.congN hN2⟩, hRT, e3, fun q hq hq8 => ⟨q, hq8, Nat.le_refl _, (hN2 89 (by decide)).trans hq⟩, v3⟩
