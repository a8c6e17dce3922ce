-- ===== island: is, person, the year's words =====
theorem b30_4 {tp words ct N : Nat → Int32} : f_X6_isStatement_b30 tp words ct N (nI 4) = ((f_X6_number 0 (N 89 - 1) ct tp).bind fun v2 => if v2.1 = -1 then some (0, v2.2, N) else f_X6_isStatement_b172 tp words v2.2 N (5 * v2.1 + 4) 1 0) := by
  unfold f_X6_isStatement_b30 f_X6_isStatement_b104 f_X6_isStatement_b135 f_X6_isStatement_b151 f_X6_many
  rw [if_neg (by decide), if_neg (by decide), if_neg (by decide), if_neg (by decide), if_pos (by decide), ob]
  congr 1
theorem readIs_both {by_ tp words rd ct f P K Wt C F G N : Nat → Int32} {z i s n : Nat} (hz : z ≤ 250) (hb : ∀ i, i < z → by_ i = tp i) (hp : PR z i rd ct) (h : IRn s n f P K Wt C F G N) : ∃ r rd' G' ct' N', f_X1_readIs rd by_ f G = some (r, rd', G') ∧ f_X6_isStatement_b30 tp words ct N (nI 4) = some (r, ct', N') ∧ isB r ∧ AFT z i ct rd' ct' ∧ (r = 1 → IRn s n f P K Wt C F G' N') := by
  obtain ⟨rd', ct', ta, e, k, t1, t2, t3, t4, t5, t6⟩ := num_gen hz hb hp
  obtain ⟨pp, r5, m8, r4, m9, k4, te, k1, kw, kn⟩ := t4
  have ha : AFT z i ct rd' ct' := AFT.mk1 pp (by omega) te r5 m8 t6
  obtain ⟨q1, q2, q3, q4, q5, q6, q7, q8⟩ := h.1
  rw [b30_4]
  unfold f_X1_readIs
  rw [t2 0 7, t3 0 (N 89 - 1), ob, ob, q7]
  dsimp only
  by_cases c : k = 2 ∧ (0 ≤ rd' 6 ∧ rd' 6 ≤ nI n - 1)
  · rcases within_m1 (x := rd' 6) (m := n) (by omega) with ⟨⟨p, hpn, hx⟩, -⟩ | w
    · have h8 : p < 8 := by omega
      have c99 : rd' 6 ≤ 99 := by rw [hx]; exact (nI_leI (b := 99) (by omega) (by omega)).mpr (by omega)
      have c2 := big_100 (kn c.1) c99
      have i1 : f_X0_isOne (rd' 6) f = some 1 := by
        rcases isOne_both (ct := ct') q3 q6 q7 (rd' 6) with ⟨j, hj, hj2, i1, i2⟩ | ⟨i1, i2⟩
        · exact i1
        · exfalso
          unfold f_X0_isOne at i1
          rw [isWithin_eq, hx, ob, if_pos (show (0 : Int32) ≤ nI p ∧ nI p ≤ 7 from ⟨nI_pos' (by omega), (nI_leI (b := 7) (by omega) (by omega)).mpr (by omega)⟩), if_neg one_ne0, q6, if_neg (fun z => by have := (nI_leI (by omega) (by omega)).mp z; omega)] at i1
          cases i1
      rw [if_pos (show k = 2 ∧ ((0 : Int32) ≤ rd' 6 ∧ rd' 6 ≤ 7) from ⟨c.1, c.2.1, by rw [hx]; exact (nI_leI (b := 7) (by omega) (by omega)).mpr (by omega)⟩), if_neg one_ne0, i1, ob, if_neg one_ne0, if_pos (show (k = 2 ∧ e - ta ≤ 2) ∧ ((0 : Int32) ≤ rd' 6 ∧ rd' 6 ≤ nI n - 1) from ⟨⟨c.1, c2⟩, c.2⟩)]
      simp only [hx, if_neg (show ¬ nI p = -1 from nI_ne1 (by omega)), if_pos (ix8 h8).1, (ix8 h8).2, show (5 : Int32) * nI p + 4 = nI (5 * p + 4) from (ixN (q := 4) h8 (by decide)).1]
      obtain ⟨r2, rd2, ct2, v2, u1, u2, u3⟩ := readVal (words := words) (N := N) (q := 5 * p + 4) (hi := 1) hz hb pp (by omega) (by decide)
      rw [show f_X1_readNumber 0 1 rd' by_ = some (r2, rd2) from u1, ob]
      dsimp only
      rcases u3 with ⟨rfl, rfl, w3⟩ | ⟨rfl, x, x1, rfl, x3, x4⟩
      · rw [if_pos rfl, show f_X6_isStatement_b172 tp words ct' N (nI (5 * p + 4)) 1 0 = _ from w3]
        exact ⟨0, rd2, G, ct2, N, rfl, rfl, Or.inl rfl, AFT.tr (by omega) t6 u2, fun w => absurd w (by decide)⟩
      · rw [if_neg one_ne0, x3, show f_X6_isStatement_b172 tp words ct' N (nI (5 * p + 4)) 1 0 = _ from x4]
        exact ⟨1, rd2, _, ct2, _, rfl, rfl, Or.inr rfl, AFT.tr (by omega) t6 u2, fun _ => h.pledge hpn (nIB (by omega))⟩
    · exact absurd c.2 w
  · rw [if_neg (show ¬ ((k = 2 ∧ e - ta ≤ 2) ∧ ((0 : Int32) ≤ rd' 6 ∧ rd' 6 ≤ nI n - 1)) from fun w => c ⟨w.1.1, w.2⟩), if_pos rfl]
    refine ⟨0, rd', G, ct', N, ?_, rfl, Or.inl rfl, ha, fun w => absurd w (by decide)⟩
    by_cases c3 : k = 2 ∧ ((0 : Int32) ≤ rd' 6 ∧ rd' 6 ≤ 7)
    · rw [if_pos c3, if_neg one_ne0]
      rcases isOne_both (ct := ct') q3 q6 q7 (rd' 6) with ⟨j, hj, hj2, i1, i2⟩ | ⟨i1, i2⟩
      · exfalso
        apply c
        refine ⟨c3.1, c3.2.1, ?_⟩
        rw [hj2, show nI n - 1 = nI (n - 1) from pk_sub (show 1 ≤ n by omega)]
        exact (nI_leI (by omega) (by omega)).mpr (by omega)
      · rw [i1, ob, if_pos rfl]
    · rw [if_neg c3, if_pos rfl]
theorem readPerson_both {by_ tp words rd ct f P K Wt C F G N : Nat → Int32} {z i s n : Nat} (hz : z ≤ 250) (hb : ∀ i, i < z → by_ i = tp i) (hp : PR z i rd ct) (h : IRn s n f P K Wt C F G N) (hn : n < 8) : ∃ r rd' f' C' F' K' G' W' ct' N', f_X1_readPerson rd by_ f C F K G P Wt = some (r, rd', f', C', F', K', G', W') ∧ f_X6_isStatement_b30 tp words ct N (nI 3) = some (r, ct', N') ∧ isB r ∧ AFT z i ct rd' ct' ∧ (r = 1 → ∃ n', n ≤ n' ∧ IRn s n' f' P K' W' C' F' G' N') := by
  obtain ⟨q1, q2, q3, q4, q5, q6, q7, q8⟩ := h.1
  have e3 : ∀ r ct' N', f_X6_isPersonStatement ct N tp = some (r, ct', N') → isB r → f_X6_isStatement_b30 tp words ct N (nI 3) = some (r, ct', N') := by
    intro r ct' N' h1 h2
    unfold f_X6_isStatement_b30
    rw [if_pos (by decide), h1, ob, if_pos h2]
  have c8 : f 7 < (8 : Int32) := by rw [q6]; exact (nI_ltI (b := 8) (by omega) (by omega)).mpr hn
  unfold f_X1_readPerson f_X0_isFull
  rw [if_pos c8, ob, if_pos rfl]
  obtain ⟨rd1, ct1, r1, v1, a1, a2, a3, a4⟩ := num_both (lo := 0) (hi := 5) hz hb hp (by decide) (by decide)
  rw [a1, ob]
  dsimp only
  have fail : ∀ (ctx : Nat → Int32) (x1 x2 x3 : Int32), f_X6_isPersonStatement_b51 tp ctx N x1 x2 x3 = some (0, ctx, N) := by
    intro ctx x1 x2 x3
    unfold f_X6_isPersonStatement_b51 f_X6_isPersonStatement_b61
    rw [if_pos rfl]
  rcases a4 with ⟨rfl, rfl⟩ | ⟨rfl, x, x1, rfl, x3, x4, x5⟩
  · rw [if_pos rfl]
    refine ⟨0, rd1, f, C, F, K, G, Wt, ct1, N, rfl, e3 _ _ _ ?_ (Or.inl rfl), Or.inl rfl, a3, fun w => absurd w (by decide)⟩
    unfold f_X6_isPersonStatement f_X6_isPersonStatement_b23 f_X6_isPersonStatement_b37
    rw [a2, ob]
    dsimp only
    rw [if_pos rfl, if_pos rfl, if_pos rfl]
    exact fail _ _ _ _
  · obtain ⟨e1, p1, le1, -, f1⟩ := id a3
    rw [if_neg one_ne0]
    obtain ⟨rd2, ct2, r2, v2, b1, b2, b3, b4⟩ := num_both (lo := 0) (hi := 9) hz hb p1 (by decide) (by decide)
    rw [b1, ob]
    dsimp only
    have hx1 : ¬ nI x = -1 := nI_ne1 (by omega)
    have hx5 : x ≤ 5 := (nI_leI (b := 5) (by omega) (by omega)).mp x5
    rcases b4 with ⟨rfl, rfl⟩ | ⟨rfl, y, y1, rfl, y3, y4, y5⟩
    · rw [if_pos rfl]
      refine ⟨0, rd2, f, C, F, K, G, Wt, ct2, N, rfl, e3 _ _ _ ?_ (Or.inl rfl), Or.inl rfl, AFT.tr le1 f1 b3, fun w => absurd w (by decide)⟩
      unfold f_X6_isPersonStatement f_X6_isPersonStatement_b23 f_X6_isPersonStatement_b37
      rw [a2, ob]
      dsimp only
      rw [if_neg hx1, b2, ob]
      dsimp only
      rw [if_pos rfl, if_pos rfl]
      exact fail _ _ _ _
    · obtain ⟨e2, p2, le2, -, f2⟩ := id b3
      rw [if_neg one_ne0]
      obtain ⟨rd3, ct3, r3, v3, c1, c2, c3, c4⟩ := cell_both hz hb p2 q2 q4 q5
      rw [c1, ob]
      dsimp only
      have hy1 : ¬ nI y = -1 := nI_ne1 (by omega)
      have hy9 : y ≤ 9 := (nI_leI (b := 9) (by omega) (by omega)).mp y5
      have t3 := AFT.tr le1 f1 (AFT.tr le2 f2 c3)
      rcases c4 with ⟨rfl, rfl⟩ | ⟨rfl, c, hc70, hc, rfl, hc6⟩
      · rw [if_pos rfl]
        refine ⟨0, rd3, f, C, F, K, G, Wt, ct3, N, rfl, e3 _ _ _ ?_ (Or.inl rfl), Or.inl rfl, t3, fun w => absurd w (by decide)⟩
        unfold f_X6_isPersonStatement f_X6_isPersonStatement_b23 f_X6_isPersonStatement_b37
        rw [a2, ob]
        dsimp only
        rw [if_neg hx1, b2, ob]
        dsimp only
        rw [if_neg hy1, c2, ob]
        dsimp only
        rw [if_pos rfl]
        exact fail _ _ _ _
      · obtain ⟨e3', p3, le3, -, f3⟩ := id c3
        have hc1 : ¬ nI c = -1 := nI_ne1 (by omega)
        have hpo := h.2.2.2.ok q2 hc
        rw [if_neg one_ne0, hc6, hasPond_X0 q2 q4 hc, ob]
        have m37 : f_X6_isPersonStatement ct N tp = (if N (pt c) = 1 then some (0, ct3, N) else ((f_X6_number 0 3 ct3 tp).bind fun v2 => f_X6_isPersonStatement_b61 tp v2.2 N (nI x) (nI y) (nI c) v2.1)) := by
          unfold f_X6_isPersonStatement f_X6_isPersonStatement_b23 f_X6_isPersonStatement_b37
          rw [a2, ob]
          dsimp only
          rw [if_neg hx1, b2, ob]
          dsimp only
          rw [if_neg hy1, c2, ob]
          dsimp only
          rw [if_neg hc1, hasPond_X6 q2 hc, ob]
          by_cases w : N (pt c) = 1
          · rw [if_pos w, if_neg one_ne0, if_pos w]
            exact fail _ _ _ _
          · rw [if_neg w, if_pos rfl, if_neg w]
        rw [hpo.1] at m37
        rcases hpo.2 with w | w
        · rw [w] at m37 ⊢
          rw [if_neg (show ¬ (0 : Int32) = 1 by decide)] at m37
          rw [if_pos rfl, if_pos rfl]
          obtain ⟨rd4, ct4, r4, v4, d1, d2, d3, d4⟩ := num_both (lo := 0) (hi := 3) hz hb p3 (by decide) (by decide)
          rw [d1, ob]
          dsimp only
          have t4 := AFT.tr le1 f1 (AFT.tr le2 f2 (AFT.tr le3 f3 d3))
          rw [d2, ob] at m37
          dsimp only at m37
          unfold f_X6_isPersonStatement_b61 at m37
          rcases d4 with ⟨rfl, rfl⟩ | ⟨rfl, g, g1, rfl, g3, g4, g5⟩
          · rw [if_pos rfl] at m37 ⊢
            exact ⟨0, rd4, f, C, F, K, G, Wt, ct4, N, rfl, e3 _ _ _ m37 (Or.inl rfl), Or.inl rfl, t4, fun w => absurd w (by decide)⟩
          · have hg3 : g ≤ 3 := (nI_leI (b := 3) (by omega) (by omega)).mp g5
            obtain ⟨u1, u2, u3⟩ := add_both (ct := ct4) h hn hx5 hy9 hc (show g < 4 by omega)
            rw [if_neg (nI_ne1 (by omega)), u2, ob] at m37
            rw [if_neg one_ne0, x3, y3, g3, u1, ob]
            exact ⟨1, rd4, _, _, _, _, _, _, ct4, _, rfl, e3 _ _ _ m37 (Or.inr rfl), Or.inr rfl, t4, fun _ => ⟨n + 1, by omega, u3⟩⟩
        · rw [w] at m37 ⊢
          rw [if_pos rfl] at m37
          rw [if_neg one_ne0, if_neg one_ne0]
          exact ⟨0, rd3, f, C, F, K, G, Wt, ct3, N, rfl, e3 _ _ _ m37 (Or.inl rfl), Or.inl rfl, t3, fun w => absurd w (by decide)⟩
