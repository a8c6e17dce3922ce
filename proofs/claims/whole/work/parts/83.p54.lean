-- ===== island: a statement by both =====
theorem readYear_both {by_ tp words rd ct f P K Wt C F G N : Nat → Int32} {z i s n w ta k : Nat} (hz : z ≤ 250) (hb : ∀ i, i < z → by_ i = tp i) (ht : TOK z ta i k tp rd ct) (hw : w = 5 ∨ w = 6 ∨ w = 7) (hyes : f_X1_isWord w rd by_ = some 1) (hno : ∀ v, v < 8 → v ≠ w → f_X1_isWord v rd by_ = some 0) (h : IRn s n f P K Wt C F G N) : ∃ r rd' f' ct' N', f_X1_readYear rd by_ f = some (r, rd', f') ∧ f_X6_isStatement_b30 tp words ct N (nI w) = some (r, ct', N') ∧ isB r ∧ AFT z i ct rd' ct' ∧ (r = 1 → IRn s n f' P K Wt C F G N') := by
  have hp := ht.1
  unfold f_X1_readYear
  rcases hw with rfl | rfl | rfl
  · obtain ⟨r, rd', ct', v, t1, t2, t3⟩ := readVal (words := words) (N := N) (q := 91) (hi := 1) hz hb hp (by decide) (by decide)
    rw [hyes, ob, if_neg one_ne0, show f_X1_readNumber 0 1 rd by_ = _ from t1, ob, b30_w.2.2.2.1]
    dsimp only
    rcases t3 with ⟨rfl, rfl, t4⟩ | ⟨rfl, x, x1, rfl, x3, t4⟩
    · rw [if_pos rfl]
      exact ⟨0, rd', f, ct', N, rfl, t4, Or.inl rfl, t2, fun w => absurd w (by decide)⟩
    · rw [if_neg one_ne0, x3]
      exact ⟨1, rd', _, ct', _, rfl, t4, Or.inr rfl, t2, fun _ => h.left (nIB (by omega))⟩
  · obtain ⟨r, rd', ct', v, t1, t2, t3⟩ := readVal (words := words) (N := N) (q := 92) (hi := 1) hz hb hp (by decide) (by decide)
    rw [hno 5 (by decide) (by decide), ob, if_pos rfl, hyes, ob, if_neg one_ne0, show f_X1_readNumber 0 1 rd by_ = _ from t1, ob, b30_w.2.2.2.2.1]
    dsimp only
    rcases t3 with ⟨rfl, rfl, t4⟩ | ⟨rfl, x, x1, rfl, x3, t4⟩
    · rw [if_pos rfl]
      exact ⟨0, rd', f, ct', N, rfl, t4, Or.inl rfl, t2, fun w => absurd w (by decide)⟩
    · rw [if_neg one_ne0, x3]
      exact ⟨1, rd', _, ct', _, rfl, t4, Or.inr rfl, t2, fun _ => h.oldU (nIB (by omega))⟩
  · obtain ⟨r, rd', ct', v, t1, t2, t3⟩ := readVal (words := words) (N := N) (q := 93) (hi := 12) hz hb hp (by decide) (by decide)
    rw [hno 5 (by decide) (by decide), ob, if_pos rfl, hno 6 (by decide) (by decide), ob, if_pos rfl, hyes, ob, if_neg one_ne0, show f_X1_readNumber 0 12 rd by_ = _ from t1, ob, b30_w.2.2.2.2.2]
    dsimp only
    rcases t3 with ⟨rfl, rfl, t4⟩ | ⟨rfl, x, x1, rfl, x3, t4⟩
    · rw [if_pos rfl]
      exact ⟨0, rd', f, ct', N, rfl, t4, Or.inl rfl, t2, fun w => absurd w (by decide)⟩
    · rw [if_neg one_ne0, x3]
      exact ⟨1, rd', _, ct', _, rfl, t4, Or.inr rfl, t2, fun _ => h.doubt x1⟩
noncomputable def AF1 (z i : Nat) (r : Int32) (ct rd' ct' : Nat → Int32) : Prop := ∃ e, PR z e rd' ct' ∧ i ≤ e ∧ (r = 1 → i + 1 ≤ e) ∧ (∃ ta, ta ≤ z ∧ rd' 5 = nI ta ∧ ct' 8 = nI ta) ∧ (∀ j, j ≠ 7 → j ≠ 8 → j ≠ 9 → ct' j = ct j)
theorem readStatement_both {by_ tp words rd ct f P K Wt C F G N : Nat → Int32} {z i s n : Nat} (hz : z ≤ 250) (hb : ∀ i, i < z → by_ i = tp i) (hW : WT words) (hp : PR z i rd ct) (h : IRn s n f P K Wt C F G N) : ∃ r rd' f' C' F' K' G' P' W' ct' N', f_X1_readStatement rd by_ f C F K G P Wt = some (r, rd', f', C', F', K', G', P', W') ∧ f_X6_isStatement ct N tp words = some (r, ct', N') ∧ isB r ∧ AF1 z i r ct rd' ct' ∧ (r = 1 → ∃ s' n', n ≤ n' ∧ IRn s' n' f' P' K' W' C' F' G' N') := by
  obtain ⟨rd1, ct1, ta, e, k, t1, t2, t3, t4, t5⟩ := token_both hz hb hp
  obtain ⟨x, x1, x2⟩ := word_eq hz hW t3
  obtain ⟨pp, r5, m8, r4, m9, k4, te, k1, kw, kn⟩ := id t3
  have ha0 : ∀ r : Int32, ¬ r = 1 → AF1 z i r ct rd1 ct1 := fun r hr => ⟨e, pp, by omega, fun w => absurd w hr, ⟨ta, Nat.le_trans te pp.2.2.2.2, r5, m8⟩, t5⟩
  have n0 : ¬ (0 : Int32) = 1 := by decide
  unfold f_X1_readStatement f_X6_isStatement
  rw [t1, ob, t2, ob, x1, ob, r4]
  rcases x2 with ⟨rfl, hnone⟩ | ⟨w, hw, rfl, hk, hm⟩
  · rw [if_pos rfl]
    refine ⟨0, rd1, f, C, F, K, G, P, Wt, ct1, N, ?_, rfl, Or.inl rfl, ha0 0 n0, fun w => absurd w n0⟩
    by_cases c : k = 1
    · have hno : ∀ v, v < 8 → f_X1_isWord v rd1 by_ = some 0 := fun v hv => by
        obtain ⟨r, r1, r2⟩ := isWord_eq (by_ := by_) hz hb hv t3
        rcases r2 with ⟨-, y⟩ | ⟨y, -⟩
        · exact absurd ⟨c, y⟩ (hnone v hv)
        · rw [r1, y]
      unfold f_X1_readYear
      rw [if_pos (show nI k = 1 by rw [c]; rfl), hno 0 (by decide), ob, if_pos rfl, hno 1 (by decide), ob, if_pos rfl, hno 2 (by decide), ob, if_pos rfl, hno 3 (by decide), ob, if_pos rfl, hno 4 (by decide), ob, if_pos rfl, hno 5 (by decide), ob, if_pos rfl, hno 6 (by decide), ob, if_pos rfl, hno 7 (by decide), ob, if_pos rfl, ob, if_pos (Or.inl rfl)]
    · rw [if_neg (show ¬ nI k = (1 : Int32) from fun q => c (nI_inj (b := 1) (by omega) (by omega) q))]
  · have hyes : f_X1_isWord w rd1 by_ = some 1 := by
      obtain ⟨r, r1, r2⟩ := isWord_eq (by_ := by_) hz hb hw t3
      rcases r2 with ⟨y, -⟩ | ⟨-, y⟩
      · rw [r1, y]
      · exact absurd hm y
    have hno : ∀ v, v < 8 → v ≠ w → f_X1_isWord v rd1 by_ = some 0 := fun v hv hvw => by
      obtain ⟨r, r1, r2⟩ := isWord_eq (by_ := by_) hz hb hv t3
      rcases r2 with ⟨-, y⟩ | ⟨y, -⟩
      · exact absurd (y.uniq hm hv hw) hvw
      · rw [r1, y]
    have he := k1 (by omega)
    have wrap : ∀ (r : Int32) (rd' ct' : Nat → Int32), AFT z e ct1 rd' ct' → AF1 z i r ct rd' ct' := fun r rd' ct' ha => by
      obtain ⟨e2, p2, l2, f2, fr⟩ := ha
      exact ⟨e2, p2, by omega, fun _ => by omega, f2, fun j h7 h8 h9 => (fr j h7 h8 h9).trans (t5 j h7 h8 h9)⟩
    have hw1 : ¬ nI w = -1 := nI_ne1 (by omega)
    rw [if_pos (show nI k = 1 by rw [hk]; rfl), if_neg hw1]
    by_cases c3 : w = 3
    · subst c3
      rw [if_pos (show nI 3 = 3 from rfl), hno 0 (by decide) (by decide), ob, if_pos rfl, hno 1 (by decide) (by decide), ob, if_pos rfl, hno 2 (by decide) (by decide), ob, if_pos rfl, hyes, ob, if_neg one_ne0]
      unfold f_X6_many
      rw [ob, h.n7]
      have hn8 := h.1.2.2.1
      by_cases c8 : n = 8
      · rw [if_pos (show nI n = 8 by rw [c8]; rfl)]
        unfold f_X1_readPerson f_X0_isFull
        rw [h.1.2.2.2.2.2.1, if_neg (show ¬ nI n < (8 : Int32) from fun q => by have := (nI_ltI (b := 8) (by omega) (by omega)).mp q; omega), ob, if_neg one_ne0, ob, if_pos (Or.inl rfl)]
        exact ⟨0, rd1, f, C, F, K, G, P, Wt, ct1, N, rfl, rfl, Or.inl rfl, ha0 0 n0, fun w => absurd w n0⟩
      · rw [if_neg (show ¬ nI n = (8 : Int32) from fun q => c8 (nI_inj (b := 8) (by omega) (by omega) q))]
        obtain ⟨r, rd', f', C', F', K', G', W', ct', N', a1, a2, a3, a4, a5⟩ := readPerson_both (words := words) hz hb pp h (show n < 8 by omega)
        rw [a1, ob, a2]
        dsimp only
        rw [if_pos a3]
        exact ⟨r, rd', f', C', F', K', G', P, W', ct', N', rfl, rfl, a3, wrap r rd' ct' a4, fun q => ⟨s, (a5 q)⟩⟩
    · rw [if_neg (show ¬ nI w = (3 : Int32) from fun q => c3 (nI_inj (b := 3) (by omega) (by omega) q))]
      rcases (show w = 0 ∨ w = 1 ∨ w = 2 ∨ w = 4 ∨ (w = 5 ∨ w = 6 ∨ w = 7) by omega) with c | c | c | c | c
      · subst c
        rw [hyes, ob, if_neg one_ne0]
        obtain ⟨r, rd', f', ct', N', a1, a2, a3, a4, a5⟩ := readSide_both (words := words) hz hb pp h
        rw [a1, ob, a2]
        dsimp only
        rw [if_pos a3]
        exact ⟨r, rd', f', C, F, K, G, P, Wt, ct', N', rfl, rfl, a3, wrap r rd' ct' a4, fun q => (a5 q).elim fun s' hs => ⟨s', n, Nat.le_refl _, hs⟩⟩
      · subst c
        rw [hno 0 (by decide) (by decide), ob, if_pos rfl, hyes, ob, if_neg one_ne0]
        obtain ⟨r, rd', P', ct', N', a1, a2, a3, a4, a5⟩ := readPond_both (words := words) hz hb pp h
        rw [a1, ob, a2]
        dsimp only
        rw [if_pos a3]
        exact ⟨r, rd', f, C, F, K, G, P', Wt, ct', N', rfl, rfl, a3, wrap r rd' ct' a4, fun q => ⟨s, n, Nat.le_refl _, a5 q⟩⟩
      · subst c
        rw [hno 0 (by decide) (by decide), ob, if_pos rfl, hno 1 (by decide) (by decide), ob, if_pos rfl, hyes, ob, if_neg one_ne0]
        obtain ⟨r, rd', P', ct', N', a1, a2, a3, a4, a5⟩ := readDry_both (words := words) hz hb pp h
        rw [a1, ob, a2]
        dsimp only
        rw [if_pos a3]
        exact ⟨r, rd', f, C, F, K, G, P', Wt, ct', N', rfl, rfl, a3, wrap r rd' ct' a4, fun q => ⟨s, n, Nat.le_refl _, a5 q⟩⟩
      · subst c
        rw [hno 0 (by decide) (by decide), ob, if_pos rfl, hno 1 (by decide) (by decide), ob, if_pos rfl, hno 2 (by decide) (by decide), ob, if_pos rfl, hno 3 (by decide) (by decide), ob, if_pos rfl, hyes, ob, if_neg one_ne0]
        obtain ⟨r, rd', G', ct', N', a1, a2, a3, a4, a5⟩ := readIs_both (words := words) hz hb pp h
        rw [a1, ob, a2]
        dsimp only
        rw [if_pos a3]
        exact ⟨r, rd', f, C, F, K, G', P, Wt, ct', N', rfl, rfl, a3, wrap r rd' ct' a4, fun q => ⟨s, n, Nat.le_refl _, a5 q⟩⟩
      · rw [hno 0 (by decide) (by omega), ob, if_pos rfl, hno 1 (by decide) (by omega), ob, if_pos rfl, hno 2 (by decide) (by omega), ob, if_pos rfl, hno 3 (by decide) (by omega), ob, if_pos rfl, hno 4 (by decide) (by omega), ob, if_pos rfl]
        obtain ⟨r, rd', f', ct', N', a1, a2, a3, a4, a5⟩ := readYear_both (words := words) hz hb t3 c hyes hno h
        rw [a1, ob, a2]
        dsimp only
        rw [if_pos a3]
        exact ⟨r, rd', f', C, F, K, G, P, Wt, ct', N', rfl, rfl, a3, wrap r rd' ct' a4, fun q => ⟨s, n, Nat.le_refl _, a5 q⟩⟩
