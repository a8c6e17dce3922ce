-- ===== island: the statements =====
theorem IRn.side {s n t : Nat} {f P K Wt C F G N : Nat → Int32} (h : IRn s n f P K Wt C F G N) (h1 : s ≤ t) (h2 : t ≤ 7) : IRn t n (upd f 0 (nI t)) P K Wt C F G (upd N 90 (nI t)) := by
  obtain ⟨⟨q1, q2, q3, q4, q5, q6, q7, q8, q9, ⟨d, q10, q14, q15⟩, q11, q12, q13⟩, he, hv, hc⟩ := h
  refine ⟨⟨by omega, h2, q3, rfl, rfl, q6, q7, q8, q9, ⟨d, q10, q14, q15⟩, q11, q12, q13⟩, he.congr (fun j hj => upd_ne (by omega)), ?_, ?_⟩
  · intro p hp
    obtain ⟨a, b, ⟨c, c2, c3⟩, d⟩ := hv p hp
    exact ⟨a, b, ⟨c, ⟨by have := c2.1; omega, by have := c2.2; omega⟩, c3⟩, d⟩
  · intro k hk h7
    obtain ⟨a, b, c⟩ := hc k hk h7
    exact ⟨(upd_ne (by unfold pt; omega)).trans a, b, fun z => c (fun w => z ⟨by have := w.1; omega, by have := w.2; omega⟩)⟩
theorem IRn.pondU {s n k : Nat} {f P K Wt C F G N : Nat → Int32} {x : Int32} (h : IRn s n f P K Wt C F G N) (hk : okc s k) (hx : isB x) : IRn s n f (upd P k x) K Wt C F G (upd N (pt k) x) := by
  have h2 := h.1.2.1
  have k1 := hk.1
  have k2 := hk.2
  exact ⟨h.1.congr (fun j hj => upd_ne (by unfold pt; omega)), h.2.1.congr (fun j hj => upd_ne (by unfold pt; omega)), h.2.2.1, h.2.2.2.upd hk h2 hx⟩
theorem IRn.left {s n : Nat} {f P K Wt C F G N : Nat → Int32} {x : Int32} (h : IRn s n f P K Wt C F G N) (hx : isB x) : IRn s n (upd f 1 x) P K Wt C F G (upd N 91 x) := by
  obtain ⟨⟨q1, q2, q3, q4, q5, q6, q7, q8, q9, ⟨d, q10, q14, q15⟩, q11, q12, q13⟩, he, hv, hc⟩ := h
  exact ⟨⟨q1, q2, q3, q4, q5, q6, q7, ⟨rfl, hx⟩, q9, ⟨d, q10, q14, q15⟩, q11, q12, q13⟩, he.congr (fun j hj => upd_ne (by omega)), hv, hc.congr (fun j h1 h2 => upd_ne (by omega))⟩
theorem IRn.oldU {s n : Nat} {f P K Wt C F G N : Nat → Int32} {x : Int32} (h : IRn s n f P K Wt C F G N) (hx : isB x) : IRn s n (upd f 2 x) P K Wt C F G (upd N 92 x) := by
  obtain ⟨⟨q1, q2, q3, q4, q5, q6, q7, q8, q9, ⟨d, q10, q14, q15⟩, q11, q12, q13⟩, he, hv, hc⟩ := h
  exact ⟨⟨q1, q2, q3, q4, q5, q6, q7, q8, ⟨rfl, hx⟩, ⟨d, q10, q14, q15⟩, q11, q12, q13⟩, he.congr (fun j hj => upd_ne (by omega)), hv, hc.congr (fun j h1 h2 => upd_ne (by omega))⟩
theorem IRn.doubt {s n d : Nat} {f P K Wt C F G N : Nat → Int32} (h : IRn s n f P K Wt C F G N) (hd : d ≤ 12) : IRn s n (upd f 3 (nI d)) P K Wt C F G (upd N 93 (nI d)) := by
  obtain ⟨⟨q1, q2, q3, q4, q5, q6, q7, q8, q9, -, q11, q12, q13⟩, he, hv, hc⟩ := h
  exact ⟨⟨q1, q2, q3, q4, q5, q6, q7, q8, q9, ⟨d, hd, rfl, rfl⟩, q11, q12, q13⟩, he.congr (fun j hj => upd_ne (by omega)), hv, hc.congr (fun j h1 h2 => upd_ne (by omega))⟩
theorem nIB {x : Nat} (h : x < 2) : isB (nI x) := by
  rcases (show x = 0 ∨ x = 1 by omega) with rfl | rfl
  · exact Or.inl rfl
  · exact Or.inr rfl
theorem b30_w {tp words ct N : Nat → Int32} : f_X6_isStatement_b30 tp words ct N (nI 0) = f_X6_isStatement_b172 tp words ct N 90 7 (N 90) ∧ f_X6_isStatement_b30 tp words ct N (nI 1) = f_X6_isStatement_b50 tp words ct N 1 ∧ f_X6_isStatement_b30 tp words ct N (nI 2) = f_X6_isStatement_b50 tp words ct N 2 ∧ f_X6_isStatement_b30 tp words ct N (nI 5) = f_X6_isStatement_b172 tp words ct N 91 1 0 ∧ f_X6_isStatement_b30 tp words ct N (nI 6) = f_X6_isStatement_b172 tp words ct N 92 1 0 ∧ f_X6_isStatement_b30 tp words ct N (nI 7) = f_X6_isStatement_b172 tp words ct N 93 12 0 := by
  refine ⟨?_, ?_, ?_, ?_, ?_, ?_⟩
  · unfold f_X6_isStatement_b30 f_X6_isStatement_b104 f_X6_isStatement_b135 f_X6_isStatement_b151
    rw [if_neg (by decide), if_neg (by decide), if_neg (by decide), if_pos (by decide), if_neg (by decide), if_pos (by decide), if_pos (by decide)]
  · unfold f_X6_isStatement_b30
    rw [if_neg (by decide), if_pos (by decide)]
    rfl
  · unfold f_X6_isStatement_b30
    rw [if_neg (by decide), if_neg (by decide), if_pos (by decide)]
    rfl
  · unfold f_X6_isStatement_b30 f_X6_isStatement_b104 f_X6_isStatement_b135 f_X6_isStatement_b151
    rw [if_neg (by decide), if_neg (by decide), if_neg (by decide), if_neg (by decide), if_neg (by decide), if_neg (by decide), if_neg (by decide), if_neg (by decide)]
    rfl
  · unfold f_X6_isStatement_b30 f_X6_isStatement_b104 f_X6_isStatement_b135 f_X6_isStatement_b151
    rw [if_neg (by decide), if_neg (by decide), if_neg (by decide), if_neg (by decide), if_neg (by decide), if_neg (by decide), if_neg (by decide), if_neg (by decide)]
    rfl
  · unfold f_X6_isStatement_b30 f_X6_isStatement_b104 f_X6_isStatement_b135 f_X6_isStatement_b151
    rw [if_neg (by decide), if_neg (by decide), if_neg (by decide), if_neg (by decide), if_neg (by decide), if_neg (by decide), if_neg (by decide), if_pos (by decide)]
    rfl
theorem readSide_both {by_ tp words rd ct f P K Wt C F G N : Nat → Int32} {z i s n : Nat} (hz : z ≤ 250) (hb : ∀ i, i < z → by_ i = tp i) (hp : PR z i rd ct) (h : IRn s n f P K Wt C F G N) : ∃ r rd' f' ct' N', f_X1_readSide rd by_ f = some (r, rd', f') ∧ f_X6_isStatement_b30 tp words ct N (nI 0) = some (r, ct', N') ∧ isB r ∧ AFT z i ct rd' ct' ∧ (r = 1 → ∃ s', IRn s' n f' P K Wt C F G N') := by
  obtain ⟨rd', ct', ta, e, k, t1, t2, t3, t4, t5, t6⟩ := num_gen hz hb hp
  obtain ⟨pp, r5, m8, r4, m9, k4, te, k1, kw, kn⟩ := t4
  have ha : AFT z i ct rd' ct' := AFT.mk1 pp (by omega) te r5 m8 t6
  obtain ⟨q1, q2, q3, q4, q5, q6⟩ := h.1
  have hmax : (if f 0 < (3 : Int32) then (3 : Int32) else f 0) = nI s := by
    rw [q4, if_neg (fun z => by have := (nI_ltI (b := 3) (by omega) (by omega)).mp z; omega)]
  have h3s : (3 : Int32) ≤ nI s := (nI_leI (a := 3) (by omega) (by omega)).mpr q1
  rw [b30_w.1]
  unfold f_X1_readSide f_X6_isStatement_b172 f_X0_maySide
  rw [t2 3 7, t3 (N 90) 7, ob, ob, q5, hmax]
  dsimp only
  rw [isWithin_eq, ob, if_pos (w01 _), ob]
  by_cases c : k = 2 ∧ (nI s ≤ rd' 6 ∧ rd' 6 ≤ 7)
  · have c2 := big_100 (kn c.1) (Int32.le_trans c.2.2 (by decide))
    obtain ⟨t, ht, hta⟩ := i32_nat (n := 7) (Int32.le_trans (nI_pos' (by omega)) c.2.1) c.2.2 (by decide)
    have hst : s ≤ t := (nI_leI (by omega) (by omega)).mp (by rw [← hta]; exact c.2.1)
    rw [if_pos (show k = 2 ∧ ((3 : Int32) ≤ rd' 6 ∧ rd' 6 ≤ 7) from ⟨c.1, Int32.le_trans h3s c.2.1, c.2.2⟩), if_neg one_ne0, if_pos c.2, if_neg one_ne0, if_pos (show (k = 2 ∧ e - ta ≤ 2) ∧ (nI s ≤ rd' 6 ∧ rd' 6 ≤ 7) from ⟨⟨c.1, c2⟩, c.2⟩), hta, if_neg (nI_ne1 (by omega)), if_pos (show inb 90 97 by decide)]
    exact ⟨1, rd', _, ct', _, rfl, rfl, Or.inr rfl, ha, fun _ => ⟨t, h.side hst ht⟩⟩
  · rw [if_neg (show ¬ ((k = 2 ∧ e - ta ≤ 2) ∧ (nI s ≤ rd' 6 ∧ rd' 6 ≤ 7)) from fun w => c ⟨w.1.1, w.2⟩), if_pos rfl]
    refine ⟨0, rd', f, ct', N, ?_, rfl, Or.inl rfl, ha, fun w => absurd w (by decide)⟩
    by_cases c3 : k = 2 ∧ ((3 : Int32) ≤ rd' 6 ∧ rd' 6 ≤ 7)
    · rw [if_pos c3, if_neg one_ne0, if_neg (fun w => c ⟨c3.1, w⟩), if_pos rfl]
    · rw [if_neg c3, if_pos rfl]
theorem readPond_both {by_ tp words rd ct f P K Wt C F G N : Nat → Int32} {z i s n : Nat} (hz : z ≤ 250) (hb : ∀ i, i < z → by_ i = tp i) (hp : PR z i rd ct) (h : IRn s n f P K Wt C F G N) : ∃ r rd' P' ct' N', f_X1_readPond rd by_ f C P = some (r, rd', P') ∧ f_X6_isStatement_b30 tp words ct N (nI 1) = some (r, ct', N') ∧ isB r ∧ AFT z i ct rd' ct' ∧ (r = 1 → IRn s n f P' K Wt C F G N') := by
  obtain ⟨q1, q2, q3, q4, q5, q6, q7, q8⟩ := h.1
  obtain ⟨rd', ct', r, v, t1, t2, t3, t4⟩ := cell_both hz hb hp q2 q4 q5
  rw [b30_w.2.1]
  unfold f_X1_readPond f_X6_isStatement_b50
  rw [t1, t2, ob, ob]
  dsimp only
  rcases t4 with ⟨rfl, rfl⟩ | ⟨rfl, c, hc70, hc, rfl, hc6⟩
  · rw [if_pos rfl, if_pos rfl]
    exact ⟨0, rd', P, ct', N, rfl, rfl, Or.inl rfl, t3, fun w => absurd w (by decide)⟩
  · rw [if_neg one_ne0, if_neg (nI_ne1 (by omega))]
    simp only [hc6, eq_self, if_true]
    obtain ⟨s1, s2⟩ := somebody_both (ct := ct') q3 q6 q7 (fun p hp => (h.2.1 p hp).2.2.1) (nI c)
    rw [s1, s2, ob, ob]
    by_cases y : smb C (nI c) n n = true
    · rw [if_pos y, if_neg one_ne0, if_neg one_ne0]
      exact ⟨0, rd', P, ct', N, rfl, rfl, Or.inl rfl, t3, fun w => absurd w (by decide)⟩
    · rw [if_neg y, if_pos rfl, if_pos rfl, if_pos (inb_nI (show c < 70 by omega) (by decide)), nI_cl (by omega)]
      unfold f_X6_isStatement_b75
      have hpt : pt c < 97 := by unfold pt; omega
      rw [pondAt_eq (by omega), ob, if_pos (inb_nI hpt (by decide)), nI_cl (by omega), show (2 : Int32) - 1 = 1 from by decide, show vp_nar .boolean 1 = 1 from nar_B (Or.inr rfl)]
      exact ⟨1, rd', _, ct', _, rfl, rfl, Or.inr rfl, t3, fun _ => h.pondU hc (Or.inr rfl)⟩
theorem readDry_both {by_ tp words rd ct f P K Wt C F G N : Nat → Int32} {z i s n : Nat} (hz : z ≤ 250) (hb : ∀ i, i < z → by_ i = tp i) (hp : PR z i rd ct) (h : IRn s n f P K Wt C F G N) : ∃ r rd' P' ct' N', f_X1_readDry rd by_ f P = some (r, rd', P') ∧ f_X6_isStatement_b30 tp words ct N (nI 2) = some (r, ct', N') ∧ isB r ∧ AFT z i ct rd' ct' ∧ (r = 1 → IRn s n f P' K Wt C F G N') := by
  obtain ⟨q1, q2, q3, q4, q5, q6, q7, q8⟩ := h.1
  obtain ⟨rd', ct', r, v, t1, t2, t3, t4⟩ := cell_both hz hb hp q2 q4 q5
  rw [b30_w.2.2.1]
  unfold f_X1_readDry f_X6_isStatement_b50
  rw [t1, t2, ob, ob]
  dsimp only
  rcases t4 with ⟨rfl, rfl⟩ | ⟨rfl, c, hc70, hc, rfl, hc6⟩
  · rw [if_pos rfl, if_pos rfl]
    exact ⟨0, rd', P, ct', N, rfl, rfl, Or.inl rfl, t3, fun w => absurd w (by decide)⟩
  · rw [if_neg one_ne0, if_neg (nI_ne1 (by omega))]
    simp only [hc6, (show ¬ (2 : Int32) = 1 by decide), if_false]
    rw [if_pos (inb_nI (show c < 70 by omega) (by decide)), nI_cl (by omega)]
    unfold f_X6_isStatement_b75
    have hpt : pt c < 97 := by unfold pt; omega
    rw [pondAt_eq (by omega), ob, if_pos (inb_nI hpt (by decide)), nI_cl (by omega), show (2 : Int32) - 2 = 0 from by decide, show vp_nar .boolean 0 = 0 from nar_B (Or.inl rfl)]
    exact ⟨1, rd', _, ct', _, rfl, rfl, Or.inr rfl, t3, fun _ => h.pondU hc (Or.inl rfl)⟩
theorem readVal {by_ tp words rd ct N : Nat → Int32} {z i q hi : Nat} (hz : z ≤ 250) (hb : ∀ i, i < z → by_ i = tp i) (hp : PR z i rd ct) (hq : q < 97) (hh : hi ≤ 99) : ∃ r rd' ct' v, f_X1_readNumber 0 (nI hi) rd by_ = some (r, rd') ∧ AFT z i ct rd' ct' ∧ ((r = 0 ∧ v = -1 ∧ f_X6_isStatement_b172 tp words ct N (nI q) (nI hi) 0 = some (0, ct', N)) ∨ (r = 1 ∧ ∃ x : Nat, x ≤ hi ∧ v = nI x ∧ rd' 6 = nI x ∧ f_X6_isStatement_b172 tp words ct N (nI q) (nI hi) 0 = some (1, ct', upd N q (nI x)))) := by
  obtain ⟨rd', ct', r, v, t1, t2, t3, t4⟩ := num_both hz hb hp (show (0 : Int32) ≤ 0 by decide) ((nI_leI (b := 99) (by omega) (by omega)).mpr hh)
  refine ⟨r, rd', ct', v, t1, t3, ?_⟩
  unfold f_X6_isStatement_b172
  rw [t2, ob]
  dsimp only
  rcases t4 with ⟨rfl, rfl⟩ | ⟨rfl, x, x1, rfl, x3, x4, x5⟩
  · left
    rw [if_pos rfl]
    exact ⟨rfl, rfl, rfl⟩
  · right
    rw [if_neg (nI_ne1 (by omega)), if_pos (inb_nI hq (by decide)), nI_cl (by omega)]
    exact ⟨rfl, x, (nI_leI (by omega) (by omega)).mp x5, rfl, x3, rfl⟩
