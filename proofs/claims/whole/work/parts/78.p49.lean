-- ===== island: one token by both =====
noncomputable def TOK (z ta e k : Nat) (tp rd ct : Nat → Int32) : Prop := PR z e rd ct ∧ rd 5 = nI ta ∧ ct 8 = nI ta ∧ rd 4 = nI k ∧ ct 9 = nI k ∧ k ≤ 4 ∧ ta ≤ e ∧ (1 ≤ k → ta + 1 ≤ e) ∧ (k = 1 → ∀ q, ta ≤ q → q < e → 97 ≤ tp q ∧ tp q ≤ 122) ∧ (k = 2 → rd 6 = if e - ta ≤ 2 then nvl tp ta e else 100)
theorem nvl_congr {b d : Nat → Int32} {ta e : Nat} (h : ta + 1 ≤ e) (h2 : e - ta ≤ 2) (hb : ∀ q, q < e → b q = d q) : nvl b ta e = nvl d ta e := by
  unfold nvl
  by_cases c : e = ta + 1
  · rw [if_pos c, if_pos c, hb ta (by omega)]
  · rw [if_neg c, if_neg c, hb ta (by omega), hb (ta + 1) (by omega)]
theorem skip_both {by_ tp : Nat → Int32} {z : Nat} (hz : z ≤ 250) (hb : ∀ i, i < z → by_ i = tp i) : ∀ (j a b i : Nat) (rd ct : Nat → Int32), z - i = j → j < a → j < b → PR z i rd ct → ∃ rd1 ct1 ta, f_X1_nextToken_b0 by_ a rd = f_X1_nextToken_b38 by_ rd1 ∧ f_X6_next_b0 tp b ct = f_X6_next_b38 tp ct1 ∧ PR z ta rd1 ct1 ∧ i ≤ ta ∧ (∀ j, j ≠ 7 → ct1 j = ct j) := by
  intro j
  induction j with
  | zero =>
    intro a b i rd ct hj ha hb2 hp
    obtain ⟨k, rfl⟩ : ∃ k, a = k + 1 := ⟨a - 1, by omega⟩
    obtain ⟨k2, rfl⟩ : ∃ k, b = k + 1 := ⟨b - 1, by omega⟩
    obtain ⟨p1, p2, p3, p4, p5⟩ := id hp
    have hy : nI z ≤ nI i := (nI_leI (by omega) (by omega)).mpr (by omega)
    rw [f_X1_nextToken_b0, f_X6_next_b0, p1, p2, p3, p4, if_pos hy, if_pos hy]
    exact ⟨rd, ct, i, rfl, rfl, hp, Nat.le_refl _, fun _ _ => rfl⟩
  | succ j ih =>
    intro a b i rd ct hj ha hb2 hp
    obtain ⟨k, rfl⟩ : ∃ k, a = k + 1 := ⟨a - 1, by omega⟩
    obtain ⟨k2, rfl⟩ : ∃ k, b = k + 1 := ⟨b - 1, by omega⟩
    obtain ⟨p1, p2, p3, p4, p5⟩ := id hp
    have hno : ¬ nI z ≤ nI i := fun w => by have := (nI_leI (by omega) (by omega)).mp w; omega
    have hin := inb_nI (show i < 250 by omega) (show 250 ≤ 2147483648 by decide)
    rw [f_X1_nextToken_b0, f_X6_next_b0, p1, p2, p3, p4, if_neg hno, if_neg hno, if_pos hin, if_pos hin, nI_cl (by omega), hb i (by omega), nI_1]
    by_cases c : tp i = 32
    · rw [if_pos c, if_pos c]
      obtain ⟨rd1, ct1, ta, r1, r2, r3, r4, r5⟩ := ih k k2 (i + 1) (upd rd 3 (nI (i + 1))) (upd ct 7 (nI (i + 1))) (by omega) (by omega) (by omega) ⟨(upd_ne (by decide)).trans p1, (upd_ne (by decide)).trans p2, upd_eq, upd_eq, by omega⟩
      exact ⟨rd1, ct1, ta, r1, r2, r3, by omega, fun j hj => (r5 j hj).trans (upd_ne hj)⟩
    · rw [if_neg c, if_neg c]
      exact ⟨rd, ct, i, rfl, rfl, hp, Nat.le_refl _, fun _ _ => rfl⟩
theorem token_both {by_ tp rd ct : Nat → Int32} {z i : Nat} (hz : z ≤ 250) (hb : ∀ i, i < z → by_ i = tp i) (hp : PR z i rd ct) : ∃ rd' ct' ta e k, f_X1_nextToken rd by_ = some rd' ∧ f_X6_next ct tp = some ct' ∧ TOK z ta e k tp rd' ct' ∧ i ≤ ta ∧ (∀ j, j ≠ 7 → j ≠ 8 → j ≠ 9 → ct' j = ct j) := by
  obtain ⟨kk, hk⟩ := FU_s
  obtain ⟨rd1, ct1, ta, r1, r2, ⟨p1, p2, p3, p4, p5⟩, r4, r5⟩ := skip_both hz hb (z - i) FU FU i rd ct rfl (by omega) (by omega) hp
  have s1 : f_X1_nextToken rd by_ = f_X1_nextToken_b38 by_ rd1 := r1
  have s2 : f_X6_next ct tp = f_X6_next_b38 tp ct1 := r2
  rw [s1, s2]
  unfold f_X1_nextToken_b38 f_X6_next_b38
  have c2 : upd rd1 5 (rd1 3) 2 = nI z := (upd_ne (by decide)).trans p1
  have c3 : upd rd1 5 (rd1 3) 3 = nI ta := (upd_ne (by decide)).trans p3
  have c5 : upd rd1 5 (rd1 3) 5 = nI ta := upd_eq.trans p3
  have m6 : upd ct1 8 (ct1 7) 6 = nI z := (upd_ne (by decide)).trans p2
  have m7 : upd ct1 8 (ct1 7) 7 = nI ta := (upd_ne (by decide)).trans p4
  have m8 : upd ct1 8 (ct1 7) 8 = nI ta := upd_eq.trans p4
  have mf : ∀ j, j ≠ 7 → j ≠ 8 → j ≠ 9 → upd ct1 8 (ct1 7) j = ct j := fun j h7 h8 h9 => (upd_ne h8).trans (r5 j h7)
  generalize upd rd1 5 (rd1 3) = rd2 at *
  generalize upd ct1 8 (ct1 7) = ct2 at *
  rw [c2, c3, m7, sortAt_eq hz m6 (by omega), ob]
  have m9 : ∀ x, upd ct2 9 x 9 = x := fun x => upd_eq
  rw [m9]
  by_cases c : ta < z
  · have hin := inb_nI (show ta < 250 by omega) (show 250 ≤ 2147483648 by decide)
    have hcl : (nI ta).toNatClampNeg = ta := nI_cl (by omega)
    rw [if_pos ((nI_ltI (by omega) (by omega)).mpr c)]
    simp only [if_pos hin, hcl, hb ta c, isWithin_eq, ob]
    have hs : srt tp z ta = if 97 ≤ tp ta ∧ tp ta ≤ 122 then 1 else if 48 ≤ tp ta ∧ tp ta ≤ 57 then 2 else if tp ta = 59 then 3 else 4 := by
      unfold srt
      rw [if_pos c]
    have wd : ∀ q, q < z → (srt tp z q = 1 ↔ 97 ≤ tp q ∧ tp q ≤ 122) := fun q hq => by
      unfold srt
      rw [if_pos hq]
      by_cases w : 97 ≤ tp q ∧ tp q ≤ 122
      · rw [if_pos w]; exact ⟨fun _ => w, fun _ => rfl⟩
      · rw [if_neg w]
        refine ⟨fun h => ?_, fun h => absurd h w⟩
        split at h
        · omega
        · split at h <;> omega
    have nm : ∀ q, q < z → (srt tp z q = 2 ↔ 48 ≤ tp q ∧ tp q ≤ 57) := fun q hq => by
      unfold srt
      rw [if_pos hq]
      by_cases w : 97 ≤ tp q ∧ tp q ≤ 122
      · rw [if_pos w]
        refine ⟨fun h => by omega, fun h => ?_⟩
        have := Int32.le_trans w.1 h.2
        exact absurd this (by decide)
      · rw [if_neg w]
        by_cases w2 : 48 ≤ tp q ∧ tp q ≤ 57
        · rw [if_pos w2]; exact ⟨fun _ => w2, fun _ => rfl⟩
        · rw [if_neg w2]
          refine ⟨fun h => ?_, fun h => absurd h w2⟩
          split at h <;> omega
    have hnot0 : ¬ nI (srt tp z ta) ≤ 0 := by
      refine nI_nle ?_ ?_ <;> rw [hs] <;> (split <;> (try split) <;> (try split) <;> omega)
    have e7 : ∀ x, upd ct2 9 x 7 = nI ta := fun x => (upd_ne (by decide)).trans m7
    rw [if_neg hnot0, e7, nI_1]
    by_cases c1 : 97 ≤ tp ta ∧ tp ta ≤ 122
    · have hs1 : srt tp z ta = 1 := (wd ta c).mpr c1
      rw [if_pos c1, if_neg one_ne0, hs1]
      unfold f_X1_passAll
      obtain ⟨rd', e, t1, t2, t3, t4, t5, t6, t7⟩ := passC (by_ := by_) hz hb wd (z - ta) FU ta (upd rd2 4 1) rfl (by omega) p5 ((upd_ne (by decide)).trans c2) ((upd_ne (by decide)).trans c3)
      have he : ta + 1 ≤ e := by
        rcases Nat.lt_or_ge ta e with w | w
        · exact w
        · have : e = ta := by omega
          subst this
          exact absurd hs1 (t6 c)
      obtain ⟨ct', n1, n2, n3⟩ := passM (tp := tp) hz (show 1 < 3 by decide) (Nat.le_refl _) t3 t6 (e - (ta + 1)) FU (ta + 1) (upd (upd ct2 9 (nI 1)) 7 (nI (ta + 1))) rfl (by omega) he (((upd_ne (by decide)).trans (upd_ne (by decide))).trans m6) upd_eq ((upd_ne (by decide)).trans upd_eq) (fun q h1 h2 => t5 q (by omega) h2)
      rw [t1, ob, n1]
      refine ⟨rd', ct', ta, e, 1, rfl, rfl, ⟨⟨(t7 2 (by decide)).trans ((upd_ne (by decide)).trans c2), (n3 6 (by decide)).trans (((upd_ne (by decide)).trans (upd_ne (by decide))).trans m6), t4, n2, t3⟩, (t7 5 (by decide)).trans ((upd_ne (by decide)).trans c5), (n3 8 (by decide)).trans (((upd_ne (by decide)).trans (upd_ne (by decide))).trans m8), (t7 4 (by decide)).trans upd_eq, (n3 9 (by decide)).trans ((upd_ne (by decide)).trans upd_eq), by decide, by omega, fun _ => he, fun _ q h1 h2 => (wd q (by omega)).mp (t5 q h1 h2), fun h => by omega⟩, r4, fun j h7 h8 h9 => (n3 j h7).trans ((upd_ne h7).trans ((upd_ne h9).trans (mf j h7 h8 h9)))⟩
    · rw [if_neg c1, if_pos rfl]
      by_cases c2' : 48 ≤ tp ta ∧ tp ta ≤ 57
      · have hs1 : srt tp z ta = 2 := (nm ta c).mpr c2'
        rw [if_pos c2', if_neg one_ne0, hs1]
        unfold f_X1_passAll
        obtain ⟨rd', e, t1, t2, t3, t4, t5, t6, t7⟩ := passC (by_ := by_) hz hb nm (z - ta) FU ta (upd rd2 4 2) rfl (by omega) p5 ((upd_ne (by decide)).trans c2) ((upd_ne (by decide)).trans c3)
        have he : ta + 1 ≤ e := by
          rcases Nat.lt_or_ge ta e with w | w
          · exact w
          · have : e = ta := by omega
            subst this
            exact absurd hs1 (t6 c)
        obtain ⟨ct', n1, n2, n3⟩ := passM (tp := tp) hz (show 2 < 3 by decide) (by decide) t3 t6 (e - (ta + 1)) FU (ta + 1) (upd (upd ct2 9 (nI 2)) 7 (nI (ta + 1))) rfl (by omega) he (((upd_ne (by decide)).trans (upd_ne (by decide))).trans m6) upd_eq ((upd_ne (by decide)).trans upd_eq) (fun q h1 h2 => t5 q (by omega) h2)
        have h5 : rd' 5 = nI ta := (t7 5 (by decide)).trans ((upd_ne (by decide)).trans c5)
        rw [t1, ob, n1, numC (by_ := by_) (show e ≤ 250 by omega) t4 h5 he, ob]
        refine ⟨_, ct', ta, e, 2, rfl, rfl, ⟨⟨(upd_ne (by decide)).trans ((t7 2 (by decide)).trans ((upd_ne (by decide)).trans c2)), (n3 6 (by decide)).trans (((upd_ne (by decide)).trans (upd_ne (by decide))).trans m6), (upd_ne (by decide)).trans t4, n2, t3⟩, (upd_ne (by decide)).trans h5, (n3 8 (by decide)).trans (((upd_ne (by decide)).trans (upd_ne (by decide))).trans m8), (upd_ne (by decide)).trans ((t7 4 (by decide)).trans upd_eq), (n3 9 (by decide)).trans ((upd_ne (by decide)).trans upd_eq), by decide, by omega, fun _ => he, fun h => by omega, fun _ => ?_⟩, r4, fun j h7 h8 h9 => (n3 j h7).trans ((upd_ne h7).trans ((upd_ne h9).trans (mf j h7 h8 h9)))⟩
        rw [upd_eq]
        by_cases w : e - ta ≤ 2
        · rw [if_pos w, if_pos w, nvl_congr he w (fun q hq => hb q (by omega))]
        · rw [if_neg w, if_neg w]
      · have fin : ∀ k : Nat, 3 ≤ k → k ≤ 4 → ∃ rd' ct' ta_1 e k_1, f_X1_nextToken_b163 by_ rd2 (nI k) = some rd' ∧ f_X6_next_b75 tp FU (upd (upd ct2 9 (nI k)) 7 (nI (ta + 1))) = some ct' ∧ TOK z ta_1 e k_1 tp rd' ct' ∧ i ≤ ta_1 ∧ (∀ j, j ≠ 7 → j ≠ 8 → j ≠ 9 → ct' j = ct j) := by
          intro k h3 h4
          unfold f_X1_nextToken_b163
          have g3 : upd rd2 4 (nI k) 3 = nI ta := (upd_ne (by decide)).trans c3
          rw [g3, nI_1, hk, show kk + 1101 = (kk + 1100) + 1 from rfl, f_X6_next_b75]
          have g9 : upd (upd ct2 9 (nI k)) 7 (nI (ta + 1)) 9 = nI k := (upd_ne (by decide)).trans upd_eq
          rw [g9, if_pos (show (3 : Int32) ≤ nI k from (nI_leI (a := 3) (by omega) (by omega)).mpr h3)]
          exact ⟨_, _, ta, ta + 1, k, rfl, rfl, ⟨⟨((upd_ne (by decide)).trans (upd_ne (by decide))).trans c2, ((upd_ne (by decide)).trans (upd_ne (by decide))).trans m6, upd_eq, upd_eq, by omega⟩, ((upd_ne (by decide)).trans (upd_ne (by decide))).trans c5, ((upd_ne (by decide)).trans (upd_ne (by decide))).trans m8, (upd_ne (by decide)).trans upd_eq, g9, h4, by omega, fun _ => Nat.le_refl _, fun h => by omega, fun h => by omega⟩, r4, fun j h7 h8 h9 => (upd_ne h7).trans ((upd_ne h9).trans (mf j h7 h8 h9))⟩
        rw [if_neg c2', if_pos rfl, hs, if_neg c1, if_neg c2']
        by_cases c3' : tp ta = 59
        · rw [if_pos c3', if_pos c3']
          exact fin 3 (by decide) (by decide)
        · rw [if_neg c3', if_neg c3']
          exact fin 4 (by decide) (by decide)
  · have hs0 : srt tp z ta = 0 := by
      unfold srt
      rw [if_neg c]
    rw [if_neg (fun w => c ((nI_ltI (by omega) (by omega)).mp w)), hs0, if_pos (by decide)]
    exact ⟨_, _, ta, ta, 0, rfl, rfl, ⟨⟨(upd_ne (by decide)).trans c2, (upd_ne (by decide)).trans m6, (upd_ne (by decide)).trans c3, (upd_ne (by decide)).trans m7, p5⟩, (upd_ne (by decide)).trans c5, (upd_ne (by decide)).trans m8, upd_eq, upd_eq, by decide, Nat.le_refl _, fun h => by omega, fun h => by omega, fun h => by omega⟩, r4, fun j h7 h8 h9 => (upd_ne h9).trans (mf j h7 h8 h9)⟩
