-- ===== island: words =====
noncomputable def MW (tp : Nat → Int32) (ta e w : Nat) : Prop := e - ta = slen.getD w 0 ∧ ∀ i, i < slen.getD w 0 → tp (ta + i) = sChr w i
theorem slen_fin : ∀ w, w < 8 → 2 ≤ slen.getD w 0 ∧ slen.getD w 0 ≤ 6 := by decide
theorem schr_fin : ∀ w, w < 8 → ∀ i, i < slen.getD w 0 → ¬ sChr w i = 0 := by decide
theorem word_uniq : ∀ w, w < 8 → ∀ v, v < 8 → slen.getD w 0 = slen.getD v 0 → sChr w 0 = sChr v 0 → w = v := by decide
theorem MW.uniq {tp : Nat → Int32} {ta e w v : Nat} (h : MW tp ta e w) (h2 : MW tp ta e v) (hw : w < 8) (hv : v < 8) : w = v := by
  have a := slen_fin w hw
  have b := slen_fin v hv
  exact word_uniq w hw v hv (h.1.symm.trans h2.1) ((h.2 0 (by omega)).symm.trans (h2.2 0 (by omega)))
theorem wordC {by_ tp rd : Nat → Int32} {ta e w z : Nat} (hz : z ≤ 250) (hez : e ≤ z) (hb : ∀ i, i < z → by_ i = tp i) (hw : w < 8) (h5 : rd 5 = nI ta) (hlen : e - ta = slen.getD w 0) (hte : ta ≤ e) : ∀ (j a : Nat), j ≤ slen.getD w 0 → j < a → ∃ r, f_X1_isWord_b20 w rd by_ a (nI (slen.getD w 0 - j)) = some r ∧ ((r = 1 ∧ ∀ i, slen.getD w 0 - j ≤ i → i < slen.getD w 0 → tp (ta + i) = sChr w i) ∨ (r = 0 ∧ ¬ ∀ i, i < slen.getD w 0 → tp (ta + i) = sChr w i)) := by
  have hs := slen_fin w hw
  have hsl : sLen w = nI (slen.getD w 0) := rfl
  intro j
  induction j with
  | zero =>
    intro a _ ha
    obtain ⟨k, rfl⟩ : ∃ k, a = k + 1 := ⟨a - 1, by omega⟩
    rw [f_X1_isWord_b20, if_pos hw, hsl, Nat.sub_zero, if_pos (Int32.le_refl _)]
    exact ⟨1, rfl, Or.inl ⟨rfl, fun i h1 h2 => by omega⟩⟩
  | succ j ih =>
    intro a hj ha
    obtain ⟨k, rfl⟩ : ∃ k, a = k + 1 := ⟨a - 1, by omega⟩
    obtain ⟨i, hi⟩ : ∃ i, i = slen.getD w 0 - (j + 1) := ⟨_, rfl⟩
    have hi1 : slen.getD w 0 - j = i + 1 := by omega
    rw [← hi]
    rw [hi1] at ih
    have hil : i < slen.getD w 0 := by omega
    rw [f_X1_isWord_b20, if_pos hw, hsl, if_neg (fun q => by have := (nI_leI (by omega) (by omega)).mp q; omega), h5, nI_add, if_pos (inb_nI (show ta + i < 250 by omega) (by decide)), if_pos hw, if_pos (inb_nI hil (by omega)), nI_cl (by omega), nI_cl (by omega), hb (ta + i) (by omega), nI_1]
    by_cases c : tp (ta + i) = sChr w i
    · rw [if_pos c]
      obtain ⟨r, r1, r2⟩ := ih k (by omega) (by omega)
      refine ⟨r, r1, ?_⟩
      rcases r2 with ⟨x1, x2⟩ | x
      · left
        refine ⟨x1, fun q h1 h2 => ?_⟩
        by_cases y : q = i
        · rw [y]; exact c
        · exact x2 q (by omega) h2
      · exact Or.inr x
    · rw [if_neg c]
      exact ⟨0, rfl, Or.inr ⟨rfl, fun q => c (q i hil)⟩⟩
theorem isWord_eq {by_ tp rd ct : Nat → Int32} {ta e w z k : Nat} (hz : z ≤ 250) (hb : ∀ i, i < z → by_ i = tp i) (hw : w < 8) (ht : TOK z ta e k tp rd ct) : ∃ r, f_X1_isWord w rd by_ = some r ∧ ((r = 1 ∧ MW tp ta e w) ∨ (r = 0 ∧ ¬ MW tp ta e w)) := by
  obtain ⟨⟨p1, p2, p3, p4, p5⟩, r5, m8, r4, m9, k4, te, k1, kw, kn⟩ := ht
  have hs := slen_fin w hw
  obtain ⟨kk, hk⟩ := FU_s
  unfold f_X1_isWord
  rw [if_pos hw, p3, r5, pk_sub te, show sLen w = nI (slen.getD w 0) from rfl]
  by_cases c : e - ta = slen.getD w 0
  · rw [if_pos (by rw [c])]
    obtain ⟨r, r1, r2⟩ := wordC (by_ := by_) hz p5 hb hw r5 c te (slen.getD w 0) FU (Nat.le_refl _) (by omega)
    rw [Nat.sub_self] at r1 r2
    refine ⟨r, r1, ?_⟩
    rcases r2 with ⟨x1, x2⟩ | ⟨x1, x2⟩
    · exact Or.inl ⟨x1, c, fun i hi => x2 i (Nat.zero_le _) hi⟩
    · exact Or.inr ⟨x1, fun q => x2 q.2⟩
  · rw [if_neg (fun q => c (nI_inj (by omega) (by omega) q))]
    exact ⟨0, rfl, Or.inr ⟨rfl, fun q => c q.1⟩⟩
noncomputable def WT (words : Nat → Int32) : Prop := ∀ w, w < 8 → ∀ i, i < 6 → words (6 * w + i) = if i < slen.getD w 0 then sChr w i else 0
noncomputable def chM (tp : Nat → Int32) (ta e i : Nat) : Int32 := if ta + i < e then tp (ta + i) else 0
theorem wordI {tp words ct : Nat → Int32} {ta e w : Nat} (he : e ≤ 250) (hw : w < 8) (h7 : ct 7 = nI e) (h8 : ct 8 = nI ta) (hta : ta ≤ e) (k4 : Int32 → Int32 → Option Int32) (l1 : Int32) : ∀ (j a : Nat) (l3 : Int32), j ≤ 6 → j < a → isB l3 → ∃ x, f_X6_word_b41 ct tp words k4 a l1 (nI w) l3 (nI (6 - j)) = k4 x (nI w + 1) ∧ ((x = nI w ∧ l3 = 1 ∧ ∀ i, 6 - j ≤ i → i < 6 → chM tp ta e i = words (6 * w + i)) ∨ (x = l1 ∧ ¬ (l3 = 1 ∧ ∀ i, 6 - j ≤ i → i < 6 → chM tp ta e i = words (6 * w + i)))) := by
  intro j
  induction j with
  | zero =>
    intro a l3 _ ha hl
    obtain ⟨k, rfl⟩ : ∃ k, a = k + 1 := ⟨a - 1, by omega⟩
    rw [f_X6_word_b41, if_pos (by decide)]
    unfold f_X6_word_b109 f_X6_word_b118
    rcases hl with z | z
    · rw [z, if_pos rfl]
      exact ⟨l1, rfl, Or.inr ⟨rfl, fun q => absurd q.1 (by decide)⟩⟩
    · rw [z, if_neg one_ne0]
      exact ⟨nI w, rfl, Or.inl ⟨rfl, rfl, fun i h1 h2 => by omega⟩⟩
  | succ j ih =>
    intro a l3 hj ha hl
    obtain ⟨k, rfl⟩ : ∃ k, a = k + 1 := ⟨a - 1, by omega⟩
    obtain ⟨i, hi⟩ : ∃ i, i = 6 - (j + 1) := ⟨_, rfl⟩
    have hi1 : 6 - j = i + 1 := by omega
    rw [← hi]
    rw [hi1] at ih
    rw [f_X6_word_b41, if_neg (fun q => by have := (nI_leI (a := 6) (by omega) (by omega)).mp q; omega)]
    rcases hl with z | z
    · rw [z, if_pos rfl]
      unfold f_X6_word_b109 f_X6_word_b118
      rw [if_pos rfl]
      exact ⟨l1, rfl, Or.inr ⟨rfl, fun q => absurd q.1 (by decide)⟩⟩
    · rw [z, if_neg one_ne0, h7, h8, nI_add]
      have b82 : ∀ s0, f_X6_word_b82 ct tp words k4 (f_X6_word_b41 ct tp words k4 k) l1 (nI w) (nI i) s0 = f_X6_word_b41 ct tp words k4 k l1 (nI w) (if s0 = words (6 * w + i) then 1 else 0) (nI (i + 1)) := by
        intro s0
        unfold f_X6_word_b82 f_X6_word_b102
        rw [show (6 : Int32) * nI w + nI i = nI (6 * w + i) by rw [show (6 : Int32) = nI 6 from rfl, pk_mul, nI_add], if_pos (inb_nI (show 6 * w + i < 48 by omega) (by decide)), nI_cl (by omega), nI_1]
        by_cases c : s0 = words (6 * w + i)
        · rw [if_pos c, if_pos c]
        · rw [if_neg c, if_neg c]
      have fin : ∀ s0, s0 = chM tp ta e i → ∃ x, f_X6_word_b82 ct tp words k4 (f_X6_word_b41 ct tp words k4 k) l1 (nI w) (nI i) s0 = k4 x (nI w + 1) ∧ ((x = nI w ∧ (1 : Int32) = 1 ∧ ∀ q, i ≤ q → q < 6 → chM tp ta e q = words (6 * w + q)) ∨ (x = l1 ∧ ¬ ((1 : Int32) = 1 ∧ ∀ q, i ≤ q → q < 6 → chM tp ta e q = words (6 * w + q)))) := by
        intro s0 hs0
        rw [b82]
        obtain ⟨x, x1, x2⟩ := ih k (if s0 = words (6 * w + i) then 1 else 0) (by omega) (by omega) (w01 _)
        refine ⟨x, x1, ?_⟩
        rcases x2 with ⟨y1, y2, y3⟩ | ⟨y1, y2⟩
        · left
          refine ⟨y1, rfl, fun q h1 h2 => ?_⟩
          by_cases c : s0 = words (6 * w + i)
          · by_cases d : q = i
            · rw [d, ← hs0]; exact c
            · exact y3 q (by omega) h2
          · rw [if_neg c] at y2
            exact absurd y2 (by decide)
        · right
          refine ⟨y1, fun q => y2 ⟨?_, fun p h1 h2 => q.2 p (by omega) h2⟩⟩
          rw [if_pos]
          rw [hs0]
          exact q.2 i (Nat.le_refl _) (by omega)
      by_cases c : e ≤ ta + i
      · rw [if_pos ((nI_leI (by omega) (by omega)).mpr c)]
        exact fin 0 (by unfold chM; rw [if_neg (by omega)])
      · rw [if_neg (fun q => c ((nI_leI (by omega) (by omega)).mp q)), if_pos (inb_nI (show ta + i < 250 by omega) (by decide)), nI_cl (by omega)]
        exact fin _ (by unfold chM; rw [if_pos (by omega)])
theorem match_MW {tp words : Nat → Int32} {ta e w : Nat} (hw : w < 8) (hW : WT words) (hta : ta ≤ e) (hlet : ∀ q, ta ≤ q → q < e → 97 ≤ tp q ∧ tp q ≤ 122) (h6 : e - ta ≤ 6) : (∀ i, i < 6 → chM tp ta e i = words (6 * w + i)) ↔ MW tp ta e w := by
  have hs := slen_fin w hw
  have hnz : ∀ q, ta ≤ q → q < e → ¬ tp q = 0 := fun q h1 h2 z => by
    have := (hlet q h1 h2).1
    rw [z] at this
    exact absurd this (by decide)
  constructor
  · intro h
    have hlen : e - ta = slen.getD w 0 := by
      rcases Nat.lt_trichotomy (e - ta) (slen.getD w 0) with c | c | c
      · have a := h (e - ta) (by omega)
        rw [hW w hw _ (by omega), if_pos c] at a
        unfold chM at a
        rw [if_neg (by omega)] at a
        exact absurd a.symm (schr_fin w hw _ c)
      · exact c
      · have a := h (slen.getD w 0) (by omega)
        rw [hW w hw _ (by omega), if_neg (Nat.lt_irrefl _)] at a
        unfold chM at a
        rw [if_pos (by omega)] at a
        exact absurd a (hnz _ (by omega) (by omega))
    refine ⟨hlen, fun i hi => ?_⟩
    have a := h i (by omega)
    rw [hW w hw _ (by omega), if_pos hi] at a
    unfold chM at a
    rw [if_pos (by omega)] at a
    exact a
  · intro h i hi
    rw [hW w hw i hi]
    unfold chM
    by_cases c : i < slen.getD w 0
    · rw [if_pos c, if_pos (by have := h.1; omega)]
      exact h.2 i c
    · rw [if_neg c, if_neg (by have := h.1; omega)]
noncomputable def WM1 (tp : Nat → Int32) (ta e k w : Nat) : Prop := k = 1 ∧ MW tp ta e w
theorem wordM {tp words rd ct : Nat → Int32} {ta e k z : Nat} (hz : z ≤ 250) (hW : WT words) (ht : TOK z ta e k tp rd ct) : ∀ (j a : Nat) (l1 : Int32), j ≤ 8 → j < a → ((l1 = -1 ∧ ∀ w, w < 8 - j → ¬ WM1 tp ta e k w) ∨ ∃ w, w < 8 ∧ l1 = nI w ∧ WM1 tp ta e k w) → ∃ x, f_X6_word_b4 ct tp words a l1 (nI (8 - j)) = some x ∧ ((x = -1 ∧ ∀ w, w < 8 → ¬ WM1 tp ta e k w) ∨ ∃ w, w < 8 ∧ x = nI w ∧ WM1 tp ta e k w) := by
  obtain ⟨⟨p1, p2, p3, p4, p5⟩, r5, m8, r4, m9, k4, te, k1, kw, kn⟩ := id ht
  intro j
  induction j with
  | zero =>
    intro a l1 _ ha hI
    obtain ⟨k, rfl⟩ : ∃ k, a = k + 1 := ⟨a - 1, by omega⟩
    rw [f_X6_word_b4, if_pos (by decide)]
    exact ⟨l1, rfl, hI⟩
  | succ j ih =>
    intro a l1 hj ha hI
    obtain ⟨kk, rfl⟩ : ∃ k, a = k + 1 := ⟨a - 1, by omega⟩
    obtain ⟨fu, hfu⟩ := FU_s
    obtain ⟨w, hw⟩ : ∃ w, w = 8 - (j + 1) := ⟨_, rfl⟩
    have hw1 : 8 - j = w + 1 := by omega
    have hw8 : w < 8 := by omega
    rw [← hw] at hI ⊢
    rw [hw1] at ih
    have hs := slen_fin w hw8
    rw [f_X6_word_b4, if_neg (fun q => by have := (nI_leI (a := 8) (by omega) (by omega)).mp q; omega), m9, p4, m8, pk_sub te]
    unfold f_X6_word_b36 f_X6_word_b37
    have step : ∀ fl : Int32, isB fl → (fl = 1 → k = 1 ∧ e - ta ≤ 6) → (fl = 0 → ¬ WM1 tp ta e k w) → ∃ x, f_X6_word_b41 ct tp words (f_X6_word_b4 ct tp words kk) FU l1 (nI w) fl 0 = some x ∧ ((x = -1 ∧ ∀ w, w < 8 → ¬ WM1 tp ta e k w) ∨ ∃ w, w < 8 ∧ x = nI w ∧ WM1 tp ta e k w) := by
      intro fl hfl h1 h0
      obtain ⟨x, x1, x2⟩ := wordI (tp := tp) (words := words) (ct := ct) (show e ≤ 250 by omega) hw8 p4 m8 te (f_X6_word_b4 ct tp words kk) l1 6 FU fl (Nat.le_refl _) (by omega) hfl
      rw [show f_X6_word_b41 ct tp words (f_X6_word_b4 ct tp words kk) FU l1 (nI w) fl 0 = _ from x1, nI_1]
      rcases x2 with ⟨y1, y2, y3⟩ | ⟨y1, y2⟩
      · obtain ⟨g1, g2⟩ := h1 y2
        have hm := (match_MW (w := w) hw8 hW te (kw g1) g2).mp (fun i hi => y3 i (by omega) hi)
        exact ih kk x (by omega) (by omega) (Or.inr ⟨w, hw8, y1, g1, hm⟩)
      · have hn : ¬ WM1 tp ta e k w := by
          rcases hfl with z | z
          · exact h0 z
          · intro q
            obtain ⟨g1, g2⟩ := h1 z
            exact y2 ⟨z, fun i _ hi => (match_MW (w := w) hw8 hW te (kw g1) g2).mpr q.2 i hi⟩
        refine ih kk x (by omega) (by omega) ?_
        rw [y1]
        rcases hI with ⟨q1, q2⟩ | q
        · left
          refine ⟨q1, fun v hv => ?_⟩
          by_cases c : v = w
          · rw [c]; exact hn
          · exact q2 v (by omega)
        · exact Or.inr q
    by_cases c : k = 1
    · rw [if_pos (show nI k = 1 by rw [c]; rfl)]
      by_cases c2 : 6 < e - ta
      · rw [if_pos (show (6 : Int32) < nI (e - ta) from (nI_ltI (a := 6) (by omega) (by omega)).mpr c2)]
        exact step 0 (Or.inl rfl) (fun q => absurd q (by decide)) (fun _ q => by have := q.2.1; omega)
      · rw [if_neg (show ¬ (6 : Int32) < nI (e - ta) from fun q => c2 ((nI_ltI (a := 6) (by omega) (by omega)).mp q))]
        exact step 1 (Or.inr rfl) (fun _ => ⟨c, by omega⟩) (fun q => absurd q (by decide))
    · rw [if_neg (show ¬ nI k = (1 : Int32) from fun q => c (nI_inj (b := 1) (by omega) (by omega) q))]
      exact step 0 (Or.inl rfl) (fun q => absurd q (by decide)) (fun _ q => c q.1)
theorem word_eq {tp words rd ct : Nat → Int32} {ta e k z : Nat} (hz : z ≤ 250) (hW : WT words) (ht : TOK z ta e k tp rd ct) : ∃ x, f_X6_word ct tp words = some x ∧ ((x = -1 ∧ ∀ w, w < 8 → ¬ WM1 tp ta e k w) ∨ ∃ w, w < 8 ∧ x = nI w ∧ WM1 tp ta e k w) := by
  obtain ⟨fu, hfu⟩ := FU_s
  exact wordM hz hW ht 8 FU (-1) (Nat.le_refl _) (by omega) (Or.inl ⟨rfl, fun w hw => by omega⟩)
