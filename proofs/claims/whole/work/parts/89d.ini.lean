-- ===== all cases; the start
theorem all_cases : AllCases Rel := ⟨C_0, C_1, C_2, C_3, C_4, C_5, C_6, C_7, C_8, C_9, C_10, C_11, C_12, C_13, C_14, C_15, C_16, C_17, C_18, C_19, C_20, C_21, C_22, C_23, C_24, C_25, C_26, C_27, C_28, C_29, C_30, C_31, C_32, C_33, C_34, C_35, C_36, C_37, C_38, C_39, C_40, C_41, C_42, C_43, C_44, C_45, C_46, C_47, C_48, C_49, C_50⟩
theorem ini_IRel : IRel ini_x_now ini_x_now_ponds ini_x_now_kinds ini_x_now_weights ini_x_now_cells ini_x_now_faces ini_x_now_pledges ini_m_now := by
  have far : ∀ j, j ≠ 90 → j ≠ 93 → j ≠ 96 → ini_m_now j = 0 := fun j h0 h3 h6 => (upd_ne h6).trans ((upd_ne h3).trans (upd_ne h0))
  refine ⟨5, 0, ⟨by decide, by decide, by decide, by decide, by decide, by decide, by decide, ⟨by decide, Or.inl (by decide)⟩, ⟨by decide, Or.inl (by decide)⟩, ⟨3, by decide, by decide, by decide⟩, by decide, by decide, by decide⟩, fun p hp => ⟨far _ (by omega) (by omega) (by omega), far _ (by omega) (by omega) (by omega), far _ (by omega) (by omega) (by omega), far _ (by omega) (by omega) (by omega), far _ (by omega) (by omega) (by omega)⟩, fun p hp => absurd hp (Nat.not_lt_zero _), fun k hk h7 => ⟨far _ (by unfold pt; omega) (by unfold pt; omega) (by unfold pt; omega), Or.inl rfl, fun _ => rfl⟩⟩
theorem ini_RSh : RSh ini_x_shelves_contents ini_x_shelves_sizes ini_m_holds ini_m_sizes ini_x_shelves_elements ini_m_elements 0 := by
  have h1 : ∀ s, s < 8 → ini_x_shelves_contents s = -1 := by decide
  have h2 : ∀ s, s < 8 → ini_m_holds s = -1 := by decide
  intro s hs
  exact ⟨(h1 s hs).trans (h2 s hs).symm, Or.inl (h2 s hs)⟩
theorem ini_WT : WT ini_m_words := by
  have h : ∀ w, w < 8 → ∀ i, i < 6 → ini_m_words (6 * w + i) = if i < slen.getD w 0 then sChr w i else 0 := by decide
  exact h
theorem ini_above : ∀ j, j < 6 → ini_m_above j = sABOVE j := by decide
theorem rel_ini : Rel ini_x ini_x_kept ini_x_kept_cells ini_x_kept_faces ini_x_kept_kinds ini_x_kept_pledges ini_x_kept_ponds ini_x_kept_weights ini_x_now ini_x_now_cells ini_x_now_faces ini_x_now_kinds ini_x_now_pledges ini_x_now_ponds ini_x_now_weights ini_x_one ini_x_outs ini_x_reader ini_x_reader_bytes ini_x_refusals ini_x_search_isReached ini_x_search_oneStates ini_x_search_twoStates ini_x_shelves_contents ini_x_shelves_elements ini_x_shelves_sizes ini_x_trial ini_x_trial_cells ini_x_trial_faces ini_x_trial_kinds ini_x_trial_pledges ini_x_trial_ponds ini_x_trial_weights ini_x_two ini_m ini_m_above ini_m_elements ini_m_first ini_m_holds ini_m_kept ini_m_mind ini_m_moved ini_m_now ini_m_out ini_m_refused ini_m_sizes ini_m_tape ini_m_telling ini_m_wBy ini_m_wCell ini_m_wFaces ini_m_wFell ini_m_wSign ini_m_wTurns ini_m_words := by
  refine ⟨ini_IRel, fun n hn h8 => ?_, fun j hj => rfl, ⟨0, by decide, by decide, by decide, fun i hi => absurd hi (Nat.not_lt_zero _)⟩, ⟨Or.inl (by decide), by decide, fun h => absurd h (by decide)⟩, ini_above, ini_WT⟩
  have : n = 0 := nI_inj (b := 0) (by omega) (by omega) (hn.symm.trans (by decide))
  rw [this]
  exact ini_RSh
