-- ===== X6_cellNumber
noncomputable abbrev W_X6_cellNumber (E : Env0) (a_t : Nat) (a_now : Nat) (a_tape : Nat) (a_refused : Nat) (a_kept : Nat) (a_mind : Nat) (a_words : Nat) (a_wCell : Nat) (a_wFaces : Nat) (a_wTurns : Nat) (a_wSign : Nat) (a_wBy : Nat) (a_wFell : Nat) (a_telling : Nat) (a_holds : Nat) (a_sizes : Nat) (a_elements : Nat) (a_moved : Nat) (a_above : Nat) (a_out : Nat) (a_first : Nat) (c_t : Nat → Int32) (c_now : Nat → Int32) (c_tape : Nat → Int32) : va_W := [(a_t, .inr (6, [.ref a_refused, .ref a_now, .ref a_kept, .ref a_mind, .int (c_t 4), .ref a_tape, .int (c_t 6), .int (c_t 7), .int (c_t 8), .int (c_t 9), .ref a_words, .ref a_wCell, .ref a_wFaces, .ref a_wTurns, .ref a_wSign, .ref a_wBy, .ref a_wFell, .int (c_t 17), .ref a_telling, .ref a_holds, .ref a_sizes, .ref a_elements, .ref a_moved, .ref a_above, .ref a_out, .ref a_first])), (a_now, .inl (eI E, 97, .inl c_now)), (a_tape, .inl (eI E, 250, .inl c_tape))]
noncomputable abbrev r_X6_cellNumber : Room := { frames := 4, cells := 0, slots := 0, locals := 90 }
theorem hd_X6_cellNumber : yX6_cellNumber.cls ≠ "java/lang/invoke/MethodHandle" ∧ yX6_cellNumber.cls ≠ "java/lang/invoke/VarHandle" ∧ (parseMethodDescriptor yX6_cellNumber.desc).map (fun d => d.parameters.length) = some 0 := by decide +kernel
theorem hV_X6_cellNumber : yX6_cellNumber.cls = RX6 ∧ yX6_cellNumber.cls ≠ "java/lang/invoke/MethodHandle" ∧ yX6_cellNumber.cls ≠ "java/lang/invoke/VarHandle" ∧ (parseMethodDescriptor yX6_cellNumber.desc).map (fun d => d.parameters.length) = some 0 := ⟨rfl, hd_X6_cellNumber⟩
section
variable {p : Program} {l : Launch} {e : Env} {s : State} {m : MethodId} {args : Array Value} {below : List Frame} {meth : Method} {c : Code} {E : Env0} {A : Nat → Prop}
set_option maxRecDepth 100000 in
set_option maxHeartbeats 4000000 in
theorem w_X6_cellNumber (X : Ctx p m meth c cX6_cellNumber 2 ((some .int)) s args wsX6_cellNumber RX6 E A) (a_t : Nat) (a_now : Nat) (a_tape : Nat) (a_refused : Nat) (a_kept : Nat) (a_mind : Nat) (a_words : Nat) (a_wCell : Nat) (a_wFaces : Nat) (a_wTurns : Nat) (a_wSign : Nat) (a_wBy : Nat) (a_wFell : Nat) (a_telling : Nat) (a_holds : Nat) (a_sizes : Nat) (a_elements : Nat) (a_moved : Nat) (a_above : Nat) (a_out : Nat) (a_first : Nat) (c_now : Nat → Int32) (c_tape : Nat → Int32) (res : Int32 × (Nat → Int32)) (c_t : Nat → Int32) (ls : Array Slot) (H : Heap) (locs : List Loc) (h : f_X6_cellNumber c_t c_now c_tape = some res) (hP : va_P E.1 vwCl (W_X6_cellNumber E a_t a_now a_tape a_refused a_kept a_mind a_words a_wCell a_wFaces a_wTurns a_wSign a_wBy a_wFell a_telling a_holds a_sizes a_elements a_moved a_above a_out a_first c_t c_now c_tape) H) (hD : va_D A (W_X6_cellNumber E a_t a_now a_tape a_refused a_kept a_mind a_words a_wCell a_wFaces a_wTurns a_wSign a_wBy a_wFell a_telling a_holds a_sizes a_elements a_moved a_above a_out a_first c_t c_now c_tape)) (hS : va_S A s.heap H locs) (hl : lv_has ls 2 [(0, .ref a_t)]) : W p l e r_X6_cellNumber s m args below meth c H locs 0 0 (MQ below (qI E A (res.1) (W_X6_cellNumber E a_t a_now a_tape a_refused a_kept a_mind a_words a_wCell a_wFaces a_wTurns a_wSign a_wBy a_wFell a_telling a_holds a_sizes a_elements a_moved a_above a_out a_first (res.2) c_now c_tape)) args s 0 0 A) (F0 m 0 ls []) := by
  obtain ⟨hx, hb, hml, hr, hlk, hown, hts, hG, hA⟩ := id X
  have hK := hG.1
  have hN := hG.2.1
  unfold f_X6_cellNumber at h
  refine lv_aload_n hx hb dX6_cellNumber_0 rfl (lv_at hl 0 rfl) ?_
  refine lv_iconst (v := (0 : Int32)) hx hb dX6_cellNumber_1 (by decide) ?_
  refine lv_bipush (v := (99 : Int32)) hx hb dX6_cellNumber_2 (by decide) ?_
  obtain ⟨v1, hv1, h⟩ := bind_of h
  refine after_i X (run_V X (c_X6_number l E a_t a_tape a_refused a_now a_kept a_mind a_words a_wCell a_wFaces a_wTurns a_wSign a_wBy a_wFell a_telling a_holds a_sizes a_elements a_moved a_above a_out a_first (0 : Int32) (99 : Int32) c_t c_tape H.size v1 hv1) (cwV 2 hts gX6_cellNumber_X6_number rfl rfl rfl hV_X6_number ⟨(Nat.le_of_ble_eq_true rfl), (Nat.le_of_ble_eq_true rfl)⟩) hP hD hS [0, 2] rfl rfl hl.1 (ci := 6) rfl rfl rfl (rest := []) rfl rfl (Nat.le_of_ble_eq_true rfl) dX6_cellNumber_4) hP hD hS [0, 2] rfl (ws1 := (W_X6_cellNumber E a_t a_now a_tape a_refused a_kept a_mind a_words a_wCell a_wFaces a_wTurns a_wSign a_wBy a_wFell a_telling a_holds a_sizes a_elements a_moved a_above a_out a_first (v1.2) c_now c_tape)) rfl (fun H locs hP hD hS => ?_)
  refine lv_istore_n (lv' := [(1, .int (v1.1)), (0, .ref a_t)]) hx hb dX6_cellNumber_7 rfl hl (by decide) rfl (fun ls hl => ?_)
  refine lv_iload_n hx hb dX6_cellNumber_8 rfl (lv_at hl 0 rfl) ?_
  refine lv_iconst (v := (-1 : Int32)) hx hb dX6_cellNumber_9 (by decide) ?_
  refine lv_icmp_eq (tgt := 21) hx hb dX6_cellNumber_10 (by decide) (fun hc10 => ?_) (fun hc10 => ?_)
  · have h := if_t h hc10
    refine lv_iconst (v := (-1 : Int32)) hx hb dX6_cellNumber_21 (by decide) ?_
    refine lv_goto (tgt := 26) hx hb dX6_cellNumber_22 (by decide) ?_
    obtain rfl := Option.some.inj h
    exact ret_i X dX6_cellNumber_26 hP hD hS rfl
  · have h := if_f h hc10
    refine lv_aload_n hx hb dX6_cellNumber_13 rfl (lv_at hl 1 rfl) ?_
    refine lv_iload_n hx hb dX6_cellNumber_14 rfl (lv_at hl 0 rfl) ?_
    obtain ⟨v2, hv2, h⟩ := bind_of h
    refine after_i X (run_V X (c_X6_isCell l E a_t a_now a_refused a_kept a_mind a_tape a_words a_wCell a_wFaces a_wTurns a_wSign a_wBy a_wFell a_telling a_holds a_sizes a_elements a_moved a_above a_out a_first (v1.1) (v1.2) c_now H.size v2 hv2) (cwV 1 hts gX6_cellNumber_X6_isCell rfl rfl rfl hV_X6_isCell ⟨(Nat.le_of_ble_eq_true rfl), (Nat.le_of_ble_eq_true rfl)⟩) hP hD hS [0, 1] rfl rfl hl.1 (ci := 6) rfl rfl rfl (rest := []) rfl rfl (Nat.le_of_ble_eq_true rfl) dX6_cellNumber_15) hP hD hS [0, 1] rfl (ws1 := (W_X6_cellNumber E a_t a_now a_tape a_refused a_kept a_mind a_words a_wCell a_wFaces a_wTurns a_wSign a_wBy a_wFell a_telling a_holds a_sizes a_elements a_moved a_above a_out a_first (v1.2) c_now c_tape)) rfl (fun H locs hP hD hS => ?_)
    refine lv_if_ne (tgt := 25) hx hb dX6_cellNumber_18 (by decide) (fun hc18 => ?_) (fun hc18 => ?_)
    · have h := if_f h hc18
      refine lv_iload_n hx hb dX6_cellNumber_25 rfl (lv_at hl 0 rfl) ?_
      obtain rfl := Option.some.inj h
      exact ret_i X dX6_cellNumber_26 hP hD hS rfl
    · have h := if_t h hc18
      refine lv_iconst (v := (-1 : Int32)) hx hb dX6_cellNumber_21 (by decide) ?_
      refine lv_goto (tgt := 26) hx hb dX6_cellNumber_22 (by decide) ?_
      obtain rfl := Option.some.inj h
      exact ret_i X dX6_cellNumber_26 hP hD hS rfl
end
set_option maxRecDepth 100000 in
theorem c_X6_cellNumber (l : Launch) (E : Env0) (a_t : Nat) (a_now : Nat) (a_tape : Nat) (a_refused : Nat) (a_kept : Nat) (a_mind : Nat) (a_words : Nat) (a_wCell : Nat) (a_wFaces : Nat) (a_wTurns : Nat) (a_wSign : Nat) (a_wBy : Nat) (a_wFell : Nat) (a_telling : Nat) (a_holds : Nat) (a_sizes : Nat) (a_elements : Nat) (a_moved : Nat) (a_above : Nat) (a_out : Nat) (a_first : Nat) (c_t : Nat → Int32) (c_now : Nat → Int32) (c_tape : Nat → Int32) (sz : Nat) (res : Int32 × (Nat → Int32)) (h : f_X6_cellNumber c_t c_now c_tape = some res) : Met l yX6_cellNumber wsX6_cellNumber r_X6_cellNumber (cPre E [.ref a_t] (W_X6_cellNumber E a_t a_now a_tape a_refused a_kept a_mind a_words a_wCell a_wFaces a_wTurns a_wSign a_wBy a_wFell a_telling a_holds a_sizes a_elements a_moved a_above a_out a_first c_t c_now c_tape) sz) (qI E (va_A (W_X6_cellNumber E a_t a_now a_tape a_refused a_kept a_mind a_words a_wCell a_wFaces a_wTurns a_wSign a_wBy a_wFell a_telling a_holds a_sizes a_elements a_moved a_above a_out a_first c_t c_now c_tape) sz) (res.1) (W_X6_cellNumber E a_t a_now a_tape a_refused a_kept a_mind a_words a_wCell a_wFaces a_wTurns a_wSign a_wBy a_wFell a_telling a_holds a_sizes a_elements a_moved a_above a_out a_first (res.2) c_now c_tape)) 0 0 (va_A (W_X6_cellNumber E a_t a_now a_tape a_refused a_kept a_mind a_words a_wCell a_wFaces a_wTurns a_wSign a_wBy a_wFell a_telling a_holds a_sizes a_elements a_moved a_above a_out a_first c_t c_now c_tape) sz) :=
  met_of (Qc := fun A => qI E A (res.1) (W_X6_cellNumber E a_t a_now a_tape a_refused a_kept a_mind a_words a_wCell a_wFaces a_wTurns a_wSign a_wBy a_wFell a_telling a_holds a_sizes a_elements a_moved a_above a_out a_first (res.2) c_now c_tape)) (by decide) rfl (Nat.le_of_ble_eq_true rfl) (fun p e s m args below meth c X hP hD hS ls hl => w_X6_cellNumber X a_t a_now a_tape a_refused a_kept a_mind a_words a_wCell a_wFaces a_wTurns a_wSign a_wBy a_wFell a_telling a_holds a_sizes a_elements a_moved a_above a_out a_first c_now c_tape res c_t ls _ _ h hP hD hS hl)
-- ===== X6_isPersonStatement
noncomputable abbrev W_X6_isPersonStatement (E : Env0) (a_t : Nat) (a_now : Nat) (a_tape : Nat) (a_refused : Nat) (a_kept : Nat) (a_mind : Nat) (a_words : Nat) (a_wCell : Nat) (a_wFaces : Nat) (a_wTurns : Nat) (a_wSign : Nat) (a_wBy : Nat) (a_wFell : Nat) (a_telling : Nat) (a_holds : Nat) (a_sizes : Nat) (a_elements : Nat) (a_moved : Nat) (a_above : Nat) (a_out : Nat) (a_first : Nat) (c_t : Nat → Int32) (c_now : Nat → Int32) (c_tape : Nat → Int32) : va_W := [(a_t, .inr (6, [.ref a_refused, .ref a_now, .ref a_kept, .ref a_mind, .int (c_t 4), .ref a_tape, .int (c_t 6), .int (c_t 7), .int (c_t 8), .int (c_t 9), .ref a_words, .ref a_wCell, .ref a_wFaces, .ref a_wTurns, .ref a_wSign, .ref a_wBy, .ref a_wFell, .int (c_t 17), .ref a_telling, .ref a_holds, .ref a_sizes, .ref a_elements, .ref a_moved, .ref a_above, .ref a_out, .ref a_first])), (a_now, .inl (eI E, 97, .inl c_now)), (a_tape, .inl (eI E, 250, .inl c_tape))]
noncomputable abbrev r_X6_isPersonStatement : Room := { frames := 5, cells := 0, slots := 0, locals := 111 }
theorem hd_X6_isPersonStatement : yX6_isPersonStatement.cls ≠ "java/lang/invoke/MethodHandle" ∧ yX6_isPersonStatement.cls ≠ "java/lang/invoke/VarHandle" ∧ (parseMethodDescriptor yX6_isPersonStatement.desc).map (fun d => d.parameters.length) = some 0 := by decide +kernel
theorem hV_X6_isPersonStatement : yX6_isPersonStatement.cls = RX6 ∧ yX6_isPersonStatement.cls ≠ "java/lang/invoke/MethodHandle" ∧ yX6_isPersonStatement.cls ≠ "java/lang/invoke/VarHandle" ∧ (parseMethodDescriptor yX6_isPersonStatement.desc).map (fun d => d.parameters.length) = some 0 := ⟨rfl, hd_X6_isPersonStatement⟩
section
variable {p : Program} {l : Launch} {e : Env} {s : State} {m : MethodId} {args : Array Value} {below : List Frame} {meth : Method} {c : Code} {E : Env0} {A : Nat → Prop}
set_option maxRecDepth 100000 in
set_option maxHeartbeats 4000000 in
theorem w_X6_isPersonStatement_b61 (X : Ctx p m meth c cX6_isPersonStatement 5 ((some .boolean)) s args wsX6_isPersonStatement RX6 E A) (a_t : Nat) (a_now : Nat) (a_tape : Nat) (a_refused : Nat) (a_kept : Nat) (a_mind : Nat) (a_words : Nat) (a_wCell : Nat) (a_wFaces : Nat) (a_wTurns : Nat) (a_wSign : Nat) (a_wBy : Nat) (a_wFell : Nat) (a_telling : Nat) (a_holds : Nat) (a_sizes : Nat) (a_elements : Nat) (a_moved : Nat) (a_above : Nat) (a_out : Nat) (a_first : Nat) (c_tape : Nat → Int32) (res : Int32 × (Nat → Int32) × (Nat → Int32)) (c_t : Nat → Int32) (c_now : Nat → Int32) (l1 : Int32) (l2 : Int32) (l3 : Int32) (s0 : Int32) (ls : Array Slot) (H : Heap) (locs : List Loc) (h : f_X6_isPersonStatement_b61 c_tape c_t c_now l1 l2 l3 s0 = some res) (hP : va_P E.1 vwCl (W_X6_isPersonStatement E a_t a_now a_tape a_refused a_kept a_mind a_words a_wCell a_wFaces a_wTurns a_wSign a_wBy a_wFell a_telling a_holds a_sizes a_elements a_moved a_above a_out a_first c_t c_now c_tape) H) (hD : va_D A (W_X6_isPersonStatement E a_t a_now a_tape a_refused a_kept a_mind a_words a_wCell a_wFaces a_wTurns a_wSign a_wBy a_wFell a_telling a_holds a_sizes a_elements a_moved a_above a_out a_first c_t c_now c_tape)) (hS : va_S A s.heap H locs) (hl : lv_has ls 5 [(0, .ref a_t), (1, .int l1), (2, .int l2), (3, .int l3)]) : W p l e r_X6_isPersonStatement s m args below meth c H locs 0 0 (MQ below (qI E A (res.1) (W_X6_isPersonStatement E a_t a_now a_tape a_refused a_kept a_mind a_words a_wCell a_wFaces a_wTurns a_wSign a_wBy a_wFell a_telling a_holds a_sizes a_elements a_moved a_above a_out a_first (res.2.1) (res.2.2) c_tape)) args s 0 0 A) (F0 m 61 ls [.int s0]) := by
  obtain ⟨hx, hb, hml, hr, hlk, hown, hts, hG, hA⟩ := id X
  have hK := hG.1
  have hN := hG.2.1
  unfold f_X6_isPersonStatement_b61 at h
  refine lv_istore (lv' := [(4, .int s0), (0, .ref a_t), (1, .int l1), (2, .int l2), (3, .int l3)]) hx hb dX6_isPersonStatement_61 hl (by decide) rfl (fun ls hl => ?_)
  refine lv_iload hx hb dX6_isPersonStatement_63 (lv_at hl 0 rfl) ?_
  refine lv_iconst (v := (-1 : Int32)) hx hb dX6_isPersonStatement_65 (by decide) ?_
  refine lv_icmp_ne (tgt := 71) hx hb dX6_isPersonStatement_66 (by decide) (fun hc66 => ?_) (fun hc66 => ?_)
  · have h := if_f h hc66
    refine lv_aload_n hx hb dX6_isPersonStatement_71 rfl (lv_at hl 1 rfl) ?_
    refine lv_iload_n hx hb dX6_isPersonStatement_72 rfl (lv_at hl 2 rfl) ?_
    refine lv_iload_n hx hb dX6_isPersonStatement_73 rfl (lv_at hl 3 rfl) ?_
    refine lv_iload_n hx hb dX6_isPersonStatement_74 rfl (lv_at hl 4 rfl) ?_
    refine lv_iload hx hb dX6_isPersonStatement_75 (lv_at hl 0 rfl) ?_
    obtain ⟨v1, hv1, h⟩ := bind_of h
    refine after_i X (run_V X (c_X6_add l E a_t a_now a_refused a_kept a_mind a_tape a_words a_wCell a_wFaces a_wTurns a_wSign a_wBy a_wFell a_telling a_holds a_sizes a_elements a_moved a_above a_out a_first l1 l2 l3 s0 c_t c_now H.size v1 hv1) (cwV 4 hts gX6_isPersonStatement_X6_add rfl rfl rfl hV_X6_add ⟨(Nat.le_of_ble_eq_true rfl), (Nat.le_of_ble_eq_true rfl)⟩) hP hD hS [0, 1] rfl rfl hl.1 (ci := 6) rfl rfl rfl (rest := []) rfl rfl (Nat.le_of_ble_eq_true rfl) dX6_isPersonStatement_77) hP hD hS [0, 1] rfl (ws1 := (W_X6_isPersonStatement E a_t a_now a_tape a_refused a_kept a_mind a_words a_wCell a_wFaces a_wTurns a_wSign a_wBy a_wFell a_telling a_holds a_sizes a_elements a_moved a_above a_out a_first c_t (v1.2) c_tape)) rfl (fun H locs hP hD hS => ?_)
    refine lv_pop hx hb dX6_isPersonStatement_80 rfl ?_
    refine lv_iconst (v := (1 : Int32)) hx hb dX6_isPersonStatement_81 (by decide) ?_
    obtain rfl := Option.some.inj h
    exact ret_z X dX6_isPersonStatement_82 (by decide) hP hD hS rfl
  · have h := if_t h hc66
    refine lv_iconst (v := (0 : Int32)) hx hb dX6_isPersonStatement_69 (by decide) ?_
    obtain rfl := Option.some.inj h
    exact ret_z X dX6_isPersonStatement_70 (by decide) hP hD hS rfl
set_option maxRecDepth 100000 in
set_option maxHeartbeats 4000000 in
theorem w_X6_isPersonStatement_b51 (X : Ctx p m meth c cX6_isPersonStatement 5 ((some .boolean)) s args wsX6_isPersonStatement RX6 E A) (a_t : Nat) (a_now : Nat) (a_tape : Nat) (a_refused : Nat) (a_kept : Nat) (a_mind : Nat) (a_words : Nat) (a_wCell : Nat) (a_wFaces : Nat) (a_wTurns : Nat) (a_wSign : Nat) (a_wBy : Nat) (a_wFell : Nat) (a_telling : Nat) (a_holds : Nat) (a_sizes : Nat) (a_elements : Nat) (a_moved : Nat) (a_above : Nat) (a_out : Nat) (a_first : Nat) (c_tape : Nat → Int32) (res : Int32 × (Nat → Int32) × (Nat → Int32)) (c_t : Nat → Int32) (c_now : Nat → Int32) (l1 : Int32) (l2 : Int32) (l3 : Int32) (ls : Array Slot) (H : Heap) (locs : List Loc) (h : f_X6_isPersonStatement_b51 c_tape c_t c_now l1 l2 l3 = some res) (hP : va_P E.1 vwCl (W_X6_isPersonStatement E a_t a_now a_tape a_refused a_kept a_mind a_words a_wCell a_wFaces a_wTurns a_wSign a_wBy a_wFell a_telling a_holds a_sizes a_elements a_moved a_above a_out a_first c_t c_now c_tape) H) (hD : va_D A (W_X6_isPersonStatement E a_t a_now a_tape a_refused a_kept a_mind a_words a_wCell a_wFaces a_wTurns a_wSign a_wBy a_wFell a_telling a_holds a_sizes a_elements a_moved a_above a_out a_first c_t c_now c_tape)) (hS : va_S A s.heap H locs) (hl : lv_has ls 5 [(0, .ref a_t), (1, .int l1), (2, .int l2), (3, .int l3)]) : W p l e r_X6_isPersonStatement s m args below meth c H locs 0 0 (MQ below (qI E A (res.1) (W_X6_isPersonStatement E a_t a_now a_tape a_refused a_kept a_mind a_words a_wCell a_wFaces a_wTurns a_wSign a_wBy a_wFell a_telling a_holds a_sizes a_elements a_moved a_above a_out a_first (res.2.1) (res.2.2) c_tape)) args s 0 0 A) (F0 m 51 ls []) := by
  obtain ⟨hx, hb, hml, hr, hlk, hown, hts, hG, hA⟩ := id X
  have hK := hG.1
  have hN := hG.2.1
  unfold f_X6_isPersonStatement_b51 at h
  refine lv_iconst (v := (-1 : Int32)) hx hb dX6_isPersonStatement_51 (by decide) ?_
  refine lv_goto (tgt := 61) hx hb dX6_isPersonStatement_52 (by decide) ?_
  exact w_X6_isPersonStatement_b61 X a_t a_now a_tape a_refused a_kept a_mind a_words a_wCell a_wFaces a_wTurns a_wSign a_wBy a_wFell a_telling a_holds a_sizes a_elements a_moved a_above a_out a_first c_tape res c_t c_now l1 l2 l3 (-1 : Int32) _ _ _ h hP hD hS (lv_sub hl [0, 1, 2, 3] rfl)
set_option maxRecDepth 100000 in
set_option maxHeartbeats 4000000 in
theorem w_X6_isPersonStatement_b37 (X : Ctx p m meth c cX6_isPersonStatement 5 ((some .boolean)) s args wsX6_isPersonStatement RX6 E A) (a_t : Nat) (a_now : Nat) (a_tape : Nat) (a_refused : Nat) (a_kept : Nat) (a_mind : Nat) (a_words : Nat) (a_wCell : Nat) (a_wFaces : Nat) (a_wTurns : Nat) (a_wSign : Nat) (a_wBy : Nat) (a_wFell : Nat) (a_telling : Nat) (a_holds : Nat) (a_sizes : Nat) (a_elements : Nat) (a_moved : Nat) (a_above : Nat) (a_out : Nat) (a_first : Nat) (c_tape : Nat → Int32) (res : Int32 × (Nat → Int32) × (Nat → Int32)) (c_t : Nat → Int32) (c_now : Nat → Int32) (l1 : Int32) (l2 : Int32) (s0 : Int32) (ls : Array Slot) (H : Heap) (locs : List Loc) (h : f_X6_isPersonStatement_b37 c_tape c_t c_now l1 l2 s0 = some res) (hP : va_P E.1 vwCl (W_X6_isPersonStatement E a_t a_now a_tape a_refused a_kept a_mind a_words a_wCell a_wFaces a_wTurns a_wSign a_wBy a_wFell a_telling a_holds a_sizes a_elements a_moved a_above a_out a_first c_t c_now c_tape) H) (hD : va_D A (W_X6_isPersonStatement E a_t a_now a_tape a_refused a_kept a_mind a_words a_wCell a_wFaces a_wTurns a_wSign a_wBy a_wFell a_telling a_holds a_sizes a_elements a_moved a_above a_out a_first c_t c_now c_tape)) (hS : va_S A s.heap H locs) (hl : lv_has ls 5 [(0, .ref a_t), (1, .int l1), (2, .int l2)]) : W p l e r_X6_isPersonStatement s m args below meth c H locs 0 0 (MQ below (qI E A (res.1) (W_X6_isPersonStatement E a_t a_now a_tape a_refused a_kept a_mind a_words a_wCell a_wFaces a_wTurns a_wSign a_wBy a_wFell a_telling a_holds a_sizes a_elements a_moved a_above a_out a_first (res.2.1) (res.2.2) c_tape)) args s 0 0 A) (F0 m 37 ls [.int s0]) := by
  obtain ⟨hx, hb, hml, hr, hlk, hown, hts, hG, hA⟩ := id X
  have hK := hG.1
  have hN := hG.2.1
  unfold f_X6_isPersonStatement_b37 at h
  refine lv_istore_n (lv' := [(3, .int s0), (0, .ref a_t), (1, .int l1), (2, .int l2)]) hx hb dX6_isPersonStatement_37 rfl hl (by decide) rfl (fun ls hl => ?_)
  refine lv_iload_n hx hb dX6_isPersonStatement_38 rfl (lv_at hl 0 rfl) ?_
  refine lv_iconst (v := (-1 : Int32)) hx hb dX6_isPersonStatement_39 (by decide) ?_
  refine lv_icmp_eq (tgt := 51) hx hb dX6_isPersonStatement_40 (by decide) (fun hc40 => ?_) (fun hc40 => ?_)
  · have h := if_t h hc40
    exact w_X6_isPersonStatement_b51 X a_t a_now a_tape a_refused a_kept a_mind a_words a_wCell a_wFaces a_wTurns a_wSign a_wBy a_wFell a_telling a_holds a_sizes a_elements a_moved a_above a_out a_first c_tape res c_t c_now l1 l2 s0 _ _ _ h hP hD hS (lv_sub hl [1, 2, 3, 0] rfl)
  · have h := if_f h hc40
    refine lv_aload_n hx hb dX6_isPersonStatement_43 rfl (lv_at hl 1 rfl) ?_
    refine lv_iload_n hx hb dX6_isPersonStatement_44 rfl (lv_at hl 0 rfl) ?_
    obtain ⟨v1, hv1, h⟩ := bind_of h
    refine after_i X (run_V X (c_X6_hasPond l E a_t a_now a_refused a_kept a_mind a_tape a_words a_wCell a_wFaces a_wTurns a_wSign a_wBy a_wFell a_telling a_holds a_sizes a_elements a_moved a_above a_out a_first s0 c_t c_now H.size v1 hv1) (cwV 1 hts gX6_isPersonStatement_X6_hasPond rfl rfl rfl hV_X6_hasPond ⟨(Nat.le_of_ble_eq_true rfl), (Nat.le_of_ble_eq_true rfl)⟩) hP hD hS [0, 1] rfl rfl hl.1 (ci := 6) rfl rfl rfl (rest := []) rfl rfl (Nat.le_of_ble_eq_true rfl) dX6_isPersonStatement_45) hP hD hS [0, 1] rfl (ws1 := (W_X6_isPersonStatement E a_t a_now a_tape a_refused a_kept a_mind a_words a_wCell a_wFaces a_wTurns a_wSign a_wBy a_wFell a_telling a_holds a_sizes a_elements a_moved a_above a_out a_first c_t c_now c_tape)) rfl (fun H locs hP hD hS => ?_)
    refine lv_if_eq (tgt := 55) hx hb dX6_isPersonStatement_48 (by decide) (fun hc48 => ?_) (fun hc48 => ?_)
    · have h := if_t h hc48
      refine lv_aload_n hx hb dX6_isPersonStatement_55 rfl (lv_at hl 1 rfl) ?_
      refine lv_iconst (v := (0 : Int32)) hx hb dX6_isPersonStatement_56 (by decide) ?_
      refine lv_iconst (v := (3 : Int32)) hx hb dX6_isPersonStatement_57 (by decide) ?_
      obtain ⟨v2, hv2, h⟩ := bind_of h
      refine after_i X (run_V X (c_X6_number l E a_t a_tape a_refused a_now a_kept a_mind a_words a_wCell a_wFaces a_wTurns a_wSign a_wBy a_wFell a_telling a_holds a_sizes a_elements a_moved a_above a_out a_first (0 : Int32) (3 : Int32) c_t c_tape H.size v2 hv2) (cwV 2 hts gX6_isPersonStatement_X6_number rfl rfl rfl hV_X6_number ⟨(Nat.le_of_ble_eq_true rfl), (Nat.le_of_ble_eq_true rfl)⟩) hP hD hS [0, 2] rfl rfl hl.1 (ci := 6) rfl rfl rfl (rest := []) rfl rfl (Nat.le_of_ble_eq_true rfl) dX6_isPersonStatement_58) hP hD hS [0, 2] rfl (ws1 := (W_X6_isPersonStatement E a_t a_now a_tape a_refused a_kept a_mind a_words a_wCell a_wFaces a_wTurns a_wSign a_wBy a_wFell a_telling a_holds a_sizes a_elements a_moved a_above a_out a_first (v2.2) c_now c_tape)) rfl (fun H locs hP hD hS => ?_)
      exact w_X6_isPersonStatement_b61 X a_t a_now a_tape a_refused a_kept a_mind a_words a_wCell a_wFaces a_wTurns a_wSign a_wBy a_wFell a_telling a_holds a_sizes a_elements a_moved a_above a_out a_first c_tape res (v2.2) c_now l1 l2 s0 (v2.1) _ _ _ h hP hD hS (lv_sub hl [1, 2, 3, 0] rfl)
    · have h := if_f h hc48
      exact w_X6_isPersonStatement_b51 X a_t a_now a_tape a_refused a_kept a_mind a_words a_wCell a_wFaces a_wTurns a_wSign a_wBy a_wFell a_telling a_holds a_sizes a_elements a_moved a_above a_out a_first c_tape res c_t c_now l1 l2 s0 _ _ _ h hP hD hS (lv_sub hl [1, 2, 3, 0] rfl)
set_option maxRecDepth 100000 in
set_option maxHeartbeats 4000000 in
theorem w_X6_isPersonStatement_b23 (X : Ctx p m meth c cX6_isPersonStatement 5 ((some .boolean)) s args wsX6_isPersonStatement RX6 E A) (a_t : Nat) (a_now : Nat) (a_tape : Nat) (a_refused : Nat) (a_kept : Nat) (a_mind : Nat) (a_words : Nat) (a_wCell : Nat) (a_wFaces : Nat) (a_wTurns : Nat) (a_wSign : Nat) (a_wBy : Nat) (a_wFell : Nat) (a_telling : Nat) (a_holds : Nat) (a_sizes : Nat) (a_elements : Nat) (a_moved : Nat) (a_above : Nat) (a_out : Nat) (a_first : Nat) (c_tape : Nat → Int32) (res : Int32 × (Nat → Int32) × (Nat → Int32)) (c_t : Nat → Int32) (c_now : Nat → Int32) (l1 : Int32) (s0 : Int32) (ls : Array Slot) (H : Heap) (locs : List Loc) (h : f_X6_isPersonStatement_b23 c_tape c_t c_now l1 s0 = some res) (hP : va_P E.1 vwCl (W_X6_isPersonStatement E a_t a_now a_tape a_refused a_kept a_mind a_words a_wCell a_wFaces a_wTurns a_wSign a_wBy a_wFell a_telling a_holds a_sizes a_elements a_moved a_above a_out a_first c_t c_now c_tape) H) (hD : va_D A (W_X6_isPersonStatement E a_t a_now a_tape a_refused a_kept a_mind a_words a_wCell a_wFaces a_wTurns a_wSign a_wBy a_wFell a_telling a_holds a_sizes a_elements a_moved a_above a_out a_first c_t c_now c_tape)) (hS : va_S A s.heap H locs) (hl : lv_has ls 5 [(0, .ref a_t), (1, .int l1)]) : W p l e r_X6_isPersonStatement s m args below meth c H locs 0 0 (MQ below (qI E A (res.1) (W_X6_isPersonStatement E a_t a_now a_tape a_refused a_kept a_mind a_words a_wCell a_wFaces a_wTurns a_wSign a_wBy a_wFell a_telling a_holds a_sizes a_elements a_moved a_above a_out a_first (res.2.1) (res.2.2) c_tape)) args s 0 0 A) (F0 m 23 ls [.int s0]) := by
  obtain ⟨hx, hb, hml, hr, hlk, hown, hts, hG, hA⟩ := id X
  have hK := hG.1
  have hN := hG.2.1
  unfold f_X6_isPersonStatement_b23 at h
  refine lv_istore_n (lv' := [(2, .int s0), (0, .ref a_t), (1, .int l1)]) hx hb dX6_isPersonStatement_23 rfl hl (by decide) rfl (fun ls hl => ?_)
  refine lv_iload_n hx hb dX6_isPersonStatement_24 rfl (lv_at hl 0 rfl) ?_
  refine lv_iconst (v := (-1 : Int32)) hx hb dX6_isPersonStatement_25 (by decide) ?_
  refine lv_icmp_ne (tgt := 33) hx hb dX6_isPersonStatement_26 (by decide) (fun hc26 => ?_) (fun hc26 => ?_)
  · have h := if_f h hc26
    refine lv_aload_n hx hb dX6_isPersonStatement_33 rfl (lv_at hl 1 rfl) ?_
    obtain ⟨v1, hv1, h⟩ := bind_of h
    refine after_i X (run_V X (c_X6_cellNumber l E a_t a_now a_tape a_refused a_kept a_mind a_words a_wCell a_wFaces a_wTurns a_wSign a_wBy a_wFell a_telling a_holds a_sizes a_elements a_moved a_above a_out a_first c_t c_now c_tape H.size v1 hv1) (cwV 0 hts gX6_isPersonStatement_X6_cellNumber rfl rfl rfl hV_X6_cellNumber ⟨(Nat.le_of_ble_eq_true rfl), (Nat.le_of_ble_eq_true rfl)⟩) hP hD hS [0, 1, 2] rfl rfl hl.1 (ci := 6) rfl rfl rfl (rest := []) rfl rfl (Nat.le_of_ble_eq_true rfl) dX6_isPersonStatement_34) hP hD hS [0, 1, 2] rfl (ws1 := (W_X6_isPersonStatement E a_t a_now a_tape a_refused a_kept a_mind a_words a_wCell a_wFaces a_wTurns a_wSign a_wBy a_wFell a_telling a_holds a_sizes a_elements a_moved a_above a_out a_first (v1.2) c_now c_tape)) rfl (fun H locs hP hD hS => ?_)
    exact w_X6_isPersonStatement_b37 X a_t a_now a_tape a_refused a_kept a_mind a_words a_wCell a_wFaces a_wTurns a_wSign a_wBy a_wFell a_telling a_holds a_sizes a_elements a_moved a_above a_out a_first c_tape res (v1.2) c_now l1 s0 (v1.1) _ _ _ h hP hD hS (lv_sub hl [1, 2, 0] rfl)
  · have h := if_t h hc26
    refine lv_iconst (v := (-1 : Int32)) hx hb dX6_isPersonStatement_29 (by decide) ?_
    refine lv_goto (tgt := 37) hx hb dX6_isPersonStatement_30 (by decide) ?_
    exact w_X6_isPersonStatement_b37 X a_t a_now a_tape a_refused a_kept a_mind a_words a_wCell a_wFaces a_wTurns a_wSign a_wBy a_wFell a_telling a_holds a_sizes a_elements a_moved a_above a_out a_first c_tape res c_t c_now l1 s0 (-1 : Int32) _ _ _ h hP hD hS (lv_sub hl [1, 2, 0] rfl)
set_option maxRecDepth 100000 in
set_option maxHeartbeats 4000000 in
theorem w_X6_isPersonStatement (X : Ctx p m meth c cX6_isPersonStatement 5 ((some .boolean)) s args wsX6_isPersonStatement RX6 E A) (a_t : Nat) (a_now : Nat) (a_tape : Nat) (a_refused : Nat) (a_kept : Nat) (a_mind : Nat) (a_words : Nat) (a_wCell : Nat) (a_wFaces : Nat) (a_wTurns : Nat) (a_wSign : Nat) (a_wBy : Nat) (a_wFell : Nat) (a_telling : Nat) (a_holds : Nat) (a_sizes : Nat) (a_elements : Nat) (a_moved : Nat) (a_above : Nat) (a_out : Nat) (a_first : Nat) (c_tape : Nat → Int32) (res : Int32 × (Nat → Int32) × (Nat → Int32)) (c_t : Nat → Int32) (c_now : Nat → Int32) (ls : Array Slot) (H : Heap) (locs : List Loc) (h : f_X6_isPersonStatement c_t c_now c_tape = some res) (hP : va_P E.1 vwCl (W_X6_isPersonStatement E a_t a_now a_tape a_refused a_kept a_mind a_words a_wCell a_wFaces a_wTurns a_wSign a_wBy a_wFell a_telling a_holds a_sizes a_elements a_moved a_above a_out a_first c_t c_now c_tape) H) (hD : va_D A (W_X6_isPersonStatement E a_t a_now a_tape a_refused a_kept a_mind a_words a_wCell a_wFaces a_wTurns a_wSign a_wBy a_wFell a_telling a_holds a_sizes a_elements a_moved a_above a_out a_first c_t c_now c_tape)) (hS : va_S A s.heap H locs) (hl : lv_has ls 5 [(0, .ref a_t)]) : W p l e r_X6_isPersonStatement s m args below meth c H locs 0 0 (MQ below (qI E A (res.1) (W_X6_isPersonStatement E a_t a_now a_tape a_refused a_kept a_mind a_words a_wCell a_wFaces a_wTurns a_wSign a_wBy a_wFell a_telling a_holds a_sizes a_elements a_moved a_above a_out a_first (res.2.1) (res.2.2) c_tape)) args s 0 0 A) (F0 m 0 ls []) := by
  obtain ⟨hx, hb, hml, hr, hlk, hown, hts, hG, hA⟩ := id X
  have hK := hG.1
  have hN := hG.2.1
  unfold f_X6_isPersonStatement at h
  refine lv_aload_n hx hb dX6_isPersonStatement_0 rfl (lv_at hl 0 rfl) ?_
  refine lv_iconst (v := (0 : Int32)) hx hb dX6_isPersonStatement_1 (by decide) ?_
  refine lv_iconst (v := (5 : Int32)) hx hb dX6_isPersonStatement_2 (by decide) ?_
  obtain ⟨v1, hv1, h⟩ := bind_of h
  refine after_i X (run_V X (c_X6_number l E a_t a_tape a_refused a_now a_kept a_mind a_words a_wCell a_wFaces a_wTurns a_wSign a_wBy a_wFell a_telling a_holds a_sizes a_elements a_moved a_above a_out a_first (0 : Int32) (5 : Int32) c_t c_tape H.size v1 hv1) (cwV 2 hts gX6_isPersonStatement_X6_number rfl rfl rfl hV_X6_number ⟨(Nat.le_of_ble_eq_true rfl), (Nat.le_of_ble_eq_true rfl)⟩) hP hD hS [0, 2] rfl rfl hl.1 (ci := 6) rfl rfl rfl (rest := []) rfl rfl (Nat.le_of_ble_eq_true rfl) dX6_isPersonStatement_3) hP hD hS [0, 2] rfl (ws1 := (W_X6_isPersonStatement E a_t a_now a_tape a_refused a_kept a_mind a_words a_wCell a_wFaces a_wTurns a_wSign a_wBy a_wFell a_telling a_holds a_sizes a_elements a_moved a_above a_out a_first (v1.2) c_now c_tape)) rfl (fun H locs hP hD hS => ?_)
  refine lv_istore_n (lv' := [(1, .int (v1.1)), (0, .ref a_t)]) hx hb dX6_isPersonStatement_6 rfl hl (by decide) rfl (fun ls hl => ?_)
  refine lv_iload_n hx hb dX6_isPersonStatement_7 rfl (lv_at hl 0 rfl) ?_
  refine lv_iconst (v := (-1 : Int32)) hx hb dX6_isPersonStatement_8 (by decide) ?_
  refine lv_icmp_ne (tgt := 16) hx hb dX6_isPersonStatement_9 (by decide) (fun hc9 => ?_) (fun hc9 => ?_)
  · have h := if_f h hc9
    refine lv_aload_n hx hb dX6_isPersonStatement_16 rfl (lv_at hl 1 rfl) ?_
    refine lv_iconst (v := (0 : Int32)) hx hb dX6_isPersonStatement_17 (by decide) ?_
    refine lv_bipush (v := (9 : Int32)) hx hb dX6_isPersonStatement_18 (by decide) ?_
    obtain ⟨v2, hv2, h⟩ := bind_of h
    refine after_i X (run_V X (c_X6_number l E a_t a_tape a_refused a_now a_kept a_mind a_words a_wCell a_wFaces a_wTurns a_wSign a_wBy a_wFell a_telling a_holds a_sizes a_elements a_moved a_above a_out a_first (0 : Int32) (9 : Int32) (v1.2) c_tape H.size v2 hv2) (cwV 2 hts gX6_isPersonStatement_X6_number rfl rfl rfl hV_X6_number ⟨(Nat.le_of_ble_eq_true rfl), (Nat.le_of_ble_eq_true rfl)⟩) hP hD hS [0, 2] rfl rfl hl.1 (ci := 6) rfl rfl rfl (rest := []) rfl rfl (Nat.le_of_ble_eq_true rfl) dX6_isPersonStatement_20) hP hD hS [0, 2] rfl (ws1 := (W_X6_isPersonStatement E a_t a_now a_tape a_refused a_kept a_mind a_words a_wCell a_wFaces a_wTurns a_wSign a_wBy a_wFell a_telling a_holds a_sizes a_elements a_moved a_above a_out a_first (v2.2) c_now c_tape)) rfl (fun H locs hP hD hS => ?_)
    exact w_X6_isPersonStatement_b23 X a_t a_now a_tape a_refused a_kept a_mind a_words a_wCell a_wFaces a_wTurns a_wSign a_wBy a_wFell a_telling a_holds a_sizes a_elements a_moved a_above a_out a_first c_tape res (v2.2) c_now (v1.1) (v2.1) _ _ _ h hP hD hS (lv_sub hl [1, 0] rfl)
  · have h := if_t h hc9
    refine lv_iconst (v := (-1 : Int32)) hx hb dX6_isPersonStatement_12 (by decide) ?_
    refine lv_goto (tgt := 23) hx hb dX6_isPersonStatement_13 (by decide) ?_
    exact w_X6_isPersonStatement_b23 X a_t a_now a_tape a_refused a_kept a_mind a_words a_wCell a_wFaces a_wTurns a_wSign a_wBy a_wFell a_telling a_holds a_sizes a_elements a_moved a_above a_out a_first c_tape res (v1.2) c_now (v1.1) (-1 : Int32) _ _ _ h hP hD hS (lv_sub hl [1, 0] rfl)
end
set_option maxRecDepth 100000 in
theorem c_X6_isPersonStatement (l : Launch) (E : Env0) (a_t : Nat) (a_now : Nat) (a_tape : Nat) (a_refused : Nat) (a_kept : Nat) (a_mind : Nat) (a_words : Nat) (a_wCell : Nat) (a_wFaces : Nat) (a_wTurns : Nat) (a_wSign : Nat) (a_wBy : Nat) (a_wFell : Nat) (a_telling : Nat) (a_holds : Nat) (a_sizes : Nat) (a_elements : Nat) (a_moved : Nat) (a_above : Nat) (a_out : Nat) (a_first : Nat) (c_t : Nat → Int32) (c_now : Nat → Int32) (c_tape : Nat → Int32) (sz : Nat) (res : Int32 × (Nat → Int32) × (Nat → Int32)) (h : f_X6_isPersonStatement c_t c_now c_tape = some res) : Met l yX6_isPersonStatement wsX6_isPersonStatement r_X6_isPersonStatement (cPre E [.ref a_t] (W_X6_isPersonStatement E a_t a_now a_tape a_refused a_kept a_mind a_words a_wCell a_wFaces a_wTurns a_wSign a_wBy a_wFell a_telling a_holds a_sizes a_elements a_moved a_above a_out a_first c_t c_now c_tape) sz) (qI E (va_A (W_X6_isPersonStatement E a_t a_now a_tape a_refused a_kept a_mind a_words a_wCell a_wFaces a_wTurns a_wSign a_wBy a_wFell a_telling a_holds a_sizes a_elements a_moved a_above a_out a_first c_t c_now c_tape) sz) (res.1) (W_X6_isPersonStatement E a_t a_now a_tape a_refused a_kept a_mind a_words a_wCell a_wFaces a_wTurns a_wSign a_wBy a_wFell a_telling a_holds a_sizes a_elements a_moved a_above a_out a_first (res.2.1) (res.2.2) c_tape)) 0 0 (va_A (W_X6_isPersonStatement E a_t a_now a_tape a_refused a_kept a_mind a_words a_wCell a_wFaces a_wTurns a_wSign a_wBy a_wFell a_telling a_holds a_sizes a_elements a_moved a_above a_out a_first c_t c_now c_tape) sz) :=
  met_of (Qc := fun A => qI E A (res.1) (W_X6_isPersonStatement E a_t a_now a_tape a_refused a_kept a_mind a_words a_wCell a_wFaces a_wTurns a_wSign a_wBy a_wFell a_telling a_holds a_sizes a_elements a_moved a_above a_out a_first (res.2.1) (res.2.2) c_tape)) (by decide) rfl (Nat.le_of_ble_eq_true rfl) (fun p e s m args below meth c X hP hD hS ls hl => w_X6_isPersonStatement X a_t a_now a_tape a_refused a_kept a_mind a_words a_wCell a_wFaces a_wTurns a_wSign a_wBy a_wFell a_telling a_holds a_sizes a_elements a_moved a_above a_out a_first c_tape res c_t c_now ls _ _ h hP hD hS hl)
-- ===== X6_isStatement
noncomputable abbrev W_X6_isStatement (E : Env0) (a_t : Nat) (a_now : Nat) (a_tape : Nat) (a_words : Nat) (a_refused : Nat) (a_kept : Nat) (a_mind : Nat) (a_wCell : Nat) (a_wFaces : Nat) (a_wTurns : Nat) (a_wSign : Nat) (a_wBy : Nat) (a_wFell : Nat) (a_telling : Nat) (a_holds : Nat) (a_sizes : Nat) (a_elements : Nat) (a_moved : Nat) (a_above : Nat) (a_out : Nat) (a_first : Nat) (c_t : Nat → Int32) (c_now : Nat → Int32) (c_tape : Nat → Int32) (c_words : Nat → Int32) : va_W := [(a_t, .inr (6, [.ref a_refused, .ref a_now, .ref a_kept, .ref a_mind, .int (c_t 4), .ref a_tape, .int (c_t 6), .int (c_t 7), .int (c_t 8), .int (c_t 9), .ref a_words, .ref a_wCell, .ref a_wFaces, .ref a_wTurns, .ref a_wSign, .ref a_wBy, .ref a_wFell, .int (c_t 17), .ref a_telling, .ref a_holds, .ref a_sizes, .ref a_elements, .ref a_moved, .ref a_above, .ref a_out, .ref a_first])), (a_now, .inl (eI E, 97, .inl c_now)), (a_tape, .inl (eI E, 250, .inl c_tape)), (a_words, .inl (eC E, 48, .inl c_words))]
noncomputable abbrev r_X6_isStatement : Room := { frames := 6, cells := 0, slots := 0, locals := 135 }
theorem hd_X6_isStatement : yX6_isStatement.cls ≠ "java/lang/invoke/MethodHandle" ∧ yX6_isStatement.cls ≠ "java/lang/invoke/VarHandle" ∧ (parseMethodDescriptor yX6_isStatement.desc).map (fun d => d.parameters.length) = some 0 := by decide +kernel
theorem hV_X6_isStatement : yX6_isStatement.cls = RX6 ∧ yX6_isStatement.cls ≠ "java/lang/invoke/MethodHandle" ∧ yX6_isStatement.cls ≠ "java/lang/invoke/VarHandle" ∧ (parseMethodDescriptor yX6_isStatement.desc).map (fun d => d.parameters.length) = some 0 := ⟨rfl, hd_X6_isStatement⟩
theorem iX6_isStatement_X6 : ∀ w ∈ wsX60, w ∈ wsX6_isStatement := fun _ h => List.mem_cons_of_mem _ (List.mem_append_right _ (h))
section
variable {p : Program} {l : Launch} {e : Env} {s : State} {m : MethodId} {args : Array Value} {below : List Frame} {meth : Method} {c : Code} {E : Env0} {A : Nat → Prop}
set_option maxRecDepth 100000 in
set_option maxHeartbeats 4000000 in
theorem w_X6_isStatement_b75 (X : Ctx p m meth c cX6_isStatement 4 ((some .boolean)) s args wsX6_isStatement RX6 E A) (a_t : Nat) (a_now : Nat) (a_tape : Nat) (a_words : Nat) (a_refused : Nat) (a_kept : Nat) (a_mind : Nat) (a_wCell : Nat) (a_wFaces : Nat) (a_wTurns : Nat) (a_wSign : Nat) (a_wBy : Nat) (a_wFell : Nat) (a_telling : Nat) (a_holds : Nat) (a_sizes : Nat) (a_elements : Nat) (a_moved : Nat) (a_above : Nat) (a_out : Nat) (a_first : Nat) (c_tape : Nat → Int32) (c_words : Nat → Int32) (res : Int32 × (Nat → Int32) × (Nat → Int32)) (c_t : Nat → Int32) (c_now : Nat → Int32) (l1 : Int32) (l2 : Int32) (ls : Array Slot) (H : Heap) (locs : List Loc) (h : f_X6_isStatement_b75 c_tape c_words c_t c_now l1 l2 = some res) (hP : va_P E.1 vwCl (W_X6_isStatement E a_t a_now a_tape a_words a_refused a_kept a_mind a_wCell a_wFaces a_wTurns a_wSign a_wBy a_wFell a_telling a_holds a_sizes a_elements a_moved a_above a_out a_first c_t c_now c_tape c_words) H) (hD : va_D A (W_X6_isStatement E a_t a_now a_tape a_words a_refused a_kept a_mind a_wCell a_wFaces a_wTurns a_wSign a_wBy a_wFell a_telling a_holds a_sizes a_elements a_moved a_above a_out a_first c_t c_now c_tape c_words)) (hS : va_S A s.heap H locs) (hl : lv_has ls 4 [(0, .ref a_t), (1, .int l1), (2, .int l2)]) : W p l e r_X6_isStatement s m args below meth c H locs 0 0 (MQ below (qI E A (res.1) (W_X6_isStatement E a_t a_now a_tape a_words a_refused a_kept a_mind a_wCell a_wFaces a_wTurns a_wSign a_wBy a_wFell a_telling a_holds a_sizes a_elements a_moved a_above a_out a_first (res.2.1) (res.2.2) c_tape c_words)) args s 0 0 A) (F0 m 75 ls []) := by
  obtain ⟨hx, hb, hml, hr, hlk, hown, hts, hG, hA⟩ := id X
  have hK := hG.1
  have hN := hG.2.1
  unfold f_X6_isStatement_b75 at h
  refine lv_aload_n hx hb dX6_isStatement_75 rfl (lv_at hl 0 rfl) ?_
  refine va_get (D := E.1) (ci := 6) (v := .ref a_now) (C := RX6) (T := TX6) (N := 26) hx hb hts iX6_isStatement_X6 hown hK hP 0 rfl rfl 1 (by decide) (hts (.fieldLink RX6 17 "LeftIsAgreedOnModel" "now" "[I") (List.mem_of_getElem? (i := 1) rfl)) (fun _ h9 => h9) rfl dX6_isStatement_76 ?_
  refine lv_iload_n hx hb dX6_isStatement_79 rfl (lv_at hl 2 rfl) ?_
  obtain ⟨v1, hv1, h⟩ := bind_of h
  refine after_i X (run_S X (c_X6_pondAt l E l2 H.size v1 hv1) (va_cwS 1 hts gX6_isStatement_X6_pondAt rfl rfl rfl hd_X6_pondAt ⟨(Nat.le_of_ble_eq_true rfl), (Nat.le_of_ble_eq_true rfl)⟩) hP hD hS [] rfl rfl hl.1 (rest := [.ref a_now]) rfl rfl (Nat.le_of_ble_eq_true rfl) dX6_isStatement_80) hP hD hS [] rfl (ws1 := (W_X6_isStatement E a_t a_now a_tape a_words a_refused a_kept a_mind a_wCell a_wFaces a_wTurns a_wSign a_wBy a_wFell a_telling a_holds a_sizes a_elements a_moved a_above a_out a_first c_t c_now c_tape c_words)) rfl (fun H locs hP hD hS => ?_)
  refine lv_iconst (v := (2 : Int32)) hx hb dX6_isStatement_83 (by decide) ?_
  refine lv_iload_n hx hb dX6_isStatement_84 rfl (lv_at hl 1 rfl) ?_
  refine lv_isub hx hb dX6_isStatement_85 ?_
  obtain ⟨hz86, h⟩ := chk_of h
  refine st_i X hP hD hS 1 rfl (inb.vp hz86) (k := (v1).toNatClampNeg) rfl (ws1 := (W_X6_isStatement E a_t a_now a_tape a_words a_refused a_kept a_mind a_wCell a_wFaces a_wTurns a_wSign a_wBy a_wFell a_telling a_holds a_sizes a_elements a_moved a_above a_out a_first c_t (upd c_now ((v1).toNatClampNeg) ((2 : Int32) - l1)) c_tape c_words)) rfl dX6_isStatement_86 (fun H locs hP hD hS => ?_)
  refine lv_iconst (v := (1 : Int32)) hx hb dX6_isStatement_87 (by decide) ?_
  obtain rfl := Option.some.inj h
  exact ret_z X dX6_isStatement_88 (by decide) hP hD hS rfl
set_option maxRecDepth 100000 in
set_option maxHeartbeats 4000000 in
theorem w_X6_isStatement_b50 (X : Ctx p m meth c cX6_isStatement 4 ((some .boolean)) s args wsX6_isStatement RX6 E A) (a_t : Nat) (a_now : Nat) (a_tape : Nat) (a_words : Nat) (a_refused : Nat) (a_kept : Nat) (a_mind : Nat) (a_wCell : Nat) (a_wFaces : Nat) (a_wTurns : Nat) (a_wSign : Nat) (a_wBy : Nat) (a_wFell : Nat) (a_telling : Nat) (a_holds : Nat) (a_sizes : Nat) (a_elements : Nat) (a_moved : Nat) (a_above : Nat) (a_out : Nat) (a_first : Nat) (c_tape : Nat → Int32) (c_words : Nat → Int32) (res : Int32 × (Nat → Int32) × (Nat → Int32)) (c_t : Nat → Int32) (c_now : Nat → Int32) (l1 : Int32) (ls : Array Slot) (H : Heap) (locs : List Loc) (h : f_X6_isStatement_b50 c_tape c_words c_t c_now l1 = some res) (hP : va_P E.1 vwCl (W_X6_isStatement E a_t a_now a_tape a_words a_refused a_kept a_mind a_wCell a_wFaces a_wTurns a_wSign a_wBy a_wFell a_telling a_holds a_sizes a_elements a_moved a_above a_out a_first c_t c_now c_tape c_words) H) (hD : va_D A (W_X6_isStatement E a_t a_now a_tape a_words a_refused a_kept a_mind a_wCell a_wFaces a_wTurns a_wSign a_wBy a_wFell a_telling a_holds a_sizes a_elements a_moved a_above a_out a_first c_t c_now c_tape c_words)) (hS : va_S A s.heap H locs) (hl : lv_has ls 4 [(0, .ref a_t), (1, .int l1)]) : W p l e r_X6_isStatement s m args below meth c H locs 0 0 (MQ below (qI E A (res.1) (W_X6_isStatement E a_t a_now a_tape a_words a_refused a_kept a_mind a_wCell a_wFaces a_wTurns a_wSign a_wBy a_wFell a_telling a_holds a_sizes a_elements a_moved a_above a_out a_first (res.2.1) (res.2.2) c_tape c_words)) args s 0 0 A) (F0 m 50 ls []) := by
  obtain ⟨hx, hb, hml, hr, hlk, hown, hts, hG, hA⟩ := id X
  have hK := hG.1
  have hN := hG.2.1
  unfold f_X6_isStatement_b50 at h
  refine lv_aload_n hx hb dX6_isStatement_50 rfl (lv_at hl 0 rfl) ?_
  obtain ⟨v1, hv1, h⟩ := bind_of h
  refine after_i X (run_V X (c_X6_cellNumber l E a_t a_now a_tape a_refused a_kept a_mind a_words a_wCell a_wFaces a_wTurns a_wSign a_wBy a_wFell a_telling a_holds a_sizes a_elements a_moved a_above a_out a_first c_t c_now c_tape H.size v1 hv1) (cwV 0 hts gX6_isStatement_X6_cellNumber rfl rfl rfl hV_X6_cellNumber ⟨(Nat.le_of_ble_eq_true rfl), (Nat.le_of_ble_eq_true rfl)⟩) hP hD hS [0, 1, 2] rfl rfl hl.1 (ci := 6) rfl rfl rfl (rest := []) rfl rfl (Nat.le_of_ble_eq_true rfl) dX6_isStatement_51) hP hD hS [0, 1, 2] rfl (ws1 := (W_X6_isStatement E a_t a_now a_tape a_words a_refused a_kept a_mind a_wCell a_wFaces a_wTurns a_wSign a_wBy a_wFell a_telling a_holds a_sizes a_elements a_moved a_above a_out a_first (v1.2) c_now c_tape c_words)) rfl (fun H locs hP hD hS => ?_)
  refine lv_istore_n (lv' := [(2, .int (v1.1)), (0, .ref a_t), (1, .int l1)]) hx hb dX6_isStatement_54 rfl hl (by decide) rfl (fun ls hl => ?_)
  refine lv_iload_n hx hb dX6_isStatement_55 rfl (lv_at hl 0 rfl) ?_
  refine lv_iconst (v := (-1 : Int32)) hx hb dX6_isStatement_56 (by decide) ?_
  refine lv_icmp_eq (tgt := 73) hx hb dX6_isStatement_57 (by decide) (fun hc57 => ?_) (fun hc57 => ?_)
  · have h := if_t h hc57
    refine lv_iconst (v := (0 : Int32)) hx hb dX6_isStatement_73 (by decide) ?_
    obtain rfl := Option.some.inj h
    exact ret_z X dX6_isStatement_74 (by decide) hP hD hS rfl
  · have h := if_f h hc57
    refine lv_iload_n hx hb dX6_isStatement_60 rfl (lv_at hl 2 rfl) ?_
    refine lv_iconst (v := (1 : Int32)) hx hb dX6_isStatement_61 (by decide) ?_
    refine lv_icmp_ne (tgt := 75) hx hb dX6_isStatement_62 (by decide) (fun hc62 => ?_) (fun hc62 => ?_)
    · have h := if_f h hc62
      exact w_X6_isStatement_b75 X a_t a_now a_tape a_words a_refused a_kept a_mind a_wCell a_wFaces a_wTurns a_wSign a_wBy a_wFell a_telling a_holds a_sizes a_elements a_moved a_above a_out a_first c_tape c_words res (v1.2) c_now l1 (v1.1) _ _ _ h hP hD hS (lv_sub hl [1, 2, 0] rfl)
    · have h := if_t h hc62
      refine lv_aload_n hx hb dX6_isStatement_65 rfl (lv_at hl 1 rfl) ?_
      refine lv_iload_n hx hb dX6_isStatement_66 rfl (lv_at hl 0 rfl) ?_
      obtain ⟨v2, hv2, h⟩ := bind_of h
      refine after_i X (run_V X (c_X6_isSomebody l E a_t a_now a_refused a_kept a_mind a_tape a_words a_wCell a_wFaces a_wTurns a_wSign a_wBy a_wFell a_telling a_holds a_sizes a_elements a_moved a_above a_out a_first (v1.1) (v1.2) c_now H.size v2 hv2) (cwV 1 hts gX6_isStatement_X6_isSomebody rfl rfl rfl hV_X6_isSomebody ⟨(Nat.le_of_ble_eq_true rfl), (Nat.le_of_ble_eq_true rfl)⟩) hP hD hS [0, 1] rfl rfl hl.1 (ci := 6) rfl rfl rfl (rest := []) rfl rfl (Nat.le_of_ble_eq_true rfl) dX6_isStatement_67) hP hD hS [0, 1] rfl (ws1 := (W_X6_isStatement E a_t a_now a_tape a_words a_refused a_kept a_mind a_wCell a_wFaces a_wTurns a_wSign a_wBy a_wFell a_telling a_holds a_sizes a_elements a_moved a_above a_out a_first (v1.2) c_now c_tape c_words)) rfl (fun H locs hP hD hS => ?_)
      refine lv_if_eq (tgt := 75) hx hb dX6_isStatement_70 (by decide) (fun hc70 => ?_) (fun hc70 => ?_)
      · have h := if_t h hc70
        exact w_X6_isStatement_b75 X a_t a_now a_tape a_words a_refused a_kept a_mind a_wCell a_wFaces a_wTurns a_wSign a_wBy a_wFell a_telling a_holds a_sizes a_elements a_moved a_above a_out a_first c_tape c_words res (v1.2) c_now l1 (v1.1) _ _ _ h hP hD hS (lv_sub hl [1, 2, 0] rfl)
      · have h := if_f h hc70
        refine lv_iconst (v := (0 : Int32)) hx hb dX6_isStatement_73 (by decide) ?_
        obtain rfl := Option.some.inj h
        exact ret_z X dX6_isStatement_74 (by decide) hP hD hS rfl
set_option maxRecDepth 100000 in
set_option maxHeartbeats 4000000 in
theorem w_X6_isStatement_b172 (X : Ctx p m meth c cX6_isStatement 4 ((some .boolean)) s args wsX6_isStatement RX6 E A) (a_t : Nat) (a_now : Nat) (a_tape : Nat) (a_words : Nat) (a_refused : Nat) (a_kept : Nat) (a_mind : Nat) (a_wCell : Nat) (a_wFaces : Nat) (a_wTurns : Nat) (a_wSign : Nat) (a_wBy : Nat) (a_wFell : Nat) (a_telling : Nat) (a_holds : Nat) (a_sizes : Nat) (a_elements : Nat) (a_moved : Nat) (a_above : Nat) (a_out : Nat) (a_first : Nat) (c_tape : Nat → Int32) (c_words : Nat → Int32) (res : Int32 × (Nat → Int32) × (Nat → Int32)) (c_t : Nat → Int32) (c_now : Nat → Int32) (l2 : Int32) (s0 : Int32) (s1 : Int32) (ls : Array Slot) (H : Heap) (locs : List Loc) (h : f_X6_isStatement_b172 c_tape c_words c_t c_now l2 s0 s1 = some res) (hP : va_P E.1 vwCl (W_X6_isStatement E a_t a_now a_tape a_words a_refused a_kept a_mind a_wCell a_wFaces a_wTurns a_wSign a_wBy a_wFell a_telling a_holds a_sizes a_elements a_moved a_above a_out a_first c_t c_now c_tape c_words) H) (hD : va_D A (W_X6_isStatement E a_t a_now a_tape a_words a_refused a_kept a_mind a_wCell a_wFaces a_wTurns a_wSign a_wBy a_wFell a_telling a_holds a_sizes a_elements a_moved a_above a_out a_first c_t c_now c_tape c_words)) (hS : va_S A s.heap H locs) (hl : lv_has ls 4 [(0, .ref a_t), (2, .int l2)]) : W p l e r_X6_isStatement s m args below meth c H locs 0 0 (MQ below (qI E A (res.1) (W_X6_isStatement E a_t a_now a_tape a_words a_refused a_kept a_mind a_wCell a_wFaces a_wTurns a_wSign a_wBy a_wFell a_telling a_holds a_sizes a_elements a_moved a_above a_out a_first (res.2.1) (res.2.2) c_tape c_words)) args s 0 0 A) (F0 m 172 ls [.int s0, .int s1, .ref a_t]) := by
  obtain ⟨hx, hb, hml, hr, hlk, hown, hts, hG, hA⟩ := id X
  have hK := hG.1
  have hN := hG.2.1
  unfold f_X6_isStatement_b172 at h
  obtain ⟨v1, hv1, h⟩ := bind_of h
  refine after_i X (run_V X (c_X6_number l E a_t a_tape a_refused a_now a_kept a_mind a_words a_wCell a_wFaces a_wTurns a_wSign a_wBy a_wFell a_telling a_holds a_sizes a_elements a_moved a_above a_out a_first s1 s0 c_t c_tape H.size v1 hv1) (cwV 2 hts gX6_isStatement_X6_number rfl rfl rfl hV_X6_number ⟨(Nat.le_of_ble_eq_true rfl), (Nat.le_of_ble_eq_true rfl)⟩) hP hD hS [0, 2] rfl rfl hl.1 (ci := 6) rfl rfl rfl (rest := []) rfl rfl (Nat.le_of_ble_eq_true rfl) dX6_isStatement_172) hP hD hS [0, 2] rfl (ws1 := (W_X6_isStatement E a_t a_now a_tape a_words a_refused a_kept a_mind a_wCell a_wFaces a_wTurns a_wSign a_wBy a_wFell a_telling a_holds a_sizes a_elements a_moved a_above a_out a_first (v1.2) c_now c_tape c_words)) rfl (fun H locs hP hD hS => ?_)
  refine lv_istore_n (lv' := [(3, .int (v1.1)), (0, .ref a_t), (2, .int l2)]) hx hb dX6_isStatement_175 rfl hl (by decide) rfl (fun ls hl => ?_)
  refine lv_iload_n hx hb dX6_isStatement_176 rfl (lv_at hl 0 rfl) ?_
  refine lv_iconst (v := (-1 : Int32)) hx hb dX6_isStatement_177 (by decide) ?_
  refine lv_icmp_ne (tgt := 183) hx hb dX6_isStatement_178 (by decide) (fun hc178 => ?_) (fun hc178 => ?_)
  · have h := if_f h hc178
    refine lv_aload_n hx hb dX6_isStatement_183 rfl (lv_at hl 1 rfl) ?_
    refine va_get (D := E.1) (ci := 6) (v := .ref a_now) (C := RX6) (T := TX6) (N := 26) hx hb hts iX6_isStatement_X6 hown hK hP 0 rfl rfl 1 (by decide) (hts (.fieldLink RX6 17 "LeftIsAgreedOnModel" "now" "[I") (List.mem_of_getElem? (i := 1) rfl)) (fun _ h9 => h9) rfl dX6_isStatement_184 ?_
    refine lv_iload_n hx hb dX6_isStatement_187 rfl (lv_at hl 2 rfl) ?_
    refine lv_iload_n hx hb dX6_isStatement_188 rfl (lv_at hl 0 rfl) ?_
    obtain ⟨hz189, h⟩ := chk_of h
    refine st_i X hP hD hS 1 rfl (inb.vp hz189) (k := (l2).toNatClampNeg) rfl (ws1 := (W_X6_isStatement E a_t a_now a_tape a_words a_refused a_kept a_mind a_wCell a_wFaces a_wTurns a_wSign a_wBy a_wFell a_telling a_holds a_sizes a_elements a_moved a_above a_out a_first (v1.2) (upd c_now ((l2).toNatClampNeg) (v1.1)) c_tape c_words)) rfl dX6_isStatement_189 (fun H locs hP hD hS => ?_)
    refine lv_iconst (v := (1 : Int32)) hx hb dX6_isStatement_190 (by decide) ?_
    obtain rfl := Option.some.inj h
    exact ret_z X dX6_isStatement_191 (by decide) hP hD hS rfl
  · have h := if_t h hc178
    refine lv_iconst (v := (0 : Int32)) hx hb dX6_isStatement_181 (by decide) ?_
    obtain rfl := Option.some.inj h
    exact ret_z X dX6_isStatement_182 (by decide) hP hD hS rfl
set_option maxRecDepth 100000 in
set_option maxHeartbeats 4000000 in
theorem w_X6_isStatement_b151 (X : Ctx p m meth c cX6_isStatement 4 ((some .boolean)) s args wsX6_isStatement RX6 E A) (a_t : Nat) (a_now : Nat) (a_tape : Nat) (a_words : Nat) (a_refused : Nat) (a_kept : Nat) (a_mind : Nat) (a_wCell : Nat) (a_wFaces : Nat) (a_wTurns : Nat) (a_wSign : Nat) (a_wBy : Nat) (a_wFell : Nat) (a_telling : Nat) (a_holds : Nat) (a_sizes : Nat) (a_elements : Nat) (a_moved : Nat) (a_above : Nat) (a_out : Nat) (a_first : Nat) (c_tape : Nat → Int32) (c_words : Nat → Int32) (res : Int32 × (Nat → Int32) × (Nat → Int32)) (c_t : Nat → Int32) (c_now : Nat → Int32) (l1 : Int32) (l2 : Int32) (s0 : Int32) (ls : Array Slot) (H : Heap) (locs : List Loc) (h : f_X6_isStatement_b151 c_tape c_words c_t c_now l1 l2 s0 = some res) (hP : va_P E.1 vwCl (W_X6_isStatement E a_t a_now a_tape a_words a_refused a_kept a_mind a_wCell a_wFaces a_wTurns a_wSign a_wBy a_wFell a_telling a_holds a_sizes a_elements a_moved a_above a_out a_first c_t c_now c_tape c_words) H) (hD : va_D A (W_X6_isStatement E a_t a_now a_tape a_words a_refused a_kept a_mind a_wCell a_wFaces a_wTurns a_wSign a_wBy a_wFell a_telling a_holds a_sizes a_elements a_moved a_above a_out a_first c_t c_now c_tape c_words)) (hS : va_S A s.heap H locs) (hl : lv_has ls 4 [(0, .ref a_t), (1, .int l1), (2, .int l2)]) : W p l e r_X6_isStatement s m args below meth c H locs 0 0 (MQ below (qI E A (res.1) (W_X6_isStatement E a_t a_now a_tape a_words a_refused a_kept a_mind a_wCell a_wFaces a_wTurns a_wSign a_wBy a_wFell a_telling a_holds a_sizes a_elements a_moved a_above a_out a_first (res.2.1) (res.2.2) c_tape c_words)) args s 0 0 A) (F0 m 151 ls [.int s0, .ref a_t]) := by
  obtain ⟨hx, hb, hml, hr, hlk, hown, hts, hG, hA⟩ := id X
  have hK := hG.1
  have hN := hG.2.1
  unfold f_X6_isStatement_b151 at h
  refine lv_iload_n hx hb dX6_isStatement_151 rfl (lv_at hl 1 rfl) ?_
  refine lv_if_ne (tgt := 160) hx hb dX6_isStatement_152 (by decide) (fun hc152 => ?_) (fun hc152 => ?_)
  · have h := if_f h hc152
    refine lv_iload_n hx hb dX6_isStatement_160 rfl (lv_at hl 1 rfl) ?_
    refine lv_bipush (v := (7 : Int32)) hx hb dX6_isStatement_161 (by decide) ?_
    refine lv_icmp_ne (tgt := 171) hx hb dX6_isStatement_163 (by decide) (fun hc163 => ?_) (fun hc163 => ?_)
    · have h := if_f h hc163
      refine lv_iconst (v := (1 : Int32)) hx hb dX6_isStatement_171 (by decide) ?_
      exact w_X6_isStatement_b172 X a_t a_now a_tape a_words a_refused a_kept a_mind a_wCell a_wFaces a_wTurns a_wSign a_wBy a_wFell a_telling a_holds a_sizes a_elements a_moved a_above a_out a_first c_tape c_words res c_t c_now l2 (1 : Int32) s0 _ _ _ h hP hD hS (lv_sub hl [0, 2] rfl)
    · have h := if_t h hc163
      refine lv_bipush (v := (12 : Int32)) hx hb dX6_isStatement_166 (by decide) ?_
      refine lv_goto (tgt := 172) hx hb dX6_isStatement_168 (by decide) ?_
      exact w_X6_isStatement_b172 X a_t a_now a_tape a_words a_refused a_kept a_mind a_wCell a_wFaces a_wTurns a_wSign a_wBy a_wFell a_telling a_holds a_sizes a_elements a_moved a_above a_out a_first c_tape c_words res c_t c_now l2 (12 : Int32) s0 _ _ _ h hP hD hS (lv_sub hl [0, 2] rfl)
  · have h := if_t h hc152
    refine lv_bipush (v := (7 : Int32)) hx hb dX6_isStatement_155 (by decide) ?_
    refine lv_goto (tgt := 172) hx hb dX6_isStatement_157 (by decide) ?_
    exact w_X6_isStatement_b172 X a_t a_now a_tape a_words a_refused a_kept a_mind a_wCell a_wFaces a_wTurns a_wSign a_wBy a_wFell a_telling a_holds a_sizes a_elements a_moved a_above a_out a_first c_tape c_words res c_t c_now l2 (7 : Int32) s0 _ _ _ h hP hD hS (lv_sub hl [0, 2] rfl)
set_option maxRecDepth 100000 in
set_option maxHeartbeats 4000000 in
theorem w_X6_isStatement_b135 (X : Ctx p m meth c cX6_isStatement 4 ((some .boolean)) s args wsX6_isStatement RX6 E A) (a_t : Nat) (a_now : Nat) (a_tape : Nat) (a_words : Nat) (a_refused : Nat) (a_kept : Nat) (a_mind : Nat) (a_wCell : Nat) (a_wFaces : Nat) (a_wTurns : Nat) (a_wSign : Nat) (a_wBy : Nat) (a_wFell : Nat) (a_telling : Nat) (a_holds : Nat) (a_sizes : Nat) (a_elements : Nat) (a_moved : Nat) (a_above : Nat) (a_out : Nat) (a_first : Nat) (c_tape : Nat → Int32) (c_words : Nat → Int32) (res : Int32 × (Nat → Int32) × (Nat → Int32)) (c_t : Nat → Int32) (c_now : Nat → Int32) (l1 : Int32) (l2 : Int32) (ls : Array Slot) (H : Heap) (locs : List Loc) (h : f_X6_isStatement_b135 c_tape c_words c_t c_now l1 l2 = some res) (hP : va_P E.1 vwCl (W_X6_isStatement E a_t a_now a_tape a_words a_refused a_kept a_mind a_wCell a_wFaces a_wTurns a_wSign a_wBy a_wFell a_telling a_holds a_sizes a_elements a_moved a_above a_out a_first c_t c_now c_tape c_words) H) (hD : va_D A (W_X6_isStatement E a_t a_now a_tape a_words a_refused a_kept a_mind a_wCell a_wFaces a_wTurns a_wSign a_wBy a_wFell a_telling a_holds a_sizes a_elements a_moved a_above a_out a_first c_t c_now c_tape c_words)) (hS : va_S A s.heap H locs) (hl : lv_has ls 4 [(0, .ref a_t), (1, .int l1), (2, .int l2)]) : W p l e r_X6_isStatement s m args below meth c H locs 0 0 (MQ below (qI E A (res.1) (W_X6_isStatement E a_t a_now a_tape a_words a_refused a_kept a_mind a_wCell a_wFaces a_wTurns a_wSign a_wBy a_wFell a_telling a_holds a_sizes a_elements a_moved a_above a_out a_first (res.2.1) (res.2.2) c_tape c_words)) args s 0 0 A) (F0 m 135 ls []) := by
  obtain ⟨hx, hb, hml, hr, hlk, hown, hts, hG, hA⟩ := id X
  have hK := hG.1
  have hN := hG.2.1
  unfold f_X6_isStatement_b135 at h
  refine lv_aload_n hx hb dX6_isStatement_135 rfl (lv_at hl 0 rfl) ?_
  refine lv_iload_n hx hb dX6_isStatement_136 rfl (lv_at hl 1 rfl) ?_
  refine lv_if_ne (tgt := 150) hx hb dX6_isStatement_137 (by decide) (fun hc137 => ?_) (fun hc137 => ?_)
  · have h := if_f h hc137
    refine lv_iconst (v := (0 : Int32)) hx hb dX6_isStatement_150 (by decide) ?_
    exact w_X6_isStatement_b151 X a_t a_now a_tape a_words a_refused a_kept a_mind a_wCell a_wFaces a_wTurns a_wSign a_wBy a_wFell a_telling a_holds a_sizes a_elements a_moved a_above a_out a_first c_tape c_words res c_t c_now l1 l2 (0 : Int32) _ _ _ h hP hD hS (lv_sub hl [0, 1, 2] rfl)
  · have h := if_t h hc137
    refine lv_aload_n hx hb dX6_isStatement_140 rfl (lv_at hl 0 rfl) ?_
    refine va_get (D := E.1) (ci := 6) (v := .ref a_now) (C := RX6) (T := TX6) (N := 26) hx hb hts iX6_isStatement_X6 hown hK hP 0 rfl rfl 1 (by decide) (hts (.fieldLink RX6 17 "LeftIsAgreedOnModel" "now" "[I") (List.mem_of_getElem? (i := 1) rfl)) (fun _ h9 => h9) rfl dX6_isStatement_141 ?_
    refine lv_bipush (v := (90 : Int32)) hx hb dX6_isStatement_144 (by decide) ?_
    refine ld_i X hP 1 rfl (inb.vp (by decide)) (v := (c_now 90)) rfl dX6_isStatement_146 ?_
    refine lv_goto (tgt := 151) hx hb dX6_isStatement_147 (by decide) ?_
    exact w_X6_isStatement_b151 X a_t a_now a_tape a_words a_refused a_kept a_mind a_wCell a_wFaces a_wTurns a_wSign a_wBy a_wFell a_telling a_holds a_sizes a_elements a_moved a_above a_out a_first c_tape c_words res c_t c_now l1 l2 (c_now 90) _ _ _ h hP hD hS (lv_sub hl [0, 1, 2] rfl)
set_option maxRecDepth 100000 in
set_option maxHeartbeats 4000000 in
theorem w_X6_isStatement_b104 (X : Ctx p m meth c cX6_isStatement 4 ((some .boolean)) s args wsX6_isStatement RX6 E A) (a_t : Nat) (a_now : Nat) (a_tape : Nat) (a_words : Nat) (a_refused : Nat) (a_kept : Nat) (a_mind : Nat) (a_wCell : Nat) (a_wFaces : Nat) (a_wTurns : Nat) (a_wSign : Nat) (a_wBy : Nat) (a_wFell : Nat) (a_telling : Nat) (a_holds : Nat) (a_sizes : Nat) (a_elements : Nat) (a_moved : Nat) (a_above : Nat) (a_out : Nat) (a_first : Nat) (c_tape : Nat → Int32) (c_words : Nat → Int32) (res : Int32 × (Nat → Int32) × (Nat → Int32)) (c_t : Nat → Int32) (c_now : Nat → Int32) (l1 : Int32) (s0 : Int32) (ls : Array Slot) (H : Heap) (locs : List Loc) (h : f_X6_isStatement_b104 c_tape c_words c_t c_now l1 s0 = some res) (hP : va_P E.1 vwCl (W_X6_isStatement E a_t a_now a_tape a_words a_refused a_kept a_mind a_wCell a_wFaces a_wTurns a_wSign a_wBy a_wFell a_telling a_holds a_sizes a_elements a_moved a_above a_out a_first c_t c_now c_tape c_words) H) (hD : va_D A (W_X6_isStatement E a_t a_now a_tape a_words a_refused a_kept a_mind a_wCell a_wFaces a_wTurns a_wSign a_wBy a_wFell a_telling a_holds a_sizes a_elements a_moved a_above a_out a_first c_t c_now c_tape c_words)) (hS : va_S A s.heap H locs) (hl : lv_has ls 4 [(0, .ref a_t), (1, .int l1)]) : W p l e r_X6_isStatement s m args below meth c H locs 0 0 (MQ below (qI E A (res.1) (W_X6_isStatement E a_t a_now a_tape a_words a_refused a_kept a_mind a_wCell a_wFaces a_wTurns a_wSign a_wBy a_wFell a_telling a_holds a_sizes a_elements a_moved a_above a_out a_first (res.2.1) (res.2.2) c_tape c_words)) args s 0 0 A) (F0 m 104 ls [.int s0]) := by
  obtain ⟨hx, hb, hml, hr, hlk, hown, hts, hG, hA⟩ := id X
  have hK := hG.1
  have hN := hG.2.1
  unfold f_X6_isStatement_b104 at h
  refine lv_istore_n (lv' := [(2, .int s0), (0, .ref a_t), (1, .int l1)]) hx hb dX6_isStatement_104 rfl hl (by decide) rfl (fun ls hl => ?_)
  refine lv_iload_n hx hb dX6_isStatement_105 rfl (lv_at hl 2 rfl) ?_
  refine lv_iconst (v := (4 : Int32)) hx hb dX6_isStatement_106 (by decide) ?_
  refine lv_icmp_ne (tgt := 135) hx hb dX6_isStatement_107 (by decide) (fun hc107 => ?_) (fun hc107 => ?_)
  · have h := if_f h hc107
    exact w_X6_isStatement_b135 X a_t a_now a_tape a_words a_refused a_kept a_mind a_wCell a_wFaces a_wTurns a_wSign a_wBy a_wFell a_telling a_holds a_sizes a_elements a_moved a_above a_out a_first c_tape c_words res c_t c_now l1 s0 _ _ _ h hP hD hS (lv_sub hl [1, 2, 0] rfl)
  · have h := if_t h hc107
    refine lv_aload_n hx hb dX6_isStatement_110 rfl (lv_at hl 1 rfl) ?_
    refine lv_iconst (v := (0 : Int32)) hx hb dX6_isStatement_111 (by decide) ?_
    refine lv_aload_n hx hb dX6_isStatement_112 rfl (lv_at hl 1 rfl) ?_
    obtain ⟨v1, hv1, h⟩ := bind_of h
    refine after_i X (run_V X (c_X6_many l E a_t a_now a_refused a_kept a_mind a_tape a_words a_wCell a_wFaces a_wTurns a_wSign a_wBy a_wFell a_telling a_holds a_sizes a_elements a_moved a_above a_out a_first c_t c_now H.size v1 hv1) (cwV 0 hts gX6_isStatement_X6_many rfl rfl rfl hV_X6_many ⟨(Nat.le_of_ble_eq_true rfl), (Nat.le_of_ble_eq_true rfl)⟩) hP hD hS [0, 1] rfl rfl hl.1 (ci := 6) rfl rfl rfl (rest := [.int (0 : Int32), .ref a_t]) rfl rfl (Nat.le_of_ble_eq_true rfl) dX6_isStatement_113) hP hD hS [0, 1] rfl (ws1 := (W_X6_isStatement E a_t a_now a_tape a_words a_refused a_kept a_mind a_wCell a_wFaces a_wTurns a_wSign a_wBy a_wFell a_telling a_holds a_sizes a_elements a_moved a_above a_out a_first c_t c_now c_tape c_words)) rfl (fun H locs hP hD hS => ?_)
    refine lv_iconst (v := (1 : Int32)) hx hb dX6_isStatement_116 (by decide) ?_
    refine lv_isub hx hb dX6_isStatement_117 ?_
    obtain ⟨v2, hv2, h⟩ := bind_of h
    refine after_i X (run_V X (c_X6_number l E a_t a_tape a_refused a_now a_kept a_mind a_words a_wCell a_wFaces a_wTurns a_wSign a_wBy a_wFell a_telling a_holds a_sizes a_elements a_moved a_above a_out a_first (0 : Int32) (v1 - (1 : Int32)) c_t c_tape H.size v2 hv2) (cwV 2 hts gX6_isStatement_X6_number rfl rfl rfl hV_X6_number ⟨(Nat.le_of_ble_eq_true rfl), (Nat.le_of_ble_eq_true rfl)⟩) hP hD hS [0, 2] rfl rfl hl.1 (ci := 6) rfl rfl rfl (rest := []) rfl rfl (Nat.le_of_ble_eq_true rfl) dX6_isStatement_118) hP hD hS [0, 2] rfl (ws1 := (W_X6_isStatement E a_t a_now a_tape a_words a_refused a_kept a_mind a_wCell a_wFaces a_wTurns a_wSign a_wBy a_wFell a_telling a_holds a_sizes a_elements a_moved a_above a_out a_first (v2.2) c_now c_tape c_words)) rfl (fun H locs hP hD hS => ?_)
    refine lv_istore_n (lv' := [(3, .int (v2.1)), (2, .int s0), (0, .ref a_t), (1, .int l1)]) hx hb dX6_isStatement_121 rfl hl (by decide) rfl (fun ls hl => ?_)
    refine lv_iload_n hx hb dX6_isStatement_122 rfl (lv_at hl 0 rfl) ?_
    refine lv_iconst (v := (-1 : Int32)) hx hb dX6_isStatement_123 (by decide) ?_
    refine lv_icmp_ne (tgt := 129) hx hb dX6_isStatement_124 (by decide) (fun hc124 => ?_) (fun hc124 => ?_)
    · have h := if_f h hc124
      refine lv_iconst (v := (5 : Int32)) hx hb dX6_isStatement_129 (by decide) ?_
      refine lv_iload_n hx hb dX6_isStatement_130 rfl (lv_at hl 0 rfl) ?_
      refine lv_imul hx hb dX6_isStatement_131 ?_
      refine lv_iconst (v := (4 : Int32)) hx hb dX6_isStatement_132 (by decide) ?_
      refine lv_iadd hx hb dX6_isStatement_133 ?_
      refine lv_istore_n (lv' := [(2, .int (((5 : Int32) * (v2.1)) + (4 : Int32))), (3, .int (v2.1)), (0, .ref a_t), (1, .int l1)]) hx hb dX6_isStatement_134 rfl hl (by decide) rfl (fun ls hl => ?_)
      exact w_X6_isStatement_b135 X a_t a_now a_tape a_words a_refused a_kept a_mind a_wCell a_wFaces a_wTurns a_wSign a_wBy a_wFell a_telling a_holds a_sizes a_elements a_moved a_above a_out a_first c_tape c_words res (v2.2) c_now l1 (((5 : Int32) * (v2.1)) + (4 : Int32)) _ _ _ h hP hD hS (lv_sub hl [2, 3, 0] rfl)
    · have h := if_t h hc124
      refine lv_iconst (v := (0 : Int32)) hx hb dX6_isStatement_127 (by decide) ?_
      obtain rfl := Option.some.inj h
      exact ret_z X dX6_isStatement_128 (by decide) hP hD hS rfl
set_option maxRecDepth 100000 in
set_option maxHeartbeats 4000000 in
theorem w_X6_isStatement_b30 (X : Ctx p m meth c cX6_isStatement 4 ((some .boolean)) s args wsX6_isStatement RX6 E A) (a_t : Nat) (a_now : Nat) (a_tape : Nat) (a_words : Nat) (a_refused : Nat) (a_kept : Nat) (a_mind : Nat) (a_wCell : Nat) (a_wFaces : Nat) (a_wTurns : Nat) (a_wSign : Nat) (a_wBy : Nat) (a_wFell : Nat) (a_telling : Nat) (a_holds : Nat) (a_sizes : Nat) (a_elements : Nat) (a_moved : Nat) (a_above : Nat) (a_out : Nat) (a_first : Nat) (c_tape : Nat → Int32) (c_words : Nat → Int32) (res : Int32 × (Nat → Int32) × (Nat → Int32)) (c_t : Nat → Int32) (c_now : Nat → Int32) (l1 : Int32) (ls : Array Slot) (H : Heap) (locs : List Loc) (h : f_X6_isStatement_b30 c_tape c_words c_t c_now l1 = some res) (hP : va_P E.1 vwCl (W_X6_isStatement E a_t a_now a_tape a_words a_refused a_kept a_mind a_wCell a_wFaces a_wTurns a_wSign a_wBy a_wFell a_telling a_holds a_sizes a_elements a_moved a_above a_out a_first c_t c_now c_tape c_words) H) (hD : va_D A (W_X6_isStatement E a_t a_now a_tape a_words a_refused a_kept a_mind a_wCell a_wFaces a_wTurns a_wSign a_wBy a_wFell a_telling a_holds a_sizes a_elements a_moved a_above a_out a_first c_t c_now c_tape c_words)) (hS : va_S A s.heap H locs) (hl : lv_has ls 4 [(0, .ref a_t), (1, .int l1)]) : W p l e r_X6_isStatement s m args below meth c H locs 0 0 (MQ below (qI E A (res.1) (W_X6_isStatement E a_t a_now a_tape a_words a_refused a_kept a_mind a_wCell a_wFaces a_wTurns a_wSign a_wBy a_wFell a_telling a_holds a_sizes a_elements a_moved a_above a_out a_first (res.2.1) (res.2.2) c_tape c_words)) args s 0 0 A) (F0 m 30 ls []) := by
  obtain ⟨hx, hb, hml, hr, hlk, hown, hts, hG, hA⟩ := id X
  have hK := hG.1
  have hN := hG.2.1
  unfold f_X6_isStatement_b30 at h
  refine lv_iload_n hx hb dX6_isStatement_30 rfl (lv_at hl 1 rfl) ?_
  refine lv_iconst (v := (3 : Int32)) hx hb dX6_isStatement_31 (by decide) ?_
  refine lv_icmp_ne (tgt := 40) hx hb dX6_isStatement_32 (by decide) (fun hc32 => ?_) (fun hc32 => ?_)
  · have h := if_f h hc32
    refine lv_iload_n hx hb dX6_isStatement_40 rfl (lv_at hl 1 rfl) ?_
    refine lv_iconst (v := (1 : Int32)) hx hb dX6_isStatement_41 (by decide) ?_
    refine lv_icmp_eq (tgt := 50) hx hb dX6_isStatement_42 (by decide) (fun hc42 => ?_) (fun hc42 => ?_)
    · have h := if_t h hc42
      exact w_X6_isStatement_b50 X a_t a_now a_tape a_words a_refused a_kept a_mind a_wCell a_wFaces a_wTurns a_wSign a_wBy a_wFell a_telling a_holds a_sizes a_elements a_moved a_above a_out a_first c_tape c_words res c_t c_now l1 _ _ _ h hP hD hS (lv_sub hl [0, 1] rfl)
    · have h := if_f h hc42
      refine lv_iload_n hx hb dX6_isStatement_45 rfl (lv_at hl 1 rfl) ?_
      refine lv_iconst (v := (2 : Int32)) hx hb dX6_isStatement_46 (by decide) ?_
      refine lv_icmp_ne (tgt := 89) hx hb dX6_isStatement_47 (by decide) (fun hc47 => ?_) (fun hc47 => ?_)
      · have h := if_f h hc47
        refine lv_iload_n hx hb dX6_isStatement_89 rfl (lv_at hl 1 rfl) ?_
        refine lv_if_ne (tgt := 98) hx hb dX6_isStatement_90 (by decide) (fun hc90 => ?_) (fun hc90 => ?_)
        · have h := if_f h hc90
          refine lv_bipush (v := (91 : Int32)) hx hb dX6_isStatement_98 (by decide) ?_
          refine lv_iload_n hx hb dX6_isStatement_100 rfl (lv_at hl 1 rfl) ?_
          refine lv_iadd hx hb dX6_isStatement_101 ?_
          refine lv_iconst (v := (5 : Int32)) hx hb dX6_isStatement_102 (by decide) ?_
          refine lv_isub hx hb dX6_isStatement_103 ?_
          exact w_X6_isStatement_b104 X a_t a_now a_tape a_words a_refused a_kept a_mind a_wCell a_wFaces a_wTurns a_wSign a_wBy a_wFell a_telling a_holds a_sizes a_elements a_moved a_above a_out a_first c_tape c_words res c_t c_now l1 (((91 : Int32) + l1) - (5 : Int32)) _ _ _ h hP hD hS (lv_sub hl [0, 1] rfl)
        · have h := if_t h hc90
          refine lv_bipush (v := (90 : Int32)) hx hb dX6_isStatement_93 (by decide) ?_
          refine lv_goto (tgt := 104) hx hb dX6_isStatement_95 (by decide) ?_
          exact w_X6_isStatement_b104 X a_t a_now a_tape a_words a_refused a_kept a_mind a_wCell a_wFaces a_wTurns a_wSign a_wBy a_wFell a_telling a_holds a_sizes a_elements a_moved a_above a_out a_first c_tape c_words res c_t c_now l1 (90 : Int32) _ _ _ h hP hD hS (lv_sub hl [0, 1] rfl)
      · have h := if_t h hc47
        exact w_X6_isStatement_b50 X a_t a_now a_tape a_words a_refused a_kept a_mind a_wCell a_wFaces a_wTurns a_wSign a_wBy a_wFell a_telling a_holds a_sizes a_elements a_moved a_above a_out a_first c_tape c_words res c_t c_now l1 _ _ _ h hP hD hS (lv_sub hl [0, 1] rfl)
  · have h := if_t h hc32
    refine lv_aload_n hx hb dX6_isStatement_35 rfl (lv_at hl 0 rfl) ?_
    obtain ⟨v1, hv1, h⟩ := bind_of h
    refine after_i X (run_V X (c_X6_isPersonStatement l E a_t a_now a_tape a_refused a_kept a_mind a_words a_wCell a_wFaces a_wTurns a_wSign a_wBy a_wFell a_telling a_holds a_sizes a_elements a_moved a_above a_out a_first c_t c_now c_tape H.size v1 hv1) (cwV 0 hts gX6_isStatement_X6_isPersonStatement rfl rfl rfl hV_X6_isPersonStatement ⟨(Nat.le_of_ble_eq_true rfl), (Nat.le_of_ble_eq_true rfl)⟩) hP hD hS [0, 1, 2] rfl rfl hl.1 (ci := 6) rfl rfl rfl (rest := []) rfl rfl (Nat.le_of_ble_eq_true rfl) dX6_isStatement_36) hP hD hS [0, 1, 2] rfl (ws1 := (W_X6_isStatement E a_t a_now a_tape a_words a_refused a_kept a_mind a_wCell a_wFaces a_wTurns a_wSign a_wBy a_wFell a_telling a_holds a_sizes a_elements a_moved a_above a_out a_first (v1.2.1) (v1.2.2) c_tape c_words)) rfl (fun H locs hP hD hS => ?_)
    obtain ⟨hz39, h⟩ := chk_of h
    obtain rfl := Option.some.inj h
    exact ret_z X dX6_isStatement_39 hz39 hP hD hS rfl
set_option maxRecDepth 100000 in
set_option maxHeartbeats 4000000 in
theorem w_X6_isStatement (X : Ctx p m meth c cX6_isStatement 4 ((some .boolean)) s args wsX6_isStatement RX6 E A) (a_t : Nat) (a_now : Nat) (a_tape : Nat) (a_words : Nat) (a_refused : Nat) (a_kept : Nat) (a_mind : Nat) (a_wCell : Nat) (a_wFaces : Nat) (a_wTurns : Nat) (a_wSign : Nat) (a_wBy : Nat) (a_wFell : Nat) (a_telling : Nat) (a_holds : Nat) (a_sizes : Nat) (a_elements : Nat) (a_moved : Nat) (a_above : Nat) (a_out : Nat) (a_first : Nat) (c_tape : Nat → Int32) (c_words : Nat → Int32) (res : Int32 × (Nat → Int32) × (Nat → Int32)) (c_t : Nat → Int32) (c_now : Nat → Int32) (ls : Array Slot) (H : Heap) (locs : List Loc) (h : f_X6_isStatement c_t c_now c_tape c_words = some res) (hP : va_P E.1 vwCl (W_X6_isStatement E a_t a_now a_tape a_words a_refused a_kept a_mind a_wCell a_wFaces a_wTurns a_wSign a_wBy a_wFell a_telling a_holds a_sizes a_elements a_moved a_above a_out a_first c_t c_now c_tape c_words) H) (hD : va_D A (W_X6_isStatement E a_t a_now a_tape a_words a_refused a_kept a_mind a_wCell a_wFaces a_wTurns a_wSign a_wBy a_wFell a_telling a_holds a_sizes a_elements a_moved a_above a_out a_first c_t c_now c_tape c_words)) (hS : va_S A s.heap H locs) (hl : lv_has ls 4 [(0, .ref a_t)]) : W p l e r_X6_isStatement s m args below meth c H locs 0 0 (MQ below (qI E A (res.1) (W_X6_isStatement E a_t a_now a_tape a_words a_refused a_kept a_mind a_wCell a_wFaces a_wTurns a_wSign a_wBy a_wFell a_telling a_holds a_sizes a_elements a_moved a_above a_out a_first (res.2.1) (res.2.2) c_tape c_words)) args s 0 0 A) (F0 m 0 ls []) := by
  obtain ⟨hx, hb, hml, hr, hlk, hown, hts, hG, hA⟩ := id X
  have hK := hG.1
  have hN := hG.2.1
  unfold f_X6_isStatement at h
  refine lv_aload_n hx hb dX6_isStatement_0 rfl (lv_at hl 0 rfl) ?_
  obtain ⟨v1, hv1, h⟩ := bind_of h
  refine after_v X (run_V X (c_X6_next l E a_t a_tape a_refused a_now a_kept a_mind a_words a_wCell a_wFaces a_wTurns a_wSign a_wBy a_wFell a_telling a_holds a_sizes a_elements a_moved a_above a_out a_first c_t c_tape H.size v1 hv1) (cwV 0 hts gX6_isStatement_X6_next rfl rfl rfl hV_X6_next ⟨(Nat.le_of_ble_eq_true rfl), (Nat.le_of_ble_eq_true rfl)⟩) hP hD hS [0, 2] rfl rfl hl.1 (ci := 6) rfl rfl rfl (rest := []) rfl rfl (Nat.le_of_ble_eq_true rfl) dX6_isStatement_1) hP hD hS [0, 2] rfl (ws1 := (W_X6_isStatement E a_t a_now a_tape a_words a_refused a_kept a_mind a_wCell a_wFaces a_wTurns a_wSign a_wBy a_wFell a_telling a_holds a_sizes a_elements a_moved a_above a_out a_first v1 c_now c_tape c_words)) rfl (fun H locs hP hD hS => ?_)
  refine lv_aload_n hx hb dX6_isStatement_4 rfl (lv_at hl 0 rfl) ?_
  obtain ⟨v2, hv2, h⟩ := bind_of h
  refine after_i X (run_V X (c_X6_word l E a_t a_tape a_words a_refused a_now a_kept a_mind a_wCell a_wFaces a_wTurns a_wSign a_wBy a_wFell a_telling a_holds a_sizes a_elements a_moved a_above a_out a_first v1 c_tape c_words H.size v2 hv2) (cwV 0 hts gX6_isStatement_X6_word rfl rfl rfl hV_X6_word ⟨(Nat.le_of_ble_eq_true rfl), (Nat.le_of_ble_eq_true rfl)⟩) hP hD hS [0, 2, 3] rfl rfl hl.1 (ci := 6) rfl rfl rfl (rest := []) rfl rfl (Nat.le_of_ble_eq_true rfl) dX6_isStatement_5) hP hD hS [0, 2, 3] rfl (ws1 := (W_X6_isStatement E a_t a_now a_tape a_words a_refused a_kept a_mind a_wCell a_wFaces a_wTurns a_wSign a_wBy a_wFell a_telling a_holds a_sizes a_elements a_moved a_above a_out a_first v1 c_now c_tape c_words)) rfl (fun H locs hP hD hS => ?_)
  refine lv_istore_n (lv' := [(1, .int v2), (0, .ref a_t)]) hx hb dX6_isStatement_8 rfl hl (by decide) rfl (fun ls hl => ?_)
  refine lv_iload_n hx hb dX6_isStatement_9 rfl (lv_at hl 0 rfl) ?_
  refine lv_iconst (v := (-1 : Int32)) hx hb dX6_isStatement_10 (by decide) ?_
  refine lv_icmp_eq (tgt := 28) hx hb dX6_isStatement_11 (by decide) (fun hc11 => ?_) (fun hc11 => ?_)
  · have h := if_t h hc11
    refine lv_iconst (v := (0 : Int32)) hx hb dX6_isStatement_28 (by decide) ?_
    obtain rfl := Option.some.inj h
    exact ret_z X dX6_isStatement_29 (by decide) hP hD hS rfl
  · have h := if_f h hc11
    refine lv_iload_n hx hb dX6_isStatement_14 rfl (lv_at hl 0 rfl) ?_
    refine lv_iconst (v := (3 : Int32)) hx hb dX6_isStatement_15 (by decide) ?_
    refine lv_icmp_ne (tgt := 30) hx hb dX6_isStatement_16 (by decide) (fun hc16 => ?_) (fun hc16 => ?_)
    · have h := if_f h hc16
      exact w_X6_isStatement_b30 X a_t a_now a_tape a_words a_refused a_kept a_mind a_wCell a_wFaces a_wTurns a_wSign a_wBy a_wFell a_telling a_holds a_sizes a_elements a_moved a_above a_out a_first c_tape c_words res v1 c_now v2 _ _ _ h hP hD hS (lv_sub hl [1, 0] rfl)
    · have h := if_t h hc16
      refine lv_aload_n hx hb dX6_isStatement_19 rfl (lv_at hl 1 rfl) ?_
      obtain ⟨v3, hv3, h⟩ := bind_of h
      refine after_i X (run_V X (c_X6_many l E a_t a_now a_refused a_kept a_mind a_tape a_words a_wCell a_wFaces a_wTurns a_wSign a_wBy a_wFell a_telling a_holds a_sizes a_elements a_moved a_above a_out a_first v1 c_now H.size v3 hv3) (cwV 0 hts gX6_isStatement_X6_many rfl rfl rfl hV_X6_many ⟨(Nat.le_of_ble_eq_true rfl), (Nat.le_of_ble_eq_true rfl)⟩) hP hD hS [0, 1] rfl rfl hl.1 (ci := 6) rfl rfl rfl (rest := []) rfl rfl (Nat.le_of_ble_eq_true rfl) dX6_isStatement_20) hP hD hS [0, 1] rfl (ws1 := (W_X6_isStatement E a_t a_now a_tape a_words a_refused a_kept a_mind a_wCell a_wFaces a_wTurns a_wSign a_wBy a_wFell a_telling a_holds a_sizes a_elements a_moved a_above a_out a_first v1 c_now c_tape c_words)) rfl (fun H locs hP hD hS => ?_)
      refine lv_bipush (v := (8 : Int32)) hx hb dX6_isStatement_23 (by decide) ?_
      refine lv_icmp_ne (tgt := 30) hx hb dX6_isStatement_25 (by decide) (fun hc25 => ?_) (fun hc25 => ?_)
      · have h := if_f h hc25
        exact w_X6_isStatement_b30 X a_t a_now a_tape a_words a_refused a_kept a_mind a_wCell a_wFaces a_wTurns a_wSign a_wBy a_wFell a_telling a_holds a_sizes a_elements a_moved a_above a_out a_first c_tape c_words res v1 c_now v2 _ _ _ h hP hD hS (lv_sub hl [1, 0] rfl)
      · have h := if_t h hc25
        refine lv_iconst (v := (0 : Int32)) hx hb dX6_isStatement_28 (by decide) ?_
        obtain rfl := Option.some.inj h
        exact ret_z X dX6_isStatement_29 (by decide) hP hD hS rfl
end
set_option maxRecDepth 100000 in
theorem c_X6_isStatement (l : Launch) (E : Env0) (a_t : Nat) (a_now : Nat) (a_tape : Nat) (a_words : Nat) (a_refused : Nat) (a_kept : Nat) (a_mind : Nat) (a_wCell : Nat) (a_wFaces : Nat) (a_wTurns : Nat) (a_wSign : Nat) (a_wBy : Nat) (a_wFell : Nat) (a_telling : Nat) (a_holds : Nat) (a_sizes : Nat) (a_elements : Nat) (a_moved : Nat) (a_above : Nat) (a_out : Nat) (a_first : Nat) (c_t : Nat → Int32) (c_now : Nat → Int32) (c_tape : Nat → Int32) (c_words : Nat → Int32) (sz : Nat) (res : Int32 × (Nat → Int32) × (Nat → Int32)) (h : f_X6_isStatement c_t c_now c_tape c_words = some res) : Met l yX6_isStatement wsX6_isStatement r_X6_isStatement (cPre E [.ref a_t] (W_X6_isStatement E a_t a_now a_tape a_words a_refused a_kept a_mind a_wCell a_wFaces a_wTurns a_wSign a_wBy a_wFell a_telling a_holds a_sizes a_elements a_moved a_above a_out a_first c_t c_now c_tape c_words) sz) (qI E (va_A (W_X6_isStatement E a_t a_now a_tape a_words a_refused a_kept a_mind a_wCell a_wFaces a_wTurns a_wSign a_wBy a_wFell a_telling a_holds a_sizes a_elements a_moved a_above a_out a_first c_t c_now c_tape c_words) sz) (res.1) (W_X6_isStatement E a_t a_now a_tape a_words a_refused a_kept a_mind a_wCell a_wFaces a_wTurns a_wSign a_wBy a_wFell a_telling a_holds a_sizes a_elements a_moved a_above a_out a_first (res.2.1) (res.2.2) c_tape c_words)) 0 0 (va_A (W_X6_isStatement E a_t a_now a_tape a_words a_refused a_kept a_mind a_wCell a_wFaces a_wTurns a_wSign a_wBy a_wFell a_telling a_holds a_sizes a_elements a_moved a_above a_out a_first c_t c_now c_tape c_words) sz) :=
  met_of (Qc := fun A => qI E A (res.1) (W_X6_isStatement E a_t a_now a_tape a_words a_refused a_kept a_mind a_wCell a_wFaces a_wTurns a_wSign a_wBy a_wFell a_telling a_holds a_sizes a_elements a_moved a_above a_out a_first (res.2.1) (res.2.2) c_tape c_words)) (by decide) rfl (Nat.le_of_ble_eq_true rfl) (fun p e s m args below meth c X hP hD hS ls hl => w_X6_isStatement X a_t a_now a_tape a_words a_refused a_kept a_mind a_wCell a_wFaces a_wTurns a_wSign a_wBy a_wFell a_telling a_holds a_sizes a_elements a_moved a_above a_out a_first c_tape c_words res c_t c_now ls _ _ h hP hD hS hl)
-- ===== X6_island
noncomputable abbrev W_X6_island (E : Env0) (a_t : Nat) (a_mind : Nat) (a_now : Nat) (a_refused : Nat) (a_tape : Nat) (a_words : Nat) (a_kept : Nat) (a_wCell : Nat) (a_wFaces : Nat) (a_wTurns : Nat) (a_wSign : Nat) (a_wBy : Nat) (a_wFell : Nat) (a_telling : Nat) (a_holds : Nat) (a_sizes : Nat) (a_elements : Nat) (a_moved : Nat) (a_above : Nat) (a_out : Nat) (a_first : Nat) (c_t : Nat → Int32) (c_mind : Nat → Int32) (c_now : Nat → Int32) (c_refused : Nat → Int32) (c_tape : Nat → Int32) (c_words : Nat → Int32) : va_W := [(a_t, .inr (6, [.ref a_refused, .ref a_now, .ref a_kept, .ref a_mind, .int (c_t 4), .ref a_tape, .int (c_t 6), .int (c_t 7), .int (c_t 8), .int (c_t 9), .ref a_words, .ref a_wCell, .ref a_wFaces, .ref a_wTurns, .ref a_wSign, .ref a_wBy, .ref a_wFell, .int (c_t 17), .ref a_telling, .ref a_holds, .ref a_sizes, .ref a_elements, .ref a_moved, .ref a_above, .ref a_out, .ref a_first])), (a_mind, .inl (eI E, 97, .inl c_mind)), (a_now, .inl (eI E, 97, .inl c_now)), (a_refused, .inl (eI E, 7, .inl c_refused)), (a_tape, .inl (eI E, 250, .inl c_tape)), (a_words, .inl (eC E, 48, .inl c_words))]
noncomputable abbrev r_X6_island : Room := { frames := 7, cells := 0, slots := 0, locals := 158 }
theorem hd_X6_island : yX6_island.cls ≠ "java/lang/invoke/MethodHandle" ∧ yX6_island.cls ≠ "java/lang/invoke/VarHandle" ∧ (parseMethodDescriptor yX6_island.desc).map (fun d => d.parameters.length) = some 0 := by decide +kernel
theorem hV_X6_island : yX6_island.cls = RX6 ∧ yX6_island.cls ≠ "java/lang/invoke/MethodHandle" ∧ yX6_island.cls ≠ "java/lang/invoke/VarHandle" ∧ (parseMethodDescriptor yX6_island.desc).map (fun d => d.parameters.length) = some 0 := ⟨rfl, hd_X6_island⟩
theorem iX6_island_X6 : ∀ w ∈ wsX60, w ∈ wsX6_island := fun _ h => List.mem_cons_of_mem _ (List.mem_append_right _ (h))
section
variable {p : Program} {l : Launch} {e : Env} {s : State} {m : MethodId} {args : Array Value} {below : List Frame} {meth : Method} {c : Code} {E : Env0} {A : Nat → Prop}
set_option maxRecDepth 100000 in
set_option maxHeartbeats 4000000 in
theorem w_X6_island_b68 (X : Ctx p m meth c cX6_island 3 ((some .int)) s args wsX6_island RX6 E A) (a_t : Nat) (a_mind : Nat) (a_now : Nat) (a_refused : Nat) (a_tape : Nat) (a_words : Nat) (a_kept : Nat) (a_wCell : Nat) (a_wFaces : Nat) (a_wTurns : Nat) (a_wSign : Nat) (a_wBy : Nat) (a_wFell : Nat) (a_telling : Nat) (a_holds : Nat) (a_sizes : Nat) (a_elements : Nat) (a_moved : Nat) (a_above : Nat) (a_out : Nat) (a_first : Nat) (c_tape : Nat → Int32) (c_words : Nat → Int32) (res : Int32 × (Nat → Int32) × (Nat → Int32) × (Nat → Int32) × (Nat → Int32)) (k23 : (Nat → Int32) → (Nat → Int32) → (Nat → Int32) → (Nat → Int32) → Int32 → Int32 → Option (Int32 × (Nat → Int32) × (Nat → Int32) × (Nat → Int32) × (Nat → Int32))) (hk23 : ∀ (c_t : Nat → Int32) (c_mind : Nat → Int32) (c_now : Nat → Int32) (c_refused : Nat → Int32) (l1 : Int32) (l2 : Int32) (ls : Array Slot) (H : Heap) (locs : List Loc), k23 c_t c_mind c_now c_refused l1 l2 = some res → va_P E.1 vwCl (W_X6_island E a_t a_mind a_now a_refused a_tape a_words a_kept a_wCell a_wFaces a_wTurns a_wSign a_wBy a_wFell a_telling a_holds a_sizes a_elements a_moved a_above a_out a_first c_t c_mind c_now c_refused c_tape c_words) H → va_D A (W_X6_island E a_t a_mind a_now a_refused a_tape a_words a_kept a_wCell a_wFaces a_wTurns a_wSign a_wBy a_wFell a_telling a_holds a_sizes a_elements a_moved a_above a_out a_first c_t c_mind c_now c_refused c_tape c_words) → va_S A s.heap H locs → lv_has ls 3 [(0, .ref a_t), (1, .int l1), (2, .int l2)] → W p l e r_X6_island s m args below meth c H locs 0 0 (MQ below (qI E A (res.1) (W_X6_island E a_t a_mind a_now a_refused a_tape a_words a_kept a_wCell a_wFaces a_wTurns a_wSign a_wBy a_wFell a_telling a_holds a_sizes a_elements a_moved a_above a_out a_first (res.2.1) (res.2.2.1) (res.2.2.2.1) (res.2.2.2.2) c_tape c_words)) args s 0 0 A) (F0 m 23 ls [])) (c_t : Nat → Int32) (c_mind : Nat → Int32) (c_now : Nat → Int32) (c_refused : Nat → Int32) (l1 : Int32) (s0 : Int32) (ls : Array Slot) (H : Heap) (locs : List Loc) (h : f_X6_island_b68 c_tape c_words k23 c_t c_mind c_now c_refused l1 s0 = some res) (hP : va_P E.1 vwCl (W_X6_island E a_t a_mind a_now a_refused a_tape a_words a_kept a_wCell a_wFaces a_wTurns a_wSign a_wBy a_wFell a_telling a_holds a_sizes a_elements a_moved a_above a_out a_first c_t c_mind c_now c_refused c_tape c_words) H) (hD : va_D A (W_X6_island E a_t a_mind a_now a_refused a_tape a_words a_kept a_wCell a_wFaces a_wTurns a_wSign a_wBy a_wFell a_telling a_holds a_sizes a_elements a_moved a_above a_out a_first c_t c_mind c_now c_refused c_tape c_words)) (hS : va_S A s.heap H locs) (hl : lv_has ls 3 [(0, .ref a_t), (1, .int l1)]) : W p l e r_X6_island s m args below meth c H locs 0 0 (MQ below (qI E A (res.1) (W_X6_island E a_t a_mind a_now a_refused a_tape a_words a_kept a_wCell a_wFaces a_wTurns a_wSign a_wBy a_wFell a_telling a_holds a_sizes a_elements a_moved a_above a_out a_first (res.2.1) (res.2.2.1) (res.2.2.2.1) (res.2.2.2.2) c_tape c_words)) args s 0 0 A) (F0 m 68 ls [.int s0]) := by
  obtain ⟨hx, hb, hml, hr, hlk, hown, hts, hG, hA⟩ := id X
  have hK := hG.1
  have hN := hG.2.1
  unfold f_X6_island_b68 at h
  refine lv_istore_n (lv' := [(2, .int s0), (0, .ref a_t), (1, .int l1)]) hx hb dX6_island_68 rfl hl (by decide) rfl (fun ls hl => ?_)
  refine lv_goto (tgt := 23) hx hb dX6_island_69 (by decide) ?_
  exact hk23 c_t c_mind c_now c_refused l1 s0 _ _ _ h hP hD hS (lv_sub hl [1, 2, 0] rfl)
set_option maxRecDepth 100000 in
set_option maxHeartbeats 4000000 in
theorem w_X6_island_b67 (X : Ctx p m meth c cX6_island 3 ((some .int)) s args wsX6_island RX6 E A) (a_t : Nat) (a_mind : Nat) (a_now : Nat) (a_refused : Nat) (a_tape : Nat) (a_words : Nat) (a_kept : Nat) (a_wCell : Nat) (a_wFaces : Nat) (a_wTurns : Nat) (a_wSign : Nat) (a_wBy : Nat) (a_wFell : Nat) (a_telling : Nat) (a_holds : Nat) (a_sizes : Nat) (a_elements : Nat) (a_moved : Nat) (a_above : Nat) (a_out : Nat) (a_first : Nat) (c_tape : Nat → Int32) (c_words : Nat → Int32) (res : Int32 × (Nat → Int32) × (Nat → Int32) × (Nat → Int32) × (Nat → Int32)) (k23 : (Nat → Int32) → (Nat → Int32) → (Nat → Int32) → (Nat → Int32) → Int32 → Int32 → Option (Int32 × (Nat → Int32) × (Nat → Int32) × (Nat → Int32) × (Nat → Int32))) (hk23 : ∀ (c_t : Nat → Int32) (c_mind : Nat → Int32) (c_now : Nat → Int32) (c_refused : Nat → Int32) (l1 : Int32) (l2 : Int32) (ls : Array Slot) (H : Heap) (locs : List Loc), k23 c_t c_mind c_now c_refused l1 l2 = some res → va_P E.1 vwCl (W_X6_island E a_t a_mind a_now a_refused a_tape a_words a_kept a_wCell a_wFaces a_wTurns a_wSign a_wBy a_wFell a_telling a_holds a_sizes a_elements a_moved a_above a_out a_first c_t c_mind c_now c_refused c_tape c_words) H → va_D A (W_X6_island E a_t a_mind a_now a_refused a_tape a_words a_kept a_wCell a_wFaces a_wTurns a_wSign a_wBy a_wFell a_telling a_holds a_sizes a_elements a_moved a_above a_out a_first c_t c_mind c_now c_refused c_tape c_words) → va_S A s.heap H locs → lv_has ls 3 [(0, .ref a_t), (1, .int l1), (2, .int l2)] → W p l e r_X6_island s m args below meth c H locs 0 0 (MQ below (qI E A (res.1) (W_X6_island E a_t a_mind a_now a_refused a_tape a_words a_kept a_wCell a_wFaces a_wTurns a_wSign a_wBy a_wFell a_telling a_holds a_sizes a_elements a_moved a_above a_out a_first (res.2.1) (res.2.2.1) (res.2.2.2.1) (res.2.2.2.2) c_tape c_words)) args s 0 0 A) (F0 m 23 ls [])) (c_t : Nat → Int32) (c_mind : Nat → Int32) (c_now : Nat → Int32) (c_refused : Nat → Int32) (l1 : Int32) (ls : Array Slot) (H : Heap) (locs : List Loc) (h : f_X6_island_b67 c_tape c_words k23 c_t c_mind c_now c_refused l1 = some res) (hP : va_P E.1 vwCl (W_X6_island E a_t a_mind a_now a_refused a_tape a_words a_kept a_wCell a_wFaces a_wTurns a_wSign a_wBy a_wFell a_telling a_holds a_sizes a_elements a_moved a_above a_out a_first c_t c_mind c_now c_refused c_tape c_words) H) (hD : va_D A (W_X6_island E a_t a_mind a_now a_refused a_tape a_words a_kept a_wCell a_wFaces a_wTurns a_wSign a_wBy a_wFell a_telling a_holds a_sizes a_elements a_moved a_above a_out a_first c_t c_mind c_now c_refused c_tape c_words)) (hS : va_S A s.heap H locs) (hl : lv_has ls 3 [(0, .ref a_t), (1, .int l1)]) : W p l e r_X6_island s m args below meth c H locs 0 0 (MQ below (qI E A (res.1) (W_X6_island E a_t a_mind a_now a_refused a_tape a_words a_kept a_wCell a_wFaces a_wTurns a_wSign a_wBy a_wFell a_telling a_holds a_sizes a_elements a_moved a_above a_out a_first (res.2.1) (res.2.2.1) (res.2.2.2.1) (res.2.2.2.2) c_tape c_words)) args s 0 0 A) (F0 m 67 ls []) := by
  obtain ⟨hx, hb, hml, hr, hlk, hown, hts, hG, hA⟩ := id X
  have hK := hG.1
  have hN := hG.2.1
  unfold f_X6_island_b67 at h
  refine lv_iconst (v := (0 : Int32)) hx hb dX6_island_67 (by decide) ?_
  exact w_X6_island_b68 X a_t a_mind a_now a_refused a_tape a_words a_kept a_wCell a_wFaces a_wTurns a_wSign a_wBy a_wFell a_telling a_holds a_sizes a_elements a_moved a_above a_out a_first c_tape c_words res k23 hk23 c_t c_mind c_now c_refused l1 (0 : Int32) _ _ _ h hP hD hS (lv_sub hl [0, 1] rfl)
set_option maxRecDepth 100000 in
set_option maxHeartbeats 4000000 in
theorem w_X6_island_b23 (X : Ctx p m meth c cX6_island 3 ((some .int)) s args wsX6_island RX6 E A) (a_t : Nat) (a_mind : Nat) (a_now : Nat) (a_refused : Nat) (a_tape : Nat) (a_words : Nat) (a_kept : Nat) (a_wCell : Nat) (a_wFaces : Nat) (a_wTurns : Nat) (a_wSign : Nat) (a_wBy : Nat) (a_wFell : Nat) (a_telling : Nat) (a_holds : Nat) (a_sizes : Nat) (a_elements : Nat) (a_moved : Nat) (a_above : Nat) (a_out : Nat) (a_first : Nat) (c_tape : Nat → Int32) (c_words : Nat → Int32) (res : Int32 × (Nat → Int32) × (Nat → Int32) × (Nat → Int32) × (Nat → Int32)) : ∀ (n : Nat) (c_t : Nat → Int32) (c_mind : Nat → Int32) (c_now : Nat → Int32) (c_refused : Nat → Int32) (l1 : Int32) (l2 : Int32) (ls : Array Slot) (H : Heap) (locs : List Loc), f_X6_island_b23 c_tape c_words n c_t c_mind c_now c_refused l1 l2 = some res → va_P E.1 vwCl (W_X6_island E a_t a_mind a_now a_refused a_tape a_words a_kept a_wCell a_wFaces a_wTurns a_wSign a_wBy a_wFell a_telling a_holds a_sizes a_elements a_moved a_above a_out a_first c_t c_mind c_now c_refused c_tape c_words) H → va_D A (W_X6_island E a_t a_mind a_now a_refused a_tape a_words a_kept a_wCell a_wFaces a_wTurns a_wSign a_wBy a_wFell a_telling a_holds a_sizes a_elements a_moved a_above a_out a_first c_t c_mind c_now c_refused c_tape c_words) → va_S A s.heap H locs → lv_has ls 3 [(0, .ref a_t), (1, .int l1), (2, .int l2)] → W p l e r_X6_island s m args below meth c H locs 0 0 (MQ below (qI E A (res.1) (W_X6_island E a_t a_mind a_now a_refused a_tape a_words a_kept a_wCell a_wFaces a_wTurns a_wSign a_wBy a_wFell a_telling a_holds a_sizes a_elements a_moved a_above a_out a_first (res.2.1) (res.2.2.1) (res.2.2.2.1) (res.2.2.2.2) c_tape c_words)) args s 0 0 A) (F0 m 23 ls []) := by
  obtain ⟨hx, hb, hml, hr, hlk, hown, hts, hG, hA⟩ := id X
  have hK := hG.1
  have hN := hG.2.1
  intro n
  induction n with
  | zero =>
    intro c_t c_mind c_now c_refused l1 l2 ls H locs h
    exact absurd (show (none : Option (Int32 × (Nat → Int32) × (Nat → Int32) × (Nat → Int32) × (Nat → Int32))) = some res from h) (by intro q; cases q)
  | succ n ih =>
    intro c_t c_mind c_now c_refused l1 l2 ls H locs h hP hD hS hl
    rw [f_X6_island_b23] at h
    refine lv_iload_n hx hb dX6_island_23 rfl (lv_at hl 2 rfl) ?_
    refine lv_if_eq (tgt := 72) hx hb dX6_island_24 (by decide) (fun hc24 => ?_) (fun hc24 => ?_)
    · have h := if_t h hc24
      refine lv_aload_n hx hb dX6_island_72 rfl (lv_at hl 0 rfl) ?_
      refine va_get (D := E.1) (ci := 6) (v := .ref a_mind) (C := RX6) (T := TX6) (N := 26) hx hb hts iX6_island_X6 hown hK hP 0 rfl rfl 3 (by decide) (hts (.fieldLink RX6 23 "LeftIsAgreedOnModel" "mind" "[I") (List.mem_of_getElem? (i := 2) rfl)) (fun _ h9 => h9) rfl dX6_island_73 ?_
      refine lv_aload_n hx hb dX6_island_76 rfl (lv_at hl 0 rfl) ?_
      refine va_get (D := E.1) (ci := 6) (v := .ref a_now) (C := RX6) (T := TX6) (N := 26) hx hb hts iX6_island_X6 hown hK hP 0 rfl rfl 1 (by decide) (hts (.fieldLink RX6 17 "LeftIsAgreedOnModel" "now" "[I") (List.mem_of_getElem? (i := 1) rfl)) (fun _ h9 => h9) rfl dX6_island_77 ?_
      obtain ⟨v1, hv1, h⟩ := bind_of h
      refine after_v X (run_S X (c_X6_move l E a_mind a_now c_mind c_now H.size v1 hv1) (va_cwS 2 hts gX6_island_X6_move rfl rfl rfl hd_X6_move ⟨(Nat.le_of_ble_eq_true rfl), (Nat.le_of_ble_eq_true rfl)⟩) hP hD hS [1, 2] rfl rfl hl.1 (rest := []) rfl rfl (Nat.le_of_ble_eq_true rfl) dX6_island_80) hP hD hS [1, 2] rfl (ws1 := (W_X6_island E a_t a_mind a_now a_refused a_tape a_words a_kept a_wCell a_wFaces a_wTurns a_wSign a_wBy a_wFell a_telling a_holds a_sizes a_elements a_moved a_above a_out a_first c_t c_mind v1 c_refused c_tape c_words)) rfl (fun H locs hP hD hS => ?_)
      refine lv_aload_n hx hb dX6_island_83 rfl (lv_at hl 0 rfl) ?_
      refine lv_iconst (v := (0 : Int32)) hx hb dX6_island_84 (by decide) ?_
      refine va_put (D := E.1) (ci := 6) (v := .int (0 : Int32)) (ty := .int) (C := RX6) (T := TX6) (N := 26) hx hb hts iX6_island_X6 tyX6 tyX6_ok nmX6 hown hK hP hD hS 0 rfl rfl 6 (by decide) (hts (.fieldLink RX6 132 "LeftIsAgreedOnModel" "size" "I") (List.mem_of_getElem? (i := 5) rfl)) (fun _ h9 => h9) rfl (tyX6_ok 6 (by decide)) rfl rfl (Nat.le_of_ble_eq_true rfl) dX6_island_85 (fun H locs hP hD hS => ?_)
      have hP : va_P E.1 vwCl (W_X6_island E a_t a_mind a_now a_refused a_tape a_words a_kept a_wCell a_wFaces a_wTurns a_wSign a_wBy a_wFell a_telling a_holds a_sizes a_elements a_moved a_above a_out a_first (upd c_t 6 (0 : Int32)) c_mind v1 c_refused c_tape c_words) H := hP
      have hD : va_D A (W_X6_island E a_t a_mind a_now a_refused a_tape a_words a_kept a_wCell a_wFaces a_wTurns a_wSign a_wBy a_wFell a_telling a_holds a_sizes a_elements a_moved a_above a_out a_first (upd c_t 6 (0 : Int32)) c_mind v1 c_refused c_tape c_words) := hD
      refine lv_aload_n hx hb dX6_island_88 rfl (lv_at hl 0 rfl) ?_
      refine lv_bipush (v := (-2 : Int32)) hx hb dX6_island_89 (by decide) ?_
      obtain ⟨v2, hv2, h⟩ := bind_of h
      refine after_i X (run_V X (c_X6_refuse l E a_t a_refused a_now a_kept a_mind a_tape a_words a_wCell a_wFaces a_wTurns a_wSign a_wBy a_wFell a_telling a_holds a_sizes a_elements a_moved a_above a_out a_first (-2 : Int32) (upd c_t 6 (0 : Int32)) c_refused H.size v2 hv2) (cwV 1 hts gX6_island_X6_refuse rfl rfl rfl hV_X6_refuse ⟨(Nat.le_of_ble_eq_true rfl), (Nat.le_of_ble_eq_true rfl)⟩) hP hD hS [0, 3] rfl rfl hl.1 (ci := 6) rfl rfl rfl (rest := []) rfl rfl (Nat.le_of_ble_eq_true rfl) dX6_island_91) hP hD hS [0, 3] rfl (ws1 := (W_X6_island E a_t a_mind a_now a_refused a_tape a_words a_kept a_wCell a_wFaces a_wTurns a_wSign a_wBy a_wFell a_telling a_holds a_sizes a_elements a_moved a_above a_out a_first (upd c_t 6 (0 : Int32)) c_mind v1 (v2.2) c_tape c_words)) rfl (fun H locs hP hD hS => ?_)
      refine lv_pop hx hb dX6_island_94 rfl ?_
      refine lv_bipush (v := (-20 : Int32)) hx hb dX6_island_95 (by decide) ?_
      refine lv_aload_n hx hb dX6_island_97 rfl (lv_at hl 0 rfl) ?_
      refine va_get (D := E.1) (ci := 6) (v := .int ((upd c_t 6 (0 : Int32)) 8)) (C := RX6) (T := TX6) (N := 26) hx hb hts iX6_island_X6 hown hK hP 0 rfl rfl 8 (by decide) (hts (.fieldLink RX6 147 "LeftIsAgreedOnModel" "from" "I") (List.mem_of_getElem? (i := 6) rfl)) (fun _ h9 => h9) rfl dX6_island_98 ?_
      refine lv_isub hx hb dX6_island_101 ?_
      obtain rfl := Option.some.inj h
      exact ret_i X dX6_island_102 hP hD hS rfl
    · have h := if_f h hc24
      refine lv_iinc (v := (l1 + (1 : Int32))) (lv' := [(1, .int (l1 + (1 : Int32))), (0, .ref a_t), (2, .int l2)]) hx hb dX6_island_27 hl (k := 1) rfl rfl (by decide) rfl (fun ls hl => ?_)
      refine lv_aload_n hx hb dX6_island_30 rfl (lv_at hl 1 rfl) ?_
      obtain ⟨v3, hv3, h⟩ := bind_of h
      refine after_v X (run_V X (c_X6_next l E a_t a_tape a_refused a_now a_kept a_mind a_words a_wCell a_wFaces a_wTurns a_wSign a_wBy a_wFell a_telling a_holds a_sizes a_elements a_moved a_above a_out a_first c_t c_tape H.size v3 hv3) (cwV 0 hts gX6_island_X6_next rfl rfl rfl hV_X6_next ⟨(Nat.le_of_ble_eq_true rfl), (Nat.le_of_ble_eq_true rfl)⟩) hP hD hS [0, 4] rfl rfl hl.1 (ci := 6) rfl rfl rfl (rest := []) rfl rfl (Nat.le_of_ble_eq_true rfl) dX6_island_31) hP hD hS [0, 4] rfl (ws1 := (W_X6_island E a_t a_mind a_now a_refused a_tape a_words a_kept a_wCell a_wFaces a_wTurns a_wSign a_wBy a_wFell a_telling a_holds a_sizes a_elements a_moved a_above a_out a_first v3 c_mind c_now c_refused c_tape c_words)) rfl (fun H locs hP hD hS => ?_)
      refine lv_aload_n hx hb dX6_island_34 rfl (lv_at hl 1 rfl) ?_
      refine va_get (D := E.1) (ci := 6) (v := .int (v3 9)) (C := RX6) (T := TX6) (N := 26) hx hb hts iX6_island_X6 hown hK hP 0 rfl rfl 9 (by decide) (hts (.fieldLink RX6 153 "LeftIsAgreedOnModel" "sort" "I") (List.mem_of_getElem? (i := 4) rfl)) (fun _ h9 => h9) rfl dX6_island_35 ?_
      refine lv_if_ne (tgt := 48) hx hb dX6_island_38 (by decide) (fun hc38 => ?_) (fun hc38 => ?_)
      · have h := if_f h hc38
        refine lv_aload_n hx hb dX6_island_48 rfl (lv_at hl 1 rfl) ?_
        refine va_get (D := E.1) (ci := 6) (v := .int (v3 9)) (C := RX6) (T := TX6) (N := 26) hx hb hts iX6_island_X6 hown hK hP 0 rfl rfl 9 (by decide) (hts (.fieldLink RX6 153 "LeftIsAgreedOnModel" "sort" "I") (List.mem_of_getElem? (i := 4) rfl)) (fun _ h9 => h9) rfl dX6_island_49 ?_
        refine lv_iconst (v := (3 : Int32)) hx hb dX6_island_52 (by decide) ?_
        refine lv_icmp_ne (tgt := 67) hx hb dX6_island_53 (by decide) (fun hc53 => ?_) (fun hc53 => ?_)
        · have h := if_f h hc53
          exact w_X6_island_b67 X a_t a_mind a_now a_refused a_tape a_words a_kept a_wCell a_wFaces a_wTurns a_wSign a_wBy a_wFell a_telling a_holds a_sizes a_elements a_moved a_above a_out a_first c_tape c_words res (f_X6_island_b23 c_tape c_words n) ih v3 c_mind c_now c_refused (l1 + (1 : Int32)) _ _ _ h hP hD hS (lv_sub hl [1, 0] rfl)
        · have h := if_t h hc53
          refine lv_aload_n hx hb dX6_island_56 rfl (lv_at hl 1 rfl) ?_
          obtain ⟨v4, hv4, h⟩ := bind_of h
          refine after_i X (run_V X (c_X6_isStatement l E a_t a_now a_tape a_words a_refused a_kept a_mind a_wCell a_wFaces a_wTurns a_wSign a_wBy a_wFell a_telling a_holds a_sizes a_elements a_moved a_above a_out a_first v3 c_now c_tape c_words H.size v4 hv4) (cwV 0 hts gX6_island_X6_isStatement rfl rfl rfl hV_X6_isStatement ⟨(Nat.le_of_ble_eq_true rfl), (Nat.le_of_ble_eq_true rfl)⟩) hP hD hS [0, 2, 4, 5] rfl rfl hl.1 (ci := 6) rfl rfl rfl (rest := []) rfl rfl (Nat.le_of_ble_eq_true rfl) dX6_island_57) hP hD hS [0, 2, 4, 5] rfl (ws1 := (W_X6_island E a_t a_mind a_now a_refused a_tape a_words a_kept a_wCell a_wFaces a_wTurns a_wSign a_wBy a_wFell a_telling a_holds a_sizes a_elements a_moved a_above a_out a_first (v4.2.1) c_mind (v4.2.2) c_refused c_tape c_words)) rfl (fun H locs hP hD hS => ?_)
          refine lv_if_eq (tgt := 67) hx hb dX6_island_60 (by decide) (fun hc60 => ?_) (fun hc60 => ?_)
          · have h := if_t h hc60
            exact w_X6_island_b67 X a_t a_mind a_now a_refused a_tape a_words a_kept a_wCell a_wFaces a_wTurns a_wSign a_wBy a_wFell a_telling a_holds a_sizes a_elements a_moved a_above a_out a_first c_tape c_words res (f_X6_island_b23 c_tape c_words n) ih (v4.2.1) c_mind (v4.2.2) c_refused (l1 + (1 : Int32)) _ _ _ h hP hD hS (lv_sub hl [1, 0] rfl)
          · have h := if_f h hc60
            refine lv_iconst (v := (1 : Int32)) hx hb dX6_island_63 (by decide) ?_
            refine lv_goto (tgt := 68) hx hb dX6_island_64 (by decide) ?_
            exact w_X6_island_b68 X a_t a_mind a_now a_refused a_tape a_words a_kept a_wCell a_wFaces a_wTurns a_wSign a_wBy a_wFell a_telling a_holds a_sizes a_elements a_moved a_above a_out a_first c_tape c_words res (f_X6_island_b23 c_tape c_words n) ih (v4.2.1) c_mind (v4.2.2) c_refused (l1 + (1 : Int32)) (1 : Int32) _ _ _ h hP hD hS (lv_sub hl [1, 0] rfl)
      · have h := if_t h hc38
        refine lv_aload_n hx hb dX6_island_41 rfl (lv_at hl 1 rfl) ?_
        refine lv_iconst (v := (0 : Int32)) hx hb dX6_island_42 (by decide) ?_
        refine va_put (D := E.1) (ci := 6) (v := .int (0 : Int32)) (ty := .int) (C := RX6) (T := TX6) (N := 26) hx hb hts iX6_island_X6 tyX6 tyX6_ok nmX6 hown hK hP hD hS 0 rfl rfl 6 (by decide) (hts (.fieldLink RX6 132 "LeftIsAgreedOnModel" "size" "I") (List.mem_of_getElem? (i := 5) rfl)) (fun _ h9 => h9) rfl (tyX6_ok 6 (by decide)) rfl rfl (Nat.le_of_ble_eq_true rfl) dX6_island_43 (fun H locs hP hD hS => ?_)
        have hP : va_P E.1 vwCl (W_X6_island E a_t a_mind a_now a_refused a_tape a_words a_kept a_wCell a_wFaces a_wTurns a_wSign a_wBy a_wFell a_telling a_holds a_sizes a_elements a_moved a_above a_out a_first (upd v3 6 (0 : Int32)) c_mind c_now c_refused c_tape c_words) H := hP
        have hD : va_D A (W_X6_island E a_t a_mind a_now a_refused a_tape a_words a_kept a_wCell a_wFaces a_wTurns a_wSign a_wBy a_wFell a_telling a_holds a_sizes a_elements a_moved a_above a_out a_first (upd v3 6 (0 : Int32)) c_mind c_now c_refused c_tape c_words) := hD
        refine lv_iload_n hx hb dX6_island_46 rfl (lv_at hl 0 rfl) ?_
        obtain rfl := Option.some.inj h
        exact ret_i X dX6_island_47 hP hD hS rfl
set_option maxRecDepth 100000 in
set_option maxHeartbeats 4000000 in
theorem w_X6_island (X : Ctx p m meth c cX6_island 3 ((some .int)) s args wsX6_island RX6 E A) (a_t : Nat) (a_mind : Nat) (a_now : Nat) (a_refused : Nat) (a_tape : Nat) (a_words : Nat) (a_kept : Nat) (a_wCell : Nat) (a_wFaces : Nat) (a_wTurns : Nat) (a_wSign : Nat) (a_wBy : Nat) (a_wFell : Nat) (a_telling : Nat) (a_holds : Nat) (a_sizes : Nat) (a_elements : Nat) (a_moved : Nat) (a_above : Nat) (a_out : Nat) (a_first : Nat) (c_tape : Nat → Int32) (c_words : Nat → Int32) (res : Int32 × (Nat → Int32) × (Nat → Int32) × (Nat → Int32) × (Nat → Int32)) (c_t : Nat → Int32) (c_mind : Nat → Int32) (c_now : Nat → Int32) (c_refused : Nat → Int32) (ls : Array Slot) (H : Heap) (locs : List Loc) (h : f_X6_island c_t c_mind c_now c_refused c_tape c_words = some res) (hP : va_P E.1 vwCl (W_X6_island E a_t a_mind a_now a_refused a_tape a_words a_kept a_wCell a_wFaces a_wTurns a_wSign a_wBy a_wFell a_telling a_holds a_sizes a_elements a_moved a_above a_out a_first c_t c_mind c_now c_refused c_tape c_words) H) (hD : va_D A (W_X6_island E a_t a_mind a_now a_refused a_tape a_words a_kept a_wCell a_wFaces a_wTurns a_wSign a_wBy a_wFell a_telling a_holds a_sizes a_elements a_moved a_above a_out a_first c_t c_mind c_now c_refused c_tape c_words)) (hS : va_S A s.heap H locs) (hl : lv_has ls 3 [(0, .ref a_t)]) : W p l e r_X6_island s m args below meth c H locs 0 0 (MQ below (qI E A (res.1) (W_X6_island E a_t a_mind a_now a_refused a_tape a_words a_kept a_wCell a_wFaces a_wTurns a_wSign a_wBy a_wFell a_telling a_holds a_sizes a_elements a_moved a_above a_out a_first (res.2.1) (res.2.2.1) (res.2.2.2.1) (res.2.2.2.2) c_tape c_words)) args s 0 0 A) (F0 m 0 ls []) := by
  obtain ⟨hx, hb, hml, hr, hlk, hown, hts, hG, hA⟩ := id X
  have hK := hG.1
  have hN := hG.2.1
  unfold f_X6_island at h
  refine lv_aload_n hx hb dX6_island_0 rfl (lv_at hl 0 rfl) ?_
  refine va_get (D := E.1) (ci := 6) (v := .ref a_now) (C := RX6) (T := TX6) (N := 26) hx hb hts iX6_island_X6 hown hK hP 0 rfl rfl 1 (by decide) (hts (.fieldLink RX6 17 "LeftIsAgreedOnModel" "now" "[I") (List.mem_of_getElem? (i := 1) rfl)) (fun _ h9 => h9) rfl dX6_island_1 ?_
  refine lv_aload_n hx hb dX6_island_4 rfl (lv_at hl 0 rfl) ?_
  refine va_get (D := E.1) (ci := 6) (v := .ref a_mind) (C := RX6) (T := TX6) (N := 26) hx hb hts iX6_island_X6 hown hK hP 0 rfl rfl 3 (by decide) (hts (.fieldLink RX6 23 "LeftIsAgreedOnModel" "mind" "[I") (List.mem_of_getElem? (i := 2) rfl)) (fun _ h9 => h9) rfl dX6_island_5 ?_
  obtain ⟨v1, hv1, h⟩ := bind_of h
  refine after_v X (run_S X (c_X6_move l E a_now a_mind c_now c_mind H.size v1 hv1) (va_cwS 2 hts gX6_island_X6_move rfl rfl rfl hd_X6_move ⟨(Nat.le_of_ble_eq_true rfl), (Nat.le_of_ble_eq_true rfl)⟩) hP hD hS [2, 1] rfl rfl hl.1 (rest := []) rfl rfl (Nat.le_of_ble_eq_true rfl) dX6_island_8) hP hD hS [2, 1] rfl (ws1 := (W_X6_island E a_t a_mind a_now a_refused a_tape a_words a_kept a_wCell a_wFaces a_wTurns a_wSign a_wBy a_wFell a_telling a_holds a_sizes a_elements a_moved a_above a_out a_first c_t v1 c_now c_refused c_tape c_words)) rfl (fun H locs hP hD hS => ?_)
  refine lv_aload_n hx hb dX6_island_11 rfl (lv_at hl 0 rfl) ?_
  refine lv_iconst (v := (0 : Int32)) hx hb dX6_island_12 (by decide) ?_
  refine va_put (D := E.1) (ci := 6) (v := .int (0 : Int32)) (ty := .int) (C := RX6) (T := TX6) (N := 26) hx hb hts iX6_island_X6 tyX6 tyX6_ok nmX6 hown hK hP hD hS 0 rfl rfl 7 (by decide) (hts (.fieldLink RX6 144 "LeftIsAgreedOnModel" "at" "I") (List.mem_of_getElem? (i := 3) rfl)) (fun _ h9 => h9) rfl (tyX6_ok 7 (by decide)) rfl rfl (Nat.le_of_ble_eq_true rfl) dX6_island_13 (fun H locs hP hD hS => ?_)
  have hP : va_P E.1 vwCl (W_X6_island E a_t a_mind a_now a_refused a_tape a_words a_kept a_wCell a_wFaces a_wTurns a_wSign a_wBy a_wFell a_telling a_holds a_sizes a_elements a_moved a_above a_out a_first (upd c_t 7 (0 : Int32)) v1 c_now c_refused c_tape c_words) H := hP
  have hD : va_D A (W_X6_island E a_t a_mind a_now a_refused a_tape a_words a_kept a_wCell a_wFaces a_wTurns a_wSign a_wBy a_wFell a_telling a_holds a_sizes a_elements a_moved a_above a_out a_first (upd c_t 7 (0 : Int32)) v1 c_now c_refused c_tape c_words) := hD
  refine lv_iconst (v := (0 : Int32)) hx hb dX6_island_16 (by decide) ?_
  refine lv_istore_n (lv' := [(1, .int (0 : Int32)), (0, .ref a_t)]) hx hb dX6_island_17 rfl hl (by decide) rfl (fun ls hl => ?_)
  refine lv_aload_n hx hb dX6_island_18 rfl (lv_at hl 1 rfl) ?_
  obtain ⟨v2, hv2, h⟩ := bind_of h
  refine after_i X (run_V X (c_X6_isStatement l E a_t a_now a_tape a_words a_refused a_kept a_mind a_wCell a_wFaces a_wTurns a_wSign a_wBy a_wFell a_telling a_holds a_sizes a_elements a_moved a_above a_out a_first (upd c_t 7 (0 : Int32)) c_now c_tape c_words H.size v2 hv2) (cwV 0 hts gX6_island_X6_isStatement rfl rfl rfl hV_X6_isStatement ⟨(Nat.le_of_ble_eq_true rfl), (Nat.le_of_ble_eq_true rfl)⟩) hP hD hS [0, 2, 4, 5] rfl rfl hl.1 (ci := 6) rfl rfl rfl (rest := []) rfl rfl (Nat.le_of_ble_eq_true rfl) dX6_island_19) hP hD hS [0, 2, 4, 5] rfl (ws1 := (W_X6_island E a_t a_mind a_now a_refused a_tape a_words a_kept a_wCell a_wFaces a_wTurns a_wSign a_wBy a_wFell a_telling a_holds a_sizes a_elements a_moved a_above a_out a_first (v2.2.1) v1 (v2.2.2) c_refused c_tape c_words)) rfl (fun H locs hP hD hS => ?_)
  refine lv_istore_n (lv' := [(2, .int (v2.1)), (1, .int (0 : Int32)), (0, .ref a_t)]) hx hb dX6_island_22 rfl hl (by decide) rfl (fun ls hl => ?_)
  exact w_X6_island_b23 X a_t a_mind a_now a_refused a_tape a_words a_kept a_wCell a_wFaces a_wTurns a_wSign a_wBy a_wFell a_telling a_holds a_sizes a_elements a_moved a_above a_out a_first c_tape c_words res FU (v2.2.1) v1 (v2.2.2) c_refused (0 : Int32) (v2.1) _ _ _ h hP hD hS (lv_sub hl [2, 1, 0] rfl)
end
set_option maxRecDepth 100000 in
theorem c_X6_island (l : Launch) (E : Env0) (a_t : Nat) (a_mind : Nat) (a_now : Nat) (a_refused : Nat) (a_tape : Nat) (a_words : Nat) (a_kept : Nat) (a_wCell : Nat) (a_wFaces : Nat) (a_wTurns : Nat) (a_wSign : Nat) (a_wBy : Nat) (a_wFell : Nat) (a_telling : Nat) (a_holds : Nat) (a_sizes : Nat) (a_elements : Nat) (a_moved : Nat) (a_above : Nat) (a_out : Nat) (a_first : Nat) (c_t : Nat → Int32) (c_mind : Nat → Int32) (c_now : Nat → Int32) (c_refused : Nat → Int32) (c_tape : Nat → Int32) (c_words : Nat → Int32) (sz : Nat) (res : Int32 × (Nat → Int32) × (Nat → Int32) × (Nat → Int32) × (Nat → Int32)) (h : f_X6_island c_t c_mind c_now c_refused c_tape c_words = some res) : Met l yX6_island wsX6_island r_X6_island (cPre E [.ref a_t] (W_X6_island E a_t a_mind a_now a_refused a_tape a_words a_kept a_wCell a_wFaces a_wTurns a_wSign a_wBy a_wFell a_telling a_holds a_sizes a_elements a_moved a_above a_out a_first c_t c_mind c_now c_refused c_tape c_words) sz) (qI E (va_A (W_X6_island E a_t a_mind a_now a_refused a_tape a_words a_kept a_wCell a_wFaces a_wTurns a_wSign a_wBy a_wFell a_telling a_holds a_sizes a_elements a_moved a_above a_out a_first c_t c_mind c_now c_refused c_tape c_words) sz) (res.1) (W_X6_island E a_t a_mind a_now a_refused a_tape a_words a_kept a_wCell a_wFaces a_wTurns a_wSign a_wBy a_wFell a_telling a_holds a_sizes a_elements a_moved a_above a_out a_first (res.2.1) (res.2.2.1) (res.2.2.2.1) (res.2.2.2.2) c_tape c_words)) 0 0 (va_A (W_X6_island E a_t a_mind a_now a_refused a_tape a_words a_kept a_wCell a_wFaces a_wTurns a_wSign a_wBy a_wFell a_telling a_holds a_sizes a_elements a_moved a_above a_out a_first c_t c_mind c_now c_refused c_tape c_words) sz) :=
  met_of (Qc := fun A => qI E A (res.1) (W_X6_island E a_t a_mind a_now a_refused a_tape a_words a_kept a_wCell a_wFaces a_wTurns a_wSign a_wBy a_wFell a_telling a_holds a_sizes a_elements a_moved a_above a_out a_first (res.2.1) (res.2.2.1) (res.2.2.2.1) (res.2.2.2.2) c_tape c_words)) (by decide) rfl (Nat.le_of_ble_eq_true rfl) (fun p e s m args below meth c X hP hD hS ls hl => w_X6_island X a_t a_mind a_now a_refused a_tape a_words a_kept a_wCell a_wFaces a_wTurns a_wSign a_wBy a_wFell a_telling a_holds a_sizes a_elements a_moved a_above a_out a_first c_tape c_words res c_t c_mind c_now c_refused ls _ _ h hP hD hS hl)
-- ===== X6_start
noncomputable abbrev W_X6_start (E : Env0) (a_t : Nat) (a_wCell : Nat) (a_wFaces : Nat) (a_wFell : Nat) (a_wTurns : Nat) (a_refused : Nat) (a_now : Nat) (a_kept : Nat) (a_mind : Nat) (a_tape : Nat) (a_words : Nat) (a_wSign : Nat) (a_wBy : Nat) (a_telling : Nat) (a_holds : Nat) (a_sizes : Nat) (a_elements : Nat) (a_moved : Nat) (a_above : Nat) (a_out : Nat) (a_first : Nat) (c_t : Nat → Int32) (c_wCell : Nat → Int32) (c_wFaces : Nat → Int32) (c_wFell : Nat → Int32) (c_wTurns : Nat → Int32) : va_W := [(a_t, .inr (6, [.ref a_refused, .ref a_now, .ref a_kept, .ref a_mind, .int (c_t 4), .ref a_tape, .int (c_t 6), .int (c_t 7), .int (c_t 8), .int (c_t 9), .ref a_words, .ref a_wCell, .ref a_wFaces, .ref a_wTurns, .ref a_wSign, .ref a_wBy, .ref a_wFell, .int (c_t 17), .ref a_telling, .ref a_holds, .ref a_sizes, .ref a_elements, .ref a_moved, .ref a_above, .ref a_out, .ref a_first])), (a_wCell, .inl (eI E, 2, .inl c_wCell)), (a_wFaces, .inl (eI E, 2, .inl c_wFaces)), (a_wFell, .inl (eI E, 2, .inl c_wFell)), (a_wTurns, .inl (eI E, 2, .inl c_wTurns))]
noncomputable abbrev r_X6_start : Room := { frames := 0, cells := 0, slots := 0, locals := 0 }
theorem hd_X6_start : yX6_start.cls ≠ "java/lang/invoke/MethodHandle" ∧ yX6_start.cls ≠ "java/lang/invoke/VarHandle" ∧ (parseMethodDescriptor yX6_start.desc).map (fun d => d.parameters.length) = some 3 := by decide +kernel
theorem hV_X6_start : yX6_start.cls = RX6 ∧ yX6_start.cls ≠ "java/lang/invoke/MethodHandle" ∧ yX6_start.cls ≠ "java/lang/invoke/VarHandle" ∧ (parseMethodDescriptor yX6_start.desc).map (fun d => d.parameters.length) = some 3 := ⟨rfl, hd_X6_start⟩
theorem iX6_start_X6 : ∀ w ∈ wsX60, w ∈ wsX6_start := fun _ h => List.mem_cons_of_mem _ (List.mem_append_right _ (h))
section
variable {p : Program} {l : Launch} {e : Env} {s : State} {m : MethodId} {args : Array Value} {below : List Frame} {meth : Method} {c : Code} {E : Env0} {A : Nat → Prop}
set_option maxRecDepth 100000 in
set_option maxHeartbeats 4000000 in
theorem w_X6_start (X : Ctx p m meth c cX6_start 4 none s args wsX6_start RX6 E A) (a_t : Nat) (a_wCell : Nat) (a_wFaces : Nat) (a_wFell : Nat) (a_wTurns : Nat) (a_refused : Nat) (a_now : Nat) (a_kept : Nat) (a_mind : Nat) (a_tape : Nat) (a_words : Nat) (a_wSign : Nat) (a_wBy : Nat) (a_telling : Nat) (a_holds : Nat) (a_sizes : Nat) (a_elements : Nat) (a_moved : Nat) (a_above : Nat) (a_out : Nat) (a_first : Nat) (c_t : Nat → Int32) (res : (Nat → Int32) × (Nat → Int32) × (Nat → Int32) × (Nat → Int32)) (c_wCell : Nat → Int32) (c_wFaces : Nat → Int32) (c_wFell : Nat → Int32) (c_wTurns : Nat → Int32) (l1 : Int32) (l2 : Int32) (l3 : Int32) (ls : Array Slot) (H : Heap) (locs : List Loc) (h : f_X6_start l1 l2 l3 c_t c_wCell c_wFaces c_wFell c_wTurns = some res) (hP : va_P E.1 vwCl (W_X6_start E a_t a_wCell a_wFaces a_wFell a_wTurns a_refused a_now a_kept a_mind a_tape a_words a_wSign a_wBy a_telling a_holds a_sizes a_elements a_moved a_above a_out a_first c_t c_wCell c_wFaces c_wFell c_wTurns) H) (hD : va_D A (W_X6_start E a_t a_wCell a_wFaces a_wFell a_wTurns a_refused a_now a_kept a_mind a_tape a_words a_wSign a_wBy a_telling a_holds a_sizes a_elements a_moved a_above a_out a_first c_t c_wCell c_wFaces c_wFell c_wTurns)) (hS : va_S A s.heap H locs) (hl : lv_has ls 4 [(0, .ref a_t), (1, .int l1), (2, .int l2), (3, .int l3)]) : W p l e r_X6_start s m args below meth c H locs 0 0 (MQ below (qV E A (W_X6_start E a_t a_wCell a_wFaces a_wFell a_wTurns a_refused a_now a_kept a_mind a_tape a_words a_wSign a_wBy a_telling a_holds a_sizes a_elements a_moved a_above a_out a_first c_t (res.1) (res.2.1) (res.2.2.1) (res.2.2.2))) args s 0 0 A) (F0 m 0 ls []) := by
  obtain ⟨hx, hb, hml, hr, hlk, hown, hts, hG, hA⟩ := id X
  have hK := hG.1
  have hN := hG.2.1
  unfold f_X6_start at h
  refine lv_aload_n hx hb dX6_start_0 rfl (lv_at hl 0 rfl) ?_
  refine va_get (D := E.1) (ci := 6) (v := .ref a_wCell) (C := RX6) (T := TX6) (N := 26) hx hb hts iX6_start_X6 hown hK hP 0 rfl rfl 11 (by decide) (hts (.fieldLink RX6 33 "LeftIsAgreedOnModel" "wCell" "[I") (List.mem_of_getElem? (i := 1) rfl)) (fun _ h9 => h9) rfl dX6_start_1 ?_
  refine lv_iload_n hx hb dX6_start_4 rfl (lv_at hl 1 rfl) ?_
  refine lv_iload_n hx hb dX6_start_5 rfl (lv_at hl 2 rfl) ?_
  obtain ⟨hz6, h⟩ := chk_of h
  refine st_i X hP hD hS 1 rfl (inb.vp hz6) (k := (l1).toNatClampNeg) rfl (ws1 := (W_X6_start E a_t a_wCell a_wFaces a_wFell a_wTurns a_refused a_now a_kept a_mind a_tape a_words a_wSign a_wBy a_telling a_holds a_sizes a_elements a_moved a_above a_out a_first c_t (upd c_wCell ((l1).toNatClampNeg) l2) c_wFaces c_wFell c_wTurns)) rfl dX6_start_6 (fun H locs hP hD hS => ?_)
  refine lv_aload_n hx hb dX6_start_7 rfl (lv_at hl 0 rfl) ?_
  refine va_get (D := E.1) (ci := 6) (v := .ref a_wFaces) (C := RX6) (T := TX6) (N := 26) hx hb hts iX6_start_X6 hown hK hP 0 rfl rfl 12 (by decide) (hts (.fieldLink RX6 36 "LeftIsAgreedOnModel" "wFaces" "[I") (List.mem_of_getElem? (i := 2) rfl)) (fun _ h9 => h9) rfl dX6_start_8 ?_
  refine lv_iload_n hx hb dX6_start_11 rfl (lv_at hl 1 rfl) ?_
  refine lv_iload_n hx hb dX6_start_12 rfl (lv_at hl 3 rfl) ?_
  obtain ⟨hz13, h⟩ := chk_of h
  refine st_i X hP hD hS 2 rfl (inb.vp hz13) (k := (l1).toNatClampNeg) rfl (ws1 := (W_X6_start E a_t a_wCell a_wFaces a_wFell a_wTurns a_refused a_now a_kept a_mind a_tape a_words a_wSign a_wBy a_telling a_holds a_sizes a_elements a_moved a_above a_out a_first c_t (upd c_wCell ((l1).toNatClampNeg) l2) (upd c_wFaces ((l1).toNatClampNeg) l3) c_wFell c_wTurns)) rfl dX6_start_13 (fun H locs hP hD hS => ?_)
  refine lv_aload_n hx hb dX6_start_14 rfl (lv_at hl 0 rfl) ?_
  refine va_get (D := E.1) (ci := 6) (v := .ref a_wTurns) (C := RX6) (T := TX6) (N := 26) hx hb hts iX6_start_X6 hown hK hP 0 rfl rfl 13 (by decide) (hts (.fieldLink RX6 39 "LeftIsAgreedOnModel" "wTurns" "[I") (List.mem_of_getElem? (i := 3) rfl)) (fun _ h9 => h9) rfl dX6_start_15 ?_
  refine lv_iload_n hx hb dX6_start_18 rfl (lv_at hl 1 rfl) ?_
  refine lv_iconst (v := (0 : Int32)) hx hb dX6_start_19 (by decide) ?_
  obtain ⟨hz20, h⟩ := chk_of h
  refine st_i X hP hD hS 4 rfl (inb.vp hz20) (k := (l1).toNatClampNeg) rfl (ws1 := (W_X6_start E a_t a_wCell a_wFaces a_wFell a_wTurns a_refused a_now a_kept a_mind a_tape a_words a_wSign a_wBy a_telling a_holds a_sizes a_elements a_moved a_above a_out a_first c_t (upd c_wCell ((l1).toNatClampNeg) l2) (upd c_wFaces ((l1).toNatClampNeg) l3) c_wFell (upd c_wTurns ((l1).toNatClampNeg) (0 : Int32)))) rfl dX6_start_20 (fun H locs hP hD hS => ?_)
  refine lv_aload_n hx hb dX6_start_21 rfl (lv_at hl 0 rfl) ?_
  refine va_get (D := E.1) (ci := 6) (v := .ref a_wFell) (C := RX6) (T := TX6) (N := 26) hx hb hts iX6_start_X6 hown hK hP 0 rfl rfl 16 (by decide) (hts (.fieldLink RX6 48 "LeftIsAgreedOnModel" "wFell" "[I") (List.mem_of_getElem? (i := 4) rfl)) (fun _ h9 => h9) rfl dX6_start_22 ?_
  refine lv_iload_n hx hb dX6_start_25 rfl (lv_at hl 1 rfl) ?_
  refine lv_iconst (v := (-1 : Int32)) hx hb dX6_start_26 (by decide) ?_
  obtain ⟨hz27, h⟩ := chk_of h
  refine st_i X hP hD hS 3 rfl (inb.vp hz27) (k := (l1).toNatClampNeg) rfl (ws1 := (W_X6_start E a_t a_wCell a_wFaces a_wFell a_wTurns a_refused a_now a_kept a_mind a_tape a_words a_wSign a_wBy a_telling a_holds a_sizes a_elements a_moved a_above a_out a_first c_t (upd c_wCell ((l1).toNatClampNeg) l2) (upd c_wFaces ((l1).toNatClampNeg) l3) (upd c_wFell ((l1).toNatClampNeg) (-1 : Int32)) (upd c_wTurns ((l1).toNatClampNeg) (0 : Int32)))) rfl dX6_start_27 (fun H locs hP hD hS => ?_)
  obtain rfl := Option.some.inj h
  exact ret_v X dX6_start_28 hP hD hS
end
set_option maxRecDepth 100000 in
theorem c_X6_start (l : Launch) (E : Env0) (a_t : Nat) (a_wCell : Nat) (a_wFaces : Nat) (a_wFell : Nat) (a_wTurns : Nat) (a_refused : Nat) (a_now : Nat) (a_kept : Nat) (a_mind : Nat) (a_tape : Nat) (a_words : Nat) (a_wSign : Nat) (a_wBy : Nat) (a_telling : Nat) (a_holds : Nat) (a_sizes : Nat) (a_elements : Nat) (a_moved : Nat) (a_above : Nat) (a_out : Nat) (a_first : Nat) (l1 : Int32) (l2 : Int32) (l3 : Int32) (c_t : Nat → Int32) (c_wCell : Nat → Int32) (c_wFaces : Nat → Int32) (c_wFell : Nat → Int32) (c_wTurns : Nat → Int32) (sz : Nat) (res : (Nat → Int32) × (Nat → Int32) × (Nat → Int32) × (Nat → Int32)) (h : f_X6_start l1 l2 l3 c_t c_wCell c_wFaces c_wFell c_wTurns = some res) : Met l yX6_start wsX6_start r_X6_start (cPre E [.ref a_t, .int l1, .int l2, .int l3] (W_X6_start E a_t a_wCell a_wFaces a_wFell a_wTurns a_refused a_now a_kept a_mind a_tape a_words a_wSign a_wBy a_telling a_holds a_sizes a_elements a_moved a_above a_out a_first c_t c_wCell c_wFaces c_wFell c_wTurns) sz) (qV E (va_A (W_X6_start E a_t a_wCell a_wFaces a_wFell a_wTurns a_refused a_now a_kept a_mind a_tape a_words a_wSign a_wBy a_telling a_holds a_sizes a_elements a_moved a_above a_out a_first c_t c_wCell c_wFaces c_wFell c_wTurns) sz) (W_X6_start E a_t a_wCell a_wFaces a_wFell a_wTurns a_refused a_now a_kept a_mind a_tape a_words a_wSign a_wBy a_telling a_holds a_sizes a_elements a_moved a_above a_out a_first c_t (res.1) (res.2.1) (res.2.2.1) (res.2.2.2))) 0 0 (va_A (W_X6_start E a_t a_wCell a_wFaces a_wFell a_wTurns a_refused a_now a_kept a_mind a_tape a_words a_wSign a_wBy a_telling a_holds a_sizes a_elements a_moved a_above a_out a_first c_t c_wCell c_wFaces c_wFell c_wTurns) sz) :=
  met_of (Qc := fun A => qV E A (W_X6_start E a_t a_wCell a_wFaces a_wFell a_wTurns a_refused a_now a_kept a_mind a_tape a_words a_wSign a_wBy a_telling a_holds a_sizes a_elements a_moved a_above a_out a_first c_t (res.1) (res.2.1) (res.2.2.1) (res.2.2.2))) (by decide) rfl (Nat.le_of_ble_eq_true rfl) (fun p e s m args below meth c X hP hD hS ls hl => w_X6_start X a_t a_wCell a_wFaces a_wFell a_wTurns a_refused a_now a_kept a_mind a_tape a_words a_wSign a_wBy a_telling a_holds a_sizes a_elements a_moved a_above a_out a_first c_t res c_wCell c_wFaces c_wFell c_wTurns l1 l2 l3 ls _ _ h hP hD hS hl)
-- ===== X6_goesBy
noncomputable abbrev W_X6_goesBy (E : Env0) (a_t : Nat) (a_now : Nat) (a_wBy : Nat) (a_wCell : Nat) (a_wSign : Nat) (a_wTurns : Nat) (a_refused : Nat) (a_kept : Nat) (a_mind : Nat) (a_tape : Nat) (a_words : Nat) (a_wFaces : Nat) (a_wFell : Nat) (a_telling : Nat) (a_holds : Nat) (a_sizes : Nat) (a_elements : Nat) (a_moved : Nat) (a_above : Nat) (a_out : Nat) (a_first : Nat) (c_t : Nat → Int32) (c_now : Nat → Int32) (c_wBy : Nat → Int32) (c_wCell : Nat → Int32) (c_wSign : Nat → Int32) (c_wTurns : Nat → Int32) : va_W := [(a_t, .inr (6, [.ref a_refused, .ref a_now, .ref a_kept, .ref a_mind, .int (c_t 4), .ref a_tape, .int (c_t 6), .int (c_t 7), .int (c_t 8), .int (c_t 9), .ref a_words, .ref a_wCell, .ref a_wFaces, .ref a_wTurns, .ref a_wSign, .ref a_wBy, .ref a_wFell, .int (c_t 17), .ref a_telling, .ref a_holds, .ref a_sizes, .ref a_elements, .ref a_moved, .ref a_above, .ref a_out, .ref a_first])), (a_now, .inl (eI E, 97, .inl c_now)), (a_wBy, .inl (eI E, 2, .inl c_wBy)), (a_wCell, .inl (eI E, 2, .inl c_wCell)), (a_wSign, .inl (eI E, 2, .inl c_wSign)), (a_wTurns, .inl (eI E, 2, .inl c_wTurns))]
noncomputable abbrev r_X6_goesBy : Room := { frames := 3, cells := 0, slots := 0, locals := 73 }
theorem hd_X6_goesBy : yX6_goesBy.cls ≠ "java/lang/invoke/MethodHandle" ∧ yX6_goesBy.cls ≠ "java/lang/invoke/VarHandle" ∧ (parseMethodDescriptor yX6_goesBy.desc).map (fun d => d.parameters.length) = some 3 := by decide +kernel
theorem hV_X6_goesBy : yX6_goesBy.cls = RX6 ∧ yX6_goesBy.cls ≠ "java/lang/invoke/MethodHandle" ∧ yX6_goesBy.cls ≠ "java/lang/invoke/VarHandle" ∧ (parseMethodDescriptor yX6_goesBy.desc).map (fun d => d.parameters.length) = some 3 := ⟨rfl, hd_X6_goesBy⟩
theorem iX6_goesBy_X6 : ∀ w ∈ wsX60, w ∈ wsX6_goesBy := fun _ h => List.mem_cons_of_mem _ (List.mem_append_right _ (h))
section
variable {p : Program} {l : Launch} {e : Env} {s : State} {m : MethodId} {args : Array Value} {below : List Frame} {meth : Method} {c : Code} {E : Env0} {A : Nat → Prop}
set_option maxRecDepth 100000 in
set_option maxHeartbeats 4000000 in
theorem w_X6_goesBy (X : Ctx p m meth c cX6_goesBy 5 ((some .int)) s args wsX6_goesBy RX6 E A) (a_t : Nat) (a_now : Nat) (a_wBy : Nat) (a_wCell : Nat) (a_wSign : Nat) (a_wTurns : Nat) (a_refused : Nat) (a_kept : Nat) (a_mind : Nat) (a_tape : Nat) (a_words : Nat) (a_wFaces : Nat) (a_wFell : Nat) (a_telling : Nat) (a_holds : Nat) (a_sizes : Nat) (a_elements : Nat) (a_moved : Nat) (a_above : Nat) (a_out : Nat) (a_first : Nat) (c_t : Nat → Int32) (c_now : Nat → Int32) (c_wBy : Nat → Int32) (c_wCell : Nat → Int32) (c_wSign : Nat → Int32) (c_wTurns : Nat → Int32) (res : Int32) (l1 : Int32) (l2 : Int32) (l3 : Int32) (ls : Array Slot) (H : Heap) (locs : List Loc) (h : f_X6_goesBy l1 l2 l3 c_t c_now c_wBy c_wCell c_wSign c_wTurns = some res) (hP : va_P E.1 vwCl (W_X6_goesBy E a_t a_now a_wBy a_wCell a_wSign a_wTurns a_refused a_kept a_mind a_tape a_words a_wFaces a_wFell a_telling a_holds a_sizes a_elements a_moved a_above a_out a_first c_t c_now c_wBy c_wCell c_wSign c_wTurns) H) (hD : va_D A (W_X6_goesBy E a_t a_now a_wBy a_wCell a_wSign a_wTurns a_refused a_kept a_mind a_tape a_words a_wFaces a_wFell a_telling a_holds a_sizes a_elements a_moved a_above a_out a_first c_t c_now c_wBy c_wCell c_wSign c_wTurns)) (hS : va_S A s.heap H locs) (hl : lv_has ls 5 [(0, .ref a_t), (1, .int l1), (2, .int l2), (3, .int l3)]) : W p l e r_X6_goesBy s m args below meth c H locs 0 0 (MQ below (qI E A res (W_X6_goesBy E a_t a_now a_wBy a_wCell a_wSign a_wTurns a_refused a_kept a_mind a_tape a_words a_wFaces a_wFell a_telling a_holds a_sizes a_elements a_moved a_above a_out a_first c_t c_now c_wBy c_wCell c_wSign c_wTurns)) args s 0 0 A) (F0 m 0 ls []) := by
  obtain ⟨hx, hb, hml, hr, hlk, hown, hts, hG, hA⟩ := id X
  have hK := hG.1
  have hN := hG.2.1
  unfold f_X6_goesBy at h
  refine lv_aload_n hx hb dX6_goesBy_0 rfl (lv_at hl 0 rfl) ?_
  refine va_get (D := E.1) (ci := 6) (v := .ref a_now) (C := RX6) (T := TX6) (N := 26) hx hb hts iX6_goesBy_X6 hown hK hP 0 rfl rfl 1 (by decide) (hts (.fieldLink RX6 17 "LeftIsAgreedOnModel" "now" "[I") (List.mem_of_getElem? (i := 1) rfl)) (fun _ h9 => h9) rfl dX6_goesBy_1 ?_
  refine lv_bipush (v := (91 : Int32)) hx hb dX6_goesBy_4 (by decide) ?_
  refine ld_i X hP 1 rfl (inb.vp (by decide)) (v := (c_now 91)) rfl dX6_goesBy_6 ?_
  refine lv_istore (lv' := [(4, .int (c_now 91)), (0, .ref a_t), (1, .int l1), (2, .int l2), (3, .int l3)]) hx hb dX6_goesBy_7 hl (by decide) rfl (fun ls hl => ?_)
  refine lv_aload_n hx hb dX6_goesBy_9 rfl (lv_at hl 1 rfl) ?_
  refine lv_iload_n hx hb dX6_goesBy_10 rfl (lv_at hl 3 rfl) ?_
  obtain ⟨v1, hv1, h⟩ := bind_of h
  refine after_i X (run_V X (c_X6_kind l E a_t a_now a_refused a_kept a_mind a_tape a_words a_wCell a_wFaces a_wTurns a_wSign a_wBy a_wFell a_telling a_holds a_sizes a_elements a_moved a_above a_out a_first l2 c_t c_now H.size v1 hv1) (cwV 1 hts gX6_goesBy_X6_kind rfl rfl rfl hV_X6_kind ⟨(Nat.le_of_ble_eq_true rfl), (Nat.le_of_ble_eq_true rfl)⟩) hP hD hS [0, 1] rfl rfl hl.1 (ci := 6) rfl rfl rfl (rest := []) rfl rfl (Nat.le_of_ble_eq_true rfl) dX6_goesBy_11) hP hD hS [0, 1] rfl (ws1 := (W_X6_goesBy E a_t a_now a_wBy a_wCell a_wSign a_wTurns a_refused a_kept a_mind a_tape a_words a_wFaces a_wFell a_telling a_holds a_sizes a_elements a_moved a_above a_out a_first c_t c_now c_wBy c_wCell c_wSign c_wTurns)) rfl (fun H locs hP hD hS => ?_)
  by_cases hs14_0 : v1 = (0 : Int32)
  · have h := if_t h hs14_0
    refine lv_tableIn (off := (34)) (tgt := 48) hx hb dX6_goesBy_14 (by rw [hs14_0]; decide) (by rw [hs14_0]; decide) (by rw [hs14_0]; rfl) (by decide) ?_
    refine lv_iload hx hb dX6_goesBy_48 (lv_at hl 0 rfl) ?_
    obtain rfl := Option.some.inj h
    exact ret_i X dX6_goesBy_50 hP hD hS rfl
  · have h := if_f h hs14_0
    by_cases hs14_1 : v1 = (1 : Int32)
    · have h := if_t h hs14_1
      refine lv_tableIn (off := (37)) (tgt := 51) hx hb dX6_goesBy_14 (by rw [hs14_1]; decide) (by rw [hs14_1]; decide) (by rw [hs14_1]; rfl) (by decide) ?_
      refine lv_aload_n hx hb dX6_goesBy_51 rfl (lv_at hl 1 rfl) ?_
      refine va_get (D := E.1) (ci := 6) (v := .ref a_now) (C := RX6) (T := TX6) (N := 26) hx hb hts iX6_goesBy_X6 hown hK hP 0 rfl rfl 1 (by decide) (hts (.fieldLink RX6 17 "LeftIsAgreedOnModel" "now" "[I") (List.mem_of_getElem? (i := 1) rfl)) (fun _ h9 => h9) rfl dX6_goesBy_52 ?_
      refine lv_bipush (v := (92 : Int32)) hx hb dX6_goesBy_55 (by decide) ?_
      refine ld_i X hP 1 rfl (inb.vp (by decide)) (v := (c_now 92)) rfl dX6_goesBy_57 ?_
      obtain rfl := Option.some.inj h
      exact ret_i X dX6_goesBy_58 hP hD hS rfl
    · have h := if_f h hs14_1
      by_cases hs14_2 : v1 = (2 : Int32)
      · have h := if_t h hs14_2
        refine lv_tableIn (off := (45)) (tgt := 59) hx hb dX6_goesBy_14 (by rw [hs14_2]; decide) (by rw [hs14_2]; decide) (by rw [hs14_2]; rfl) (by decide) ?_
        refine lv_aload_n hx hb dX6_goesBy_59 rfl (lv_at hl 1 rfl) ?_
        refine va_get (D := E.1) (ci := 6) (v := .ref a_wTurns) (C := RX6) (T := TX6) (N := 26) hx hb hts iX6_goesBy_X6 hown hK hP 0 rfl rfl 13 (by decide) (hts (.fieldLink RX6 39 "LeftIsAgreedOnModel" "wTurns" "[I") (List.mem_of_getElem? (i := 2) rfl)) (fun _ h9 => h9) rfl dX6_goesBy_60 ?_
        refine lv_iload_n hx hb dX6_goesBy_63 rfl (lv_at hl 2 rfl) ?_
        obtain ⟨hz64, h⟩ := chk_of h
        refine ld_i X hP 5 rfl (inb.vp hz64) (v := (c_wTurns (l1).toNatClampNeg)) rfl dX6_goesBy_64 ?_
        refine lv_iconst (v := (2 : Int32)) hx hb dX6_goesBy_65 (by decide) ?_
        refine lv_irem hx hb dX6_goesBy_66 (by decide) ?_
        refine lv_if_ne (tgt := 75) hx hb dX6_goesBy_67 (by decide) (fun hc67 => ?_) (fun hc67 => ?_)
        · have h := if_f h hc67
          refine lv_iconst (v := (1 : Int32)) hx hb dX6_goesBy_75 (by decide) ?_
          refine lv_iload hx hb dX6_goesBy_76 (lv_at hl 0 rfl) ?_
          refine lv_isub hx hb dX6_goesBy_78 ?_
          obtain rfl := Option.some.inj h
          exact ret_i X dX6_goesBy_79 hP hD hS rfl
        · have h := if_t h hc67
          refine lv_iload hx hb dX6_goesBy_70 (lv_at hl 0 rfl) ?_
          refine lv_goto (tgt := 79) hx hb dX6_goesBy_72 (by decide) ?_
          obtain rfl := Option.some.inj h
          exact ret_i X dX6_goesBy_79 hP hD hS rfl
      · have h := if_f h hs14_2
        by_cases hs14_3 : v1 = (3 : Int32)
        · have h := if_t h hs14_3
          refine lv_tableIn (off := (66)) (tgt := 80) hx hb dX6_goesBy_14 (by rw [hs14_3]; decide) (by rw [hs14_3]; decide) (by rw [hs14_3]; rfl) (by decide) ?_
          refine lv_aload_n hx hb dX6_goesBy_80 rfl (lv_at hl 1 rfl) ?_
          refine lv_iload_n hx hb dX6_goesBy_81 rfl (lv_at hl 3 rfl) ?_
          obtain ⟨v2, hv2, h⟩ := bind_of h
          refine after_i X (run_V X (c_X6_isFor l E a_t a_now a_refused a_kept a_mind a_tape a_words a_wCell a_wFaces a_wTurns a_wSign a_wBy a_wFell a_telling a_holds a_sizes a_elements a_moved a_above a_out a_first l2 c_t c_now H.size v2 hv2) (cwV 1 hts gX6_goesBy_X6_isFor rfl rfl rfl hV_X6_isFor ⟨(Nat.le_of_ble_eq_true rfl), (Nat.le_of_ble_eq_true rfl)⟩) hP hD hS [0, 1] rfl rfl hl.1 (ci := 6) rfl rfl rfl (rest := []) rfl rfl (Nat.le_of_ble_eq_true rfl) dX6_goesBy_82) hP hD hS [0, 1] rfl (ws1 := (W_X6_goesBy E a_t a_now a_wBy a_wCell a_wSign a_wTurns a_refused a_kept a_mind a_tape a_words a_wFaces a_wFell a_telling a_holds a_sizes a_elements a_moved a_above a_out a_first c_t c_now c_wBy c_wCell c_wSign c_wTurns)) rfl (fun H locs hP hD hS => ?_)
          obtain rfl := Option.some.inj h
          exact ret_i X dX6_goesBy_85 hP hD hS rfl
        · have h := if_f h hs14_3
          by_cases hs14_4 : v1 = (4 : Int32)
          · have h := if_t h hs14_4
            refine lv_tableIn (off := (72)) (tgt := 86) hx hb dX6_goesBy_14 (by rw [hs14_4]; decide) (by rw [hs14_4]; decide) (by rw [hs14_4]; rfl) (by decide) ?_
            refine lv_aload_n hx hb dX6_goesBy_86 rfl (lv_at hl 1 rfl) ?_
            refine lv_aload_n hx hb dX6_goesBy_87 rfl (lv_at hl 1 rfl) ?_
            refine va_get (D := E.1) (ci := 6) (v := .ref a_wCell) (C := RX6) (T := TX6) (N := 26) hx hb hts iX6_goesBy_X6 hown hK hP 0 rfl rfl 11 (by decide) (hts (.fieldLink RX6 33 "LeftIsAgreedOnModel" "wCell" "[I") (List.mem_of_getElem? (i := 3) rfl)) (fun _ h9 => h9) rfl dX6_goesBy_88 ?_
            refine lv_iload_n hx hb dX6_goesBy_91 rfl (lv_at hl 2 rfl) ?_
            obtain ⟨hz92, h⟩ := chk_of h
            refine ld_i X hP 3 rfl (inb.vp hz92) (v := (c_wCell (l1).toNatClampNeg)) rfl dX6_goesBy_92 ?_
            obtain ⟨v3, hv3, h⟩ := bind_of h
            refine after_i X (run_V X (c_X6_isShore l E a_t a_now a_refused a_kept a_mind a_tape a_words a_wCell a_wFaces a_wTurns a_wSign a_wBy a_wFell a_telling a_holds a_sizes a_elements a_moved a_above a_out a_first (c_wCell (l1).toNatClampNeg) c_t c_now H.size v3 hv3) (cwV 1 hts gX6_goesBy_X6_isShore rfl rfl rfl hV_X6_isShore ⟨(Nat.le_of_ble_eq_true rfl), (Nat.le_of_ble_eq_true rfl)⟩) hP hD hS [0, 1] rfl rfl hl.1 (ci := 6) rfl rfl rfl (rest := []) rfl rfl (Nat.le_of_ble_eq_true rfl) dX6_goesBy_93) hP hD hS [0, 1] rfl (ws1 := (W_X6_goesBy E a_t a_now a_wBy a_wCell a_wSign a_wTurns a_refused a_kept a_mind a_tape a_words a_wFaces a_wFell a_telling a_holds a_sizes a_elements a_moved a_above a_out a_first c_t c_now c_wBy c_wCell c_wSign c_wTurns)) rfl (fun H locs hP hD hS => ?_)
            refine lv_if_eq (tgt := 106) hx hb dX6_goesBy_96 (by decide) (fun hc96 => ?_) (fun hc96 => ?_)
            · have h := if_t h hc96
              refine lv_iload hx hb dX6_goesBy_106 (lv_at hl 0 rfl) ?_
              obtain rfl := Option.some.inj h
              exact ret_i X dX6_goesBy_108 hP hD hS rfl
            · have h := if_f h hc96
              refine lv_iconst (v := (1 : Int32)) hx hb dX6_goesBy_99 (by decide) ?_
              refine lv_iload hx hb dX6_goesBy_100 (lv_at hl 0 rfl) ?_
              refine lv_isub hx hb dX6_goesBy_102 ?_
              refine lv_goto (tgt := 108) hx hb dX6_goesBy_103 (by decide) ?_
              obtain rfl := Option.some.inj h
              exact ret_i X dX6_goesBy_108 hP hD hS rfl
          · have h := if_f h hs14_4
            refine lv_tableOut (tgt := 109) hx hb dX6_goesBy_14 (tsw_0_4 hs14_0 hs14_1 hs14_2 hs14_3 hs14_4) (by decide) ?_
            refine lv_aload_n hx hb dX6_goesBy_109 rfl (lv_at hl 1 rfl) ?_
            refine va_get (D := E.1) (ci := 6) (v := .ref a_wTurns) (C := RX6) (T := TX6) (N := 26) hx hb hts iX6_goesBy_X6 hown hK hP 0 rfl rfl 13 (by decide) (hts (.fieldLink RX6 39 "LeftIsAgreedOnModel" "wTurns" "[I") (List.mem_of_getElem? (i := 2) rfl)) (fun _ h9 => h9) rfl dX6_goesBy_110 ?_
            refine lv_iload_n hx hb dX6_goesBy_113 rfl (lv_at hl 2 rfl) ?_
            obtain ⟨hz114, h⟩ := chk_of h
            refine ld_i X hP 5 rfl (inb.vp hz114) (v := (c_wTurns (l1).toNatClampNeg)) rfl dX6_goesBy_114 ?_
            refine lv_if_ne (tgt := 123) hx hb dX6_goesBy_115 (by decide) (fun hc115 => ?_) (fun hc115 => ?_)
            · have h := if_f h hc115
              refine lv_aload_n hx hb dX6_goesBy_123 rfl (lv_at hl 1 rfl) ?_
              refine va_get (D := E.1) (ci := 6) (v := .ref a_wSign) (C := RX6) (T := TX6) (N := 26) hx hb hts iX6_goesBy_X6 hown hK hP 0 rfl rfl 14 (by decide) (hts (.fieldLink RX6 42 "LeftIsAgreedOnModel" "wSign" "[I") (List.mem_of_getElem? (i := 4) rfl)) (fun _ h9 => h9) rfl dX6_goesBy_124 ?_
              refine lv_iload_n hx hb dX6_goesBy_127 rfl (lv_at hl 2 rfl) ?_
              obtain ⟨hz128, h⟩ := chk_of h
              refine ld_i X hP 4 rfl (inb.vp hz128) (v := (c_wSign (l1).toNatClampNeg)) rfl dX6_goesBy_128 ?_
              refine lv_iload_n hx hb dX6_goesBy_129 rfl (lv_at hl 4 rfl) ?_
              refine lv_icmp_ne (tgt := 144) hx hb dX6_goesBy_130 (by decide) (fun hc130 => ?_) (fun hc130 => ?_)
              · have h := if_f h hc130
                refine lv_aload_n hx hb dX6_goesBy_144 rfl (lv_at hl 1 rfl) ?_
                refine va_get (D := E.1) (ci := 6) (v := .ref a_wBy) (C := RX6) (T := TX6) (N := 26) hx hb hts iX6_goesBy_X6 hown hK hP 0 rfl rfl 15 (by decide) (hts (.fieldLink RX6 45 "LeftIsAgreedOnModel" "wBy" "[I") (List.mem_of_getElem? (i := 5) rfl)) (fun _ h9 => h9) rfl dX6_goesBy_145 ?_
                refine lv_iload_n hx hb dX6_goesBy_148 rfl (lv_at hl 2 rfl) ?_
                obtain ⟨hz149, h⟩ := chk_of h
                refine ld_i X hP 2 rfl (inb.vp hz149) (v := (c_wBy (l1).toNatClampNeg)) rfl dX6_goesBy_149 ?_
                obtain rfl := Option.some.inj h
                exact ret_i X dX6_goesBy_150 hP hD hS rfl
              · have h := if_t h hc130
                refine lv_iconst (v := (1 : Int32)) hx hb dX6_goesBy_133 (by decide) ?_
                refine lv_aload_n hx hb dX6_goesBy_134 rfl (lv_at hl 1 rfl) ?_
                refine va_get (D := E.1) (ci := 6) (v := .ref a_wBy) (C := RX6) (T := TX6) (N := 26) hx hb hts iX6_goesBy_X6 hown hK hP 0 rfl rfl 15 (by decide) (hts (.fieldLink RX6 45 "LeftIsAgreedOnModel" "wBy" "[I") (List.mem_of_getElem? (i := 5) rfl)) (fun _ h9 => h9) rfl dX6_goesBy_135 ?_
                refine lv_iload_n hx hb dX6_goesBy_138 rfl (lv_at hl 2 rfl) ?_
                obtain ⟨hz139, h⟩ := chk_of h
                refine ld_i X hP 2 rfl (inb.vp hz139) (v := (c_wBy (l1).toNatClampNeg)) rfl dX6_goesBy_139 ?_
                refine lv_isub hx hb dX6_goesBy_140 ?_
                refine lv_goto (tgt := 150) hx hb dX6_goesBy_141 (by decide) ?_
                obtain rfl := Option.some.inj h
                exact ret_i X dX6_goesBy_150 hP hD hS rfl
            · have h := if_t h hc115
              refine lv_iload hx hb dX6_goesBy_118 (lv_at hl 0 rfl) ?_
              refine lv_goto (tgt := 150) hx hb dX6_goesBy_120 (by decide) ?_
              obtain rfl := Option.some.inj h
              exact ret_i X dX6_goesBy_150 hP hD hS rfl
end
set_option maxRecDepth 100000 in
theorem c_X6_goesBy (l : Launch) (E : Env0) (a_t : Nat) (a_now : Nat) (a_wBy : Nat) (a_wCell : Nat) (a_wSign : Nat) (a_wTurns : Nat) (a_refused : Nat) (a_kept : Nat) (a_mind : Nat) (a_tape : Nat) (a_words : Nat) (a_wFaces : Nat) (a_wFell : Nat) (a_telling : Nat) (a_holds : Nat) (a_sizes : Nat) (a_elements : Nat) (a_moved : Nat) (a_above : Nat) (a_out : Nat) (a_first : Nat) (l1 : Int32) (l2 : Int32) (l3 : Int32) (c_t : Nat → Int32) (c_now : Nat → Int32) (c_wBy : Nat → Int32) (c_wCell : Nat → Int32) (c_wSign : Nat → Int32) (c_wTurns : Nat → Int32) (sz : Nat) (res : Int32) (h : f_X6_goesBy l1 l2 l3 c_t c_now c_wBy c_wCell c_wSign c_wTurns = some res) : Met l yX6_goesBy wsX6_goesBy r_X6_goesBy (cPre E [.ref a_t, .int l1, .int l2, .int l3] (W_X6_goesBy E a_t a_now a_wBy a_wCell a_wSign a_wTurns a_refused a_kept a_mind a_tape a_words a_wFaces a_wFell a_telling a_holds a_sizes a_elements a_moved a_above a_out a_first c_t c_now c_wBy c_wCell c_wSign c_wTurns) sz) (qI E (va_A (W_X6_goesBy E a_t a_now a_wBy a_wCell a_wSign a_wTurns a_refused a_kept a_mind a_tape a_words a_wFaces a_wFell a_telling a_holds a_sizes a_elements a_moved a_above a_out a_first c_t c_now c_wBy c_wCell c_wSign c_wTurns) sz) res (W_X6_goesBy E a_t a_now a_wBy a_wCell a_wSign a_wTurns a_refused a_kept a_mind a_tape a_words a_wFaces a_wFell a_telling a_holds a_sizes a_elements a_moved a_above a_out a_first c_t c_now c_wBy c_wCell c_wSign c_wTurns)) 0 0 (va_A (W_X6_goesBy E a_t a_now a_wBy a_wCell a_wSign a_wTurns a_refused a_kept a_mind a_tape a_words a_wFaces a_wFell a_telling a_holds a_sizes a_elements a_moved a_above a_out a_first c_t c_now c_wBy c_wCell c_wSign c_wTurns) sz) :=
  met_of (Qc := fun A => qI E A res (W_X6_goesBy E a_t a_now a_wBy a_wCell a_wSign a_wTurns a_refused a_kept a_mind a_tape a_words a_wFaces a_wFell a_telling a_holds a_sizes a_elements a_moved a_above a_out a_first c_t c_now c_wBy c_wCell c_wSign c_wTurns)) (by decide) rfl (Nat.le_of_ble_eq_true rfl) (fun p e s m args below meth c X hP hD hS ls hl => w_X6_goesBy X a_t a_now a_wBy a_wCell a_wSign a_wTurns a_refused a_kept a_mind a_tape a_words a_wFaces a_wFell a_telling a_holds a_sizes a_elements a_moved a_above a_out a_first c_t c_now c_wBy c_wCell c_wSign c_wTurns res l1 l2 l3 ls _ _ h hP hD hS hl)
