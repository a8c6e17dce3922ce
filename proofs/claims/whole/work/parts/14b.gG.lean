-- ===== X6_swing
noncomputable abbrev W_X6_swing (E : Env0) (a_t : Nat) (a_now : Nat) (a_refused : Nat) (a_kept : Nat) (a_mind : Nat) (a_tape : Nat) (a_words : Nat) (a_wCell : Nat) (a_wFaces : Nat) (a_wTurns : Nat) (a_wSign : Nat) (a_wBy : Nat) (a_wFell : Nat) (a_telling : Nat) (a_holds : Nat) (a_sizes : Nat) (a_elements : Nat) (a_moved : Nat) (a_above : Nat) (a_out : Nat) (a_first : Nat) (c_t : Nat → Int32) (c_now : Nat → Int32) (c_refused : Nat → Int32) : va_W := [(a_t, .inr (6, [.ref a_refused, .ref a_now, .ref a_kept, .ref a_mind, .int (c_t 4), .ref a_tape, .int (c_t 6), .int (c_t 7), .int (c_t 8), .int (c_t 9), .ref a_words, .ref a_wCell, .ref a_wFaces, .ref a_wTurns, .ref a_wSign, .ref a_wBy, .ref a_wFell, .int (c_t 17), .ref a_telling, .ref a_holds, .ref a_sizes, .ref a_elements, .ref a_moved, .ref a_above, .ref a_out, .ref a_first])), (a_now, .inl (eI E, 97, .inl c_now)), (a_refused, .inl (eI E, 7, .inl c_refused))]
noncomputable abbrev r_X6_swing : Room := { frames := 3, cells := 0, slots := 0, locals := 65 }
theorem hd_X6_swing : yX6_swing.cls ≠ "java/lang/invoke/MethodHandle" ∧ yX6_swing.cls ≠ "java/lang/invoke/VarHandle" ∧ (parseMethodDescriptor yX6_swing.desc).map (fun d => d.parameters.length) = some 1 := by decide +kernel
theorem hV_X6_swing : yX6_swing.cls = RX6 ∧ yX6_swing.cls ≠ "java/lang/invoke/MethodHandle" ∧ yX6_swing.cls ≠ "java/lang/invoke/VarHandle" ∧ (parseMethodDescriptor yX6_swing.desc).map (fun d => d.parameters.length) = some 1 := ⟨rfl, hd_X6_swing⟩
section
variable {p : Program} {l : Launch} {e : Env} {s : State} {m : MethodId} {args : Array Value} {below : List Frame} {meth : Method} {c : Code} {E : Env0} {A : Nat → Prop}
set_option maxRecDepth 100000 in
set_option maxHeartbeats 4000000 in
theorem w_X6_swing (X : Ctx p m meth c cX6_swing 4 ((some .int)) s args wsX6_swing RX6 E A) (a_t : Nat) (a_now : Nat) (a_refused : Nat) (a_kept : Nat) (a_mind : Nat) (a_tape : Nat) (a_words : Nat) (a_wCell : Nat) (a_wFaces : Nat) (a_wTurns : Nat) (a_wSign : Nat) (a_wBy : Nat) (a_wFell : Nat) (a_telling : Nat) (a_holds : Nat) (a_sizes : Nat) (a_elements : Nat) (a_moved : Nat) (a_above : Nat) (a_out : Nat) (a_first : Nat) (c_t : Nat → Int32) (res : Int32 × (Nat → Int32) × (Nat → Int32)) (c_now : Nat → Int32) (c_refused : Nat → Int32) (l1 : Int32) (ls : Array Slot) (H : Heap) (locs : List Loc) (h : f_X6_swing l1 c_t c_now c_refused = some res) (hP : va_P E.1 vwCl (W_X6_swing E a_t a_now a_refused a_kept a_mind a_tape a_words a_wCell a_wFaces a_wTurns a_wSign a_wBy a_wFell a_telling a_holds a_sizes a_elements a_moved a_above a_out a_first c_t c_now c_refused) H) (hD : va_D A (W_X6_swing E a_t a_now a_refused a_kept a_mind a_tape a_words a_wCell a_wFaces a_wTurns a_wSign a_wBy a_wFell a_telling a_holds a_sizes a_elements a_moved a_above a_out a_first c_t c_now c_refused)) (hS : va_S A s.heap H locs) (hl : lv_has ls 4 [(0, .ref a_t), (1, .int l1)]) : W p l e r_X6_swing s m args below meth c H locs 0 0 (MQ below (qI E A (res.1) (W_X6_swing E a_t a_now a_refused a_kept a_mind a_tape a_words a_wCell a_wFaces a_wTurns a_wSign a_wBy a_wFell a_telling a_holds a_sizes a_elements a_moved a_above a_out a_first c_t (res.2.1) (res.2.2))) args s 0 0 A) (F0 m 0 ls []) := by
  obtain ⟨hx, hb, hml, hr, hlk, hown, hts, hG, hA⟩ := id X
  have hK := hG.1
  have hN := hG.2.1
  unfold f_X6_swing at h
  refine lv_aload_n hx hb dX6_swing_0 rfl (lv_at hl 0 rfl) ?_
  refine lv_iload_n hx hb dX6_swing_1 rfl (lv_at hl 1 rfl) ?_
  obtain ⟨v1, hv1, h⟩ := bind_of h
  refine after_i X (run_V X (c_X6_isPerson l E a_t a_now a_refused a_kept a_mind a_tape a_words a_wCell a_wFaces a_wTurns a_wSign a_wBy a_wFell a_telling a_holds a_sizes a_elements a_moved a_above a_out a_first l1 c_t c_now H.size v1 hv1) (cwV 1 hts gX6_swing_X6_isPerson rfl rfl rfl hV_X6_isPerson ⟨(Nat.le_of_ble_eq_true rfl), (Nat.le_of_ble_eq_true rfl)⟩) hP hD hS [0, 1] rfl rfl hl.1 (ci := 6) rfl rfl rfl (rest := []) rfl rfl (Nat.le_of_ble_eq_true rfl) dX6_swing_2) hP hD hS [0, 1] rfl (ws1 := (W_X6_swing E a_t a_now a_refused a_kept a_mind a_tape a_words a_wCell a_wFaces a_wTurns a_wSign a_wBy a_wFell a_telling a_holds a_sizes a_elements a_moved a_above a_out a_first c_t c_now c_refused)) rfl (fun H locs hP hD hS => ?_)
  refine lv_if_ne (tgt := 15) hx hb dX6_swing_5 (by decide) (fun hc5 => ?_) (fun hc5 => ?_)
  · have h := if_f h hc5
    refine lv_aload_n hx hb dX6_swing_15 rfl (lv_at hl 0 rfl) ?_
    obtain ⟨v2, hv2, h⟩ := bind_of h
    refine after_i X (run_V X (c_X6_carries l E a_t a_now a_refused a_kept a_mind a_tape a_words a_wCell a_wFaces a_wTurns a_wSign a_wBy a_wFell a_telling a_holds a_sizes a_elements a_moved a_above a_out a_first c_t c_now H.size v2 hv2) (cwV 0 hts gX6_swing_X6_carries rfl rfl rfl hV_X6_carries ⟨(Nat.le_of_ble_eq_true rfl), (Nat.le_of_ble_eq_true rfl)⟩) hP hD hS [0, 1] rfl rfl hl.1 (ci := 6) rfl rfl rfl (rest := []) rfl rfl (Nat.le_of_ble_eq_true rfl) dX6_swing_16) hP hD hS [0, 1] rfl (ws1 := (W_X6_swing E a_t a_now a_refused a_kept a_mind a_tape a_words a_wCell a_wFaces a_wTurns a_wSign a_wBy a_wFell a_telling a_holds a_sizes a_elements a_moved a_above a_out a_first c_t c_now c_refused)) rfl (fun H locs hP hD hS => ?_)
    refine lv_istore_n (lv' := [(2, .int v2), (0, .ref a_t), (1, .int l1)]) hx hb dX6_swing_19 rfl hl (by decide) rfl (fun ls hl => ?_)
    refine lv_aload_n hx hb dX6_swing_20 rfl (lv_at hl 1 rfl) ?_
    refine lv_iconst (v := (1 : Int32)) hx hb dX6_swing_21 (by decide) ?_
    refine lv_iload_n hx hb dX6_swing_22 rfl (lv_at hl 2 rfl) ?_
    refine lv_ishl hx hb dX6_swing_23 ?_
    obtain ⟨v3, hv3, h⟩ := bind_of h
    refine after_v X (run_V X (c_X6_change l E a_t a_now a_refused a_kept a_mind a_tape a_words a_wCell a_wFaces a_wTurns a_wSign a_wBy a_wFell a_telling a_holds a_sizes a_elements a_moved a_above a_out a_first ((1 : Int32) <<< (l1 &&& 31)) c_t c_now H.size v3 hv3) (cwV 1 hts gX6_swing_X6_change rfl rfl rfl hV_X6_change ⟨(Nat.le_of_ble_eq_true rfl), (Nat.le_of_ble_eq_true rfl)⟩) hP hD hS [0, 1] rfl rfl hl.1 (ci := 6) rfl rfl rfl (rest := []) rfl rfl (Nat.le_of_ble_eq_true rfl) dX6_swing_24) hP hD hS [0, 1] rfl (ws1 := (W_X6_swing E a_t a_now a_refused a_kept a_mind a_tape a_words a_wCell a_wFaces a_wTurns a_wSign a_wBy a_wFell a_telling a_holds a_sizes a_elements a_moved a_above a_out a_first c_t v3 c_refused)) rfl (fun H locs hP hD hS => ?_)
    refine lv_aload_n hx hb dX6_swing_27 rfl (lv_at hl 1 rfl) ?_
    obtain ⟨v4, hv4, h⟩ := bind_of h
    refine after_i X (run_V X (c_X6_carries l E a_t a_now a_refused a_kept a_mind a_tape a_words a_wCell a_wFaces a_wTurns a_wSign a_wBy a_wFell a_telling a_holds a_sizes a_elements a_moved a_above a_out a_first c_t v3 H.size v4 hv4) (cwV 0 hts gX6_swing_X6_carries rfl rfl rfl hV_X6_carries ⟨(Nat.le_of_ble_eq_true rfl), (Nat.le_of_ble_eq_true rfl)⟩) hP hD hS [0, 1] rfl rfl hl.1 (ci := 6) rfl rfl rfl (rest := []) rfl rfl (Nat.le_of_ble_eq_true rfl) dX6_swing_28) hP hD hS [0, 1] rfl (ws1 := (W_X6_swing E a_t a_now a_refused a_kept a_mind a_tape a_words a_wCell a_wFaces a_wTurns a_wSign a_wBy a_wFell a_telling a_holds a_sizes a_elements a_moved a_above a_out a_first c_t v3 c_refused)) rfl (fun H locs hP hD hS => ?_)
    refine lv_istore_n (lv' := [(3, .int v4), (2, .int v2), (0, .ref a_t), (1, .int l1)]) hx hb dX6_swing_31 rfl hl (by decide) rfl (fun ls hl => ?_)
    refine lv_aload_n hx hb dX6_swing_32 rfl (lv_at hl 2 rfl) ?_
    refine lv_iconst (v := (1 : Int32)) hx hb dX6_swing_33 (by decide) ?_
    refine lv_iload_n hx hb dX6_swing_34 rfl (lv_at hl 3 rfl) ?_
    refine lv_ishl hx hb dX6_swing_35 ?_
    obtain ⟨v5, hv5, h⟩ := bind_of h
    refine after_v X (run_V X (c_X6_change l E a_t a_now a_refused a_kept a_mind a_tape a_words a_wCell a_wFaces a_wTurns a_wSign a_wBy a_wFell a_telling a_holds a_sizes a_elements a_moved a_above a_out a_first ((1 : Int32) <<< (l1 &&& 31)) c_t v3 H.size v5 hv5) (cwV 1 hts gX6_swing_X6_change rfl rfl rfl hV_X6_change ⟨(Nat.le_of_ble_eq_true rfl), (Nat.le_of_ble_eq_true rfl)⟩) hP hD hS [0, 1] rfl rfl hl.1 (ci := 6) rfl rfl rfl (rest := []) rfl rfl (Nat.le_of_ble_eq_true rfl) dX6_swing_36) hP hD hS [0, 1] rfl (ws1 := (W_X6_swing E a_t a_now a_refused a_kept a_mind a_tape a_words a_wCell a_wFaces a_wTurns a_wSign a_wBy a_wFell a_telling a_holds a_sizes a_elements a_moved a_above a_out a_first c_t v5 c_refused)) rfl (fun H locs hP hD hS => ?_)
    refine lv_iload_n hx hb dX6_swing_39 rfl (lv_at hl 1 rfl) ?_
    refine lv_iload_n hx hb dX6_swing_40 rfl (lv_at hl 0 rfl) ?_
    refine lv_icmp_ne (tgt := 48) hx hb dX6_swing_41 (by decide) (fun hc41 => ?_) (fun hc41 => ?_)
    · have h := if_f h hc41
      refine lv_iconst (v := (1 : Int32)) hx hb dX6_swing_48 (by decide) ?_
      obtain rfl := Option.some.inj h
      exact ret_i X dX6_swing_49 hP hD hS rfl
    · have h := if_t h hc41
      refine lv_iconst (v := (0 : Int32)) hx hb dX6_swing_44 (by decide) ?_
      refine lv_goto (tgt := 49) hx hb dX6_swing_45 (by decide) ?_
      obtain rfl := Option.some.inj h
      exact ret_i X dX6_swing_49 hP hD hS rfl
  · have h := if_t h hc5
    refine lv_aload_n hx hb dX6_swing_8 rfl (lv_at hl 0 rfl) ?_
    refine lv_bipush (v := (-2 : Int32)) hx hb dX6_swing_9 (by decide) ?_
    obtain ⟨v6, hv6, h⟩ := bind_of h
    refine after_i X (run_V X (c_X6_refuse l E a_t a_refused a_now a_kept a_mind a_tape a_words a_wCell a_wFaces a_wTurns a_wSign a_wBy a_wFell a_telling a_holds a_sizes a_elements a_moved a_above a_out a_first (-2 : Int32) c_t c_refused H.size v6 hv6) (cwV 1 hts gX6_swing_X6_refuse rfl rfl rfl hV_X6_refuse ⟨(Nat.le_of_ble_eq_true rfl), (Nat.le_of_ble_eq_true rfl)⟩) hP hD hS [0, 2] rfl rfl hl.1 (ci := 6) rfl rfl rfl (rest := []) rfl rfl (Nat.le_of_ble_eq_true rfl) dX6_swing_11) hP hD hS [0, 2] rfl (ws1 := (W_X6_swing E a_t a_now a_refused a_kept a_mind a_tape a_words a_wCell a_wFaces a_wTurns a_wSign a_wBy a_wFell a_telling a_holds a_sizes a_elements a_moved a_above a_out a_first c_t c_now (v6.2))) rfl (fun H locs hP hD hS => ?_)
    obtain rfl := Option.some.inj h
    exact ret_i X dX6_swing_14 hP hD hS rfl
end
set_option maxRecDepth 100000 in
theorem c_X6_swing (l : Launch) (E : Env0) (a_t : Nat) (a_now : Nat) (a_refused : Nat) (a_kept : Nat) (a_mind : Nat) (a_tape : Nat) (a_words : Nat) (a_wCell : Nat) (a_wFaces : Nat) (a_wTurns : Nat) (a_wSign : Nat) (a_wBy : Nat) (a_wFell : Nat) (a_telling : Nat) (a_holds : Nat) (a_sizes : Nat) (a_elements : Nat) (a_moved : Nat) (a_above : Nat) (a_out : Nat) (a_first : Nat) (l1 : Int32) (c_t : Nat → Int32) (c_now : Nat → Int32) (c_refused : Nat → Int32) (sz : Nat) (res : Int32 × (Nat → Int32) × (Nat → Int32)) (h : f_X6_swing l1 c_t c_now c_refused = some res) : Met l yX6_swing wsX6_swing r_X6_swing (cPre E [.ref a_t, .int l1] (W_X6_swing E a_t a_now a_refused a_kept a_mind a_tape a_words a_wCell a_wFaces a_wTurns a_wSign a_wBy a_wFell a_telling a_holds a_sizes a_elements a_moved a_above a_out a_first c_t c_now c_refused) sz) (qI E (va_A (W_X6_swing E a_t a_now a_refused a_kept a_mind a_tape a_words a_wCell a_wFaces a_wTurns a_wSign a_wBy a_wFell a_telling a_holds a_sizes a_elements a_moved a_above a_out a_first c_t c_now c_refused) sz) (res.1) (W_X6_swing E a_t a_now a_refused a_kept a_mind a_tape a_words a_wCell a_wFaces a_wTurns a_wSign a_wBy a_wFell a_telling a_holds a_sizes a_elements a_moved a_above a_out a_first c_t (res.2.1) (res.2.2))) 0 0 (va_A (W_X6_swing E a_t a_now a_refused a_kept a_mind a_tape a_words a_wCell a_wFaces a_wTurns a_wSign a_wBy a_wFell a_telling a_holds a_sizes a_elements a_moved a_above a_out a_first c_t c_now c_refused) sz) :=
  met_of (Qc := fun A => qI E A (res.1) (W_X6_swing E a_t a_now a_refused a_kept a_mind a_tape a_words a_wCell a_wFaces a_wTurns a_wSign a_wBy a_wFell a_telling a_holds a_sizes a_elements a_moved a_above a_out a_first c_t (res.2.1) (res.2.2))) (by decide) rfl (Nat.le_of_ble_eq_true rfl) (fun p e s m args below meth c X hP hD hS ls hl => w_X6_swing X a_t a_now a_refused a_kept a_mind a_tape a_words a_wCell a_wFaces a_wTurns a_wSign a_wBy a_wFell a_telling a_holds a_sizes a_elements a_moved a_above a_out a_first c_t res c_now c_refused l1 ls _ _ h hP hD hS hl)
-- ===== X6_ones
noncomputable abbrev W_X6_ones (E : Env0) : va_W := []
noncomputable abbrev r_X6_ones : Room := { frames := 0, cells := 0, slots := 0, locals := 0 }
theorem hd_X6_ones : yX6_ones.cls ≠ "java/lang/invoke/MethodHandle" ∧ yX6_ones.cls ≠ "java/lang/invoke/VarHandle" ∧ (parseMethodDescriptor yX6_ones.desc).map (fun d => d.parameters.length) = some 1 := by decide +kernel
section
variable {p : Program} {l : Launch} {e : Env} {s : State} {m : MethodId} {args : Array Value} {below : List Frame} {meth : Method} {c : Code} {E : Env0} {A : Nat → Prop}
set_option maxRecDepth 100000 in
set_option maxHeartbeats 4000000 in
theorem w_X6_ones_b4 (X : Ctx p m meth c cX6_ones 3 ((some .int)) s args wsX6_ones RX6 E A) (res : Int32) : ∀ (n : Nat) (l0 : Int32) (l1 : Int32) (l2 : Int32) (ls : Array Slot) (H : Heap) (locs : List Loc), f_X6_ones_b4 n l0 l1 l2 = some res → va_P E.1 vwCl (W_X6_ones E) H → va_D A (W_X6_ones E) → va_S A s.heap H locs → lv_has ls 3 [(0, .int l0), (1, .int l1), (2, .int l2)] → W p l e r_X6_ones s m args below meth c H locs 0 0 (MQ below (qI E A res (W_X6_ones E)) args s 0 0 A) (F0 m 4 ls []) := by
  obtain ⟨hx, hb, hml, hr, hlk, hown, hts, hG, hA⟩ := id X
  have hK := hG.1
  have hN := hG.2.1
  intro n
  induction n with
  | zero =>
    intro l0 l1 l2 ls H locs h
    exact absurd (show (none : Option (Int32)) = some res from h) (by intro q; cases q)
  | succ n ih =>
    intro l0 l1 l2 ls H locs h hP hD hS hl
    rw [f_X6_ones_b4] at h
    refine lv_iload_n hx hb dX6_ones_4 rfl (lv_at hl 2 rfl) ?_
    refine lv_bipush (v := (8 : Int32)) hx hb dX6_ones_5 (by decide) ?_
    refine lv_icmp_ge (tgt := 24) hx hb dX6_ones_7 (by decide) (fun hc7 => ?_) (fun hc7 => ?_)
    · have h := if_t h hc7
      refine lv_iload_n hx hb dX6_ones_24 rfl (lv_at hl 1 rfl) ?_
      obtain rfl := Option.some.inj h
      exact ret_i X dX6_ones_25 hP hD hS rfl
    · have h := if_f h hc7
      refine lv_iload_n hx hb dX6_ones_10 rfl (lv_at hl 1 rfl) ?_
      refine lv_iload_n hx hb dX6_ones_11 rfl (lv_at hl 0 rfl) ?_
      refine lv_iload_n hx hb dX6_ones_12 rfl (lv_at hl 2 rfl) ?_
      refine lv_ishr hx hb dX6_ones_13 ?_
      refine lv_iconst (v := (1 : Int32)) hx hb dX6_ones_14 (by decide) ?_
      refine lv_iand hx hb dX6_ones_15 ?_
      refine lv_iadd hx hb dX6_ones_16 ?_
      refine lv_istore_n (lv' := [(1, .int (l1 + ((l0 >>> (l2 &&& 31)) &&& (1 : Int32)))), (0, .int l0), (2, .int l2)]) hx hb dX6_ones_17 rfl hl (by decide) rfl (fun ls hl => ?_)
      refine lv_iinc (v := (l2 + (1 : Int32))) (lv' := [(2, .int (l2 + (1 : Int32))), (1, .int (l1 + ((l0 >>> (l2 &&& 31)) &&& (1 : Int32)))), (0, .int l0)]) hx hb dX6_ones_18 hl (k := 2) rfl rfl (by decide) rfl (fun ls hl => ?_)
      refine lv_goto (tgt := 4) hx hb dX6_ones_21 (by decide) ?_
      exact ih l0 (l1 + ((l0 >>> (l2 &&& 31)) &&& (1 : Int32))) (l2 + (1 : Int32)) _ _ _ h hP hD hS (lv_sub hl [2, 1, 0] rfl)
set_option maxRecDepth 100000 in
set_option maxHeartbeats 4000000 in
theorem w_X6_ones (X : Ctx p m meth c cX6_ones 3 ((some .int)) s args wsX6_ones RX6 E A) (res : Int32) (l0 : Int32) (ls : Array Slot) (H : Heap) (locs : List Loc) (h : f_X6_ones l0 = some res) (hP : va_P E.1 vwCl (W_X6_ones E) H) (hD : va_D A (W_X6_ones E)) (hS : va_S A s.heap H locs) (hl : lv_has ls 3 [(0, .int l0)]) : W p l e r_X6_ones s m args below meth c H locs 0 0 (MQ below (qI E A res (W_X6_ones E)) args s 0 0 A) (F0 m 0 ls []) := by
  obtain ⟨hx, hb, hml, hr, hlk, hown, hts, hG, hA⟩ := id X
  have hK := hG.1
  have hN := hG.2.1
  unfold f_X6_ones at h
  refine lv_iconst (v := (0 : Int32)) hx hb dX6_ones_0 (by decide) ?_
  refine lv_istore_n (lv' := [(1, .int (0 : Int32)), (0, .int l0)]) hx hb dX6_ones_1 rfl hl (by decide) rfl (fun ls hl => ?_)
  refine lv_iconst (v := (0 : Int32)) hx hb dX6_ones_2 (by decide) ?_
  refine lv_istore_n (lv' := [(2, .int (0 : Int32)), (1, .int (0 : Int32)), (0, .int l0)]) hx hb dX6_ones_3 rfl hl (by decide) rfl (fun ls hl => ?_)
  exact w_X6_ones_b4 X res FU l0 (0 : Int32) (0 : Int32) _ _ _ h hP hD hS (lv_sub hl [2, 1, 0] rfl)
end
set_option maxRecDepth 100000 in
theorem c_X6_ones (l : Launch) (E : Env0) (l0 : Int32) (sz : Nat) (res : Int32) (h : f_X6_ones l0 = some res) : Met l yX6_ones wsX6_ones r_X6_ones (cPre E [.int l0] (W_X6_ones E) sz) (qI E (va_A (W_X6_ones E) sz) res (W_X6_ones E)) 0 0 (va_A (W_X6_ones E) sz) :=
  met_of (Qc := fun A => qI E A res (W_X6_ones E)) (by decide) rfl (Nat.le_of_ble_eq_true rfl) (fun p e s m args below meth c X hP hD hS ls hl => w_X6_ones X res l0 ls _ _ h hP hD hS hl)
-- ===== X6_turn
noncomputable abbrev W_X6_turn (E : Env0) (a_t : Nat) (a_now : Nat) (a_refused : Nat) (a_kept : Nat) (a_mind : Nat) (a_tape : Nat) (a_words : Nat) (a_wCell : Nat) (a_wFaces : Nat) (a_wTurns : Nat) (a_wSign : Nat) (a_wBy : Nat) (a_wFell : Nat) (a_telling : Nat) (a_holds : Nat) (a_sizes : Nat) (a_elements : Nat) (a_moved : Nat) (a_above : Nat) (a_out : Nat) (a_first : Nat) (c_t : Nat → Int32) (c_now : Nat → Int32) (c_refused : Nat → Int32) : va_W := [(a_t, .inr (6, [.ref a_refused, .ref a_now, .ref a_kept, .ref a_mind, .int (c_t 4), .ref a_tape, .int (c_t 6), .int (c_t 7), .int (c_t 8), .int (c_t 9), .ref a_words, .ref a_wCell, .ref a_wFaces, .ref a_wTurns, .ref a_wSign, .ref a_wBy, .ref a_wFell, .int (c_t 17), .ref a_telling, .ref a_holds, .ref a_sizes, .ref a_elements, .ref a_moved, .ref a_above, .ref a_out, .ref a_first])), (a_now, .inl (eI E, 97, .inl c_now)), (a_refused, .inl (eI E, 7, .inl c_refused))]
noncomputable abbrev r_X6_turn : Room := { frames := 3, cells := 0, slots := 0, locals := 65 }
theorem hd_X6_turn : yX6_turn.cls ≠ "java/lang/invoke/MethodHandle" ∧ yX6_turn.cls ≠ "java/lang/invoke/VarHandle" ∧ (parseMethodDescriptor yX6_turn.desc).map (fun d => d.parameters.length) = some 1 := by decide +kernel
theorem hV_X6_turn : yX6_turn.cls = RX6 ∧ yX6_turn.cls ≠ "java/lang/invoke/MethodHandle" ∧ yX6_turn.cls ≠ "java/lang/invoke/VarHandle" ∧ (parseMethodDescriptor yX6_turn.desc).map (fun d => d.parameters.length) = some 1 := ⟨rfl, hd_X6_turn⟩
section
variable {p : Program} {l : Launch} {e : Env} {s : State} {m : MethodId} {args : Array Value} {below : List Frame} {meth : Method} {c : Code} {E : Env0} {A : Nat → Prop}
set_option maxRecDepth 100000 in
set_option maxHeartbeats 4000000 in
theorem w_X6_turn_b93 (X : Ctx p m meth c cX6_turn 6 ((some .int)) s args wsX6_turn RX6 E A) (a_t : Nat) (a_now : Nat) (a_refused : Nat) (a_kept : Nat) (a_mind : Nat) (a_tape : Nat) (a_words : Nat) (a_wCell : Nat) (a_wFaces : Nat) (a_wTurns : Nat) (a_wSign : Nat) (a_wBy : Nat) (a_wFell : Nat) (a_telling : Nat) (a_holds : Nat) (a_sizes : Nat) (a_elements : Nat) (a_moved : Nat) (a_above : Nat) (a_out : Nat) (a_first : Nat) (c_t : Nat → Int32) (res : Int32 × (Nat → Int32) × (Nat → Int32)) (k27 : (Nat → Int32) → (Nat → Int32) → Int32 → Int32 → Int32 → Int32 → Option (Int32 × (Nat → Int32) × (Nat → Int32))) (hk27 : ∀ (c_now : Nat → Int32) (c_refused : Nat → Int32) (l1 : Int32) (l2 : Int32) (l3 : Int32) (l4 : Int32) (ls : Array Slot) (H : Heap) (locs : List Loc), k27 c_now c_refused l1 l2 l3 l4 = some res → va_P E.1 vwCl (W_X6_turn E a_t a_now a_refused a_kept a_mind a_tape a_words a_wCell a_wFaces a_wTurns a_wSign a_wBy a_wFell a_telling a_holds a_sizes a_elements a_moved a_above a_out a_first c_t c_now c_refused) H → va_D A (W_X6_turn E a_t a_now a_refused a_kept a_mind a_tape a_words a_wCell a_wFaces a_wTurns a_wSign a_wBy a_wFell a_telling a_holds a_sizes a_elements a_moved a_above a_out a_first c_t c_now c_refused) → va_S A s.heap H locs → lv_has ls 6 [(0, .ref a_t), (1, .int l1), (2, .int l2), (3, .int l3), (4, .int l4)] → W p l e r_X6_turn s m args below meth c H locs 0 0 (MQ below (qI E A (res.1) (W_X6_turn E a_t a_now a_refused a_kept a_mind a_tape a_words a_wCell a_wFaces a_wTurns a_wSign a_wBy a_wFell a_telling a_holds a_sizes a_elements a_moved a_above a_out a_first c_t (res.2.1) (res.2.2))) args s 0 0 A) (F0 m 27 ls [])) (c_now : Nat → Int32) (c_refused : Nat → Int32) (l1 : Int32) (l2 : Int32) (l4 : Int32) (s0 : Int32) (ls : Array Slot) (H : Heap) (locs : List Loc) (h : f_X6_turn_b93 c_t k27 c_now c_refused l1 l2 l4 s0 = some res) (hP : va_P E.1 vwCl (W_X6_turn E a_t a_now a_refused a_kept a_mind a_tape a_words a_wCell a_wFaces a_wTurns a_wSign a_wBy a_wFell a_telling a_holds a_sizes a_elements a_moved a_above a_out a_first c_t c_now c_refused) H) (hD : va_D A (W_X6_turn E a_t a_now a_refused a_kept a_mind a_tape a_words a_wCell a_wFaces a_wTurns a_wSign a_wBy a_wFell a_telling a_holds a_sizes a_elements a_moved a_above a_out a_first c_t c_now c_refused)) (hS : va_S A s.heap H locs) (hl : lv_has ls 6 [(0, .ref a_t), (1, .int l1), (2, .int l2), (4, .int l4)]) : W p l e r_X6_turn s m args below meth c H locs 0 0 (MQ below (qI E A (res.1) (W_X6_turn E a_t a_now a_refused a_kept a_mind a_tape a_words a_wCell a_wFaces a_wTurns a_wSign a_wBy a_wFell a_telling a_holds a_sizes a_elements a_moved a_above a_out a_first c_t (res.2.1) (res.2.2))) args s 0 0 A) (F0 m 93 ls [.int s0]) := by
  obtain ⟨hx, hb, hml, hr, hlk, hown, hts, hG, hA⟩ := id X
  have hK := hG.1
  have hN := hG.2.1
  unfold f_X6_turn_b93 at h
  refine lv_istore_n (lv' := [(3, .int s0), (0, .ref a_t), (1, .int l1), (2, .int l2), (4, .int l4)]) hx hb dX6_turn_93 rfl hl (by decide) rfl (fun ls hl => ?_)
  refine lv_iinc (v := (l4 + (1 : Int32))) (lv' := [(4, .int (l4 + (1 : Int32))), (3, .int s0), (0, .ref a_t), (1, .int l1), (2, .int l2)]) hx hb dX6_turn_94 hl (k := 4) rfl rfl (by decide) rfl (fun ls hl => ?_)
  refine lv_goto (tgt := 27) hx hb dX6_turn_97 (by decide) ?_
  exact hk27 c_now c_refused l1 l2 s0 (l4 + (1 : Int32)) _ _ _ h hP hD hS (lv_sub hl [2, 3, 4, 1, 0] rfl)
set_option maxRecDepth 100000 in
set_option maxHeartbeats 4000000 in
theorem w_X6_turn_b87 (X : Ctx p m meth c cX6_turn 6 ((some .int)) s args wsX6_turn RX6 E A) (a_t : Nat) (a_now : Nat) (a_refused : Nat) (a_kept : Nat) (a_mind : Nat) (a_tape : Nat) (a_words : Nat) (a_wCell : Nat) (a_wFaces : Nat) (a_wTurns : Nat) (a_wSign : Nat) (a_wBy : Nat) (a_wFell : Nat) (a_telling : Nat) (a_holds : Nat) (a_sizes : Nat) (a_elements : Nat) (a_moved : Nat) (a_above : Nat) (a_out : Nat) (a_first : Nat) (c_t : Nat → Int32) (res : Int32 × (Nat → Int32) × (Nat → Int32)) (k27 : (Nat → Int32) → (Nat → Int32) → Int32 → Int32 → Int32 → Int32 → Option (Int32 × (Nat → Int32) × (Nat → Int32))) (hk27 : ∀ (c_now : Nat → Int32) (c_refused : Nat → Int32) (l1 : Int32) (l2 : Int32) (l3 : Int32) (l4 : Int32) (ls : Array Slot) (H : Heap) (locs : List Loc), k27 c_now c_refused l1 l2 l3 l4 = some res → va_P E.1 vwCl (W_X6_turn E a_t a_now a_refused a_kept a_mind a_tape a_words a_wCell a_wFaces a_wTurns a_wSign a_wBy a_wFell a_telling a_holds a_sizes a_elements a_moved a_above a_out a_first c_t c_now c_refused) H → va_D A (W_X6_turn E a_t a_now a_refused a_kept a_mind a_tape a_words a_wCell a_wFaces a_wTurns a_wSign a_wBy a_wFell a_telling a_holds a_sizes a_elements a_moved a_above a_out a_first c_t c_now c_refused) → va_S A s.heap H locs → lv_has ls 6 [(0, .ref a_t), (1, .int l1), (2, .int l2), (3, .int l3), (4, .int l4)] → W p l e r_X6_turn s m args below meth c H locs 0 0 (MQ below (qI E A (res.1) (W_X6_turn E a_t a_now a_refused a_kept a_mind a_tape a_words a_wCell a_wFaces a_wTurns a_wSign a_wBy a_wFell a_telling a_holds a_sizes a_elements a_moved a_above a_out a_first c_t (res.2.1) (res.2.2))) args s 0 0 A) (F0 m 27 ls [])) (c_now : Nat → Int32) (c_refused : Nat → Int32) (l1 : Int32) (l2 : Int32) (l4 : Int32) (ls : Array Slot) (H : Heap) (locs : List Loc) (h : f_X6_turn_b87 c_t k27 c_now c_refused l1 l2 l4 = some res) (hP : va_P E.1 vwCl (W_X6_turn E a_t a_now a_refused a_kept a_mind a_tape a_words a_wCell a_wFaces a_wTurns a_wSign a_wBy a_wFell a_telling a_holds a_sizes a_elements a_moved a_above a_out a_first c_t c_now c_refused) H) (hD : va_D A (W_X6_turn E a_t a_now a_refused a_kept a_mind a_tape a_words a_wCell a_wFaces a_wTurns a_wSign a_wBy a_wFell a_telling a_holds a_sizes a_elements a_moved a_above a_out a_first c_t c_now c_refused)) (hS : va_S A s.heap H locs) (hl : lv_has ls 6 [(0, .ref a_t), (1, .int l1), (2, .int l2), (4, .int l4)]) : W p l e r_X6_turn s m args below meth c H locs 0 0 (MQ below (qI E A (res.1) (W_X6_turn E a_t a_now a_refused a_kept a_mind a_tape a_words a_wCell a_wFaces a_wTurns a_wSign a_wBy a_wFell a_telling a_holds a_sizes a_elements a_moved a_above a_out a_first c_t (res.2.1) (res.2.2))) args s 0 0 A) (F0 m 87 ls []) := by
  obtain ⟨hx, hb, hml, hr, hlk, hown, hts, hG, hA⟩ := id X
  have hK := hG.1
  have hN := hG.2.1
  unfold f_X6_turn_b87 at h
  refine lv_iload hx hb dX6_turn_87 (lv_at hl 3 rfl) ?_
  refine lv_goto (tgt := 93) hx hb dX6_turn_89 (by decide) ?_
  exact w_X6_turn_b93 X a_t a_now a_refused a_kept a_mind a_tape a_words a_wCell a_wFaces a_wTurns a_wSign a_wBy a_wFell a_telling a_holds a_sizes a_elements a_moved a_above a_out a_first c_t res k27 hk27 c_now c_refused l1 l2 l4 l4 _ _ _ h hP hD hS (lv_sub hl [0, 1, 2, 3] rfl)
set_option maxRecDepth 100000 in
set_option maxHeartbeats 4000000 in
theorem w_X6_turn_b92 (X : Ctx p m meth c cX6_turn 6 ((some .int)) s args wsX6_turn RX6 E A) (a_t : Nat) (a_now : Nat) (a_refused : Nat) (a_kept : Nat) (a_mind : Nat) (a_tape : Nat) (a_words : Nat) (a_wCell : Nat) (a_wFaces : Nat) (a_wTurns : Nat) (a_wSign : Nat) (a_wBy : Nat) (a_wFell : Nat) (a_telling : Nat) (a_holds : Nat) (a_sizes : Nat) (a_elements : Nat) (a_moved : Nat) (a_above : Nat) (a_out : Nat) (a_first : Nat) (c_t : Nat → Int32) (res : Int32 × (Nat → Int32) × (Nat → Int32)) (k27 : (Nat → Int32) → (Nat → Int32) → Int32 → Int32 → Int32 → Int32 → Option (Int32 × (Nat → Int32) × (Nat → Int32))) (hk27 : ∀ (c_now : Nat → Int32) (c_refused : Nat → Int32) (l1 : Int32) (l2 : Int32) (l3 : Int32) (l4 : Int32) (ls : Array Slot) (H : Heap) (locs : List Loc), k27 c_now c_refused l1 l2 l3 l4 = some res → va_P E.1 vwCl (W_X6_turn E a_t a_now a_refused a_kept a_mind a_tape a_words a_wCell a_wFaces a_wTurns a_wSign a_wBy a_wFell a_telling a_holds a_sizes a_elements a_moved a_above a_out a_first c_t c_now c_refused) H → va_D A (W_X6_turn E a_t a_now a_refused a_kept a_mind a_tape a_words a_wCell a_wFaces a_wTurns a_wSign a_wBy a_wFell a_telling a_holds a_sizes a_elements a_moved a_above a_out a_first c_t c_now c_refused) → va_S A s.heap H locs → lv_has ls 6 [(0, .ref a_t), (1, .int l1), (2, .int l2), (3, .int l3), (4, .int l4)] → W p l e r_X6_turn s m args below meth c H locs 0 0 (MQ below (qI E A (res.1) (W_X6_turn E a_t a_now a_refused a_kept a_mind a_tape a_words a_wCell a_wFaces a_wTurns a_wSign a_wBy a_wFell a_telling a_holds a_sizes a_elements a_moved a_above a_out a_first c_t (res.2.1) (res.2.2))) args s 0 0 A) (F0 m 27 ls [])) (c_now : Nat → Int32) (c_refused : Nat → Int32) (l1 : Int32) (l2 : Int32) (l3 : Int32) (l4 : Int32) (ls : Array Slot) (H : Heap) (locs : List Loc) (h : f_X6_turn_b92 c_t k27 c_now c_refused l1 l2 l3 l4 = some res) (hP : va_P E.1 vwCl (W_X6_turn E a_t a_now a_refused a_kept a_mind a_tape a_words a_wCell a_wFaces a_wTurns a_wSign a_wBy a_wFell a_telling a_holds a_sizes a_elements a_moved a_above a_out a_first c_t c_now c_refused) H) (hD : va_D A (W_X6_turn E a_t a_now a_refused a_kept a_mind a_tape a_words a_wCell a_wFaces a_wTurns a_wSign a_wBy a_wFell a_telling a_holds a_sizes a_elements a_moved a_above a_out a_first c_t c_now c_refused)) (hS : va_S A s.heap H locs) (hl : lv_has ls 6 [(0, .ref a_t), (1, .int l1), (2, .int l2), (3, .int l3), (4, .int l4)]) : W p l e r_X6_turn s m args below meth c H locs 0 0 (MQ below (qI E A (res.1) (W_X6_turn E a_t a_now a_refused a_kept a_mind a_tape a_words a_wCell a_wFaces a_wTurns a_wSign a_wBy a_wFell a_telling a_holds a_sizes a_elements a_moved a_above a_out a_first c_t (res.2.1) (res.2.2))) args s 0 0 A) (F0 m 92 ls []) := by
  obtain ⟨hx, hb, hml, hr, hlk, hown, hts, hG, hA⟩ := id X
  have hK := hG.1
  have hN := hG.2.1
  unfold f_X6_turn_b92 at h
  refine lv_iload_n hx hb dX6_turn_92 rfl (lv_at hl 3 rfl) ?_
  exact w_X6_turn_b93 X a_t a_now a_refused a_kept a_mind a_tape a_words a_wCell a_wFaces a_wTurns a_wSign a_wBy a_wFell a_telling a_holds a_sizes a_elements a_moved a_above a_out a_first c_t res k27 hk27 c_now c_refused l1 l2 l4 l3 _ _ _ h hP hD hS (lv_sub hl [0, 1, 2, 4] rfl)
set_option maxRecDepth 100000 in
set_option maxHeartbeats 4000000 in
theorem w_X6_turn_b57 (X : Ctx p m meth c cX6_turn 6 ((some .int)) s args wsX6_turn RX6 E A) (a_t : Nat) (a_now : Nat) (a_refused : Nat) (a_kept : Nat) (a_mind : Nat) (a_tape : Nat) (a_words : Nat) (a_wCell : Nat) (a_wFaces : Nat) (a_wTurns : Nat) (a_wSign : Nat) (a_wBy : Nat) (a_wFell : Nat) (a_telling : Nat) (a_holds : Nat) (a_sizes : Nat) (a_elements : Nat) (a_moved : Nat) (a_above : Nat) (a_out : Nat) (a_first : Nat) (c_t : Nat → Int32) (res : Int32 × (Nat → Int32) × (Nat → Int32)) (k27 : (Nat → Int32) → (Nat → Int32) → Int32 → Int32 → Int32 → Int32 → Option (Int32 × (Nat → Int32) × (Nat → Int32))) (hk27 : ∀ (c_now : Nat → Int32) (c_refused : Nat → Int32) (l1 : Int32) (l2 : Int32) (l3 : Int32) (l4 : Int32) (ls : Array Slot) (H : Heap) (locs : List Loc), k27 c_now c_refused l1 l2 l3 l4 = some res → va_P E.1 vwCl (W_X6_turn E a_t a_now a_refused a_kept a_mind a_tape a_words a_wCell a_wFaces a_wTurns a_wSign a_wBy a_wFell a_telling a_holds a_sizes a_elements a_moved a_above a_out a_first c_t c_now c_refused) H → va_D A (W_X6_turn E a_t a_now a_refused a_kept a_mind a_tape a_words a_wCell a_wFaces a_wTurns a_wSign a_wBy a_wFell a_telling a_holds a_sizes a_elements a_moved a_above a_out a_first c_t c_now c_refused) → va_S A s.heap H locs → lv_has ls 6 [(0, .ref a_t), (1, .int l1), (2, .int l2), (3, .int l3), (4, .int l4)] → W p l e r_X6_turn s m args below meth c H locs 0 0 (MQ below (qI E A (res.1) (W_X6_turn E a_t a_now a_refused a_kept a_mind a_tape a_words a_wCell a_wFaces a_wTurns a_wSign a_wBy a_wFell a_telling a_holds a_sizes a_elements a_moved a_above a_out a_first c_t (res.2.1) (res.2.2))) args s 0 0 A) (F0 m 27 ls [])) (c_now : Nat → Int32) (c_refused : Nat → Int32) (l1 : Int32) (l2 : Int32) (l3 : Int32) (l4 : Int32) (s0 : Int32) (ls : Array Slot) (H : Heap) (locs : List Loc) (h : f_X6_turn_b57 c_t k27 c_now c_refused l1 l2 l3 l4 s0 = some res) (hP : va_P E.1 vwCl (W_X6_turn E a_t a_now a_refused a_kept a_mind a_tape a_words a_wCell a_wFaces a_wTurns a_wSign a_wBy a_wFell a_telling a_holds a_sizes a_elements a_moved a_above a_out a_first c_t c_now c_refused) H) (hD : va_D A (W_X6_turn E a_t a_now a_refused a_kept a_mind a_tape a_words a_wCell a_wFaces a_wTurns a_wSign a_wBy a_wFell a_telling a_holds a_sizes a_elements a_moved a_above a_out a_first c_t c_now c_refused)) (hS : va_S A s.heap H locs) (hl : lv_has ls 6 [(0, .ref a_t), (1, .int l1), (2, .int l2), (3, .int l3), (4, .int l4)]) : W p l e r_X6_turn s m args below meth c H locs 0 0 (MQ below (qI E A (res.1) (W_X6_turn E a_t a_now a_refused a_kept a_mind a_tape a_words a_wCell a_wFaces a_wTurns a_wSign a_wBy a_wFell a_telling a_holds a_sizes a_elements a_moved a_above a_out a_first c_t (res.2.1) (res.2.2))) args s 0 0 A) (F0 m 57 ls [.int s0]) := by
  obtain ⟨hx, hb, hml, hr, hlk, hown, hts, hG, hA⟩ := id X
  have hK := hG.1
  have hN := hG.2.1
  unfold f_X6_turn_b57 at h
  refine lv_istore (lv' := [(5, .int s0), (0, .ref a_t), (1, .int l1), (2, .int l2), (3, .int l3), (4, .int l4)]) hx hb dX6_turn_57 hl (by decide) rfl (fun ls hl => ?_)
  refine lv_aload_n hx hb dX6_turn_59 rfl (lv_at hl 1 rfl) ?_
  refine lv_iload hx hb dX6_turn_60 (lv_at hl 5 rfl) ?_
  obtain ⟨v1, hv1, h⟩ := bind_of h
  refine after_v X (run_V X (c_X6_change l E a_t a_now a_refused a_kept a_mind a_tape a_words a_wCell a_wFaces a_wTurns a_wSign a_wBy a_wFell a_telling a_holds a_sizes a_elements a_moved a_above a_out a_first l4 c_t c_now H.size v1 hv1) (cwV 1 hts gX6_turn_X6_change rfl rfl rfl hV_X6_change ⟨(Nat.le_of_ble_eq_true rfl), (Nat.le_of_ble_eq_true rfl)⟩) hP hD hS [0, 1] rfl rfl hl.1 (ci := 6) rfl rfl rfl (rest := []) rfl rfl (Nat.le_of_ble_eq_true rfl) dX6_turn_62) hP hD hS [0, 1] rfl (ws1 := (W_X6_turn E a_t a_now a_refused a_kept a_mind a_tape a_words a_wCell a_wFaces a_wTurns a_wSign a_wBy a_wFell a_telling a_holds a_sizes a_elements a_moved a_above a_out a_first c_t v1 c_refused)) rfl (fun H locs hP hD hS => ?_)
  refine lv_iload hx hb dX6_turn_65 (lv_at hl 0 rfl) ?_
  refine lv_if_eq (tgt := 92) hx hb dX6_turn_67 (by decide) (fun hc67 => ?_) (fun hc67 => ?_)
  · have h := if_t h hc67
    exact w_X6_turn_b92 X a_t a_now a_refused a_kept a_mind a_tape a_words a_wCell a_wFaces a_wTurns a_wSign a_wBy a_wFell a_telling a_holds a_sizes a_elements a_moved a_above a_out a_first c_t res k27 hk27 v1 c_refused l1 l2 l3 l4 _ _ _ h hP hD hS (lv_sub hl [1, 2, 3, 4, 5] rfl)
  · have h := if_f h hc67
    refine lv_iload_n hx hb dX6_turn_70 rfl (lv_at hl 4 rfl) ?_
    refine lv_iconst (v := (-1 : Int32)) hx hb dX6_turn_71 (by decide) ?_
    refine lv_icmp_eq (tgt := 87) hx hb dX6_turn_72 (by decide) (fun hc72 => ?_) (fun hc72 => ?_)
    · have h := if_t h hc72
      exact w_X6_turn_b87 X a_t a_now a_refused a_kept a_mind a_tape a_words a_wCell a_wFaces a_wTurns a_wSign a_wBy a_wFell a_telling a_holds a_sizes a_elements a_moved a_above a_out a_first c_t res k27 hk27 v1 c_refused l1 l2 l4 _ _ _ h hP hD hS (lv_sub hl [1, 2, 3, 5] rfl)
    · have h := if_f h hc72
      refine lv_iload hx hb dX6_turn_75 (lv_at hl 5 rfl) ?_
      obtain ⟨v2, hv2, h⟩ := bind_of h
      refine after_i X (run_S X (c_X6_ones l E l4 H.size v2 hv2) (va_cwS 1 hts gX6_turn_X6_ones rfl rfl rfl hd_X6_ones ⟨(Nat.le_of_ble_eq_true rfl), (Nat.le_of_ble_eq_true rfl)⟩) hP hD hS [] rfl rfl hl.1 (rest := []) rfl rfl (Nat.le_of_ble_eq_true rfl) dX6_turn_77) hP hD hS [] rfl (ws1 := (W_X6_turn E a_t a_now a_refused a_kept a_mind a_tape a_words a_wCell a_wFaces a_wTurns a_wSign a_wBy a_wFell a_telling a_holds a_sizes a_elements a_moved a_above a_out a_first c_t v1 c_refused)) rfl (fun H locs hP hD hS => ?_)
      refine lv_iload_n hx hb dX6_turn_80 rfl (lv_at hl 4 rfl) ?_
      obtain ⟨v3, hv3, h⟩ := bind_of h
      refine after_i X (run_S X (c_X6_ones l E l3 H.size v3 hv3) (va_cwS 1 hts gX6_turn_X6_ones rfl rfl rfl hd_X6_ones ⟨(Nat.le_of_ble_eq_true rfl), (Nat.le_of_ble_eq_true rfl)⟩) hP hD hS [] rfl rfl hl.1 (rest := [.int v2]) rfl rfl (Nat.le_of_ble_eq_true rfl) dX6_turn_81) hP hD hS [] rfl (ws1 := (W_X6_turn E a_t a_now a_refused a_kept a_mind a_tape a_words a_wCell a_wFaces a_wTurns a_wSign a_wBy a_wFell a_telling a_holds a_sizes a_elements a_moved a_above a_out a_first c_t v1 c_refused)) rfl (fun H locs hP hD hS => ?_)
      refine lv_icmp_ge (tgt := 92) hx hb dX6_turn_84 (by decide) (fun hc84 => ?_) (fun hc84 => ?_)
      · have h := if_t h hc84
        exact w_X6_turn_b92 X a_t a_now a_refused a_kept a_mind a_tape a_words a_wCell a_wFaces a_wTurns a_wSign a_wBy a_wFell a_telling a_holds a_sizes a_elements a_moved a_above a_out a_first c_t res k27 hk27 v1 c_refused l1 l2 l3 l4 _ _ _ h hP hD hS (lv_sub hl [1, 2, 3, 4, 5] rfl)
      · have h := if_f h hc84
        exact w_X6_turn_b87 X a_t a_now a_refused a_kept a_mind a_tape a_words a_wCell a_wFaces a_wTurns a_wSign a_wBy a_wFell a_telling a_holds a_sizes a_elements a_moved a_above a_out a_first c_t res k27 hk27 v1 c_refused l1 l2 l4 _ _ _ h hP hD hS (lv_sub hl [1, 2, 3, 5] rfl)
set_option maxRecDepth 100000 in
set_option maxHeartbeats 4000000 in
theorem w_X6_turn_b27 (X : Ctx p m meth c cX6_turn 6 ((some .int)) s args wsX6_turn RX6 E A) (a_t : Nat) (a_now : Nat) (a_refused : Nat) (a_kept : Nat) (a_mind : Nat) (a_tape : Nat) (a_words : Nat) (a_wCell : Nat) (a_wFaces : Nat) (a_wTurns : Nat) (a_wSign : Nat) (a_wBy : Nat) (a_wFell : Nat) (a_telling : Nat) (a_holds : Nat) (a_sizes : Nat) (a_elements : Nat) (a_moved : Nat) (a_above : Nat) (a_out : Nat) (a_first : Nat) (c_t : Nat → Int32) (res : Int32 × (Nat → Int32) × (Nat → Int32)) : ∀ (n : Nat) (c_now : Nat → Int32) (c_refused : Nat → Int32) (l1 : Int32) (l2 : Int32) (l3 : Int32) (l4 : Int32) (ls : Array Slot) (H : Heap) (locs : List Loc), f_X6_turn_b27 c_t n c_now c_refused l1 l2 l3 l4 = some res → va_P E.1 vwCl (W_X6_turn E a_t a_now a_refused a_kept a_mind a_tape a_words a_wCell a_wFaces a_wTurns a_wSign a_wBy a_wFell a_telling a_holds a_sizes a_elements a_moved a_above a_out a_first c_t c_now c_refused) H → va_D A (W_X6_turn E a_t a_now a_refused a_kept a_mind a_tape a_words a_wCell a_wFaces a_wTurns a_wSign a_wBy a_wFell a_telling a_holds a_sizes a_elements a_moved a_above a_out a_first c_t c_now c_refused) → va_S A s.heap H locs → lv_has ls 6 [(0, .ref a_t), (1, .int l1), (2, .int l2), (3, .int l3), (4, .int l4)] → W p l e r_X6_turn s m args below meth c H locs 0 0 (MQ below (qI E A (res.1) (W_X6_turn E a_t a_now a_refused a_kept a_mind a_tape a_words a_wCell a_wFaces a_wTurns a_wSign a_wBy a_wFell a_telling a_holds a_sizes a_elements a_moved a_above a_out a_first c_t (res.2.1) (res.2.2))) args s 0 0 A) (F0 m 27 ls []) := by
  obtain ⟨hx, hb, hml, hr, hlk, hown, hts, hG, hA⟩ := id X
  have hK := hG.1
  have hN := hG.2.1
  intro n
  induction n with
  | zero =>
    intro c_now c_refused l1 l2 l3 l4 ls H locs h
    exact absurd (show (none : Option (Int32 × (Nat → Int32) × (Nat → Int32))) = some res from h) (by intro q; cases q)
  | succ n ih =>
    intro c_now c_refused l1 l2 l3 l4 ls H locs h hP hD hS hl
    rw [f_X6_turn_b27] at h
    refine lv_iload hx hb dX6_turn_27 (lv_at hl 4 rfl) ?_
    refine lv_iconst (v := (1 : Int32)) hx hb dX6_turn_29 (by decide) ?_
    refine lv_aload_n hx hb dX6_turn_30 rfl (lv_at hl 0 rfl) ?_
    obtain ⟨v1, hv1, h⟩ := bind_of h
    refine after_i X (run_V X (c_X6_many l E a_t a_now a_refused a_kept a_mind a_tape a_words a_wCell a_wFaces a_wTurns a_wSign a_wBy a_wFell a_telling a_holds a_sizes a_elements a_moved a_above a_out a_first c_t c_now H.size v1 hv1) (cwV 0 hts gX6_turn_X6_many rfl rfl rfl hV_X6_many ⟨(Nat.le_of_ble_eq_true rfl), (Nat.le_of_ble_eq_true rfl)⟩) hP hD hS [0, 1] rfl rfl hl.1 (ci := 6) rfl rfl rfl (rest := [.int (1 : Int32), .int l4]) rfl rfl (Nat.le_of_ble_eq_true rfl) dX6_turn_31) hP hD hS [0, 1] rfl (ws1 := (W_X6_turn E a_t a_now a_refused a_kept a_mind a_tape a_words a_wCell a_wFaces a_wTurns a_wSign a_wBy a_wFell a_telling a_holds a_sizes a_elements a_moved a_above a_out a_first c_t c_now c_refused)) rfl (fun H locs hP hD hS => ?_)
    refine lv_ishl hx hb dX6_turn_34 ?_
    refine lv_icmp_ge (tgt := 100) hx hb dX6_turn_35 (by decide) (fun hc35 => ?_) (fun hc35 => ?_)
    · have h := if_t h hc35
      refine lv_iload_n hx hb dX6_turn_100 rfl (lv_at hl 3 rfl) ?_
      refine lv_iconst (v := (-1 : Int32)) hx hb dX6_turn_101 (by decide) ?_
      refine lv_icmp_ne (tgt := 109) hx hb dX6_turn_102 (by decide) (fun hc102 => ?_) (fun hc102 => ?_)
      · have h := if_f h hc102
        refine lv_iload_n hx hb dX6_turn_109 rfl (lv_at hl 1 rfl) ?_
        refine lv_if_ne (tgt := 120) hx hb dX6_turn_110 (by decide) (fun hc110 => ?_) (fun hc110 => ?_)
        · have h := if_f h hc110
          refine lv_iload_n hx hb dX6_turn_120 rfl (lv_at hl 3 rfl) ?_
          obtain rfl := Option.some.inj h
          exact ret_i X dX6_turn_121 hP hD hS rfl
        · have h := if_t h hc110
          refine lv_iload_n hx hb dX6_turn_113 rfl (lv_at hl 3 rfl) ?_
          obtain ⟨v2, hv2, h⟩ := bind_of h
          refine after_i X (run_S X (c_X6_ones l E l3 H.size v2 hv2) (va_cwS 1 hts gX6_turn_X6_ones rfl rfl rfl hd_X6_ones ⟨(Nat.le_of_ble_eq_true rfl), (Nat.le_of_ble_eq_true rfl)⟩) hP hD hS [] rfl rfl hl.1 (rest := []) rfl rfl (Nat.le_of_ble_eq_true rfl) dX6_turn_114) hP hD hS [] rfl (ws1 := (W_X6_turn E a_t a_now a_refused a_kept a_mind a_tape a_words a_wCell a_wFaces a_wTurns a_wSign a_wBy a_wFell a_telling a_holds a_sizes a_elements a_moved a_above a_out a_first c_t c_now c_refused)) rfl (fun H locs hP hD hS => ?_)
          refine lv_goto (tgt := 121) hx hb dX6_turn_117 (by decide) ?_
          obtain rfl := Option.some.inj h
          exact ret_i X dX6_turn_121 hP hD hS rfl
      · have h := if_t h hc102
        refine lv_iconst (v := (-1 : Int32)) hx hb dX6_turn_105 (by decide) ?_
        refine lv_goto (tgt := 121) hx hb dX6_turn_106 (by decide) ?_
        obtain rfl := Option.some.inj h
        exact ret_i X dX6_turn_121 hP hD hS rfl
    · have h := if_f h hc35
      refine lv_aload_n hx hb dX6_turn_38 rfl (lv_at hl 0 rfl) ?_
      refine lv_iload hx hb dX6_turn_39 (lv_at hl 4 rfl) ?_
      obtain ⟨v3, hv3, h⟩ := bind_of h
      refine after_v X (run_V X (c_X6_change l E a_t a_now a_refused a_kept a_mind a_tape a_words a_wCell a_wFaces a_wTurns a_wSign a_wBy a_wFell a_telling a_holds a_sizes a_elements a_moved a_above a_out a_first l4 c_t c_now H.size v3 hv3) (cwV 1 hts gX6_turn_X6_change rfl rfl rfl hV_X6_change ⟨(Nat.le_of_ble_eq_true rfl), (Nat.le_of_ble_eq_true rfl)⟩) hP hD hS [0, 1] rfl rfl hl.1 (ci := 6) rfl rfl rfl (rest := []) rfl rfl (Nat.le_of_ble_eq_true rfl) dX6_turn_41) hP hD hS [0, 1] rfl (ws1 := (W_X6_turn E a_t a_now a_refused a_kept a_mind a_tape a_words a_wCell a_wFaces a_wTurns a_wSign a_wBy a_wFell a_telling a_holds a_sizes a_elements a_moved a_above a_out a_first c_t v3 c_refused)) rfl (fun H locs hP hD hS => ?_)
      refine lv_aload_n hx hb dX6_turn_44 rfl (lv_at hl 0 rfl) ?_
      obtain ⟨v4, hv4, h⟩ := bind_of h
      refine after_i X (run_V X (c_X6_carries l E a_t a_now a_refused a_kept a_mind a_tape a_words a_wCell a_wFaces a_wTurns a_wSign a_wBy a_wFell a_telling a_holds a_sizes a_elements a_moved a_above a_out a_first c_t v3 H.size v4 hv4) (cwV 0 hts gX6_turn_X6_carries rfl rfl rfl hV_X6_carries ⟨(Nat.le_of_ble_eq_true rfl), (Nat.le_of_ble_eq_true rfl)⟩) hP hD hS [0, 1] rfl rfl hl.1 (ci := 6) rfl rfl rfl (rest := []) rfl rfl (Nat.le_of_ble_eq_true rfl) dX6_turn_45) hP hD hS [0, 1] rfl (ws1 := (W_X6_turn E a_t a_now a_refused a_kept a_mind a_tape a_words a_wCell a_wFaces a_wTurns a_wSign a_wBy a_wFell a_telling a_holds a_sizes a_elements a_moved a_above a_out a_first c_t v3 c_refused)) rfl (fun H locs hP hD hS => ?_)
      refine lv_iload_n hx hb dX6_turn_48 rfl (lv_at hl 2 rfl) ?_
      refine lv_icmp_eq (tgt := 56) hx hb dX6_turn_49 (by decide) (fun hc49 => ?_) (fun hc49 => ?_)
      · have h := if_t h hc49
        refine lv_iconst (v := (0 : Int32)) hx hb dX6_turn_56 (by decide) ?_
        exact w_X6_turn_b57 X a_t a_now a_refused a_kept a_mind a_tape a_words a_wCell a_wFaces a_wTurns a_wSign a_wBy a_wFell a_telling a_holds a_sizes a_elements a_moved a_above a_out a_first c_t res (f_X6_turn_b27 c_t n) ih v3 c_refused l1 l2 l3 l4 (0 : Int32) _ _ _ h hP hD hS (lv_sub hl [0, 1, 2, 3, 4] rfl)
      · have h := if_f h hc49
        refine lv_iconst (v := (1 : Int32)) hx hb dX6_turn_52 (by decide) ?_
        refine lv_goto (tgt := 57) hx hb dX6_turn_53 (by decide) ?_
        exact w_X6_turn_b57 X a_t a_now a_refused a_kept a_mind a_tape a_words a_wCell a_wFaces a_wTurns a_wSign a_wBy a_wFell a_telling a_holds a_sizes a_elements a_moved a_above a_out a_first c_t res (f_X6_turn_b27 c_t n) ih v3 c_refused l1 l2 l3 l4 (1 : Int32) _ _ _ h hP hD hS (lv_sub hl [0, 1, 2, 3, 4] rfl)
set_option maxRecDepth 100000 in
set_option maxHeartbeats 4000000 in
theorem w_X6_turn (X : Ctx p m meth c cX6_turn 6 ((some .int)) s args wsX6_turn RX6 E A) (a_t : Nat) (a_now : Nat) (a_refused : Nat) (a_kept : Nat) (a_mind : Nat) (a_tape : Nat) (a_words : Nat) (a_wCell : Nat) (a_wFaces : Nat) (a_wTurns : Nat) (a_wSign : Nat) (a_wBy : Nat) (a_wFell : Nat) (a_telling : Nat) (a_holds : Nat) (a_sizes : Nat) (a_elements : Nat) (a_moved : Nat) (a_above : Nat) (a_out : Nat) (a_first : Nat) (c_t : Nat → Int32) (res : Int32 × (Nat → Int32) × (Nat → Int32)) (c_now : Nat → Int32) (c_refused : Nat → Int32) (l1 : Int32) (ls : Array Slot) (H : Heap) (locs : List Loc) (h : f_X6_turn l1 c_t c_now c_refused = some res) (hP : va_P E.1 vwCl (W_X6_turn E a_t a_now a_refused a_kept a_mind a_tape a_words a_wCell a_wFaces a_wTurns a_wSign a_wBy a_wFell a_telling a_holds a_sizes a_elements a_moved a_above a_out a_first c_t c_now c_refused) H) (hD : va_D A (W_X6_turn E a_t a_now a_refused a_kept a_mind a_tape a_words a_wCell a_wFaces a_wTurns a_wSign a_wBy a_wFell a_telling a_holds a_sizes a_elements a_moved a_above a_out a_first c_t c_now c_refused)) (hS : va_S A s.heap H locs) (hl : lv_has ls 6 [(0, .ref a_t), (1, .int l1)]) : W p l e r_X6_turn s m args below meth c H locs 0 0 (MQ below (qI E A (res.1) (W_X6_turn E a_t a_now a_refused a_kept a_mind a_tape a_words a_wCell a_wFaces a_wTurns a_wSign a_wBy a_wFell a_telling a_holds a_sizes a_elements a_moved a_above a_out a_first c_t (res.2.1) (res.2.2))) args s 0 0 A) (F0 m 0 ls []) := by
  obtain ⟨hx, hb, hml, hr, hlk, hown, hts, hG, hA⟩ := id X
  have hK := hG.1
  have hN := hG.2.1
  unfold f_X6_turn at h
  refine lv_iload_n hx hb dX6_turn_0 rfl (lv_at hl 1 rfl) ?_
  refine lv_i2l (v := (l1.toInt64)) hx hb dX6_turn_1 rfl ?_
  refine lv_lconst (v := (0 : Int64)) hx hb dX6_turn_2 (by decide) ?_
  refine lv_lconst (v := (1 : Int64)) hx hb dX6_turn_3 (by decide) ?_
  obtain ⟨v1, hv1, h⟩ := bind_of h
  refine after_i X (run_S X (c_X6_isIn l E (l1.toInt64) (0 : Int64) (1 : Int64) H.size v1 hv1) (va_cwS 3 hts gX6_turn_X6_isIn rfl rfl rfl hd_X6_isIn ⟨(Nat.le_of_ble_eq_true rfl), (Nat.le_of_ble_eq_true rfl)⟩) hP hD hS [] rfl rfl hl.1 (rest := []) rfl rfl (Nat.le_of_ble_eq_true rfl) dX6_turn_4) hP hD hS [] rfl (ws1 := (W_X6_turn E a_t a_now a_refused a_kept a_mind a_tape a_words a_wCell a_wFaces a_wTurns a_wSign a_wBy a_wFell a_telling a_holds a_sizes a_elements a_moved a_above a_out a_first c_t c_now c_refused)) rfl (fun H locs hP hD hS => ?_)
  refine lv_if_ne (tgt := 17) hx hb dX6_turn_7 (by decide) (fun hc7 => ?_) (fun hc7 => ?_)
  · have h := if_f h hc7
    refine lv_aload_n hx hb dX6_turn_17 rfl (lv_at hl 0 rfl) ?_
    obtain ⟨v2, hv2, h⟩ := bind_of h
    refine after_i X (run_V X (c_X6_carries l E a_t a_now a_refused a_kept a_mind a_tape a_words a_wCell a_wFaces a_wTurns a_wSign a_wBy a_wFell a_telling a_holds a_sizes a_elements a_moved a_above a_out a_first c_t c_now H.size v2 hv2) (cwV 0 hts gX6_turn_X6_carries rfl rfl rfl hV_X6_carries ⟨(Nat.le_of_ble_eq_true rfl), (Nat.le_of_ble_eq_true rfl)⟩) hP hD hS [0, 1] rfl rfl hl.1 (ci := 6) rfl rfl rfl (rest := []) rfl rfl (Nat.le_of_ble_eq_true rfl) dX6_turn_18) hP hD hS [0, 1] rfl (ws1 := (W_X6_turn E a_t a_now a_refused a_kept a_mind a_tape a_words a_wCell a_wFaces a_wTurns a_wSign a_wBy a_wFell a_telling a_holds a_sizes a_elements a_moved a_above a_out a_first c_t c_now c_refused)) rfl (fun H locs hP hD hS => ?_)
    refine lv_istore_n (lv' := [(2, .int v2), (0, .ref a_t), (1, .int l1)]) hx hb dX6_turn_21 rfl hl (by decide) rfl (fun ls hl => ?_)
    refine lv_iconst (v := (-1 : Int32)) hx hb dX6_turn_22 (by decide) ?_
    refine lv_istore_n (lv' := [(3, .int (-1 : Int32)), (2, .int v2), (0, .ref a_t), (1, .int l1)]) hx hb dX6_turn_23 rfl hl (by decide) rfl (fun ls hl => ?_)
    refine lv_iconst (v := (1 : Int32)) hx hb dX6_turn_24 (by decide) ?_
    refine lv_istore (lv' := [(4, .int (1 : Int32)), (3, .int (-1 : Int32)), (2, .int v2), (0, .ref a_t), (1, .int l1)]) hx hb dX6_turn_25 hl (by decide) rfl (fun ls hl => ?_)
    exact w_X6_turn_b27 X a_t a_now a_refused a_kept a_mind a_tape a_words a_wCell a_wFaces a_wTurns a_wSign a_wBy a_wFell a_telling a_holds a_sizes a_elements a_moved a_above a_out a_first c_t res FU c_now c_refused l1 v2 (-1 : Int32) (1 : Int32) _ _ _ h hP hD hS (lv_sub hl [3, 4, 2, 1, 0] rfl)
  · have h := if_t h hc7
    refine lv_aload_n hx hb dX6_turn_10 rfl (lv_at hl 0 rfl) ?_
    refine lv_bipush (v := (-2 : Int32)) hx hb dX6_turn_11 (by decide) ?_
    obtain ⟨v3, hv3, h⟩ := bind_of h
    refine after_i X (run_V X (c_X6_refuse l E a_t a_refused a_now a_kept a_mind a_tape a_words a_wCell a_wFaces a_wTurns a_wSign a_wBy a_wFell a_telling a_holds a_sizes a_elements a_moved a_above a_out a_first (-2 : Int32) c_t c_refused H.size v3 hv3) (cwV 1 hts gX6_turn_X6_refuse rfl rfl rfl hV_X6_refuse ⟨(Nat.le_of_ble_eq_true rfl), (Nat.le_of_ble_eq_true rfl)⟩) hP hD hS [0, 2] rfl rfl hl.1 (ci := 6) rfl rfl rfl (rest := []) rfl rfl (Nat.le_of_ble_eq_true rfl) dX6_turn_13) hP hD hS [0, 2] rfl (ws1 := (W_X6_turn E a_t a_now a_refused a_kept a_mind a_tape a_words a_wCell a_wFaces a_wTurns a_wSign a_wBy a_wFell a_telling a_holds a_sizes a_elements a_moved a_above a_out a_first c_t c_now (v3.2))) rfl (fun H locs hP hD hS => ?_)
    obtain rfl := Option.some.inj h
    exact ret_i X dX6_turn_16 hP hD hS rfl
end
set_option maxRecDepth 100000 in
theorem c_X6_turn (l : Launch) (E : Env0) (a_t : Nat) (a_now : Nat) (a_refused : Nat) (a_kept : Nat) (a_mind : Nat) (a_tape : Nat) (a_words : Nat) (a_wCell : Nat) (a_wFaces : Nat) (a_wTurns : Nat) (a_wSign : Nat) (a_wBy : Nat) (a_wFell : Nat) (a_telling : Nat) (a_holds : Nat) (a_sizes : Nat) (a_elements : Nat) (a_moved : Nat) (a_above : Nat) (a_out : Nat) (a_first : Nat) (l1 : Int32) (c_t : Nat → Int32) (c_now : Nat → Int32) (c_refused : Nat → Int32) (sz : Nat) (res : Int32 × (Nat → Int32) × (Nat → Int32)) (h : f_X6_turn l1 c_t c_now c_refused = some res) : Met l yX6_turn wsX6_turn r_X6_turn (cPre E [.ref a_t, .int l1] (W_X6_turn E a_t a_now a_refused a_kept a_mind a_tape a_words a_wCell a_wFaces a_wTurns a_wSign a_wBy a_wFell a_telling a_holds a_sizes a_elements a_moved a_above a_out a_first c_t c_now c_refused) sz) (qI E (va_A (W_X6_turn E a_t a_now a_refused a_kept a_mind a_tape a_words a_wCell a_wFaces a_wTurns a_wSign a_wBy a_wFell a_telling a_holds a_sizes a_elements a_moved a_above a_out a_first c_t c_now c_refused) sz) (res.1) (W_X6_turn E a_t a_now a_refused a_kept a_mind a_tape a_words a_wCell a_wFaces a_wTurns a_wSign a_wBy a_wFell a_telling a_holds a_sizes a_elements a_moved a_above a_out a_first c_t (res.2.1) (res.2.2))) 0 0 (va_A (W_X6_turn E a_t a_now a_refused a_kept a_mind a_tape a_words a_wCell a_wFaces a_wTurns a_wSign a_wBy a_wFell a_telling a_holds a_sizes a_elements a_moved a_above a_out a_first c_t c_now c_refused) sz) :=
  met_of (Qc := fun A => qI E A (res.1) (W_X6_turn E a_t a_now a_refused a_kept a_mind a_tape a_words a_wCell a_wFaces a_wTurns a_wSign a_wBy a_wFell a_telling a_holds a_sizes a_elements a_moved a_above a_out a_first c_t (res.2.1) (res.2.2))) (by decide) rfl (Nat.le_of_ble_eq_true rfl) (fun p e s m args below meth c X hP hD hS ls hl => w_X6_turn X a_t a_now a_refused a_kept a_mind a_tape a_words a_wCell a_wFaces a_wTurns a_wSign a_wBy a_wFell a_telling a_holds a_sizes a_elements a_moved a_above a_out a_first c_t res c_now c_refused l1 ls _ _ h hP hD hS hl)
-- ===== X6_agreed
noncomputable abbrev W_X6_agreed (E : Env0) (a_t : Nat) (a_now : Nat) (a_wBy : Nat) (a_wCell : Nat) (a_wFaces : Nat) (a_wFell : Nat) (a_wSign : Nat) (a_wTurns : Nat) (a_refused : Nat) (a_kept : Nat) (a_mind : Nat) (a_tape : Nat) (a_words : Nat) (a_telling : Nat) (a_holds : Nat) (a_sizes : Nat) (a_elements : Nat) (a_moved : Nat) (a_above : Nat) (a_out : Nat) (a_first : Nat) (c_t : Nat → Int32) (c_now : Nat → Int32) (c_wBy : Nat → Int32) (c_wCell : Nat → Int32) (c_wFaces : Nat → Int32) (c_wFell : Nat → Int32) (c_wSign : Nat → Int32) (c_wTurns : Nat → Int32) : va_W := [(a_t, .inr (6, [.ref a_refused, .ref a_now, .ref a_kept, .ref a_mind, .int (c_t 4), .ref a_tape, .int (c_t 6), .int (c_t 7), .int (c_t 8), .int (c_t 9), .ref a_words, .ref a_wCell, .ref a_wFaces, .ref a_wTurns, .ref a_wSign, .ref a_wBy, .ref a_wFell, .int (c_t 17), .ref a_telling, .ref a_holds, .ref a_sizes, .ref a_elements, .ref a_moved, .ref a_above, .ref a_out, .ref a_first])), (a_now, .inl (eI E, 97, .inl c_now)), (a_wBy, .inl (eI E, 2, .inl c_wBy)), (a_wCell, .inl (eI E, 2, .inl c_wCell)), (a_wFaces, .inl (eI E, 2, .inl c_wFaces)), (a_wFell, .inl (eI E, 2, .inl c_wFell)), (a_wSign, .inl (eI E, 2, .inl c_wSign)), (a_wTurns, .inl (eI E, 2, .inl c_wTurns))]
noncomputable abbrev r_X6_agreed : Room := { frames := 4, cells := 0, slots := 0, locals := 97 }
theorem hd_X6_agreed : yX6_agreed.cls ≠ "java/lang/invoke/MethodHandle" ∧ yX6_agreed.cls ≠ "java/lang/invoke/VarHandle" ∧ (parseMethodDescriptor yX6_agreed.desc).map (fun d => d.parameters.length) = some 0 := by decide +kernel
theorem hV_X6_agreed : yX6_agreed.cls = RX6 ∧ yX6_agreed.cls ≠ "java/lang/invoke/MethodHandle" ∧ yX6_agreed.cls ≠ "java/lang/invoke/VarHandle" ∧ (parseMethodDescriptor yX6_agreed.desc).map (fun d => d.parameters.length) = some 0 := ⟨rfl, hd_X6_agreed⟩
theorem iX6_agreed_X6 : ∀ w ∈ wsX60, w ∈ wsX6_agreed := fun _ h => List.mem_cons_of_mem _ (List.mem_append_right _ (h))
section
variable {p : Program} {l : Launch} {e : Env} {s : State} {m : MethodId} {args : Array Value} {below : List Frame} {meth : Method} {c : Code} {E : Env0} {A : Nat → Prop}
set_option maxRecDepth 100000 in
set_option maxHeartbeats 4000000 in
theorem w_X6_agreed_b52 (X : Ctx p m meth c cX6_agreed 3 ((some .int)) s args wsX6_agreed RX6 E A) (a_t : Nat) (a_now : Nat) (a_wBy : Nat) (a_wCell : Nat) (a_wFaces : Nat) (a_wFell : Nat) (a_wSign : Nat) (a_wTurns : Nat) (a_refused : Nat) (a_kept : Nat) (a_mind : Nat) (a_tape : Nat) (a_words : Nat) (a_telling : Nat) (a_holds : Nat) (a_sizes : Nat) (a_elements : Nat) (a_moved : Nat) (a_above : Nat) (a_out : Nat) (a_first : Nat) (c_t : Nat → Int32) (c_now : Nat → Int32) (c_wBy : Nat → Int32) (c_wSign : Nat → Int32) (res : Int32 × (Nat → Int32) × (Nat → Int32) × (Nat → Int32) × (Nat → Int32)) (k4 : (Nat → Int32) → (Nat → Int32) → (Nat → Int32) → (Nat → Int32) → Int32 → Int32 → Option (Int32 × (Nat → Int32) × (Nat → Int32) × (Nat → Int32) × (Nat → Int32))) (hk4 : ∀ (c_wCell : Nat → Int32) (c_wFaces : Nat → Int32) (c_wFell : Nat → Int32) (c_wTurns : Nat → Int32) (l1 : Int32) (l2 : Int32) (ls : Array Slot) (H : Heap) (locs : List Loc), k4 c_wCell c_wFaces c_wFell c_wTurns l1 l2 = some res → va_P E.1 vwCl (W_X6_agreed E a_t a_now a_wBy a_wCell a_wFaces a_wFell a_wSign a_wTurns a_refused a_kept a_mind a_tape a_words a_telling a_holds a_sizes a_elements a_moved a_above a_out a_first c_t c_now c_wBy c_wCell c_wFaces c_wFell c_wSign c_wTurns) H → va_D A (W_X6_agreed E a_t a_now a_wBy a_wCell a_wFaces a_wFell a_wSign a_wTurns a_refused a_kept a_mind a_tape a_words a_telling a_holds a_sizes a_elements a_moved a_above a_out a_first c_t c_now c_wBy c_wCell c_wFaces c_wFell c_wSign c_wTurns) → va_S A s.heap H locs → lv_has ls 3 [(0, .ref a_t), (1, .int l1), (2, .int l2)] → W p l e r_X6_agreed s m args below meth c H locs 0 0 (MQ below (qI E A (res.1) (W_X6_agreed E a_t a_now a_wBy a_wCell a_wFaces a_wFell a_wSign a_wTurns a_refused a_kept a_mind a_tape a_words a_telling a_holds a_sizes a_elements a_moved a_above a_out a_first c_t c_now c_wBy (res.2.1) (res.2.2.1) (res.2.2.2.1) c_wSign (res.2.2.2.2))) args s 0 0 A) (F0 m 4 ls [])) (c_wCell : Nat → Int32) (c_wFaces : Nat → Int32) (c_wFell : Nat → Int32) (c_wTurns : Nat → Int32) (l2 : Int32) (s0 : Int32) (s1 : Int32) (ls : Array Slot) (H : Heap) (locs : List Loc) (h : f_X6_agreed_b52 c_t c_now c_wBy c_wSign k4 c_wCell c_wFaces c_wFell c_wTurns l2 s0 s1 = some res) (hP : va_P E.1 vwCl (W_X6_agreed E a_t a_now a_wBy a_wCell a_wFaces a_wFell a_wSign a_wTurns a_refused a_kept a_mind a_tape a_words a_telling a_holds a_sizes a_elements a_moved a_above a_out a_first c_t c_now c_wBy c_wCell c_wFaces c_wFell c_wSign c_wTurns) H) (hD : va_D A (W_X6_agreed E a_t a_now a_wBy a_wCell a_wFaces a_wFell a_wSign a_wTurns a_refused a_kept a_mind a_tape a_words a_telling a_holds a_sizes a_elements a_moved a_above a_out a_first c_t c_now c_wBy c_wCell c_wFaces c_wFell c_wSign c_wTurns)) (hS : va_S A s.heap H locs) (hl : lv_has ls 3 [(0, .ref a_t), (2, .int l2)]) : W p l e r_X6_agreed s m args below meth c H locs 0 0 (MQ below (qI E A (res.1) (W_X6_agreed E a_t a_now a_wBy a_wCell a_wFaces a_wFell a_wSign a_wTurns a_refused a_kept a_mind a_tape a_words a_telling a_holds a_sizes a_elements a_moved a_above a_out a_first c_t c_now c_wBy (res.2.1) (res.2.2.1) (res.2.2.2.1) c_wSign (res.2.2.2.2))) args s 0 0 A) (F0 m 52 ls [.int s0, .int s1]) := by
  obtain ⟨hx, hb, hml, hr, hlk, hown, hts, hG, hA⟩ := id X
  have hK := hG.1
  have hN := hG.2.1
  unfold f_X6_agreed_b52 at h
  refine lv_ior hx hb dX6_agreed_52 ?_
  refine lv_istore_n (lv' := [(1, .int (s1 ||| s0)), (0, .ref a_t), (2, .int l2)]) hx hb dX6_agreed_53 rfl hl (by decide) rfl (fun ls hl => ?_)
  refine lv_iinc (v := (l2 + (1 : Int32))) (lv' := [(2, .int (l2 + (1 : Int32))), (1, .int (s1 ||| s0)), (0, .ref a_t)]) hx hb dX6_agreed_54 hl (k := 2) rfl rfl (by decide) rfl (fun ls hl => ?_)
  refine lv_goto (tgt := 4) hx hb dX6_agreed_57 (by decide) ?_
  exact hk4 c_wCell c_wFaces c_wFell c_wTurns (s1 ||| s0) (l2 + (1 : Int32)) _ _ _ h hP hD hS (lv_sub hl [2, 1, 0] rfl)
set_option maxRecDepth 100000 in
set_option maxHeartbeats 4000000 in
theorem w_X6_agreed_b4 (X : Ctx p m meth c cX6_agreed 3 ((some .int)) s args wsX6_agreed RX6 E A) (a_t : Nat) (a_now : Nat) (a_wBy : Nat) (a_wCell : Nat) (a_wFaces : Nat) (a_wFell : Nat) (a_wSign : Nat) (a_wTurns : Nat) (a_refused : Nat) (a_kept : Nat) (a_mind : Nat) (a_tape : Nat) (a_words : Nat) (a_telling : Nat) (a_holds : Nat) (a_sizes : Nat) (a_elements : Nat) (a_moved : Nat) (a_above : Nat) (a_out : Nat) (a_first : Nat) (c_t : Nat → Int32) (c_now : Nat → Int32) (c_wBy : Nat → Int32) (c_wSign : Nat → Int32) (res : Int32 × (Nat → Int32) × (Nat → Int32) × (Nat → Int32) × (Nat → Int32)) : ∀ (n : Nat) (c_wCell : Nat → Int32) (c_wFaces : Nat → Int32) (c_wFell : Nat → Int32) (c_wTurns : Nat → Int32) (l1 : Int32) (l2 : Int32) (ls : Array Slot) (H : Heap) (locs : List Loc), f_X6_agreed_b4 c_t c_now c_wBy c_wSign n c_wCell c_wFaces c_wFell c_wTurns l1 l2 = some res → va_P E.1 vwCl (W_X6_agreed E a_t a_now a_wBy a_wCell a_wFaces a_wFell a_wSign a_wTurns a_refused a_kept a_mind a_tape a_words a_telling a_holds a_sizes a_elements a_moved a_above a_out a_first c_t c_now c_wBy c_wCell c_wFaces c_wFell c_wSign c_wTurns) H → va_D A (W_X6_agreed E a_t a_now a_wBy a_wCell a_wFaces a_wFell a_wSign a_wTurns a_refused a_kept a_mind a_tape a_words a_telling a_holds a_sizes a_elements a_moved a_above a_out a_first c_t c_now c_wBy c_wCell c_wFaces c_wFell c_wSign c_wTurns) → va_S A s.heap H locs → lv_has ls 3 [(0, .ref a_t), (1, .int l1), (2, .int l2)] → W p l e r_X6_agreed s m args below meth c H locs 0 0 (MQ below (qI E A (res.1) (W_X6_agreed E a_t a_now a_wBy a_wCell a_wFaces a_wFell a_wSign a_wTurns a_refused a_kept a_mind a_tape a_words a_telling a_holds a_sizes a_elements a_moved a_above a_out a_first c_t c_now c_wBy (res.2.1) (res.2.2.1) (res.2.2.2.1) c_wSign (res.2.2.2.2))) args s 0 0 A) (F0 m 4 ls []) := by
  obtain ⟨hx, hb, hml, hr, hlk, hown, hts, hG, hA⟩ := id X
  have hK := hG.1
  have hN := hG.2.1
  intro n
  induction n with
  | zero =>
    intro c_wCell c_wFaces c_wFell c_wTurns l1 l2 ls H locs h
    exact absurd (show (none : Option (Int32 × (Nat → Int32) × (Nat → Int32) × (Nat → Int32) × (Nat → Int32))) = some res from h) (by intro q; cases q)
  | succ n ih =>
    intro c_wCell c_wFaces c_wFell c_wTurns l1 l2 ls H locs h hP hD hS hl
    rw [f_X6_agreed_b4] at h
    refine lv_iload_n hx hb dX6_agreed_4 rfl (lv_at hl 2 rfl) ?_
    refine lv_aload_n hx hb dX6_agreed_5 rfl (lv_at hl 0 rfl) ?_
    obtain ⟨v1, hv1, h⟩ := bind_of h
    refine after_i X (run_V X (c_X6_many l E a_t a_now a_refused a_kept a_mind a_tape a_words a_wCell a_wFaces a_wTurns a_wSign a_wBy a_wFell a_telling a_holds a_sizes a_elements a_moved a_above a_out a_first c_t c_now H.size v1 hv1) (cwV 0 hts gX6_agreed_X6_many rfl rfl rfl hV_X6_many ⟨(Nat.le_of_ble_eq_true rfl), (Nat.le_of_ble_eq_true rfl)⟩) hP hD hS [0, 1] rfl rfl hl.1 (ci := 6) rfl rfl rfl (rest := [.int l2]) rfl rfl (Nat.le_of_ble_eq_true rfl) dX6_agreed_6) hP hD hS [0, 1] rfl (ws1 := (W_X6_agreed E a_t a_now a_wBy a_wCell a_wFaces a_wFell a_wSign a_wTurns a_refused a_kept a_mind a_tape a_words a_telling a_holds a_sizes a_elements a_moved a_above a_out a_first c_t c_now c_wBy c_wCell c_wFaces c_wFell c_wSign c_wTurns)) rfl (fun H locs hP hD hS => ?_)
    refine lv_icmp_ge (tgt := 60) hx hb dX6_agreed_9 (by decide) (fun hc9 => ?_) (fun hc9 => ?_)
    · have h := if_t h hc9
      refine lv_iload_n hx hb dX6_agreed_60 rfl (lv_at hl 1 rfl) ?_
      obtain rfl := Option.some.inj h
      exact ret_i X dX6_agreed_61 hP hD hS rfl
    · have h := if_f h hc9
      refine lv_aload_n hx hb dX6_agreed_12 rfl (lv_at hl 0 rfl) ?_
      refine lv_iconst (v := (0 : Int32)) hx hb dX6_agreed_13 (by decide) ?_
      refine lv_aload_n hx hb dX6_agreed_14 rfl (lv_at hl 0 rfl) ?_
      refine lv_iload_n hx hb dX6_agreed_15 rfl (lv_at hl 2 rfl) ?_
      obtain ⟨v2, hv2, h⟩ := bind_of h
      refine after_i X (run_V X (c_X6_cell l E a_t a_now a_refused a_kept a_mind a_tape a_words a_wCell a_wFaces a_wTurns a_wSign a_wBy a_wFell a_telling a_holds a_sizes a_elements a_moved a_above a_out a_first l2 c_t c_now H.size v2 hv2) (cwV 1 hts gX6_agreed_X6_cell rfl rfl rfl hV_X6_cell ⟨(Nat.le_of_ble_eq_true rfl), (Nat.le_of_ble_eq_true rfl)⟩) hP hD hS [0, 1] rfl rfl hl.1 (ci := 6) rfl rfl rfl (rest := [.int (0 : Int32), .ref a_t]) rfl rfl (Nat.le_of_ble_eq_true rfl) dX6_agreed_16) hP hD hS [0, 1] rfl (ws1 := (W_X6_agreed E a_t a_now a_wBy a_wCell a_wFaces a_wFell a_wSign a_wTurns a_refused a_kept a_mind a_tape a_words a_telling a_holds a_sizes a_elements a_moved a_above a_out a_first c_t c_now c_wBy c_wCell c_wFaces c_wFell c_wSign c_wTurns)) rfl (fun H locs hP hD hS => ?_)
      refine lv_aload_n hx hb dX6_agreed_19 rfl (lv_at hl 0 rfl) ?_
      refine lv_iload_n hx hb dX6_agreed_20 rfl (lv_at hl 2 rfl) ?_
      obtain ⟨v3, hv3, h⟩ := bind_of h
      refine after_i X (run_V X (c_X6_faces l E a_t a_now a_refused a_kept a_mind a_tape a_words a_wCell a_wFaces a_wTurns a_wSign a_wBy a_wFell a_telling a_holds a_sizes a_elements a_moved a_above a_out a_first l2 c_t c_now H.size v3 hv3) (cwV 1 hts gX6_agreed_X6_faces rfl rfl rfl hV_X6_faces ⟨(Nat.le_of_ble_eq_true rfl), (Nat.le_of_ble_eq_true rfl)⟩) hP hD hS [0, 1] rfl rfl hl.1 (ci := 6) rfl rfl rfl (rest := [.int v2, .int (0 : Int32), .ref a_t]) rfl rfl (Nat.le_of_ble_eq_true rfl) dX6_agreed_21) hP hD hS [0, 1] rfl (ws1 := (W_X6_agreed E a_t a_now a_wBy a_wCell a_wFaces a_wFell a_wSign a_wTurns a_refused a_kept a_mind a_tape a_words a_telling a_holds a_sizes a_elements a_moved a_above a_out a_first c_t c_now c_wBy c_wCell c_wFaces c_wFell c_wSign c_wTurns)) rfl (fun H locs hP hD hS => ?_)
      obtain ⟨v4, hv4, h⟩ := bind_of h
      refine after_v X (run_V X (c_X6_start l E a_t a_wCell a_wFaces a_wFell a_wTurns a_refused a_now a_kept a_mind a_tape a_words a_wSign a_wBy a_telling a_holds a_sizes a_elements a_moved a_above a_out a_first (0 : Int32) v2 v3 c_t c_wCell c_wFaces c_wFell c_wTurns H.size v4 hv4) (cwV 3 hts gX6_agreed_X6_start rfl rfl rfl hV_X6_start ⟨(Nat.le_of_ble_eq_true rfl), (Nat.le_of_ble_eq_true rfl)⟩) hP hD hS [0, 3, 4, 5, 7] rfl rfl hl.1 (ci := 6) rfl rfl rfl (rest := []) rfl rfl (Nat.le_of_ble_eq_true rfl) dX6_agreed_24) hP hD hS [0, 3, 4, 5, 7] rfl (ws1 := (W_X6_agreed E a_t a_now a_wBy a_wCell a_wFaces a_wFell a_wSign a_wTurns a_refused a_kept a_mind a_tape a_words a_telling a_holds a_sizes a_elements a_moved a_above a_out a_first c_t c_now c_wBy (v4.1) (v4.2.1) (v4.2.2.1) c_wSign (v4.2.2.2))) rfl (fun H locs hP hD hS => ?_)
      refine lv_iload_n hx hb dX6_agreed_27 rfl (lv_at hl 1 rfl) ?_
      refine lv_aload_n hx hb dX6_agreed_28 rfl (lv_at hl 0 rfl) ?_
      refine lv_iconst (v := (0 : Int32)) hx hb dX6_agreed_29 (by decide) ?_
      refine lv_iload_n hx hb dX6_agreed_30 rfl (lv_at hl 2 rfl) ?_
      refine lv_iconst (v := (1 : Int32)) hx hb dX6_agreed_31 (by decide) ?_
      obtain ⟨v5, hv5, h⟩ := bind_of h
      refine after_i X (run_V X (c_X6_goesBy l E a_t a_now a_wBy a_wCell a_wSign a_wTurns a_refused a_kept a_mind a_tape a_words a_wFaces a_wFell a_telling a_holds a_sizes a_elements a_moved a_above a_out a_first (0 : Int32) l2 (1 : Int32) c_t c_now c_wBy (v4.1) c_wSign (v4.2.2.2) H.size v5 hv5) (cwV 3 hts gX6_agreed_X6_goesBy rfl rfl rfl hV_X6_goesBy ⟨(Nat.le_of_ble_eq_true rfl), (Nat.le_of_ble_eq_true rfl)⟩) hP hD hS [0, 1, 2, 3, 6, 7] rfl rfl hl.1 (ci := 6) rfl rfl rfl (rest := [.int l1]) rfl rfl (Nat.le_of_ble_eq_true rfl) dX6_agreed_32) hP hD hS [0, 1, 2, 3, 6, 7] rfl (ws1 := (W_X6_agreed E a_t a_now a_wBy a_wCell a_wFaces a_wFell a_wSign a_wTurns a_refused a_kept a_mind a_tape a_words a_telling a_holds a_sizes a_elements a_moved a_above a_out a_first c_t c_now c_wBy (v4.1) (v4.2.1) (v4.2.2.1) c_wSign (v4.2.2.2))) rfl (fun H locs hP hD hS => ?_)
      refine lv_aload_n hx hb dX6_agreed_35 rfl (lv_at hl 0 rfl) ?_
      refine va_get (D := E.1) (ci := 6) (v := .ref a_now) (C := RX6) (T := TX6) (N := 26) hx hb hts iX6_agreed_X6 hown hK hP 0 rfl rfl 1 (by decide) (hts (.fieldLink RX6 17 "LeftIsAgreedOnModel" "now" "[I") (List.mem_of_getElem? (i := 1) rfl)) (fun _ h9 => h9) rfl dX6_agreed_36 ?_
      refine lv_bipush (v := (91 : Int32)) hx hb dX6_agreed_39 (by decide) ?_
      refine ld_i X hP 1 rfl (inb.vp (by decide)) (v := (c_now 91)) rfl dX6_agreed_41 ?_
      refine lv_icmp_ne (tgt := 51) hx hb dX6_agreed_42 (by decide) (fun hc42 => ?_) (fun hc42 => ?_)
      · have h := if_f h hc42
        refine lv_iconst (v := (0 : Int32)) hx hb dX6_agreed_51 (by decide) ?_
        exact w_X6_agreed_b52 X a_t a_now a_wBy a_wCell a_wFaces a_wFell a_wSign a_wTurns a_refused a_kept a_mind a_tape a_words a_telling a_holds a_sizes a_elements a_moved a_above a_out a_first c_t c_now c_wBy c_wSign res (f_X6_agreed_b4 c_t c_now c_wBy c_wSign n) ih (v4.1) (v4.2.1) (v4.2.2.1) (v4.2.2.2) l2 (0 : Int32) l1 _ _ _ h hP hD hS (lv_sub hl [0, 2] rfl)
      · have h := if_t h hc42
        refine lv_iconst (v := (1 : Int32)) hx hb dX6_agreed_45 (by decide) ?_
        refine lv_iload_n hx hb dX6_agreed_46 rfl (lv_at hl 2 rfl) ?_
        refine lv_ishl hx hb dX6_agreed_47 ?_
        refine lv_goto (tgt := 52) hx hb dX6_agreed_48 (by decide) ?_
        exact w_X6_agreed_b52 X a_t a_now a_wBy a_wCell a_wFaces a_wFell a_wSign a_wTurns a_refused a_kept a_mind a_tape a_words a_telling a_holds a_sizes a_elements a_moved a_above a_out a_first c_t c_now c_wBy c_wSign res (f_X6_agreed_b4 c_t c_now c_wBy c_wSign n) ih (v4.1) (v4.2.1) (v4.2.2.1) (v4.2.2.2) l2 ((1 : Int32) <<< (l2 &&& 31)) l1 _ _ _ h hP hD hS (lv_sub hl [0, 2] rfl)
set_option maxRecDepth 100000 in
set_option maxHeartbeats 4000000 in
theorem w_X6_agreed (X : Ctx p m meth c cX6_agreed 3 ((some .int)) s args wsX6_agreed RX6 E A) (a_t : Nat) (a_now : Nat) (a_wBy : Nat) (a_wCell : Nat) (a_wFaces : Nat) (a_wFell : Nat) (a_wSign : Nat) (a_wTurns : Nat) (a_refused : Nat) (a_kept : Nat) (a_mind : Nat) (a_tape : Nat) (a_words : Nat) (a_telling : Nat) (a_holds : Nat) (a_sizes : Nat) (a_elements : Nat) (a_moved : Nat) (a_above : Nat) (a_out : Nat) (a_first : Nat) (c_t : Nat → Int32) (c_now : Nat → Int32) (c_wBy : Nat → Int32) (c_wSign : Nat → Int32) (res : Int32 × (Nat → Int32) × (Nat → Int32) × (Nat → Int32) × (Nat → Int32)) (c_wCell : Nat → Int32) (c_wFaces : Nat → Int32) (c_wFell : Nat → Int32) (c_wTurns : Nat → Int32) (ls : Array Slot) (H : Heap) (locs : List Loc) (h : f_X6_agreed c_t c_now c_wBy c_wCell c_wFaces c_wFell c_wSign c_wTurns = some res) (hP : va_P E.1 vwCl (W_X6_agreed E a_t a_now a_wBy a_wCell a_wFaces a_wFell a_wSign a_wTurns a_refused a_kept a_mind a_tape a_words a_telling a_holds a_sizes a_elements a_moved a_above a_out a_first c_t c_now c_wBy c_wCell c_wFaces c_wFell c_wSign c_wTurns) H) (hD : va_D A (W_X6_agreed E a_t a_now a_wBy a_wCell a_wFaces a_wFell a_wSign a_wTurns a_refused a_kept a_mind a_tape a_words a_telling a_holds a_sizes a_elements a_moved a_above a_out a_first c_t c_now c_wBy c_wCell c_wFaces c_wFell c_wSign c_wTurns)) (hS : va_S A s.heap H locs) (hl : lv_has ls 3 [(0, .ref a_t)]) : W p l e r_X6_agreed s m args below meth c H locs 0 0 (MQ below (qI E A (res.1) (W_X6_agreed E a_t a_now a_wBy a_wCell a_wFaces a_wFell a_wSign a_wTurns a_refused a_kept a_mind a_tape a_words a_telling a_holds a_sizes a_elements a_moved a_above a_out a_first c_t c_now c_wBy (res.2.1) (res.2.2.1) (res.2.2.2.1) c_wSign (res.2.2.2.2))) args s 0 0 A) (F0 m 0 ls []) := by
  obtain ⟨hx, hb, hml, hr, hlk, hown, hts, hG, hA⟩ := id X
  have hK := hG.1
  have hN := hG.2.1
  unfold f_X6_agreed at h
  refine lv_iconst (v := (0 : Int32)) hx hb dX6_agreed_0 (by decide) ?_
  refine lv_istore_n (lv' := [(1, .int (0 : Int32)), (0, .ref a_t)]) hx hb dX6_agreed_1 rfl hl (by decide) rfl (fun ls hl => ?_)
  refine lv_iconst (v := (0 : Int32)) hx hb dX6_agreed_2 (by decide) ?_
  refine lv_istore_n (lv' := [(2, .int (0 : Int32)), (1, .int (0 : Int32)), (0, .ref a_t)]) hx hb dX6_agreed_3 rfl hl (by decide) rfl (fun ls hl => ?_)
  exact w_X6_agreed_b4 X a_t a_now a_wBy a_wCell a_wFaces a_wFell a_wSign a_wTurns a_refused a_kept a_mind a_tape a_words a_telling a_holds a_sizes a_elements a_moved a_above a_out a_first c_t c_now c_wBy c_wSign res FU c_wCell c_wFaces c_wFell c_wTurns (0 : Int32) (0 : Int32) _ _ _ h hP hD hS (lv_sub hl [2, 1, 0] rfl)
end
set_option maxRecDepth 100000 in
theorem c_X6_agreed (l : Launch) (E : Env0) (a_t : Nat) (a_now : Nat) (a_wBy : Nat) (a_wCell : Nat) (a_wFaces : Nat) (a_wFell : Nat) (a_wSign : Nat) (a_wTurns : Nat) (a_refused : Nat) (a_kept : Nat) (a_mind : Nat) (a_tape : Nat) (a_words : Nat) (a_telling : Nat) (a_holds : Nat) (a_sizes : Nat) (a_elements : Nat) (a_moved : Nat) (a_above : Nat) (a_out : Nat) (a_first : Nat) (c_t : Nat → Int32) (c_now : Nat → Int32) (c_wBy : Nat → Int32) (c_wCell : Nat → Int32) (c_wFaces : Nat → Int32) (c_wFell : Nat → Int32) (c_wSign : Nat → Int32) (c_wTurns : Nat → Int32) (sz : Nat) (res : Int32 × (Nat → Int32) × (Nat → Int32) × (Nat → Int32) × (Nat → Int32)) (h : f_X6_agreed c_t c_now c_wBy c_wCell c_wFaces c_wFell c_wSign c_wTurns = some res) : Met l yX6_agreed wsX6_agreed r_X6_agreed (cPre E [.ref a_t] (W_X6_agreed E a_t a_now a_wBy a_wCell a_wFaces a_wFell a_wSign a_wTurns a_refused a_kept a_mind a_tape a_words a_telling a_holds a_sizes a_elements a_moved a_above a_out a_first c_t c_now c_wBy c_wCell c_wFaces c_wFell c_wSign c_wTurns) sz) (qI E (va_A (W_X6_agreed E a_t a_now a_wBy a_wCell a_wFaces a_wFell a_wSign a_wTurns a_refused a_kept a_mind a_tape a_words a_telling a_holds a_sizes a_elements a_moved a_above a_out a_first c_t c_now c_wBy c_wCell c_wFaces c_wFell c_wSign c_wTurns) sz) (res.1) (W_X6_agreed E a_t a_now a_wBy a_wCell a_wFaces a_wFell a_wSign a_wTurns a_refused a_kept a_mind a_tape a_words a_telling a_holds a_sizes a_elements a_moved a_above a_out a_first c_t c_now c_wBy (res.2.1) (res.2.2.1) (res.2.2.2.1) c_wSign (res.2.2.2.2))) 0 0 (va_A (W_X6_agreed E a_t a_now a_wBy a_wCell a_wFaces a_wFell a_wSign a_wTurns a_refused a_kept a_mind a_tape a_words a_telling a_holds a_sizes a_elements a_moved a_above a_out a_first c_t c_now c_wBy c_wCell c_wFaces c_wFell c_wSign c_wTurns) sz) :=
  met_of (Qc := fun A => qI E A (res.1) (W_X6_agreed E a_t a_now a_wBy a_wCell a_wFaces a_wFell a_wSign a_wTurns a_refused a_kept a_mind a_tape a_words a_telling a_holds a_sizes a_elements a_moved a_above a_out a_first c_t c_now c_wBy (res.2.1) (res.2.2.1) (res.2.2.2.1) c_wSign (res.2.2.2.2))) (by decide) rfl (Nat.le_of_ble_eq_true rfl) (fun p e s m args below meth c X hP hD hS ls hl => w_X6_agreed X a_t a_now a_wBy a_wCell a_wFaces a_wFell a_wSign a_wTurns a_refused a_kept a_mind a_tape a_words a_telling a_holds a_sizes a_elements a_moved a_above a_out a_first c_t c_now c_wBy c_wSign res c_wCell c_wFaces c_wFell c_wTurns ls _ _ h hP hD hS hl)
-- ===== X6_loadBoth
noncomputable abbrev W_X6_loadBoth (E : Env0) (a_t : Nat) (a_elements : Nat) (a_first : Nat) (a_holds : Nat) (a_now : Nat) (a_sizes : Nat) (a_telling : Nat) (a_refused : Nat) (a_kept : Nat) (a_mind : Nat) (a_tape : Nat) (a_words : Nat) (a_wCell : Nat) (a_wFaces : Nat) (a_wTurns : Nat) (a_wSign : Nat) (a_wBy : Nat) (a_wFell : Nat) (a_moved : Nat) (a_above : Nat) (a_out : Nat) (c_t : Nat → Int32) (c_elements : Nat → Int64) (c_first : Nat → Int32) (c_holds : Nat → Int32) (c_now : Nat → Int32) (c_sizes : Nat → Int32) (c_telling : Nat → Int32) : va_W := [(a_t, .inr (6, [.ref a_refused, .ref a_now, .ref a_kept, .ref a_mind, .int (c_t 4), .ref a_tape, .int (c_t 6), .int (c_t 7), .int (c_t 8), .int (c_t 9), .ref a_words, .ref a_wCell, .ref a_wFaces, .ref a_wTurns, .ref a_wSign, .ref a_wBy, .ref a_wFell, .int (c_t 17), .ref a_telling, .ref a_holds, .ref a_sizes, .ref a_elements, .ref a_moved, .ref a_above, .ref a_out, .ref a_first])), (a_elements, .inl (eJ E, 320, .inr (.inl c_elements))), (a_first, .inl (eI E, 40, .inl c_first)), (a_holds, .inl (eI E, 8, .inl c_holds)), (a_now, .inl (eI E, 97, .inl c_now)), (a_sizes, .inl (eI E, 8, .inl c_sizes)), (a_telling, .inl (eI E, 40, .inl c_telling))]
noncomputable abbrev r_X6_loadBoth : Room := { frames := 2, cells := 0, slots := 0, locals := 48 }
theorem hd_X6_loadBoth : yX6_loadBoth.cls ≠ "java/lang/invoke/MethodHandle" ∧ yX6_loadBoth.cls ≠ "java/lang/invoke/VarHandle" ∧ (parseMethodDescriptor yX6_loadBoth.desc).map (fun d => d.parameters.length) = some 6 := by decide +kernel
theorem hV_X6_loadBoth : yX6_loadBoth.cls = RX6 ∧ yX6_loadBoth.cls ≠ "java/lang/invoke/MethodHandle" ∧ yX6_loadBoth.cls ≠ "java/lang/invoke/VarHandle" ∧ (parseMethodDescriptor yX6_loadBoth.desc).map (fun d => d.parameters.length) = some 6 := ⟨rfl, hd_X6_loadBoth⟩
theorem iX6_loadBoth_X6 : ∀ w ∈ wsX60, w ∈ wsX6_loadBoth := fun _ h => List.mem_cons_of_mem _ (List.mem_append_right _ (h))
section
variable {p : Program} {l : Launch} {e : Env} {s : State} {m : MethodId} {args : Array Value} {below : List Frame} {meth : Method} {c : Code} {E : Env0} {A : Nat → Prop}
set_option maxRecDepth 100000 in
set_option maxHeartbeats 4000000 in
theorem w_X6_loadBoth_b184 (X : Ctx p m meth c cX6_loadBoth 9 ((some .int)) s args wsX6_loadBoth RX6 E A) (a_t : Nat) (a_elements : Nat) (a_first : Nat) (a_holds : Nat) (a_now : Nat) (a_sizes : Nat) (a_telling : Nat) (a_refused : Nat) (a_kept : Nat) (a_mind : Nat) (a_tape : Nat) (a_words : Nat) (a_wCell : Nat) (a_wFaces : Nat) (a_wTurns : Nat) (a_wSign : Nat) (a_wBy : Nat) (a_wFell : Nat) (a_moved : Nat) (a_above : Nat) (a_out : Nat) (c_t : Nat → Int32) (c_elements : Nat → Int64) (c_holds : Nat → Int32) (c_now : Nat → Int32) (c_sizes : Nat → Int32) (res : Int32 × (Nat → Int32) × (Nat → Int32)) (c_first : Nat → Int32) (c_telling : Nat → Int32) (l4 : Int32) (l5 : Int32) (l7 : Int32) (ls : Array Slot) (H : Heap) (locs : List Loc) (h : f_X6_loadBoth_b184 c_t c_elements c_holds c_now c_sizes c_first c_telling l4 l5 l7 = some res) (hP : va_P E.1 vwCl (W_X6_loadBoth E a_t a_elements a_first a_holds a_now a_sizes a_telling a_refused a_kept a_mind a_tape a_words a_wCell a_wFaces a_wTurns a_wSign a_wBy a_wFell a_moved a_above a_out c_t c_elements c_first c_holds c_now c_sizes c_telling) H) (hD : va_D A (W_X6_loadBoth E a_t a_elements a_first a_holds a_now a_sizes a_telling a_refused a_kept a_mind a_tape a_words a_wCell a_wFaces a_wTurns a_wSign a_wBy a_wFell a_moved a_above a_out c_t c_elements c_first c_holds c_now c_sizes c_telling)) (hS : va_S A s.heap H locs) (hl : lv_has ls 9 [(0, .ref a_t), (4, .int l4), (5, .int l5), (7, .int l7)]) : W p l e r_X6_loadBoth s m args below meth c H locs 0 0 (MQ below (qI E A (res.1) (W_X6_loadBoth E a_t a_elements a_first a_holds a_now a_sizes a_telling a_refused a_kept a_mind a_tape a_words a_wCell a_wFaces a_wTurns a_wSign a_wBy a_wFell a_moved a_above a_out c_t c_elements (res.2.1) c_holds c_now c_sizes (res.2.2))) args s 0 0 A) (F0 m 184 ls []) := by
  obtain ⟨hx, hb, hml, hr, hlk, hown, hts, hG, hA⟩ := id X
  have hK := hG.1
  have hN := hG.2.1
  unfold f_X6_loadBoth_b184 at h
  refine lv_iload hx hb dX6_loadBoth_184 (lv_at hl 3 rfl) ?_
  refine lv_iconst (v := (1 : Int32)) hx hb dX6_loadBoth_186 (by decide) ?_
  refine lv_icmp_ne (tgt := 201) hx hb dX6_loadBoth_187 (by decide) (fun hc187 => ?_) (fun hc187 => ?_)
  · have h := if_f h hc187
    refine lv_iload hx hb dX6_loadBoth_201 (lv_at hl 3 rfl) ?_
    obtain rfl := Option.some.inj h
    exact ret_i X dX6_loadBoth_203 hP hD hS rfl
  · have h := if_t h hc187
    refine lv_aload_n hx hb dX6_loadBoth_190 rfl (lv_at hl 0 rfl) ?_
    refine lv_iload hx hb dX6_loadBoth_191 (lv_at hl 1 rfl) ?_
    refine lv_iload hx hb dX6_loadBoth_193 (lv_at hl 2 rfl) ?_
    obtain ⟨v1, hv1, h⟩ := bind_of h
    refine after_i X (run_V X (c_X6_load l E a_t a_elements a_holds a_sizes a_telling a_refused a_now a_kept a_mind a_tape a_words a_wCell a_wFaces a_wTurns a_wSign a_wBy a_wFell a_moved a_above a_out a_first l4 l5 c_t c_elements c_holds c_sizes c_telling H.size v1 hv1) (cwV 2 hts gX6_loadBoth_X6_load rfl rfl rfl hV_X6_load ⟨(Nat.le_of_ble_eq_true rfl), (Nat.le_of_ble_eq_true rfl)⟩) hP hD hS [0, 1, 3, 5, 6] rfl rfl hl.1 (ci := 6) rfl rfl rfl (rest := []) rfl rfl (Nat.le_of_ble_eq_true rfl) dX6_loadBoth_195) hP hD hS [0, 1, 3, 5, 6] rfl (ws1 := (W_X6_loadBoth E a_t a_elements a_first a_holds a_now a_sizes a_telling a_refused a_kept a_mind a_tape a_words a_wCell a_wFaces a_wTurns a_wSign a_wBy a_wFell a_moved a_above a_out c_t c_elements c_first c_holds c_now c_sizes (v1.2))) rfl (fun H locs hP hD hS => ?_)
    refine lv_goto (tgt := 203) hx hb dX6_loadBoth_198 (by decide) ?_
    obtain rfl := Option.some.inj h
    exact ret_i X dX6_loadBoth_203 hP hD hS rfl
set_option maxRecDepth 100000 in
set_option maxHeartbeats 4000000 in
theorem w_X6_loadBoth_b152 (X : Ctx p m meth c cX6_loadBoth 9 ((some .int)) s args wsX6_loadBoth RX6 E A) (a_t : Nat) (a_elements : Nat) (a_first : Nat) (a_holds : Nat) (a_now : Nat) (a_sizes : Nat) (a_telling : Nat) (a_refused : Nat) (a_kept : Nat) (a_mind : Nat) (a_tape : Nat) (a_words : Nat) (a_wCell : Nat) (a_wFaces : Nat) (a_wTurns : Nat) (a_wSign : Nat) (a_wBy : Nat) (a_wFell : Nat) (a_moved : Nat) (a_above : Nat) (a_out : Nat) (c_t : Nat → Int32) (c_elements : Nat → Int64) (c_holds : Nat → Int32) (c_now : Nat → Int32) (c_sizes : Nat → Int32) (res : Int32 × (Nat → Int32) × (Nat → Int32)) : ∀ (n : Nat) (c_first : Nat → Int32) (c_telling : Nat → Int32) (l2 : Int32) (l4 : Int32) (l5 : Int32) (l7 : Int32) (l8 : Int32) (ls : Array Slot) (H : Heap) (locs : List Loc), f_X6_loadBoth_b152 c_t c_elements c_holds c_now c_sizes n c_first c_telling l2 l4 l5 l7 l8 = some res → va_P E.1 vwCl (W_X6_loadBoth E a_t a_elements a_first a_holds a_now a_sizes a_telling a_refused a_kept a_mind a_tape a_words a_wCell a_wFaces a_wTurns a_wSign a_wBy a_wFell a_moved a_above a_out c_t c_elements c_first c_holds c_now c_sizes c_telling) H → va_D A (W_X6_loadBoth E a_t a_elements a_first a_holds a_now a_sizes a_telling a_refused a_kept a_mind a_tape a_words a_wCell a_wFaces a_wTurns a_wSign a_wBy a_wFell a_moved a_above a_out c_t c_elements c_first c_holds c_now c_sizes c_telling) → va_S A s.heap H locs → lv_has ls 9 [(0, .ref a_t), (2, .int l2), (4, .int l4), (5, .int l5), (7, .int l7), (8, .int l8)] → W p l e r_X6_loadBoth s m args below meth c H locs 0 0 (MQ below (qI E A (res.1) (W_X6_loadBoth E a_t a_elements a_first a_holds a_now a_sizes a_telling a_refused a_kept a_mind a_tape a_words a_wCell a_wFaces a_wTurns a_wSign a_wBy a_wFell a_moved a_above a_out c_t c_elements (res.2.1) c_holds c_now c_sizes (res.2.2))) args s 0 0 A) (F0 m 152 ls []) := by
  obtain ⟨hx, hb, hml, hr, hlk, hown, hts, hG, hA⟩ := id X
  have hK := hG.1
  have hN := hG.2.1
  intro n
  induction n with
  | zero =>
    intro c_first c_telling l2 l4 l5 l7 l8 ls H locs h
    exact absurd (show (none : Option (Int32 × (Nat → Int32) × (Nat → Int32))) = some res from h) (by intro q; cases q)
  | succ n ih =>
    intro c_first c_telling l2 l4 l5 l7 l8 ls H locs h hP hD hS hl
    rw [f_X6_loadBoth_b152] at h
    refine lv_iload hx hb dX6_loadBoth_152 (lv_at hl 5 rfl) ?_
    refine lv_iload_n hx hb dX6_loadBoth_154 rfl (lv_at hl 1 rfl) ?_
    refine lv_icmp_ge (tgt := 184) hx hb dX6_loadBoth_155 (by decide) (fun hc155 => ?_) (fun hc155 => ?_)
    · have h := if_t h hc155
      exact w_X6_loadBoth_b184 X a_t a_elements a_first a_holds a_now a_sizes a_telling a_refused a_kept a_mind a_tape a_words a_wCell a_wFaces a_wTurns a_wSign a_wBy a_wFell a_moved a_above a_out c_t c_elements c_holds c_now c_sizes res c_first c_telling l4 l5 l7 _ _ _ h hP hD hS (lv_sub hl [0, 2, 3, 4] rfl)
    · have h := if_f h hc155
      refine lv_iload hx hb dX6_loadBoth_158 (lv_at hl 4 rfl) ?_
      refine lv_iconst (v := (1 : Int32)) hx hb dX6_loadBoth_160 (by decide) ?_
      refine lv_icmp_ne (tgt := 184) hx hb dX6_loadBoth_161 (by decide) (fun hc161 => ?_) (fun hc161 => ?_)
      · have h := if_f h hc161
        exact w_X6_loadBoth_b184 X a_t a_elements a_first a_holds a_now a_sizes a_telling a_refused a_kept a_mind a_tape a_words a_wCell a_wFaces a_wTurns a_wSign a_wBy a_wFell a_moved a_above a_out c_t c_elements c_holds c_now c_sizes res c_first c_telling l4 l5 l7 _ _ _ h hP hD hS (lv_sub hl [0, 2, 3, 4] rfl)
      · have h := if_t h hc161
        refine lv_aload_n hx hb dX6_loadBoth_164 rfl (lv_at hl 0 rfl) ?_
        refine va_get (D := E.1) (ci := 6) (v := .ref a_first) (C := RX6) (T := TX6) (N := 26) hx hb hts iX6_loadBoth_X6 hown hK hP 0 rfl rfl 25 (by decide) (hts (.fieldLink RX6 73 "LeftIsAgreedOnModel" "first" "[I") (List.mem_of_getElem? (i := 4) rfl)) (fun _ h9 => h9) rfl dX6_loadBoth_165 ?_
        refine lv_iload hx hb dX6_loadBoth_168 (lv_at hl 5 rfl) ?_
        refine lv_aload_n hx hb dX6_loadBoth_170 rfl (lv_at hl 0 rfl) ?_
        refine va_get (D := E.1) (ci := 6) (v := .ref a_telling) (C := RX6) (T := TX6) (N := 26) hx hb hts iX6_loadBoth_X6 hown hK hP 0 rfl rfl 18 (by decide) (hts (.fieldLink RX6 51 "LeftIsAgreedOnModel" "telling" "[I") (List.mem_of_getElem? (i := 5) rfl)) (fun _ h9 => h9) rfl dX6_loadBoth_171 ?_
        refine lv_iload hx hb dX6_loadBoth_174 (lv_at hl 5 rfl) ?_
        obtain ⟨hz176, h⟩ := chk_of h
        refine ld_i X hP 6 rfl (inb.vp hz176) (v := (c_telling (l8).toNatClampNeg)) rfl dX6_loadBoth_176 ?_
        obtain ⟨hz177, h⟩ := chk_of h
        refine st_i X hP hD hS 2 rfl (inb.vp hz177) (k := (l8).toNatClampNeg) rfl (ws1 := (W_X6_loadBoth E a_t a_elements a_first a_holds a_now a_sizes a_telling a_refused a_kept a_mind a_tape a_words a_wCell a_wFaces a_wTurns a_wSign a_wBy a_wFell a_moved a_above a_out c_t c_elements (upd c_first ((l8).toNatClampNeg) (c_telling (l8).toNatClampNeg)) c_holds c_now c_sizes c_telling)) rfl dX6_loadBoth_177 (fun H locs hP hD hS => ?_)
        refine lv_iinc (v := (l8 + (1 : Int32))) (lv' := [(8, .int (l8 + (1 : Int32))), (0, .ref a_t), (2, .int l2), (4, .int l4), (5, .int l5), (7, .int l7)]) hx hb dX6_loadBoth_178 hl (k := 5) rfl rfl (by decide) rfl (fun ls hl => ?_)
        refine lv_goto (tgt := 152) hx hb dX6_loadBoth_181 (by decide) ?_
        exact ih (upd c_first ((l8).toNatClampNeg) (c_telling (l8).toNatClampNeg)) c_telling l2 l4 l5 l7 (l8 + (1 : Int32)) _ _ _ h hP hD hS (lv_sub hl [1, 2, 3, 4, 5, 0] rfl)
set_option maxRecDepth 100000 in
set_option maxHeartbeats 4000000 in
theorem w_X6_loadBoth (X : Ctx p m meth c cX6_loadBoth 9 ((some .int)) s args wsX6_loadBoth RX6 E A) (a_t : Nat) (a_elements : Nat) (a_first : Nat) (a_holds : Nat) (a_now : Nat) (a_sizes : Nat) (a_telling : Nat) (a_refused : Nat) (a_kept : Nat) (a_mind : Nat) (a_tape : Nat) (a_words : Nat) (a_wCell : Nat) (a_wFaces : Nat) (a_wTurns : Nat) (a_wSign : Nat) (a_wBy : Nat) (a_wFell : Nat) (a_moved : Nat) (a_above : Nat) (a_out : Nat) (c_t : Nat → Int32) (c_elements : Nat → Int64) (c_holds : Nat → Int32) (c_now : Nat → Int32) (c_sizes : Nat → Int32) (res : Int32 × (Nat → Int32) × (Nat → Int32)) (c_first : Nat → Int32) (c_telling : Nat → Int32) (l1 : Int32) (l2 : Int32) (l3 : Int32) (l4 : Int32) (l5 : Int32) (l6 : Int32) (ls : Array Slot) (H : Heap) (locs : List Loc) (h : f_X6_loadBoth l1 l2 l3 l4 l5 l6 c_t c_elements c_first c_holds c_now c_sizes c_telling = some res) (hP : va_P E.1 vwCl (W_X6_loadBoth E a_t a_elements a_first a_holds a_now a_sizes a_telling a_refused a_kept a_mind a_tape a_words a_wCell a_wFaces a_wTurns a_wSign a_wBy a_wFell a_moved a_above a_out c_t c_elements c_first c_holds c_now c_sizes c_telling) H) (hD : va_D A (W_X6_loadBoth E a_t a_elements a_first a_holds a_now a_sizes a_telling a_refused a_kept a_mind a_tape a_words a_wCell a_wFaces a_wTurns a_wSign a_wBy a_wFell a_moved a_above a_out c_t c_elements c_first c_holds c_now c_sizes c_telling)) (hS : va_S A s.heap H locs) (hl : lv_has ls 9 [(0, .ref a_t), (1, .int l1), (2, .int l2), (3, .int l3), (4, .int l4), (5, .int l5), (6, .int l6)]) : W p l e r_X6_loadBoth s m args below meth c H locs 0 0 (MQ below (qI E A (res.1) (W_X6_loadBoth E a_t a_elements a_first a_holds a_now a_sizes a_telling a_refused a_kept a_mind a_tape a_words a_wCell a_wFaces a_wTurns a_wSign a_wBy a_wFell a_moved a_above a_out c_t c_elements (res.2.1) c_holds c_now c_sizes (res.2.2))) args s 0 0 A) (F0 m 0 ls []) := by
  obtain ⟨hx, hb, hml, hr, hlk, hown, hts, hG, hA⟩ := id X
  have hK := hG.1
  have hN := hG.2.1
  unfold f_X6_loadBoth at h
  refine lv_iload_n hx hb dX6_loadBoth_0 rfl (lv_at hl 1 rfl) ?_
  obtain ⟨v1, hv1, h⟩ := bind_of h
  refine after_i X (run_S X (c_X6_isShelf l E l1 H.size v1 hv1) (va_cwS 1 hts gX6_loadBoth_X6_isShelf rfl rfl rfl hd_X6_isShelf ⟨(Nat.le_of_ble_eq_true rfl), (Nat.le_of_ble_eq_true rfl)⟩) hP hD hS [] rfl rfl hl.1 (rest := []) rfl rfl (Nat.le_of_ble_eq_true rfl) dX6_loadBoth_1) hP hD hS [] rfl (ws1 := (W_X6_loadBoth E a_t a_elements a_first a_holds a_now a_sizes a_telling a_refused a_kept a_mind a_tape a_words a_wCell a_wFaces a_wTurns a_wSign a_wBy a_wFell a_moved a_above a_out c_t c_elements c_first c_holds c_now c_sizes c_telling)) rfl (fun H locs hP hD hS => ?_)
  refine lv_if_eq (tgt := 63) hx hb dX6_loadBoth_4 (by decide) (fun hc4 => ?_) (fun hc4 => ?_)
  · have h := if_t h hc4
    refine lv_bipush (v := (-2 : Int32)) hx hb dX6_loadBoth_63 (by decide) ?_
    obtain rfl := Option.some.inj h
    exact ret_i X dX6_loadBoth_65 hP hD hS rfl
  · have h := if_f h hc4
    refine lv_iload hx hb dX6_loadBoth_7 (lv_at hl 4 rfl) ?_
    obtain ⟨v2, hv2, h⟩ := bind_of h
    refine after_i X (run_S X (c_X6_isShelf l E l4 H.size v2 hv2) (va_cwS 1 hts gX6_loadBoth_X6_isShelf rfl rfl rfl hd_X6_isShelf ⟨(Nat.le_of_ble_eq_true rfl), (Nat.le_of_ble_eq_true rfl)⟩) hP hD hS [] rfl rfl hl.1 (rest := []) rfl rfl (Nat.le_of_ble_eq_true rfl) dX6_loadBoth_9) hP hD hS [] rfl (ws1 := (W_X6_loadBoth E a_t a_elements a_first a_holds a_now a_sizes a_telling a_refused a_kept a_mind a_tape a_words a_wCell a_wFaces a_wTurns a_wSign a_wBy a_wFell a_moved a_above a_out c_t c_elements c_first c_holds c_now c_sizes c_telling)) rfl (fun H locs hP hD hS => ?_)
    refine lv_if_eq (tgt := 63) hx hb dX6_loadBoth_12 (by decide) (fun hc12 => ?_) (fun hc12 => ?_)
    · have h := if_t h hc12
      refine lv_bipush (v := (-2 : Int32)) hx hb dX6_loadBoth_63 (by decide) ?_
      obtain rfl := Option.some.inj h
      exact ret_i X dX6_loadBoth_65 hP hD hS rfl
    · have h := if_f h hc12
      refine lv_iload_n hx hb dX6_loadBoth_15 rfl (lv_at hl 2 rfl) ?_
      refine lv_i2l (v := (l2.toInt64)) hx hb dX6_loadBoth_16 rfl ?_
      refine lv_lconst (v := (0 : Int64)) hx hb dX6_loadBoth_17 (by decide) ?_
      refine lv_ldc2 (v := (40 : Int64)) hx hb hown (hts (.constantLong RX6 208 (40)) (List.mem_of_getElem? (i := 1) rfl)) dX6_loadBoth_18 ?_
      obtain ⟨v3, hv3, h⟩ := bind_of h
      refine after_i X (run_S X (c_X6_isIn l E (l2.toInt64) (0 : Int64) (40 : Int64) H.size v3 hv3) (va_cwS 3 hts gX6_loadBoth_X6_isIn rfl rfl rfl hd_X6_isIn ⟨(Nat.le_of_ble_eq_true rfl), (Nat.le_of_ble_eq_true rfl)⟩) hP hD hS [] rfl rfl hl.1 (rest := []) rfl rfl (Nat.le_of_ble_eq_true rfl) dX6_loadBoth_21) hP hD hS [] rfl (ws1 := (W_X6_loadBoth E a_t a_elements a_first a_holds a_now a_sizes a_telling a_refused a_kept a_mind a_tape a_words a_wCell a_wFaces a_wTurns a_wSign a_wBy a_wFell a_moved a_above a_out c_t c_elements c_first c_holds c_now c_sizes c_telling)) rfl (fun H locs hP hD hS => ?_)
      refine lv_if_eq (tgt := 63) hx hb dX6_loadBoth_24 (by decide) (fun hc24 => ?_) (fun hc24 => ?_)
      · have h := if_t h hc24
        refine lv_bipush (v := (-2 : Int32)) hx hb dX6_loadBoth_63 (by decide) ?_
        obtain rfl := Option.some.inj h
        exact ret_i X dX6_loadBoth_65 hP hD hS rfl
      · have h := if_f h hc24
        refine lv_iload hx hb dX6_loadBoth_27 (lv_at hl 5 rfl) ?_
        refine lv_i2l (v := (l5.toInt64)) hx hb dX6_loadBoth_29 rfl ?_
        refine lv_lconst (v := (0 : Int64)) hx hb dX6_loadBoth_30 (by decide) ?_
        refine lv_ldc2 (v := (40 : Int64)) hx hb hown (hts (.constantLong RX6 208 (40)) (List.mem_of_getElem? (i := 1) rfl)) dX6_loadBoth_31 ?_
        obtain ⟨v4, hv4, h⟩ := bind_of h
        refine after_i X (run_S X (c_X6_isIn l E (l5.toInt64) (0 : Int64) (40 : Int64) H.size v4 hv4) (va_cwS 3 hts gX6_loadBoth_X6_isIn rfl rfl rfl hd_X6_isIn ⟨(Nat.le_of_ble_eq_true rfl), (Nat.le_of_ble_eq_true rfl)⟩) hP hD hS [] rfl rfl hl.1 (rest := []) rfl rfl (Nat.le_of_ble_eq_true rfl) dX6_loadBoth_34) hP hD hS [] rfl (ws1 := (W_X6_loadBoth E a_t a_elements a_first a_holds a_now a_sizes a_telling a_refused a_kept a_mind a_tape a_words a_wCell a_wFaces a_wTurns a_wSign a_wBy a_wFell a_moved a_above a_out c_t c_elements c_first c_holds c_now c_sizes c_telling)) rfl (fun H locs hP hD hS => ?_)
        refine lv_if_eq (tgt := 63) hx hb dX6_loadBoth_37 (by decide) (fun hc37 => ?_) (fun hc37 => ?_)
        · have h := if_t h hc37
          refine lv_bipush (v := (-2 : Int32)) hx hb dX6_loadBoth_63 (by decide) ?_
          obtain rfl := Option.some.inj h
          exact ret_i X dX6_loadBoth_65 hP hD hS rfl
        · have h := if_f h hc37
          refine lv_aload_n hx hb dX6_loadBoth_40 rfl (lv_at hl 0 rfl) ?_
          refine lv_iload_n hx hb dX6_loadBoth_41 rfl (lv_at hl 3 rfl) ?_
          obtain ⟨v5, hv5, h⟩ := bind_of h
          refine after_i X (run_V X (c_X6_isPerson l E a_t a_now a_refused a_kept a_mind a_tape a_words a_wCell a_wFaces a_wTurns a_wSign a_wBy a_wFell a_telling a_holds a_sizes a_elements a_moved a_above a_out a_first l3 c_t c_now H.size v5 hv5) (cwV 1 hts gX6_loadBoth_X6_isPerson rfl rfl rfl hV_X6_isPerson ⟨(Nat.le_of_ble_eq_true rfl), (Nat.le_of_ble_eq_true rfl)⟩) hP hD hS [0, 4] rfl rfl hl.1 (ci := 6) rfl rfl rfl (rest := []) rfl rfl (Nat.le_of_ble_eq_true rfl) dX6_loadBoth_42) hP hD hS [0, 4] rfl (ws1 := (W_X6_loadBoth E a_t a_elements a_first a_holds a_now a_sizes a_telling a_refused a_kept a_mind a_tape a_words a_wCell a_wFaces a_wTurns a_wSign a_wBy a_wFell a_moved a_above a_out c_t c_elements c_first c_holds c_now c_sizes c_telling)) rfl (fun H locs hP hD hS => ?_)
          refine lv_if_eq (tgt := 63) hx hb dX6_loadBoth_45 (by decide) (fun hc45 => ?_) (fun hc45 => ?_)
          · have h := if_t h hc45
            refine lv_bipush (v := (-2 : Int32)) hx hb dX6_loadBoth_63 (by decide) ?_
            obtain rfl := Option.some.inj h
            exact ret_i X dX6_loadBoth_65 hP hD hS rfl
          · have h := if_f h hc45
            refine lv_aload_n hx hb dX6_loadBoth_48 rfl (lv_at hl 0 rfl) ?_
            refine lv_iload hx hb dX6_loadBoth_49 (lv_at hl 6 rfl) ?_
            obtain ⟨v6, hv6, h⟩ := bind_of h
            refine after_i X (run_V X (c_X6_isPerson l E a_t a_now a_refused a_kept a_mind a_tape a_words a_wCell a_wFaces a_wTurns a_wSign a_wBy a_wFell a_telling a_holds a_sizes a_elements a_moved a_above a_out a_first l6 c_t c_now H.size v6 hv6) (cwV 1 hts gX6_loadBoth_X6_isPerson rfl rfl rfl hV_X6_isPerson ⟨(Nat.le_of_ble_eq_true rfl), (Nat.le_of_ble_eq_true rfl)⟩) hP hD hS [0, 4] rfl rfl hl.1 (ci := 6) rfl rfl rfl (rest := []) rfl rfl (Nat.le_of_ble_eq_true rfl) dX6_loadBoth_51) hP hD hS [0, 4] rfl (ws1 := (W_X6_loadBoth E a_t a_elements a_first a_holds a_now a_sizes a_telling a_refused a_kept a_mind a_tape a_words a_wCell a_wFaces a_wTurns a_wSign a_wBy a_wFell a_moved a_above a_out c_t c_elements c_first c_holds c_now c_sizes c_telling)) rfl (fun H locs hP hD hS => ?_)
            refine lv_if_eq (tgt := 63) hx hb dX6_loadBoth_54 (by decide) (fun hc54 => ?_) (fun hc54 => ?_)
            · have h := if_t h hc54
              refine lv_bipush (v := (-2 : Int32)) hx hb dX6_loadBoth_63 (by decide) ?_
              obtain rfl := Option.some.inj h
              exact ret_i X dX6_loadBoth_65 hP hD hS rfl
            · have h := if_f h hc54
              refine lv_iload_n hx hb dX6_loadBoth_57 rfl (lv_at hl 3 rfl) ?_
              refine lv_iload hx hb dX6_loadBoth_58 (lv_at hl 6 rfl) ?_
              refine lv_icmp_ne (tgt := 66) hx hb dX6_loadBoth_60 (by decide) (fun hc60 => ?_) (fun hc60 => ?_)
              · have h := if_f h hc60
                refine lv_aload_n hx hb dX6_loadBoth_66 rfl (lv_at hl 0 rfl) ?_
                refine va_get (D := E.1) (ci := 6) (v := .ref a_holds) (C := RX6) (T := TX6) (N := 26) hx hb hts iX6_loadBoth_X6 hown hK hP 0 rfl rfl 19 (by decide) (hts (.fieldLink RX6 54 "LeftIsAgreedOnModel" "holds" "[I") (List.mem_of_getElem? (i := 2) rfl)) (fun _ h9 => h9) rfl dX6_loadBoth_67 ?_
                refine lv_iload_n hx hb dX6_loadBoth_70 rfl (lv_at hl 1 rfl) ?_
                obtain ⟨hz71, h⟩ := chk_of h
                refine ld_i X hP 3 rfl (inb.vp hz71) (v := (c_holds (l1).toNatClampNeg)) rfl dX6_loadBoth_71 ?_
                refine lv_bipush (v := (10 : Int32)) hx hb dX6_loadBoth_72 (by decide) ?_
                refine lv_icmp_ge (tgt := 89) hx hb dX6_loadBoth_74 (by decide) (fun hc74 => ?_) (fun hc74 => ?_)
                · have h := if_t h hc74
                  refine lv_bipush (v := (-3 : Int32)) hx hb dX6_loadBoth_89 (by decide) ?_
                  obtain rfl := Option.some.inj h
                  exact ret_i X dX6_loadBoth_91 hP hD hS rfl
                · have h := if_f h hc74
                  refine lv_aload_n hx hb dX6_loadBoth_77 rfl (lv_at hl 0 rfl) ?_
                  refine va_get (D := E.1) (ci := 6) (v := .ref a_holds) (C := RX6) (T := TX6) (N := 26) hx hb hts iX6_loadBoth_X6 hown hK hP 0 rfl rfl 19 (by decide) (hts (.fieldLink RX6 54 "LeftIsAgreedOnModel" "holds" "[I") (List.mem_of_getElem? (i := 2) rfl)) (fun _ h9 => h9) rfl dX6_loadBoth_78 ?_
                  refine lv_iload hx hb dX6_loadBoth_81 (lv_at hl 4 rfl) ?_
                  obtain ⟨hz83, h⟩ := chk_of h
                  refine ld_i X hP 3 rfl (inb.vp hz83) (v := (c_holds (l4).toNatClampNeg)) rfl dX6_loadBoth_83 ?_
                  refine lv_bipush (v := (10 : Int32)) hx hb dX6_loadBoth_84 (by decide) ?_
                  refine lv_icmp_lt (tgt := 92) hx hb dX6_loadBoth_86 (by decide) (fun hc86 => ?_) (fun hc86 => ?_)
                  · have h := if_t h hc86
                    refine lv_aload_n hx hb dX6_loadBoth_92 rfl (lv_at hl 0 rfl) ?_
                    refine va_get (D := E.1) (ci := 6) (v := .ref a_holds) (C := RX6) (T := TX6) (N := 26) hx hb hts iX6_loadBoth_X6 hown hK hP 0 rfl rfl 19 (by decide) (hts (.fieldLink RX6 54 "LeftIsAgreedOnModel" "holds" "[I") (List.mem_of_getElem? (i := 2) rfl)) (fun _ h9 => h9) rfl dX6_loadBoth_93 ?_
                    refine lv_iload_n hx hb dX6_loadBoth_96 rfl (lv_at hl 1 rfl) ?_
                    obtain ⟨hz97, h⟩ := chk_of h
                    refine ld_i X hP 3 rfl (inb.vp hz97) (v := (c_holds (l1).toNatClampNeg)) rfl dX6_loadBoth_97 ?_
                    refine lv_iconst (v := (-1 : Int32)) hx hb dX6_loadBoth_98 (by decide) ?_
                    refine lv_icmp_eq (tgt := 113) hx hb dX6_loadBoth_99 (by decide) (fun hc99 => ?_) (fun hc99 => ?_)
                    · have h := if_t h hc99
                      refine lv_bipush (v := (-4 : Int32)) hx hb dX6_loadBoth_113 (by decide) ?_
                      obtain rfl := Option.some.inj h
                      exact ret_i X dX6_loadBoth_115 hP hD hS rfl
                    · have h := if_f h hc99
                      refine lv_aload_n hx hb dX6_loadBoth_102 rfl (lv_at hl 0 rfl) ?_
                      refine va_get (D := E.1) (ci := 6) (v := .ref a_holds) (C := RX6) (T := TX6) (N := 26) hx hb hts iX6_loadBoth_X6 hown hK hP 0 rfl rfl 19 (by decide) (hts (.fieldLink RX6 54 "LeftIsAgreedOnModel" "holds" "[I") (List.mem_of_getElem? (i := 2) rfl)) (fun _ h9 => h9) rfl dX6_loadBoth_103 ?_
                      refine lv_iload hx hb dX6_loadBoth_106 (lv_at hl 4 rfl) ?_
                      obtain ⟨hz108, h⟩ := chk_of h
                      refine ld_i X hP 3 rfl (inb.vp hz108) (v := (c_holds (l4).toNatClampNeg)) rfl dX6_loadBoth_108 ?_
                      refine lv_iconst (v := (-1 : Int32)) hx hb dX6_loadBoth_109 (by decide) ?_
                      refine lv_icmp_ne (tgt := 116) hx hb dX6_loadBoth_110 (by decide) (fun hc110 => ?_) (fun hc110 => ?_)
                      · have h := if_f h hc110
                        refine lv_iload_n hx hb dX6_loadBoth_116 rfl (lv_at hl 2 rfl) ?_
                        refine lv_aload_n hx hb dX6_loadBoth_117 rfl (lv_at hl 0 rfl) ?_
                        refine va_get (D := E.1) (ci := 6) (v := .ref a_sizes) (C := RX6) (T := TX6) (N := 26) hx hb hts iX6_loadBoth_X6 hown hK hP 0 rfl rfl 20 (by decide) (hts (.fieldLink RX6 57 "LeftIsAgreedOnModel" "sizes" "[I") (List.mem_of_getElem? (i := 3) rfl)) (fun _ h9 => h9) rfl dX6_loadBoth_118 ?_
                        refine lv_iload_n hx hb dX6_loadBoth_121 rfl (lv_at hl 1 rfl) ?_
                        obtain ⟨hz122, h⟩ := chk_of h
                        refine ld_i X hP 5 rfl (inb.vp hz122) (v := (c_sizes (l1).toNatClampNeg)) rfl dX6_loadBoth_122 ?_
                        refine lv_icmp_gt (tgt := 138) hx hb dX6_loadBoth_123 (by decide) (fun hc123 => ?_) (fun hc123 => ?_)
                        · have h := if_t h hc123
                          refine lv_bipush (v := (-2 : Int32)) hx hb dX6_loadBoth_138 (by decide) ?_
                          obtain rfl := Option.some.inj h
                          exact ret_i X dX6_loadBoth_140 hP hD hS rfl
                        · have h := if_f h hc123
                          refine lv_iload hx hb dX6_loadBoth_126 (lv_at hl 5 rfl) ?_
                          refine lv_aload_n hx hb dX6_loadBoth_128 rfl (lv_at hl 0 rfl) ?_
                          refine va_get (D := E.1) (ci := 6) (v := .ref a_sizes) (C := RX6) (T := TX6) (N := 26) hx hb hts iX6_loadBoth_X6 hown hK hP 0 rfl rfl 20 (by decide) (hts (.fieldLink RX6 57 "LeftIsAgreedOnModel" "sizes" "[I") (List.mem_of_getElem? (i := 3) rfl)) (fun _ h9 => h9) rfl dX6_loadBoth_129 ?_
                          refine lv_iload hx hb dX6_loadBoth_132 (lv_at hl 4 rfl) ?_
                          obtain ⟨hz134, h⟩ := chk_of h
                          refine ld_i X hP 5 rfl (inb.vp hz134) (v := (c_sizes (l4).toNatClampNeg)) rfl dX6_loadBoth_134 ?_
                          refine lv_icmp_le (tgt := 141) hx hb dX6_loadBoth_135 (by decide) (fun hc135 => ?_) (fun hc135 => ?_)
                          · have h := if_t h hc135
                            refine lv_aload_n hx hb dX6_loadBoth_141 rfl (lv_at hl 0 rfl) ?_
                            refine lv_iload_n hx hb dX6_loadBoth_142 rfl (lv_at hl 1 rfl) ?_
                            refine lv_iload_n hx hb dX6_loadBoth_143 rfl (lv_at hl 2 rfl) ?_
                            obtain ⟨v7, hv7, h⟩ := bind_of h
                            refine after_i X (run_V X (c_X6_load l E a_t a_elements a_holds a_sizes a_telling a_refused a_now a_kept a_mind a_tape a_words a_wCell a_wFaces a_wTurns a_wSign a_wBy a_wFell a_moved a_above a_out a_first l1 l2 c_t c_elements c_holds c_sizes c_telling H.size v7 hv7) (cwV 2 hts gX6_loadBoth_X6_load rfl rfl rfl hV_X6_load ⟨(Nat.le_of_ble_eq_true rfl), (Nat.le_of_ble_eq_true rfl)⟩) hP hD hS [0, 1, 3, 5, 6] rfl rfl hl.1 (ci := 6) rfl rfl rfl (rest := []) rfl rfl (Nat.le_of_ble_eq_true rfl) dX6_loadBoth_144) hP hD hS [0, 1, 3, 5, 6] rfl (ws1 := (W_X6_loadBoth E a_t a_elements a_first a_holds a_now a_sizes a_telling a_refused a_kept a_mind a_tape a_words a_wCell a_wFaces a_wTurns a_wSign a_wBy a_wFell a_moved a_above a_out c_t c_elements c_first c_holds c_now c_sizes (v7.2))) rfl (fun H locs hP hD hS => ?_)
                            refine lv_istore (lv' := [(7, .int (v7.1)), (0, .ref a_t), (1, .int l1), (2, .int l2), (3, .int l3), (4, .int l4), (5, .int l5), (6, .int l6)]) hx hb dX6_loadBoth_147 hl (by decide) rfl (fun ls hl => ?_)
                            refine lv_iconst (v := (0 : Int32)) hx hb dX6_loadBoth_149 (by decide) ?_
                            refine lv_istore (lv' := [(8, .int (0 : Int32)), (7, .int (v7.1)), (0, .ref a_t), (1, .int l1), (2, .int l2), (3, .int l3), (4, .int l4), (5, .int l5), (6, .int l6)]) hx hb dX6_loadBoth_150 hl (by decide) rfl (fun ls hl => ?_)
                            exact w_X6_loadBoth_b152 X a_t a_elements a_first a_holds a_now a_sizes a_telling a_refused a_kept a_mind a_tape a_words a_wCell a_wFaces a_wTurns a_wSign a_wBy a_wFell a_moved a_above a_out c_t c_elements c_holds c_now c_sizes res FU c_first (v7.2) l2 l4 l5 (v7.1) (0 : Int32) _ _ _ h hP hD hS (lv_sub hl [2, 4, 6, 7, 1, 0] rfl)
                          · have h := if_f h hc135
                            refine lv_bipush (v := (-2 : Int32)) hx hb dX6_loadBoth_138 (by decide) ?_
                            obtain rfl := Option.some.inj h
                            exact ret_i X dX6_loadBoth_140 hP hD hS rfl
                      · have h := if_t h hc110
                        refine lv_bipush (v := (-4 : Int32)) hx hb dX6_loadBoth_113 (by decide) ?_
                        obtain rfl := Option.some.inj h
                        exact ret_i X dX6_loadBoth_115 hP hD hS rfl
                  · have h := if_f h hc86
                    refine lv_bipush (v := (-3 : Int32)) hx hb dX6_loadBoth_89 (by decide) ?_
                    obtain rfl := Option.some.inj h
                    exact ret_i X dX6_loadBoth_91 hP hD hS rfl
              · have h := if_t h hc60
                refine lv_bipush (v := (-2 : Int32)) hx hb dX6_loadBoth_63 (by decide) ?_
                obtain rfl := Option.some.inj h
                exact ret_i X dX6_loadBoth_65 hP hD hS rfl
end
set_option maxRecDepth 100000 in
theorem c_X6_loadBoth (l : Launch) (E : Env0) (a_t : Nat) (a_elements : Nat) (a_first : Nat) (a_holds : Nat) (a_now : Nat) (a_sizes : Nat) (a_telling : Nat) (a_refused : Nat) (a_kept : Nat) (a_mind : Nat) (a_tape : Nat) (a_words : Nat) (a_wCell : Nat) (a_wFaces : Nat) (a_wTurns : Nat) (a_wSign : Nat) (a_wBy : Nat) (a_wFell : Nat) (a_moved : Nat) (a_above : Nat) (a_out : Nat) (l1 : Int32) (l2 : Int32) (l3 : Int32) (l4 : Int32) (l5 : Int32) (l6 : Int32) (c_t : Nat → Int32) (c_elements : Nat → Int64) (c_first : Nat → Int32) (c_holds : Nat → Int32) (c_now : Nat → Int32) (c_sizes : Nat → Int32) (c_telling : Nat → Int32) (sz : Nat) (res : Int32 × (Nat → Int32) × (Nat → Int32)) (h : f_X6_loadBoth l1 l2 l3 l4 l5 l6 c_t c_elements c_first c_holds c_now c_sizes c_telling = some res) : Met l yX6_loadBoth wsX6_loadBoth r_X6_loadBoth (cPre E [.ref a_t, .int l1, .int l2, .int l3, .int l4, .int l5, .int l6] (W_X6_loadBoth E a_t a_elements a_first a_holds a_now a_sizes a_telling a_refused a_kept a_mind a_tape a_words a_wCell a_wFaces a_wTurns a_wSign a_wBy a_wFell a_moved a_above a_out c_t c_elements c_first c_holds c_now c_sizes c_telling) sz) (qI E (va_A (W_X6_loadBoth E a_t a_elements a_first a_holds a_now a_sizes a_telling a_refused a_kept a_mind a_tape a_words a_wCell a_wFaces a_wTurns a_wSign a_wBy a_wFell a_moved a_above a_out c_t c_elements c_first c_holds c_now c_sizes c_telling) sz) (res.1) (W_X6_loadBoth E a_t a_elements a_first a_holds a_now a_sizes a_telling a_refused a_kept a_mind a_tape a_words a_wCell a_wFaces a_wTurns a_wSign a_wBy a_wFell a_moved a_above a_out c_t c_elements (res.2.1) c_holds c_now c_sizes (res.2.2))) 0 0 (va_A (W_X6_loadBoth E a_t a_elements a_first a_holds a_now a_sizes a_telling a_refused a_kept a_mind a_tape a_words a_wCell a_wFaces a_wTurns a_wSign a_wBy a_wFell a_moved a_above a_out c_t c_elements c_first c_holds c_now c_sizes c_telling) sz) :=
  met_of (Qc := fun A => qI E A (res.1) (W_X6_loadBoth E a_t a_elements a_first a_holds a_now a_sizes a_telling a_refused a_kept a_mind a_tape a_words a_wCell a_wFaces a_wTurns a_wSign a_wBy a_wFell a_moved a_above a_out c_t c_elements (res.2.1) c_holds c_now c_sizes (res.2.2))) (by decide) rfl (Nat.le_of_ble_eq_true rfl) (fun p e s m args below meth c X hP hD hS ls hl => w_X6_loadBoth X a_t a_elements a_first a_holds a_now a_sizes a_telling a_refused a_kept a_mind a_tape a_words a_wCell a_wFaces a_wTurns a_wSign a_wBy a_wFell a_moved a_above a_out c_t c_elements c_holds c_now c_sizes res c_first c_telling l1 l2 l3 l4 l5 l6 ls _ _ h hP hD hS hl)
-- ===== X6_met
noncomputable abbrev W_X6_met (E : Env0) (a_t : Nat) (a_first : Nat) (a_now : Nat) (a_telling : Nat) (a_wBy : Nat) (a_wCell : Nat) (a_wFaces : Nat) (a_wFell : Nat) (a_wSign : Nat) (a_wTurns : Nat) (a_refused : Nat) (a_kept : Nat) (a_mind : Nat) (a_tape : Nat) (a_words : Nat) (a_holds : Nat) (a_sizes : Nat) (a_elements : Nat) (a_moved : Nat) (a_above : Nat) (a_out : Nat) (c_t : Nat → Int32) (c_first : Nat → Int32) (c_now : Nat → Int32) (c_telling : Nat → Int32) (c_wBy : Nat → Int32) (c_wCell : Nat → Int32) (c_wFaces : Nat → Int32) (c_wFell : Nat → Int32) (c_wSign : Nat → Int32) (c_wTurns : Nat → Int32) : va_W := [(a_t, .inr (6, [.ref a_refused, .ref a_now, .ref a_kept, .ref a_mind, .int (c_t 4), .ref a_tape, .int (c_t 6), .int (c_t 7), .int (c_t 8), .int (c_t 9), .ref a_words, .ref a_wCell, .ref a_wFaces, .ref a_wTurns, .ref a_wSign, .ref a_wBy, .ref a_wFell, .int (c_t 17), .ref a_telling, .ref a_holds, .ref a_sizes, .ref a_elements, .ref a_moved, .ref a_above, .ref a_out, .ref a_first])), (a_first, .inl (eI E, 40, .inl c_first)), (a_now, .inl (eI E, 97, .inl c_now)), (a_telling, .inl (eI E, 40, .inl c_telling)), (a_wBy, .inl (eI E, 2, .inl c_wBy)), (a_wCell, .inl (eI E, 2, .inl c_wCell)), (a_wFaces, .inl (eI E, 2, .inl c_wFaces)), (a_wFell, .inl (eI E, 2, .inl c_wFell)), (a_wSign, .inl (eI E, 2, .inl c_wSign)), (a_wTurns, .inl (eI E, 2, .inl c_wTurns))]
noncomputable abbrev r_X6_met : Room := { frames := 5, cells := 0, slots := 0, locals := 122 }
theorem hd_X6_met : yX6_met.cls ≠ "java/lang/invoke/MethodHandle" ∧ yX6_met.cls ≠ "java/lang/invoke/VarHandle" ∧ (parseMethodDescriptor yX6_met.desc).map (fun d => d.parameters.length) = some 5 := by decide +kernel
theorem hV_X6_met : yX6_met.cls = RX6 ∧ yX6_met.cls ≠ "java/lang/invoke/MethodHandle" ∧ yX6_met.cls ≠ "java/lang/invoke/VarHandle" ∧ (parseMethodDescriptor yX6_met.desc).map (fun d => d.parameters.length) = some 5 := ⟨rfl, hd_X6_met⟩
theorem iX6_met_X6 : ∀ w ∈ wsX60, w ∈ wsX6_met := fun _ h => List.mem_cons_of_mem _ (List.mem_append_right _ (h))
section
variable {p : Program} {l : Launch} {e : Env} {s : State} {m : MethodId} {args : Array Value} {below : List Frame} {meth : Method} {c : Code} {E : Env0} {A : Nat → Prop}
set_option maxRecDepth 100000 in
set_option maxHeartbeats 4000000 in
theorem w_X6_met_b185 (X : Ctx p m meth c cX6_met 9 ((some .int)) s args wsX6_met RX6 E A) (a_t : Nat) (a_first : Nat) (a_now : Nat) (a_telling : Nat) (a_wBy : Nat) (a_wCell : Nat) (a_wFaces : Nat) (a_wFell : Nat) (a_wSign : Nat) (a_wTurns : Nat) (a_refused : Nat) (a_kept : Nat) (a_mind : Nat) (a_tape : Nat) (a_words : Nat) (a_holds : Nat) (a_sizes : Nat) (a_elements : Nat) (a_moved : Nat) (a_above : Nat) (a_out : Nat) (c_first : Nat → Int32) (c_now : Nat → Int32) (c_telling : Nat → Int32) (res : Int32 × (Nat → Int32) × (Nat → Int32) × (Nat → Int32) × (Nat → Int32) × (Nat → Int32) × (Nat → Int32) × (Nat → Int32)) (c_t : Nat → Int32) (c_wBy : Nat → Int32) (c_wCell : Nat → Int32) (c_wFaces : Nat → Int32) (c_wFell : Nat → Int32) (c_wSign : Nat → Int32) (c_wTurns : Nat → Int32) (l6 : Int32) (ls : Array Slot) (H : Heap) (locs : List Loc) (h : f_X6_met_b185 c_first c_now c_telling c_t c_wBy c_wCell c_wFaces c_wFell c_wSign c_wTurns l6 = some res) (hP : va_P E.1 vwCl (W_X6_met E a_t a_first a_now a_telling a_wBy a_wCell a_wFaces a_wFell a_wSign a_wTurns a_refused a_kept a_mind a_tape a_words a_holds a_sizes a_elements a_moved a_above a_out c_t c_first c_now c_telling c_wBy c_wCell c_wFaces c_wFell c_wSign c_wTurns) H) (hD : va_D A (W_X6_met E a_t a_first a_now a_telling a_wBy a_wCell a_wFaces a_wFell a_wSign a_wTurns a_refused a_kept a_mind a_tape a_words a_holds a_sizes a_elements a_moved a_above a_out c_t c_first c_now c_telling c_wBy c_wCell c_wFaces c_wFell c_wSign c_wTurns)) (hS : va_S A s.heap H locs) (hl : lv_has ls 9 [(6, .int l6)]) : W p l e r_X6_met s m args below meth c H locs 0 0 (MQ below (qI E A (res.1) (W_X6_met E a_t a_first a_now a_telling a_wBy a_wCell a_wFaces a_wFell a_wSign a_wTurns a_refused a_kept a_mind a_tape a_words a_holds a_sizes a_elements a_moved a_above a_out (res.2.1) c_first c_now c_telling (res.2.2.1) (res.2.2.2.1) (res.2.2.2.2.1) (res.2.2.2.2.2.1) (res.2.2.2.2.2.2.1) (res.2.2.2.2.2.2.2))) args s 0 0 A) (F0 m 185 ls []) := by
  obtain ⟨hx, hb, hml, hr, hlk, hown, hts, hG, hA⟩ := id X
  have hK := hG.1
  have hN := hG.2.1
  unfold f_X6_met_b185 at h
  refine lv_iload hx hb dX6_met_185 (lv_at hl 0 rfl) ?_
  refine lv_iconst (v := (1 : Int32)) hx hb dX6_met_187 (by decide) ?_
  refine lv_iadd hx hb dX6_met_188 ?_
  obtain rfl := Option.some.inj h
  exact ret_i X dX6_met_189 hP hD hS rfl
set_option maxRecDepth 100000 in
set_option maxHeartbeats 4000000 in
theorem w_X6_met_b190 (X : Ctx p m meth c cX6_met 9 ((some .int)) s args wsX6_met RX6 E A) (a_t : Nat) (a_first : Nat) (a_now : Nat) (a_telling : Nat) (a_wBy : Nat) (a_wCell : Nat) (a_wFaces : Nat) (a_wFell : Nat) (a_wSign : Nat) (a_wTurns : Nat) (a_refused : Nat) (a_kept : Nat) (a_mind : Nat) (a_tape : Nat) (a_words : Nat) (a_holds : Nat) (a_sizes : Nat) (a_elements : Nat) (a_moved : Nat) (a_above : Nat) (a_out : Nat) (c_first : Nat → Int32) (c_now : Nat → Int32) (c_telling : Nat → Int32) (res : Int32 × (Nat → Int32) × (Nat → Int32) × (Nat → Int32) × (Nat → Int32) × (Nat → Int32) × (Nat → Int32) × (Nat → Int32)) (k52 : (Nat → Int32) → (Nat → Int32) → (Nat → Int32) → (Nat → Int32) → (Nat → Int32) → (Nat → Int32) → (Nat → Int32) → Int32 → Int32 → Int32 → Int32 → Int32 → Int32 → Option (Int32 × (Nat → Int32) × (Nat → Int32) × (Nat → Int32) × (Nat → Int32) × (Nat → Int32) × (Nat → Int32) × (Nat → Int32))) (hk52 : ∀ (c_t : Nat → Int32) (c_wBy : Nat → Int32) (c_wCell : Nat → Int32) (c_wFaces : Nat → Int32) (c_wFell : Nat → Int32) (c_wSign : Nat → Int32) (c_wTurns : Nat → Int32) (l1 : Int32) (l2 : Int32) (l3 : Int32) (l4 : Int32) (l5 : Int32) (l6 : Int32) (ls : Array Slot) (H : Heap) (locs : List Loc), k52 c_t c_wBy c_wCell c_wFaces c_wFell c_wSign c_wTurns l1 l2 l3 l4 l5 l6 = some res → va_P E.1 vwCl (W_X6_met E a_t a_first a_now a_telling a_wBy a_wCell a_wFaces a_wFell a_wSign a_wTurns a_refused a_kept a_mind a_tape a_words a_holds a_sizes a_elements a_moved a_above a_out c_t c_first c_now c_telling c_wBy c_wCell c_wFaces c_wFell c_wSign c_wTurns) H → va_D A (W_X6_met E a_t a_first a_now a_telling a_wBy a_wCell a_wFaces a_wFell a_wSign a_wTurns a_refused a_kept a_mind a_tape a_words a_holds a_sizes a_elements a_moved a_above a_out c_t c_first c_now c_telling c_wBy c_wCell c_wFaces c_wFell c_wSign c_wTurns) → va_S A s.heap H locs → lv_has ls 9 [(0, .ref a_t), (1, .int l1), (2, .int l2), (3, .int l3), (4, .int l4), (5, .int l5), (6, .int l6)] → W p l e r_X6_met s m args below meth c H locs 0 0 (MQ below (qI E A (res.1) (W_X6_met E a_t a_first a_now a_telling a_wBy a_wCell a_wFaces a_wFell a_wSign a_wTurns a_refused a_kept a_mind a_tape a_words a_holds a_sizes a_elements a_moved a_above a_out (res.2.1) c_first c_now c_telling (res.2.2.1) (res.2.2.2.1) (res.2.2.2.2.1) (res.2.2.2.2.2.1) (res.2.2.2.2.2.2.1) (res.2.2.2.2.2.2.2))) args s 0 0 A) (F0 m 52 ls [])) (c_t : Nat → Int32) (c_wBy : Nat → Int32) (c_wCell : Nat → Int32) (c_wFaces : Nat → Int32) (c_wFell : Nat → Int32) (c_wSign : Nat → Int32) (c_wTurns : Nat → Int32) (l1 : Int32) (l2 : Int32) (l3 : Int32) (l4 : Int32) (l5 : Int32) (l6 : Int32) (ls : Array Slot) (H : Heap) (locs : List Loc) (h : f_X6_met_b190 c_first c_now c_telling k52 c_t c_wBy c_wCell c_wFaces c_wFell c_wSign c_wTurns l1 l2 l3 l4 l5 l6 = some res) (hP : va_P E.1 vwCl (W_X6_met E a_t a_first a_now a_telling a_wBy a_wCell a_wFaces a_wFell a_wSign a_wTurns a_refused a_kept a_mind a_tape a_words a_holds a_sizes a_elements a_moved a_above a_out c_t c_first c_now c_telling c_wBy c_wCell c_wFaces c_wFell c_wSign c_wTurns) H) (hD : va_D A (W_X6_met E a_t a_first a_now a_telling a_wBy a_wCell a_wFaces a_wFell a_wSign a_wTurns a_refused a_kept a_mind a_tape a_words a_holds a_sizes a_elements a_moved a_above a_out c_t c_first c_now c_telling c_wBy c_wCell c_wFaces c_wFell c_wSign c_wTurns)) (hS : va_S A s.heap H locs) (hl : lv_has ls 9 [(0, .ref a_t), (1, .int l1), (2, .int l2), (3, .int l3), (4, .int l4), (5, .int l5), (6, .int l6)]) : W p l e r_X6_met s m args below meth c H locs 0 0 (MQ below (qI E A (res.1) (W_X6_met E a_t a_first a_now a_telling a_wBy a_wCell a_wFaces a_wFell a_wSign a_wTurns a_refused a_kept a_mind a_tape a_words a_holds a_sizes a_elements a_moved a_above a_out (res.2.1) c_first c_now c_telling (res.2.2.1) (res.2.2.2.1) (res.2.2.2.2.1) (res.2.2.2.2.2.1) (res.2.2.2.2.2.2.1) (res.2.2.2.2.2.2.2))) args s 0 0 A) (F0 m 190 ls []) := by
  obtain ⟨hx, hb, hml, hr, hlk, hown, hts, hG, hA⟩ := id X
  have hK := hG.1
  have hN := hG.2.1
  unfold f_X6_met_b190 at h
  refine lv_iinc (v := (l6 + (1 : Int32))) (lv' := [(6, .int (l6 + (1 : Int32))), (0, .ref a_t), (1, .int l1), (2, .int l2), (3, .int l3), (4, .int l4), (5, .int l5)]) hx hb dX6_met_190 hl (k := 6) rfl rfl (by decide) rfl (fun ls hl => ?_)
  refine lv_goto (tgt := 52) hx hb dX6_met_193 (by decide) ?_
  exact hk52 c_t c_wBy c_wCell c_wFaces c_wFell c_wSign c_wTurns l1 l2 l3 l4 l5 (l6 + (1 : Int32)) _ _ _ h hP hD hS (lv_sub hl [1, 2, 3, 4, 5, 6, 0] rfl)
set_option maxRecDepth 100000 in
set_option maxHeartbeats 4000000 in
theorem w_X6_met_b143 (X : Ctx p m meth c cX6_met 9 ((some .int)) s args wsX6_met RX6 E A) (a_t : Nat) (a_first : Nat) (a_now : Nat) (a_telling : Nat) (a_wBy : Nat) (a_wCell : Nat) (a_wFaces : Nat) (a_wFell : Nat) (a_wSign : Nat) (a_wTurns : Nat) (a_refused : Nat) (a_kept : Nat) (a_mind : Nat) (a_tape : Nat) (a_words : Nat) (a_holds : Nat) (a_sizes : Nat) (a_elements : Nat) (a_moved : Nat) (a_above : Nat) (a_out : Nat) (c_first : Nat → Int32) (c_now : Nat → Int32) (c_telling : Nat → Int32) (res : Int32 × (Nat → Int32) × (Nat → Int32) × (Nat → Int32) × (Nat → Int32) × (Nat → Int32) × (Nat → Int32) × (Nat → Int32)) (k52 : (Nat → Int32) → (Nat → Int32) → (Nat → Int32) → (Nat → Int32) → (Nat → Int32) → (Nat → Int32) → (Nat → Int32) → Int32 → Int32 → Int32 → Int32 → Int32 → Int32 → Option (Int32 × (Nat → Int32) × (Nat → Int32) × (Nat → Int32) × (Nat → Int32) × (Nat → Int32) × (Nat → Int32) × (Nat → Int32))) (hk52 : ∀ (c_t : Nat → Int32) (c_wBy : Nat → Int32) (c_wCell : Nat → Int32) (c_wFaces : Nat → Int32) (c_wFell : Nat → Int32) (c_wSign : Nat → Int32) (c_wTurns : Nat → Int32) (l1 : Int32) (l2 : Int32) (l3 : Int32) (l4 : Int32) (l5 : Int32) (l6 : Int32) (ls : Array Slot) (H : Heap) (locs : List Loc), k52 c_t c_wBy c_wCell c_wFaces c_wFell c_wSign c_wTurns l1 l2 l3 l4 l5 l6 = some res → va_P E.1 vwCl (W_X6_met E a_t a_first a_now a_telling a_wBy a_wCell a_wFaces a_wFell a_wSign a_wTurns a_refused a_kept a_mind a_tape a_words a_holds a_sizes a_elements a_moved a_above a_out c_t c_first c_now c_telling c_wBy c_wCell c_wFaces c_wFell c_wSign c_wTurns) H → va_D A (W_X6_met E a_t a_first a_now a_telling a_wBy a_wCell a_wFaces a_wFell a_wSign a_wTurns a_refused a_kept a_mind a_tape a_words a_holds a_sizes a_elements a_moved a_above a_out c_t c_first c_now c_telling c_wBy c_wCell c_wFaces c_wFell c_wSign c_wTurns) → va_S A s.heap H locs → lv_has ls 9 [(0, .ref a_t), (1, .int l1), (2, .int l2), (3, .int l3), (4, .int l4), (5, .int l5), (6, .int l6)] → W p l e r_X6_met s m args below meth c H locs 0 0 (MQ below (qI E A (res.1) (W_X6_met E a_t a_first a_now a_telling a_wBy a_wCell a_wFaces a_wFell a_wSign a_wTurns a_refused a_kept a_mind a_tape a_words a_holds a_sizes a_elements a_moved a_above a_out (res.2.1) c_first c_now c_telling (res.2.2.1) (res.2.2.2.1) (res.2.2.2.2.1) (res.2.2.2.2.2.1) (res.2.2.2.2.2.2.1) (res.2.2.2.2.2.2.2))) args s 0 0 A) (F0 m 52 ls [])) (c_t : Nat → Int32) (c_wBy : Nat → Int32) (c_wCell : Nat → Int32) (c_wFaces : Nat → Int32) (c_wFell : Nat → Int32) (c_wSign : Nat → Int32) (c_wTurns : Nat → Int32) (l1 : Int32) (l2 : Int32) (l3 : Int32) (l4 : Int32) (l5 : Int32) (l6 : Int32) (l7 : Int32) (l8 : Int32) (s0 : Int32) (s1 : Int32) (s2 : Int32) (ls : Array Slot) (H : Heap) (locs : List Loc) (h : f_X6_met_b143 c_first c_now c_telling k52 c_t c_wBy c_wCell c_wFaces c_wFell c_wSign c_wTurns l1 l2 l3 l4 l5 l6 l7 l8 s0 s1 s2 = some res) (hP : va_P E.1 vwCl (W_X6_met E a_t a_first a_now a_telling a_wBy a_wCell a_wFaces a_wFell a_wSign a_wTurns a_refused a_kept a_mind a_tape a_words a_holds a_sizes a_elements a_moved a_above a_out c_t c_first c_now c_telling c_wBy c_wCell c_wFaces c_wFell c_wSign c_wTurns) H) (hD : va_D A (W_X6_met E a_t a_first a_now a_telling a_wBy a_wCell a_wFaces a_wFell a_wSign a_wTurns a_refused a_kept a_mind a_tape a_words a_holds a_sizes a_elements a_moved a_above a_out c_t c_first c_now c_telling c_wBy c_wCell c_wFaces c_wFell c_wSign c_wTurns)) (hS : va_S A s.heap H locs) (hl : lv_has ls 9 [(0, .ref a_t), (1, .int l1), (2, .int l2), (3, .int l3), (4, .int l4), (5, .int l5), (6, .int l6), (7, .int l7), (8, .int l8)]) : W p l e r_X6_met s m args below meth c H locs 0 0 (MQ below (qI E A (res.1) (W_X6_met E a_t a_first a_now a_telling a_wBy a_wCell a_wFaces a_wFell a_wSign a_wTurns a_refused a_kept a_mind a_tape a_words a_holds a_sizes a_elements a_moved a_above a_out (res.2.1) c_first c_now c_telling (res.2.2.1) (res.2.2.2.1) (res.2.2.2.2.1) (res.2.2.2.2.2.1) (res.2.2.2.2.2.2.1) (res.2.2.2.2.2.2.2))) args s 0 0 A) (F0 m 143 ls [.int s0, .int s1, .int s2, .ref a_t]) := by
  obtain ⟨hx, hb, hml, hr, hlk, hown, hts, hG, hA⟩ := id X
  have hK := hG.1
  have hN := hG.2.1
  unfold f_X6_met_b143 at h
  refine lv_iload hx hb dX6_met_143 (lv_at hl 6 rfl) ?_
  obtain ⟨v1, hv1, h⟩ := bind_of h
  refine after_v X (run_V X (c_X6_step l E a_t a_now a_wBy a_wCell a_wFaces a_wFell a_wSign a_wTurns a_refused a_kept a_mind a_tape a_words a_telling a_holds a_sizes a_elements a_moved a_above a_out a_first s2 s1 s0 l6 c_t c_now c_wBy c_wCell c_wFaces c_wFell c_wSign c_wTurns H.size v1 hv1) (cwV 4 hts gX6_met_X6_step rfl rfl rfl hV_X6_step ⟨(Nat.le_of_ble_eq_true rfl), (Nat.le_of_ble_eq_true rfl)⟩) hP hD hS [0, 2, 4, 5, 6, 7, 8, 9] rfl rfl hl.1 (ci := 6) rfl rfl rfl (rest := []) rfl rfl (Nat.le_of_ble_eq_true rfl) dX6_met_145) hP hD hS [0, 2, 4, 5, 6, 7, 8, 9] rfl (ws1 := (W_X6_met E a_t a_first a_now a_telling a_wBy a_wCell a_wFaces a_wFell a_wSign a_wTurns a_refused a_kept a_mind a_tape a_words a_holds a_sizes a_elements a_moved a_above a_out (v1.1) c_first c_now c_telling (v1.2.1) (v1.2.2.1) (v1.2.2.2.1) (v1.2.2.2.2.1) (v1.2.2.2.2.2.1) (v1.2.2.2.2.2.2))) rfl (fun H locs hP hD hS => ?_)
  refine lv_aload_n hx hb dX6_met_148 rfl (lv_at hl 0 rfl) ?_
  refine va_get (D := E.1) (ci := 6) (v := .ref a_wCell) (C := RX6) (T := TX6) (N := 26) hx hb hts iX6_met_X6 hown hK hP 0 rfl rfl 11 (by decide) (hts (.fieldLink RX6 33 "LeftIsAgreedOnModel" "wCell" "[I") (List.mem_of_getElem? (i := 1) rfl)) (fun _ h9 => h9) rfl dX6_met_149 ?_
  refine lv_iconst (v := (0 : Int32)) hx hb dX6_met_152 (by decide) ?_
  refine ld_i X hP 5 rfl (inb.vp (by decide)) (v := ((v1.2.2.1) 0)) rfl dX6_met_153 ?_
  refine lv_aload_n hx hb dX6_met_154 rfl (lv_at hl 0 rfl) ?_
  refine va_get (D := E.1) (ci := 6) (v := .ref a_wCell) (C := RX6) (T := TX6) (N := 26) hx hb hts iX6_met_X6 hown hK hP 0 rfl rfl 11 (by decide) (hts (.fieldLink RX6 33 "LeftIsAgreedOnModel" "wCell" "[I") (List.mem_of_getElem? (i := 1) rfl)) (fun _ h9 => h9) rfl dX6_met_155 ?_
  refine lv_iconst (v := (1 : Int32)) hx hb dX6_met_158 (by decide) ?_
  refine ld_i X hP 5 rfl (inb.vp (by decide)) (v := ((v1.2.2.1) 1)) rfl dX6_met_159 ?_
  refine lv_icmp_eq (tgt := 185) hx hb dX6_met_160 (by decide) (fun hc160 => ?_) (fun hc160 => ?_)
  · have h := if_t h hc160
    exact w_X6_met_b185 X a_t a_first a_now a_telling a_wBy a_wCell a_wFaces a_wFell a_wSign a_wTurns a_refused a_kept a_mind a_tape a_words a_holds a_sizes a_elements a_moved a_above a_out c_first c_now c_telling res (v1.1) (v1.2.1) (v1.2.2.1) (v1.2.2.2.1) (v1.2.2.2.2.1) (v1.2.2.2.2.2.1) (v1.2.2.2.2.2.2) l6 _ _ _ h hP hD hS (lv_sub hl [6] rfl)
  · have h := if_f h hc160
    refine lv_aload_n hx hb dX6_met_163 rfl (lv_at hl 0 rfl) ?_
    refine va_get (D := E.1) (ci := 6) (v := .ref a_wCell) (C := RX6) (T := TX6) (N := 26) hx hb hts iX6_met_X6 hown hK hP 0 rfl rfl 11 (by decide) (hts (.fieldLink RX6 33 "LeftIsAgreedOnModel" "wCell" "[I") (List.mem_of_getElem? (i := 1) rfl)) (fun _ h9 => h9) rfl dX6_met_164 ?_
    refine lv_iconst (v := (0 : Int32)) hx hb dX6_met_167 (by decide) ?_
    refine ld_i X hP 5 rfl (inb.vp (by decide)) (v := ((v1.2.2.1) 0)) rfl dX6_met_168 ?_
    refine lv_iload hx hb dX6_met_169 (lv_at hl 8 rfl) ?_
    refine lv_icmp_ne (tgt := 190) hx hb dX6_met_171 (by decide) (fun hc171 => ?_) (fun hc171 => ?_)
    · have h := if_f h hc171
      exact w_X6_met_b190 X a_t a_first a_now a_telling a_wBy a_wCell a_wFaces a_wFell a_wSign a_wTurns a_refused a_kept a_mind a_tape a_words a_holds a_sizes a_elements a_moved a_above a_out c_first c_now c_telling res k52 hk52 (v1.1) (v1.2.1) (v1.2.2.1) (v1.2.2.2.1) (v1.2.2.2.2.1) (v1.2.2.2.2.2.1) (v1.2.2.2.2.2.2) l1 l2 l3 l4 l5 l6 _ _ _ h hP hD hS (lv_sub hl [0, 1, 2, 3, 4, 5, 6] rfl)
    · have h := if_t h hc171
      refine lv_aload_n hx hb dX6_met_174 rfl (lv_at hl 0 rfl) ?_
      refine va_get (D := E.1) (ci := 6) (v := .ref a_wCell) (C := RX6) (T := TX6) (N := 26) hx hb hts iX6_met_X6 hown hK hP 0 rfl rfl 11 (by decide) (hts (.fieldLink RX6 33 "LeftIsAgreedOnModel" "wCell" "[I") (List.mem_of_getElem? (i := 1) rfl)) (fun _ h9 => h9) rfl dX6_met_175 ?_
      refine lv_iconst (v := (1 : Int32)) hx hb dX6_met_178 (by decide) ?_
      refine ld_i X hP 5 rfl (inb.vp (by decide)) (v := ((v1.2.2.1) 1)) rfl dX6_met_179 ?_
      refine lv_iload hx hb dX6_met_180 (lv_at hl 7 rfl) ?_
      refine lv_icmp_ne (tgt := 190) hx hb dX6_met_182 (by decide) (fun hc182 => ?_) (fun hc182 => ?_)
      · have h := if_f h hc182
        exact w_X6_met_b190 X a_t a_first a_now a_telling a_wBy a_wCell a_wFaces a_wFell a_wSign a_wTurns a_refused a_kept a_mind a_tape a_words a_holds a_sizes a_elements a_moved a_above a_out c_first c_now c_telling res k52 hk52 (v1.1) (v1.2.1) (v1.2.2.1) (v1.2.2.2.1) (v1.2.2.2.2.1) (v1.2.2.2.2.2.1) (v1.2.2.2.2.2.2) l1 l2 l3 l4 l5 l6 _ _ _ h hP hD hS (lv_sub hl [0, 1, 2, 3, 4, 5, 6] rfl)
      · have h := if_t h hc182
        exact w_X6_met_b185 X a_t a_first a_now a_telling a_wBy a_wCell a_wFaces a_wFell a_wSign a_wTurns a_refused a_kept a_mind a_tape a_words a_holds a_sizes a_elements a_moved a_above a_out c_first c_now c_telling res (v1.1) (v1.2.1) (v1.2.2.1) (v1.2.2.2.1) (v1.2.2.2.2.1) (v1.2.2.2.2.2.1) (v1.2.2.2.2.2.2) l6 _ _ _ h hP hD hS (lv_sub hl [6] rfl)
set_option maxRecDepth 100000 in
set_option maxHeartbeats 4000000 in
theorem w_X6_met_b101 (X : Ctx p m meth c cX6_met 9 ((some .int)) s args wsX6_met RX6 E A) (a_t : Nat) (a_first : Nat) (a_now : Nat) (a_telling : Nat) (a_wBy : Nat) (a_wCell : Nat) (a_wFaces : Nat) (a_wFell : Nat) (a_wSign : Nat) (a_wTurns : Nat) (a_refused : Nat) (a_kept : Nat) (a_mind : Nat) (a_tape : Nat) (a_words : Nat) (a_holds : Nat) (a_sizes : Nat) (a_elements : Nat) (a_moved : Nat) (a_above : Nat) (a_out : Nat) (c_first : Nat → Int32) (c_now : Nat → Int32) (c_telling : Nat → Int32) (res : Int32 × (Nat → Int32) × (Nat → Int32) × (Nat → Int32) × (Nat → Int32) × (Nat → Int32) × (Nat → Int32) × (Nat → Int32)) (k52 : (Nat → Int32) → (Nat → Int32) → (Nat → Int32) → (Nat → Int32) → (Nat → Int32) → (Nat → Int32) → (Nat → Int32) → Int32 → Int32 → Int32 → Int32 → Int32 → Int32 → Option (Int32 × (Nat → Int32) × (Nat → Int32) × (Nat → Int32) × (Nat → Int32) × (Nat → Int32) × (Nat → Int32) × (Nat → Int32))) (hk52 : ∀ (c_t : Nat → Int32) (c_wBy : Nat → Int32) (c_wCell : Nat → Int32) (c_wFaces : Nat → Int32) (c_wFell : Nat → Int32) (c_wSign : Nat → Int32) (c_wTurns : Nat → Int32) (l1 : Int32) (l2 : Int32) (l3 : Int32) (l4 : Int32) (l5 : Int32) (l6 : Int32) (ls : Array Slot) (H : Heap) (locs : List Loc), k52 c_t c_wBy c_wCell c_wFaces c_wFell c_wSign c_wTurns l1 l2 l3 l4 l5 l6 = some res → va_P E.1 vwCl (W_X6_met E a_t a_first a_now a_telling a_wBy a_wCell a_wFaces a_wFell a_wSign a_wTurns a_refused a_kept a_mind a_tape a_words a_holds a_sizes a_elements a_moved a_above a_out c_t c_first c_now c_telling c_wBy c_wCell c_wFaces c_wFell c_wSign c_wTurns) H → va_D A (W_X6_met E a_t a_first a_now a_telling a_wBy a_wCell a_wFaces a_wFell a_wSign a_wTurns a_refused a_kept a_mind a_tape a_words a_holds a_sizes a_elements a_moved a_above a_out c_t c_first c_now c_telling c_wBy c_wCell c_wFaces c_wFell c_wSign c_wTurns) → va_S A s.heap H locs → lv_has ls 9 [(0, .ref a_t), (1, .int l1), (2, .int l2), (3, .int l3), (4, .int l4), (5, .int l5), (6, .int l6)] → W p l e r_X6_met s m args below meth c H locs 0 0 (MQ below (qI E A (res.1) (W_X6_met E a_t a_first a_now a_telling a_wBy a_wCell a_wFaces a_wFell a_wSign a_wTurns a_refused a_kept a_mind a_tape a_words a_holds a_sizes a_elements a_moved a_above a_out (res.2.1) c_first c_now c_telling (res.2.2.1) (res.2.2.2.1) (res.2.2.2.2.1) (res.2.2.2.2.2.1) (res.2.2.2.2.2.2.1) (res.2.2.2.2.2.2.2))) args s 0 0 A) (F0 m 52 ls [])) (c_t : Nat → Int32) (c_wBy : Nat → Int32) (c_wCell : Nat → Int32) (c_wFaces : Nat → Int32) (c_wFell : Nat → Int32) (c_wSign : Nat → Int32) (c_wTurns : Nat → Int32) (l1 : Int32) (l2 : Int32) (l3 : Int32) (l4 : Int32) (l5 : Int32) (l6 : Int32) (l7 : Int32) (l8 : Int32) (s0 : Int32) (s1 : Int32) (s2 : Int32) (ls : Array Slot) (H : Heap) (locs : List Loc) (h : f_X6_met_b101 c_first c_now c_telling k52 c_t c_wBy c_wCell c_wFaces c_wFell c_wSign c_wTurns l1 l2 l3 l4 l5 l6 l7 l8 s0 s1 s2 = some res) (hP : va_P E.1 vwCl (W_X6_met E a_t a_first a_now a_telling a_wBy a_wCell a_wFaces a_wFell a_wSign a_wTurns a_refused a_kept a_mind a_tape a_words a_holds a_sizes a_elements a_moved a_above a_out c_t c_first c_now c_telling c_wBy c_wCell c_wFaces c_wFell c_wSign c_wTurns) H) (hD : va_D A (W_X6_met E a_t a_first a_now a_telling a_wBy a_wCell a_wFaces a_wFell a_wSign a_wTurns a_refused a_kept a_mind a_tape a_words a_holds a_sizes a_elements a_moved a_above a_out c_t c_first c_now c_telling c_wBy c_wCell c_wFaces c_wFell c_wSign c_wTurns)) (hS : va_S A s.heap H locs) (hl : lv_has ls 9 [(0, .ref a_t), (1, .int l1), (2, .int l2), (3, .int l3), (4, .int l4), (5, .int l5), (6, .int l6), (7, .int l7), (8, .int l8)]) : W p l e r_X6_met s m args below meth c H locs 0 0 (MQ below (qI E A (res.1) (W_X6_met E a_t a_first a_now a_telling a_wBy a_wCell a_wFaces a_wFell a_wSign a_wTurns a_refused a_kept a_mind a_tape a_words a_holds a_sizes a_elements a_moved a_above a_out (res.2.1) c_first c_now c_telling (res.2.2.1) (res.2.2.2.1) (res.2.2.2.2.1) (res.2.2.2.2.2.1) (res.2.2.2.2.2.2.1) (res.2.2.2.2.2.2.2))) args s 0 0 A) (F0 m 101 ls [.int s0, .int s1, .int s2, .ref a_t]) := by
  obtain ⟨hx, hb, hml, hr, hlk, hown, hts, hG, hA⟩ := id X
  have hK := hG.1
  have hN := hG.2.1
  unfold f_X6_met_b101 at h
  refine lv_iload hx hb dX6_met_101 (lv_at hl 6 rfl) ?_
  obtain ⟨v1, hv1, h⟩ := bind_of h
  refine after_v X (run_V X (c_X6_step l E a_t a_now a_wBy a_wCell a_wFaces a_wFell a_wSign a_wTurns a_refused a_kept a_mind a_tape a_words a_telling a_holds a_sizes a_elements a_moved a_above a_out a_first s2 s1 s0 l6 c_t c_now c_wBy c_wCell c_wFaces c_wFell c_wSign c_wTurns H.size v1 hv1) (cwV 4 hts gX6_met_X6_step rfl rfl rfl hV_X6_step ⟨(Nat.le_of_ble_eq_true rfl), (Nat.le_of_ble_eq_true rfl)⟩) hP hD hS [0, 2, 4, 5, 6, 7, 8, 9] rfl rfl hl.1 (ci := 6) rfl rfl rfl (rest := []) rfl rfl (Nat.le_of_ble_eq_true rfl) dX6_met_103) hP hD hS [0, 2, 4, 5, 6, 7, 8, 9] rfl (ws1 := (W_X6_met E a_t a_first a_now a_telling a_wBy a_wCell a_wFaces a_wFell a_wSign a_wTurns a_refused a_kept a_mind a_tape a_words a_holds a_sizes a_elements a_moved a_above a_out (v1.1) c_first c_now c_telling (v1.2.1) (v1.2.2.1) (v1.2.2.2.1) (v1.2.2.2.2.1) (v1.2.2.2.2.2.1) (v1.2.2.2.2.2.2))) rfl (fun H locs hP hD hS => ?_)
  refine lv_aload_n hx hb dX6_met_106 rfl (lv_at hl 0 rfl) ?_
  refine lv_iconst (v := (1 : Int32)) hx hb dX6_met_107 (by decide) ?_
  refine lv_iload hx hb dX6_met_108 (lv_at hl 4 rfl) ?_
  refine lv_iload hx hb dX6_met_110 (lv_at hl 6 rfl) ?_
  refine lv_i2l (v := (l6.toInt64)) hx hb dX6_met_112 rfl ?_
  refine lv_iload hx hb dX6_met_113 (lv_at hl 5 rfl) ?_
  refine lv_i2l (v := (l5.toInt64)) hx hb dX6_met_115 rfl ?_
  refine lv_iload_n hx hb dX6_met_116 rfl (lv_at hl 3 rfl) ?_
  refine lv_iload hx hb dX6_met_117 (lv_at hl 5 rfl) ?_
  refine lv_iadd hx hb dX6_met_119 ?_
  refine lv_iconst (v := (1 : Int32)) hx hb dX6_met_120 (by decide) ?_
  refine lv_isub hx hb dX6_met_121 ?_
  refine lv_i2l (v := (((l3 + l5) - (1 : Int32)).toInt64)) hx hb dX6_met_122 rfl ?_
  obtain ⟨v2, hv2, h⟩ := bind_of h
  refine after_i X (run_S X (c_X6_isIn l E (l6.toInt64) (l5.toInt64) (((l3 + l5) - (1 : Int32)).toInt64) H.size v2 hv2) (va_cwS 3 hts gX6_met_X6_isIn rfl rfl rfl hd_X6_isIn ⟨(Nat.le_of_ble_eq_true rfl), (Nat.le_of_ble_eq_true rfl)⟩) hP hD hS [] rfl rfl hl.1 (rest := [.int l4, .int (1 : Int32), .ref a_t]) rfl rfl (Nat.le_of_ble_eq_true rfl) dX6_met_123) hP hD hS [] rfl (ws1 := (W_X6_met E a_t a_first a_now a_telling a_wBy a_wCell a_wFaces a_wFell a_wSign a_wTurns a_refused a_kept a_mind a_tape a_words a_holds a_sizes a_elements a_moved a_above a_out (v1.1) c_first c_now c_telling (v1.2.1) (v1.2.2.1) (v1.2.2.2.1) (v1.2.2.2.2.1) (v1.2.2.2.2.2.1) (v1.2.2.2.2.2.2))) rfl (fun H locs hP hD hS => ?_)
  refine lv_if_eq (tgt := 142) hx hb dX6_met_126 (by decide) (fun hc126 => ?_) (fun hc126 => ?_)
  · have h := if_t h hc126
    refine lv_iconst (v := (3 : Int32)) hx hb dX6_met_142 (by decide) ?_
    exact w_X6_met_b143 X a_t a_first a_now a_telling a_wBy a_wCell a_wFaces a_wFell a_wSign a_wTurns a_refused a_kept a_mind a_tape a_words a_holds a_sizes a_elements a_moved a_above a_out c_first c_now c_telling res k52 hk52 (v1.1) (v1.2.1) (v1.2.2.1) (v1.2.2.2.1) (v1.2.2.2.2.1) (v1.2.2.2.2.2.1) (v1.2.2.2.2.2.2) l1 l2 l3 l4 l5 l6 l7 l8 (3 : Int32) l4 (1 : Int32) _ _ _ h hP hD hS (lv_sub hl [0, 1, 2, 3, 4, 5, 6, 7, 8] rfl)
  · have h := if_f h hc126
    refine lv_aload_n hx hb dX6_met_129 rfl (lv_at hl 0 rfl) ?_
    refine va_get (D := E.1) (ci := 6) (v := .ref a_telling) (C := RX6) (T := TX6) (N := 26) hx hb hts iX6_met_X6 hown hK hP 0 rfl rfl 18 (by decide) (hts (.fieldLink RX6 51 "LeftIsAgreedOnModel" "telling" "[I") (List.mem_of_getElem? (i := 7) rfl)) (fun _ h9 => h9) rfl dX6_met_130 ?_
    refine lv_iload hx hb dX6_met_133 (lv_at hl 6 rfl) ?_
    refine lv_iload hx hb dX6_met_135 (lv_at hl 5 rfl) ?_
    refine lv_isub hx hb dX6_met_137 ?_
    obtain ⟨hz138, h⟩ := chk_of h
    refine ld_i X hP 3 rfl (inb.vp hz138) (v := (c_telling ((l6 - l5)).toNatClampNeg)) rfl dX6_met_138 ?_
    refine lv_goto (tgt := 143) hx hb dX6_met_139 (by decide) ?_
    exact w_X6_met_b143 X a_t a_first a_now a_telling a_wBy a_wCell a_wFaces a_wFell a_wSign a_wTurns a_refused a_kept a_mind a_tape a_words a_holds a_sizes a_elements a_moved a_above a_out c_first c_now c_telling res k52 hk52 (v1.1) (v1.2.1) (v1.2.2.1) (v1.2.2.2.1) (v1.2.2.2.2.1) (v1.2.2.2.2.2.1) (v1.2.2.2.2.2.2) l1 l2 l3 l4 l5 l6 l7 l8 (c_telling ((l6 - l5)).toNatClampNeg) l4 (1 : Int32) _ _ _ h hP hD hS (lv_sub hl [0, 1, 2, 3, 4, 5, 6, 7, 8] rfl)
set_option maxRecDepth 100000 in
set_option maxHeartbeats 4000000 in
theorem w_X6_met_b52 (X : Ctx p m meth c cX6_met 9 ((some .int)) s args wsX6_met RX6 E A) (a_t : Nat) (a_first : Nat) (a_now : Nat) (a_telling : Nat) (a_wBy : Nat) (a_wCell : Nat) (a_wFaces : Nat) (a_wFell : Nat) (a_wSign : Nat) (a_wTurns : Nat) (a_refused : Nat) (a_kept : Nat) (a_mind : Nat) (a_tape : Nat) (a_words : Nat) (a_holds : Nat) (a_sizes : Nat) (a_elements : Nat) (a_moved : Nat) (a_above : Nat) (a_out : Nat) (c_first : Nat → Int32) (c_now : Nat → Int32) (c_telling : Nat → Int32) (res : Int32 × (Nat → Int32) × (Nat → Int32) × (Nat → Int32) × (Nat → Int32) × (Nat → Int32) × (Nat → Int32) × (Nat → Int32)) : ∀ (n : Nat) (c_t : Nat → Int32) (c_wBy : Nat → Int32) (c_wCell : Nat → Int32) (c_wFaces : Nat → Int32) (c_wFell : Nat → Int32) (c_wSign : Nat → Int32) (c_wTurns : Nat → Int32) (l1 : Int32) (l2 : Int32) (l3 : Int32) (l4 : Int32) (l5 : Int32) (l6 : Int32) (ls : Array Slot) (H : Heap) (locs : List Loc), f_X6_met_b52 c_first c_now c_telling n c_t c_wBy c_wCell c_wFaces c_wFell c_wSign c_wTurns l1 l2 l3 l4 l5 l6 = some res → va_P E.1 vwCl (W_X6_met E a_t a_first a_now a_telling a_wBy a_wCell a_wFaces a_wFell a_wSign a_wTurns a_refused a_kept a_mind a_tape a_words a_holds a_sizes a_elements a_moved a_above a_out c_t c_first c_now c_telling c_wBy c_wCell c_wFaces c_wFell c_wSign c_wTurns) H → va_D A (W_X6_met E a_t a_first a_now a_telling a_wBy a_wCell a_wFaces a_wFell a_wSign a_wTurns a_refused a_kept a_mind a_tape a_words a_holds a_sizes a_elements a_moved a_above a_out c_t c_first c_now c_telling c_wBy c_wCell c_wFaces c_wFell c_wSign c_wTurns) → va_S A s.heap H locs → lv_has ls 9 [(0, .ref a_t), (1, .int l1), (2, .int l2), (3, .int l3), (4, .int l4), (5, .int l5), (6, .int l6)] → W p l e r_X6_met s m args below meth c H locs 0 0 (MQ below (qI E A (res.1) (W_X6_met E a_t a_first a_now a_telling a_wBy a_wCell a_wFaces a_wFell a_wSign a_wTurns a_refused a_kept a_mind a_tape a_words a_holds a_sizes a_elements a_moved a_above a_out (res.2.1) c_first c_now c_telling (res.2.2.1) (res.2.2.2.1) (res.2.2.2.2.1) (res.2.2.2.2.2.1) (res.2.2.2.2.2.2.1) (res.2.2.2.2.2.2.2))) args s 0 0 A) (F0 m 52 ls []) := by
  obtain ⟨hx, hb, hml, hr, hlk, hown, hts, hG, hA⟩ := id X
  have hK := hG.1
  have hN := hG.2.1
  intro n
  induction n with
  | zero =>
    intro c_t c_wBy c_wCell c_wFaces c_wFell c_wSign c_wTurns l1 l2 l3 l4 l5 l6 ls H locs h
    exact absurd (show (none : Option (Int32 × (Nat → Int32) × (Nat → Int32) × (Nat → Int32) × (Nat → Int32) × (Nat → Int32) × (Nat → Int32) × (Nat → Int32))) = some res from h) (by intro q; cases q)
  | succ n ih =>
    intro c_t c_wBy c_wCell c_wFaces c_wFell c_wSign c_wTurns l1 l2 l3 l4 l5 l6 ls H locs h hP hD hS hl
    rw [f_X6_met_b52] at h
    refine lv_iload hx hb dX6_met_52 (lv_at hl 6 rfl) ?_
    refine lv_iload_n hx hb dX6_met_54 rfl (lv_at hl 1 rfl) ?_
    refine lv_iload_n hx hb dX6_met_55 rfl (lv_at hl 3 rfl) ?_
    refine lv_iload hx hb dX6_met_56 (lv_at hl 5 rfl) ?_
    refine lv_iadd hx hb dX6_met_58 ?_
    refine va_mmax hx hb (hml.trans hl.1.symm) hown (hts (.methodLink RX6 260 Lib.Math.max.name) (List.mem_of_getElem? (i := 2) rfl)) (hts (.static Lib.Math.max.name) (List.mem_of_getElem? (i := 3) rfl)) (hts (.initialized "java/lang/Math") (List.mem_of_getElem? (i := 4) rfl)) (hts (.code Lib.Math.max.name Lib.Math.max.code 2 (some .int)) (List.mem_of_getElem? (i := 5) rfl)) (Nat.le_of_ble_eq_true rfl) (Nat.le_of_ble_eq_true rfl) (Nat.zero_le _) (Nat.zero_le _) dX6_met_59 ?_
    refine lv_icmp_ge (tgt := 196) hx hb dX6_met_62 (by decide) (fun hc62 => ?_) (fun hc62 => ?_)
    · have h := if_t h hc62
      refine lv_iconst (v := (-1 : Int32)) hx hb dX6_met_196 (by decide) ?_
      obtain rfl := Option.some.inj h
      exact ret_i X dX6_met_197 hP hD hS rfl
    · have h := if_f h hc62
      refine lv_aload_n hx hb dX6_met_65 rfl (lv_at hl 0 rfl) ?_
      refine va_get (D := E.1) (ci := 6) (v := .ref a_wCell) (C := RX6) (T := TX6) (N := 26) hx hb hts iX6_met_X6 hown hK hP 0 rfl rfl 11 (by decide) (hts (.fieldLink RX6 33 "LeftIsAgreedOnModel" "wCell" "[I") (List.mem_of_getElem? (i := 1) rfl)) (fun _ h9 => h9) rfl dX6_met_66 ?_
      refine lv_iconst (v := (0 : Int32)) hx hb dX6_met_69 (by decide) ?_
      refine ld_i X hP 5 rfl (inb.vp (by decide)) (v := (c_wCell 0)) rfl dX6_met_70 ?_
      refine lv_istore (lv' := [(7, .int (c_wCell 0)), (0, .ref a_t), (1, .int l1), (2, .int l2), (3, .int l3), (4, .int l4), (5, .int l5), (6, .int l6)]) hx hb dX6_met_71 hl (by decide) rfl (fun ls hl => ?_)
      refine lv_aload_n hx hb dX6_met_73 rfl (lv_at hl 1 rfl) ?_
      refine va_get (D := E.1) (ci := 6) (v := .ref a_wCell) (C := RX6) (T := TX6) (N := 26) hx hb hts iX6_met_X6 hown hK hP 0 rfl rfl 11 (by decide) (hts (.fieldLink RX6 33 "LeftIsAgreedOnModel" "wCell" "[I") (List.mem_of_getElem? (i := 1) rfl)) (fun _ h9 => h9) rfl dX6_met_74 ?_
      refine lv_iconst (v := (1 : Int32)) hx hb dX6_met_77 (by decide) ?_
      refine ld_i X hP 5 rfl (inb.vp (by decide)) (v := (c_wCell 1)) rfl dX6_met_78 ?_
      refine lv_istore (lv' := [(8, .int (c_wCell 1)), (7, .int (c_wCell 0)), (0, .ref a_t), (1, .int l1), (2, .int l2), (3, .int l3), (4, .int l4), (5, .int l5), (6, .int l6)]) hx hb dX6_met_79 hl (by decide) rfl (fun ls hl => ?_)
      refine lv_aload_n hx hb dX6_met_81 rfl (lv_at hl 2 rfl) ?_
      refine lv_iconst (v := (0 : Int32)) hx hb dX6_met_82 (by decide) ?_
      refine lv_iload_n hx hb dX6_met_83 rfl (lv_at hl 4 rfl) ?_
      refine lv_iload hx hb dX6_met_84 (lv_at hl 8 rfl) ?_
      refine lv_iload_n hx hb dX6_met_86 rfl (lv_at hl 3 rfl) ?_
      refine lv_icmp_ge (tgt := 100) hx hb dX6_met_87 (by decide) (fun hc87 => ?_) (fun hc87 => ?_)
      · have h := if_t h hc87
        refine lv_iconst (v := (3 : Int32)) hx hb dX6_met_100 (by decide) ?_
        exact w_X6_met_b101 X a_t a_first a_now a_telling a_wBy a_wCell a_wFaces a_wFell a_wSign a_wTurns a_refused a_kept a_mind a_tape a_words a_holds a_sizes a_elements a_moved a_above a_out c_first c_now c_telling res (f_X6_met_b52 c_first c_now c_telling n) ih c_t c_wBy c_wCell c_wFaces c_wFell c_wSign c_wTurns l1 l2 l3 l4 l5 l6 (c_wCell 0) (c_wCell 1) (3 : Int32) l2 (0 : Int32) _ _ _ h hP hD hS (lv_sub hl [2, 3, 4, 5, 6, 7, 8, 1, 0] rfl)
      · have h := if_f h hc87
        refine lv_aload_n hx hb dX6_met_90 rfl (lv_at hl 2 rfl) ?_
        refine va_get (D := E.1) (ci := 6) (v := .ref a_first) (C := RX6) (T := TX6) (N := 26) hx hb hts iX6_met_X6 hown hK hP 0 rfl rfl 25 (by decide) (hts (.fieldLink RX6 73 "LeftIsAgreedOnModel" "first" "[I") (List.mem_of_getElem? (i := 6) rfl)) (fun _ h9 => h9) rfl dX6_met_91 ?_
        refine lv_iload hx hb dX6_met_94 (lv_at hl 8 rfl) ?_
        obtain ⟨hz96, h⟩ := chk_of h
        refine ld_i X hP 1 rfl (inb.vp hz96) (v := (c_first (l6).toNatClampNeg)) rfl dX6_met_96 ?_
        refine lv_goto (tgt := 101) hx hb dX6_met_97 (by decide) ?_
        exact w_X6_met_b101 X a_t a_first a_now a_telling a_wBy a_wCell a_wFaces a_wFell a_wSign a_wTurns a_refused a_kept a_mind a_tape a_words a_holds a_sizes a_elements a_moved a_above a_out c_first c_now c_telling res (f_X6_met_b52 c_first c_now c_telling n) ih c_t c_wBy c_wCell c_wFaces c_wFell c_wSign c_wTurns l1 l2 l3 l4 l5 l6 (c_wCell 0) (c_wCell 1) (c_first (l6).toNatClampNeg) l2 (0 : Int32) _ _ _ h hP hD hS (lv_sub hl [2, 3, 4, 5, 6, 7, 8, 1, 0] rfl)
set_option maxRecDepth 100000 in
set_option maxHeartbeats 4000000 in
theorem w_X6_met (X : Ctx p m meth c cX6_met 9 ((some .int)) s args wsX6_met RX6 E A) (a_t : Nat) (a_first : Nat) (a_now : Nat) (a_telling : Nat) (a_wBy : Nat) (a_wCell : Nat) (a_wFaces : Nat) (a_wFell : Nat) (a_wSign : Nat) (a_wTurns : Nat) (a_refused : Nat) (a_kept : Nat) (a_mind : Nat) (a_tape : Nat) (a_words : Nat) (a_holds : Nat) (a_sizes : Nat) (a_elements : Nat) (a_moved : Nat) (a_above : Nat) (a_out : Nat) (c_first : Nat → Int32) (c_now : Nat → Int32) (c_telling : Nat → Int32) (res : Int32 × (Nat → Int32) × (Nat → Int32) × (Nat → Int32) × (Nat → Int32) × (Nat → Int32) × (Nat → Int32) × (Nat → Int32)) (c_t : Nat → Int32) (c_wBy : Nat → Int32) (c_wCell : Nat → Int32) (c_wFaces : Nat → Int32) (c_wFell : Nat → Int32) (c_wSign : Nat → Int32) (c_wTurns : Nat → Int32) (l1 : Int32) (l2 : Int32) (l3 : Int32) (l4 : Int32) (l5 : Int32) (ls : Array Slot) (H : Heap) (locs : List Loc) (h : f_X6_met l1 l2 l3 l4 l5 c_t c_first c_now c_telling c_wBy c_wCell c_wFaces c_wFell c_wSign c_wTurns = some res) (hP : va_P E.1 vwCl (W_X6_met E a_t a_first a_now a_telling a_wBy a_wCell a_wFaces a_wFell a_wSign a_wTurns a_refused a_kept a_mind a_tape a_words a_holds a_sizes a_elements a_moved a_above a_out c_t c_first c_now c_telling c_wBy c_wCell c_wFaces c_wFell c_wSign c_wTurns) H) (hD : va_D A (W_X6_met E a_t a_first a_now a_telling a_wBy a_wCell a_wFaces a_wFell a_wSign a_wTurns a_refused a_kept a_mind a_tape a_words a_holds a_sizes a_elements a_moved a_above a_out c_t c_first c_now c_telling c_wBy c_wCell c_wFaces c_wFell c_wSign c_wTurns)) (hS : va_S A s.heap H locs) (hl : lv_has ls 9 [(0, .ref a_t), (1, .int l1), (2, .int l2), (3, .int l3), (4, .int l4), (5, .int l5)]) : W p l e r_X6_met s m args below meth c H locs 0 0 (MQ below (qI E A (res.1) (W_X6_met E a_t a_first a_now a_telling a_wBy a_wCell a_wFaces a_wFell a_wSign a_wTurns a_refused a_kept a_mind a_tape a_words a_holds a_sizes a_elements a_moved a_above a_out (res.2.1) c_first c_now c_telling (res.2.2.1) (res.2.2.2.1) (res.2.2.2.2.1) (res.2.2.2.2.2.1) (res.2.2.2.2.2.2.1) (res.2.2.2.2.2.2.2))) args s 0 0 A) (F0 m 0 ls []) := by
  obtain ⟨hx, hb, hml, hr, hlk, hown, hts, hG, hA⟩ := id X
  have hK := hG.1
  have hN := hG.2.1
  unfold f_X6_met at h
  refine lv_aload_n hx hb dX6_met_0 rfl (lv_at hl 0 rfl) ?_
  refine lv_iconst (v := (0 : Int32)) hx hb dX6_met_1 (by decide) ?_
  refine lv_aload_n hx hb dX6_met_2 rfl (lv_at hl 0 rfl) ?_
  refine lv_iload_n hx hb dX6_met_3 rfl (lv_at hl 2 rfl) ?_
  obtain ⟨v1, hv1, h⟩ := bind_of h
  refine after_i X (run_V X (c_X6_cell l E a_t a_now a_refused a_kept a_mind a_tape a_words a_wCell a_wFaces a_wTurns a_wSign a_wBy a_wFell a_telling a_holds a_sizes a_elements a_moved a_above a_out a_first l2 c_t c_now H.size v1 hv1) (cwV 1 hts gX6_met_X6_cell rfl rfl rfl hV_X6_cell ⟨(Nat.le_of_ble_eq_true rfl), (Nat.le_of_ble_eq_true rfl)⟩) hP hD hS [0, 2] rfl rfl hl.1 (ci := 6) rfl rfl rfl (rest := [.int (0 : Int32), .ref a_t]) rfl rfl (Nat.le_of_ble_eq_true rfl) dX6_met_4) hP hD hS [0, 2] rfl (ws1 := (W_X6_met E a_t a_first a_now a_telling a_wBy a_wCell a_wFaces a_wFell a_wSign a_wTurns a_refused a_kept a_mind a_tape a_words a_holds a_sizes a_elements a_moved a_above a_out c_t c_first c_now c_telling c_wBy c_wCell c_wFaces c_wFell c_wSign c_wTurns)) rfl (fun H locs hP hD hS => ?_)
  refine lv_aload_n hx hb dX6_met_7 rfl (lv_at hl 0 rfl) ?_
  refine lv_iload_n hx hb dX6_met_8 rfl (lv_at hl 2 rfl) ?_
  obtain ⟨v2, hv2, h⟩ := bind_of h
  refine after_i X (run_V X (c_X6_faces l E a_t a_now a_refused a_kept a_mind a_tape a_words a_wCell a_wFaces a_wTurns a_wSign a_wBy a_wFell a_telling a_holds a_sizes a_elements a_moved a_above a_out a_first l2 c_t c_now H.size v2 hv2) (cwV 1 hts gX6_met_X6_faces rfl rfl rfl hV_X6_faces ⟨(Nat.le_of_ble_eq_true rfl), (Nat.le_of_ble_eq_true rfl)⟩) hP hD hS [0, 2] rfl rfl hl.1 (ci := 6) rfl rfl rfl (rest := [.int v1, .int (0 : Int32), .ref a_t]) rfl rfl (Nat.le_of_ble_eq_true rfl) dX6_met_9) hP hD hS [0, 2] rfl (ws1 := (W_X6_met E a_t a_first a_now a_telling a_wBy a_wCell a_wFaces a_wFell a_wSign a_wTurns a_refused a_kept a_mind a_tape a_words a_holds a_sizes a_elements a_moved a_above a_out c_t c_first c_now c_telling c_wBy c_wCell c_wFaces c_wFell c_wSign c_wTurns)) rfl (fun H locs hP hD hS => ?_)
  obtain ⟨v3, hv3, h⟩ := bind_of h
  refine after_v X (run_V X (c_X6_start l E a_t a_wCell a_wFaces a_wFell a_wTurns a_refused a_now a_kept a_mind a_tape a_words a_wSign a_wBy a_telling a_holds a_sizes a_elements a_moved a_above a_out a_first (0 : Int32) v1 v2 c_t c_wCell c_wFaces c_wFell c_wTurns H.size v3 hv3) (cwV 3 hts gX6_met_X6_start rfl rfl rfl hV_X6_start ⟨(Nat.le_of_ble_eq_true rfl), (Nat.le_of_ble_eq_true rfl)⟩) hP hD hS [0, 5, 6, 7, 9] rfl rfl hl.1 (ci := 6) rfl rfl rfl (rest := []) rfl rfl (Nat.le_of_ble_eq_true rfl) dX6_met_12) hP hD hS [0, 5, 6, 7, 9] rfl (ws1 := (W_X6_met E a_t a_first a_now a_telling a_wBy a_wCell a_wFaces a_wFell a_wSign a_wTurns a_refused a_kept a_mind a_tape a_words a_holds a_sizes a_elements a_moved a_above a_out c_t c_first c_now c_telling c_wBy (v3.1) (v3.2.1) (v3.2.2.1) c_wSign (v3.2.2.2))) rfl (fun H locs hP hD hS => ?_)
  refine lv_aload_n hx hb dX6_met_15 rfl (lv_at hl 0 rfl) ?_
  refine lv_iconst (v := (1 : Int32)) hx hb dX6_met_16 (by decide) ?_
  refine lv_aload_n hx hb dX6_met_17 rfl (lv_at hl 0 rfl) ?_
  refine lv_iload hx hb dX6_met_18 (lv_at hl 4 rfl) ?_
  obtain ⟨v4, hv4, h⟩ := bind_of h
  refine after_i X (run_V X (c_X6_cell l E a_t a_now a_refused a_kept a_mind a_tape a_words a_wCell a_wFaces a_wTurns a_wSign a_wBy a_wFell a_telling a_holds a_sizes a_elements a_moved a_above a_out a_first l4 c_t c_now H.size v4 hv4) (cwV 1 hts gX6_met_X6_cell rfl rfl rfl hV_X6_cell ⟨(Nat.le_of_ble_eq_true rfl), (Nat.le_of_ble_eq_true rfl)⟩) hP hD hS [0, 2] rfl rfl hl.1 (ci := 6) rfl rfl rfl (rest := [.int (1 : Int32), .ref a_t]) rfl rfl (Nat.le_of_ble_eq_true rfl) dX6_met_20) hP hD hS [0, 2] rfl (ws1 := (W_X6_met E a_t a_first a_now a_telling a_wBy a_wCell a_wFaces a_wFell a_wSign a_wTurns a_refused a_kept a_mind a_tape a_words a_holds a_sizes a_elements a_moved a_above a_out c_t c_first c_now c_telling c_wBy (v3.1) (v3.2.1) (v3.2.2.1) c_wSign (v3.2.2.2))) rfl (fun H locs hP hD hS => ?_)
  refine lv_aload_n hx hb dX6_met_23 rfl (lv_at hl 0 rfl) ?_
  refine lv_iload hx hb dX6_met_24 (lv_at hl 4 rfl) ?_
  obtain ⟨v5, hv5, h⟩ := bind_of h
  refine after_i X (run_V X (c_X6_faces l E a_t a_now a_refused a_kept a_mind a_tape a_words a_wCell a_wFaces a_wTurns a_wSign a_wBy a_wFell a_telling a_holds a_sizes a_elements a_moved a_above a_out a_first l4 c_t c_now H.size v5 hv5) (cwV 1 hts gX6_met_X6_faces rfl rfl rfl hV_X6_faces ⟨(Nat.le_of_ble_eq_true rfl), (Nat.le_of_ble_eq_true rfl)⟩) hP hD hS [0, 2] rfl rfl hl.1 (ci := 6) rfl rfl rfl (rest := [.int v4, .int (1 : Int32), .ref a_t]) rfl rfl (Nat.le_of_ble_eq_true rfl) dX6_met_26) hP hD hS [0, 2] rfl (ws1 := (W_X6_met E a_t a_first a_now a_telling a_wBy a_wCell a_wFaces a_wFell a_wSign a_wTurns a_refused a_kept a_mind a_tape a_words a_holds a_sizes a_elements a_moved a_above a_out c_t c_first c_now c_telling c_wBy (v3.1) (v3.2.1) (v3.2.2.1) c_wSign (v3.2.2.2))) rfl (fun H locs hP hD hS => ?_)
  obtain ⟨v6, hv6, h⟩ := bind_of h
  refine after_v X (run_V X (c_X6_start l E a_t a_wCell a_wFaces a_wFell a_wTurns a_refused a_now a_kept a_mind a_tape a_words a_wSign a_wBy a_telling a_holds a_sizes a_elements a_moved a_above a_out a_first (1 : Int32) v4 v5 c_t (v3.1) (v3.2.1) (v3.2.2.1) (v3.2.2.2) H.size v6 hv6) (cwV 3 hts gX6_met_X6_start rfl rfl rfl hV_X6_start ⟨(Nat.le_of_ble_eq_true rfl), (Nat.le_of_ble_eq_true rfl)⟩) hP hD hS [0, 5, 6, 7, 9] rfl rfl hl.1 (ci := 6) rfl rfl rfl (rest := []) rfl rfl (Nat.le_of_ble_eq_true rfl) dX6_met_29) hP hD hS [0, 5, 6, 7, 9] rfl (ws1 := (W_X6_met E a_t a_first a_now a_telling a_wBy a_wCell a_wFaces a_wFell a_wSign a_wTurns a_refused a_kept a_mind a_tape a_words a_holds a_sizes a_elements a_moved a_above a_out c_t c_first c_now c_telling c_wBy (v6.1) (v6.2.1) (v6.2.2.1) c_wSign (v6.2.2.2))) rfl (fun H locs hP hD hS => ?_)
  refine lv_aload_n hx hb dX6_met_32 rfl (lv_at hl 0 rfl) ?_
  refine va_get (D := E.1) (ci := 6) (v := .ref a_wCell) (C := RX6) (T := TX6) (N := 26) hx hb hts iX6_met_X6 hown hK hP 0 rfl rfl 11 (by decide) (hts (.fieldLink RX6 33 "LeftIsAgreedOnModel" "wCell" "[I") (List.mem_of_getElem? (i := 1) rfl)) (fun _ h9 => h9) rfl dX6_met_33 ?_
  refine lv_iconst (v := (0 : Int32)) hx hb dX6_met_36 (by decide) ?_
  refine ld_i X hP 5 rfl (inb.vp (by decide)) (v := ((v6.1) 0)) rfl dX6_met_37 ?_
  refine lv_aload_n hx hb dX6_met_38 rfl (lv_at hl 0 rfl) ?_
  refine va_get (D := E.1) (ci := 6) (v := .ref a_wCell) (C := RX6) (T := TX6) (N := 26) hx hb hts iX6_met_X6 hown hK hP 0 rfl rfl 11 (by decide) (hts (.fieldLink RX6 33 "LeftIsAgreedOnModel" "wCell" "[I") (List.mem_of_getElem? (i := 1) rfl)) (fun _ h9 => h9) rfl dX6_met_39 ?_
  refine lv_iconst (v := (1 : Int32)) hx hb dX6_met_42 (by decide) ?_
  refine ld_i X hP 5 rfl (inb.vp (by decide)) (v := ((v6.1) 1)) rfl dX6_met_43 ?_
  refine lv_icmp_ne (tgt := 49) hx hb dX6_met_44 (by decide) (fun hc44 => ?_) (fun hc44 => ?_)
  · have h := if_f h hc44
    refine lv_iconst (v := (0 : Int32)) hx hb dX6_met_49 (by decide) ?_
    refine lv_istore (lv' := [(6, .int (0 : Int32)), (0, .ref a_t), (1, .int l1), (2, .int l2), (3, .int l3), (4, .int l4), (5, .int l5)]) hx hb dX6_met_50 hl (by decide) rfl (fun ls hl => ?_)
    exact w_X6_met_b52 X a_t a_first a_now a_telling a_wBy a_wCell a_wFaces a_wFell a_wSign a_wTurns a_refused a_kept a_mind a_tape a_words a_holds a_sizes a_elements a_moved a_above a_out c_first c_now c_telling res FU c_t c_wBy (v6.1) (v6.2.1) (v6.2.2.1) c_wSign (v6.2.2.2) l1 l2 l3 l4 l5 (0 : Int32) _ _ _ h hP hD hS (lv_sub hl [1, 2, 3, 4, 5, 6, 0] rfl)
  · have h := if_t h hc44
    refine lv_iconst (v := (0 : Int32)) hx hb dX6_met_47 (by decide) ?_
    obtain rfl := Option.some.inj h
    exact ret_i X dX6_met_48 hP hD hS rfl
end
set_option maxRecDepth 100000 in
theorem c_X6_met (l : Launch) (E : Env0) (a_t : Nat) (a_first : Nat) (a_now : Nat) (a_telling : Nat) (a_wBy : Nat) (a_wCell : Nat) (a_wFaces : Nat) (a_wFell : Nat) (a_wSign : Nat) (a_wTurns : Nat) (a_refused : Nat) (a_kept : Nat) (a_mind : Nat) (a_tape : Nat) (a_words : Nat) (a_holds : Nat) (a_sizes : Nat) (a_elements : Nat) (a_moved : Nat) (a_above : Nat) (a_out : Nat) (l1 : Int32) (l2 : Int32) (l3 : Int32) (l4 : Int32) (l5 : Int32) (c_t : Nat → Int32) (c_first : Nat → Int32) (c_now : Nat → Int32) (c_telling : Nat → Int32) (c_wBy : Nat → Int32) (c_wCell : Nat → Int32) (c_wFaces : Nat → Int32) (c_wFell : Nat → Int32) (c_wSign : Nat → Int32) (c_wTurns : Nat → Int32) (sz : Nat) (res : Int32 × (Nat → Int32) × (Nat → Int32) × (Nat → Int32) × (Nat → Int32) × (Nat → Int32) × (Nat → Int32) × (Nat → Int32)) (h : f_X6_met l1 l2 l3 l4 l5 c_t c_first c_now c_telling c_wBy c_wCell c_wFaces c_wFell c_wSign c_wTurns = some res) : Met l yX6_met wsX6_met r_X6_met (cPre E [.ref a_t, .int l1, .int l2, .int l3, .int l4, .int l5] (W_X6_met E a_t a_first a_now a_telling a_wBy a_wCell a_wFaces a_wFell a_wSign a_wTurns a_refused a_kept a_mind a_tape a_words a_holds a_sizes a_elements a_moved a_above a_out c_t c_first c_now c_telling c_wBy c_wCell c_wFaces c_wFell c_wSign c_wTurns) sz) (qI E (va_A (W_X6_met E a_t a_first a_now a_telling a_wBy a_wCell a_wFaces a_wFell a_wSign a_wTurns a_refused a_kept a_mind a_tape a_words a_holds a_sizes a_elements a_moved a_above a_out c_t c_first c_now c_telling c_wBy c_wCell c_wFaces c_wFell c_wSign c_wTurns) sz) (res.1) (W_X6_met E a_t a_first a_now a_telling a_wBy a_wCell a_wFaces a_wFell a_wSign a_wTurns a_refused a_kept a_mind a_tape a_words a_holds a_sizes a_elements a_moved a_above a_out (res.2.1) c_first c_now c_telling (res.2.2.1) (res.2.2.2.1) (res.2.2.2.2.1) (res.2.2.2.2.2.1) (res.2.2.2.2.2.2.1) (res.2.2.2.2.2.2.2))) 0 0 (va_A (W_X6_met E a_t a_first a_now a_telling a_wBy a_wCell a_wFaces a_wFell a_wSign a_wTurns a_refused a_kept a_mind a_tape a_words a_holds a_sizes a_elements a_moved a_above a_out c_t c_first c_now c_telling c_wBy c_wCell c_wFaces c_wFell c_wSign c_wTurns) sz) :=
  met_of (Qc := fun A => qI E A (res.1) (W_X6_met E a_t a_first a_now a_telling a_wBy a_wCell a_wFaces a_wFell a_wSign a_wTurns a_refused a_kept a_mind a_tape a_words a_holds a_sizes a_elements a_moved a_above a_out (res.2.1) c_first c_now c_telling (res.2.2.1) (res.2.2.2.1) (res.2.2.2.2.1) (res.2.2.2.2.2.1) (res.2.2.2.2.2.2.1) (res.2.2.2.2.2.2.2))) (by decide) rfl (Nat.le_of_ble_eq_true rfl) (fun p e s m args below meth c X hP hD hS ls hl => w_X6_met X a_t a_first a_now a_telling a_wBy a_wCell a_wFaces a_wFell a_wSign a_wTurns a_refused a_kept a_mind a_tape a_words a_holds a_sizes a_elements a_moved a_above a_out c_first c_now c_telling res c_t c_wBy c_wCell c_wFaces c_wFell c_wSign c_wTurns l1 l2 l3 l4 l5 ls _ _ h hP hD hS hl)
